def y_X11_laysMonomial : MethodName := ⟨"TypesAtPrimeModel", "laysMonomial", "(I)V"⟩
abbrev i_X11_laysMonomial : tp_I := (prog_13_method_46_code, "TypesAtPrimeModel", none, 5, "laysMonomial")
abbrev o_X11_laysMonomial : tp_M → tp_O := fun r => (none, tp_NC, tp_st r)
theorem d_X11_laysMonomial_0 : decode prog_13_method_46_code 0 = .ok (.iload_n 1, 1) := by decide +kernel
theorem d_X11_laysMonomial_1 : decode prog_13_method_46_code 1 = .ok (.istore_n 2, 1) := by decide +kernel
theorem d_X11_laysMonomial_2 : decode prog_13_method_46_code 2 = .ok (.iconst 0, 1) := by decide +kernel
theorem d_X11_laysMonomial_3 : decode prog_13_method_46_code 3 = .ok (.istore_n 3, 1) := by decide +kernel
theorem d_X11_laysMonomial_4 : decode prog_13_method_46_code 4 = .ok (.iload_n 3, 1) := by decide +kernel
theorem d_X11_laysMonomial_5 : decode prog_13_method_46_code 5 = .ok (.bipush 7, 2) := by decide +kernel
theorem d_X11_laysMonomial_7 : decode prog_13_method_46_code 7 = .ok (.if_icmp .ge 16, 3) := by decide +kernel
theorem d_X11_laysMonomial_10 : decode prog_13_method_46_code 10 = .ok (.aload_n 0, 1) := by decide +kernel
theorem d_X11_laysMonomial_11 : decode prog_13_method_46_code 11 = .ok (.getfield 137, 3) := by decide +kernel
theorem d_X11_laysMonomial_14 : decode prog_13_method_46_code 14 = .ok (.iload_n 3, 1) := by decide +kernel
theorem d_X11_laysMonomial_15 : decode prog_13_method_46_code 15 = .ok (.iconst 0, 1) := by decide +kernel
theorem d_X11_laysMonomial_16 : decode prog_13_method_46_code 16 = .ok (.iastore, 1) := by decide +kernel
theorem d_X11_laysMonomial_17 : decode prog_13_method_46_code 17 = .ok (.iinc 3 1, 3) := by decide +kernel
theorem d_X11_laysMonomial_20 : decode prog_13_method_46_code 20 = .ok (.goto (-16), 3) := by decide +kernel
theorem d_X11_laysMonomial_23 : decode prog_13_method_46_code 23 = .ok (.aload_n 0, 1) := by decide +kernel
theorem d_X11_laysMonomial_24 : decode prog_13_method_46_code 24 = .ok (.getfield 300, 3) := by decide +kernel
theorem d_X11_laysMonomial_27 : decode prog_13_method_46_code 27 = .ok (.iconst 1, 1) := by decide +kernel
theorem d_X11_laysMonomial_28 : decode prog_13_method_46_code 28 = .ok (.isub, 1) := by decide +kernel
theorem d_X11_laysMonomial_29 : decode prog_13_method_46_code 29 = .ok (.istore_n 3, 1) := by decide +kernel
theorem d_X11_laysMonomial_30 : decode prog_13_method_46_code 30 = .ok (.iload_n 3, 1) := by decide +kernel
theorem d_X11_laysMonomial_31 : decode prog_13_method_46_code 31 = .ok (.iconst 1, 1) := by decide +kernel
theorem d_X11_laysMonomial_32 : decode prog_13_method_46_code 32 = .ok (.if_icmp .lt 66, 3) := by decide +kernel
theorem d_X11_laysMonomial_35 : decode prog_13_method_46_code 35 = .ok (.iconst 0, 1) := by decide +kernel
theorem d_X11_laysMonomial_36 : decode prog_13_method_46_code 36 = .ok (.istore 4, 2) := by decide +kernel
theorem d_X11_laysMonomial_38 : decode prog_13_method_46_code 38 = .ok (.iload_n 2, 1) := by decide +kernel
theorem d_X11_laysMonomial_39 : decode prog_13_method_46_code 39 = .ok (.iload 4, 2) := by decide +kernel
theorem d_X11_laysMonomial_41 : decode prog_13_method_46_code 41 = .ok (.aload_n 0, 1) := by decide +kernel
theorem d_X11_laysMonomial_42 : decode prog_13_method_46_code 42 = .ok (.getfield 128, 3) := by decide +kernel
theorem d_X11_laysMonomial_45 : decode prog_13_method_46_code 45 = .ok (.iload_n 3, 1) := by decide +kernel
theorem d_X11_laysMonomial_46 : decode prog_13_method_46_code 46 = .ok (.iaload, 1) := by decide +kernel
theorem d_X11_laysMonomial_47 : decode prog_13_method_46_code 47 = .ok (.imul, 1) := by decide +kernel
theorem d_X11_laysMonomial_48 : decode prog_13_method_46_code 48 = .ok (.isub, 1) := by decide +kernel
theorem d_X11_laysMonomial_49 : decode prog_13_method_46_code 49 = .ok (.aload_n 0, 1) := by decide +kernel
theorem d_X11_laysMonomial_50 : decode prog_13_method_46_code 50 = .ok (.getfield 122, 3) := by decide +kernel
theorem d_X11_laysMonomial_53 : decode prog_13_method_46_code 53 = .ok (.iload_n 3, 1) := by decide +kernel
theorem d_X11_laysMonomial_54 : decode prog_13_method_46_code 54 = .ok (.iaload, 1) := by decide +kernel
theorem d_X11_laysMonomial_55 : decode prog_13_method_46_code 55 = .ok (.irem, 1) := by decide +kernel
theorem d_X11_laysMonomial_56 : decode prog_13_method_46_code 56 = .ok (.ifCond .eq 9, 3) := by decide +kernel
theorem d_X11_laysMonomial_59 : decode prog_13_method_46_code 59 = .ok (.iinc 4 1, 3) := by decide +kernel
theorem d_X11_laysMonomial_62 : decode prog_13_method_46_code 62 = .ok (.goto (-24), 3) := by decide +kernel
theorem d_X11_laysMonomial_65 : decode prog_13_method_46_code 65 = .ok (.aload_n 0, 1) := by decide +kernel
theorem d_X11_laysMonomial_66 : decode prog_13_method_46_code 66 = .ok (.getfield 137, 3) := by decide +kernel
theorem d_X11_laysMonomial_69 : decode prog_13_method_46_code 69 = .ok (.iload_n 3, 1) := by decide +kernel
theorem d_X11_laysMonomial_70 : decode prog_13_method_46_code 70 = .ok (.iload 4, 2) := by decide +kernel
theorem d_X11_laysMonomial_72 : decode prog_13_method_46_code 72 = .ok (.iastore, 1) := by decide +kernel
theorem d_X11_laysMonomial_73 : decode prog_13_method_46_code 73 = .ok (.iload_n 2, 1) := by decide +kernel
theorem d_X11_laysMonomial_74 : decode prog_13_method_46_code 74 = .ok (.iload 4, 2) := by decide +kernel
theorem d_X11_laysMonomial_76 : decode prog_13_method_46_code 76 = .ok (.aload_n 0, 1) := by decide +kernel
theorem d_X11_laysMonomial_77 : decode prog_13_method_46_code 77 = .ok (.getfield 128, 3) := by decide +kernel
theorem d_X11_laysMonomial_80 : decode prog_13_method_46_code 80 = .ok (.iload_n 3, 1) := by decide +kernel
theorem d_X11_laysMonomial_81 : decode prog_13_method_46_code 81 = .ok (.iaload, 1) := by decide +kernel
theorem d_X11_laysMonomial_82 : decode prog_13_method_46_code 82 = .ok (.imul, 1) := by decide +kernel
theorem d_X11_laysMonomial_83 : decode prog_13_method_46_code 83 = .ok (.isub, 1) := by decide +kernel
theorem d_X11_laysMonomial_84 : decode prog_13_method_46_code 84 = .ok (.aload_n 0, 1) := by decide +kernel
theorem d_X11_laysMonomial_85 : decode prog_13_method_46_code 85 = .ok (.getfield 122, 3) := by decide +kernel
theorem d_X11_laysMonomial_88 : decode prog_13_method_46_code 88 = .ok (.iload_n 3, 1) := by decide +kernel
theorem d_X11_laysMonomial_89 : decode prog_13_method_46_code 89 = .ok (.iaload, 1) := by decide +kernel
theorem d_X11_laysMonomial_90 : decode prog_13_method_46_code 90 = .ok (.idiv, 1) := by decide +kernel
theorem d_X11_laysMonomial_91 : decode prog_13_method_46_code 91 = .ok (.istore_n 2, 1) := by decide +kernel
theorem d_X11_laysMonomial_92 : decode prog_13_method_46_code 92 = .ok (.iinc 3 (-1), 3) := by decide +kernel
theorem d_X11_laysMonomial_95 : decode prog_13_method_46_code 95 = .ok (.goto (-65), 3) := by decide +kernel
theorem d_X11_laysMonomial_98 : decode prog_13_method_46_code 98 = .ok (.aload_n 0, 1) := by decide +kernel
theorem d_X11_laysMonomial_99 : decode prog_13_method_46_code 99 = .ok (.getfield 137, 3) := by decide +kernel
theorem d_X11_laysMonomial_102 : decode prog_13_method_46_code 102 = .ok (.iconst 0, 1) := by decide +kernel
theorem d_X11_laysMonomial_103 : decode prog_13_method_46_code 103 = .ok (.iload_n 2, 1) := by decide +kernel
theorem d_X11_laysMonomial_104 : decode prog_13_method_46_code 104 = .ok (.iastore, 1) := by decide +kernel
theorem d_X11_laysMonomial_105 : decode prog_13_method_46_code 105 = .ok (.return_, 1) := by decide +kernel
def f_X11_laysMonomial_38B (rec_30 : Int → Int → tp_M → Option (tp_M)) (x2 : Int) (x3 : Int) (M0 : tp_M) (rec_38 : Int → Option (tp_M)) (x4 : Int) : Option (tp_M) :=
  if 0 ≤ x3 ∧ x3 < 8 then
    if 0 ≤ x3 ∧ x3 < 8 then
      if (M0 521 x3) = 0 then none else
        if (Int.tmod (tp_w (x2 - (tp_w (x4 * (M0 523 x3))))) (M0 521 x3)) = 0 then
          if 0 ≤ x3 ∧ x3 < 7 then
            tp_mp (tp_up M0 526 x3 x4) fun M6 =>
            if 0 ≤ x3 ∧ x3 < 8 then
              if 0 ≤ x3 ∧ x3 < 8 then
                if (M6 521 x3) = 0 then none else
                  tp_lt ((tp_w (Int.tdiv (tp_w (x2 - (tp_w (x4 * (M6 523 x3))))) (M6 521 x3)))) fun y7 =>
                  tp_lt (tp_w (x3 + (-1))) fun y8 =>
                  rec_30 y7 y8 M6 else none else none else none
        else
          tp_lt (tp_w (x4 + 1)) fun y9 =>
          rec_38 y9 else none else none
set_option maxHeartbeats 4000000 in
set_option maxRecDepth 100000 in
theorem T_X11_laysMonomial_38B (G : tp_G) (rec_30 : Int → Int → tp_M → Option (tp_M)) (x2 : Int) (x3 : Int) (M0 : tp_M) (hrec_30 : ∀ (x2' x3' : Int) (M' : tp_M), tp_J i_X11_laysMonomial (tp_rm 0) G 0 0 o_X11_laysMonomial tp_NC (tp_st M') 0 0 [some (.inr (.inr 483)), none, some (.inl (x2')), some (.inl (x3')), none] 30 [] (rec_30 x2' x3' M')) (rec_38 : Int → Option (tp_M)) (hrec_38 : ∀ (x4' : Int), tp_J i_X11_laysMonomial (tp_rm 0) G 0 0 o_X11_laysMonomial tp_NC (tp_st M0) 0 0 [some (.inr (.inr 483)), none, some (.inl x2), some (.inl x3), some (.inl (x4'))] 38 [] (rec_38 x4')) (x4 : Int) : tp_J i_X11_laysMonomial (tp_rm 0) G 0 0 o_X11_laysMonomial tp_NC (tp_st M0) 0 0 [some (.inr (.inr 483)), none, some (.inl x2), some (.inl x3), some (.inl x4)] 38 [] (f_X11_laysMonomial_38B rec_30 x2 x3 M0 rec_38 x4) := by
  unfold f_X11_laysMonomial_38B
  refine j_iload_n rfl d_X11_laysMonomial_38 rfl ?_
  refine j_iload d_X11_laysMonomial_39 rfl ?_
  refine j_aload_n rfl d_X11_laysMonomial_41 rfl ?_
  refine j_getr fl_Model_128 tg_483 rv_483_52 d_X11_laysMonomial_42 ?_
  refine j_iload_n rfl d_X11_laysMonomial_45 rfl ?_
  refine j_iald tg_523 al_523 d_X11_laysMonomial_46 ?_
  refine j_imul d_X11_laysMonomial_47 ?_
  refine j_isub d_X11_laysMonomial_48 ?_
  refine j_aload_n rfl d_X11_laysMonomial_49 rfl ?_
  refine j_getr fl_Model_122 tg_483 rv_483_50 d_X11_laysMonomial_50 ?_
  refine j_iload_n rfl d_X11_laysMonomial_53 rfl ?_
  refine j_iald tg_521 al_521 d_X11_laysMonomial_54 ?_
  refine j_irem d_X11_laysMonomial_55 ?_
  refine j_if_eq (tgt := 65) d_X11_laysMonomial_56 (by decide) (fun h5 => ?_) (fun h5 => ?_)
  · refine j_aload_n rfl d_X11_laysMonomial_65 rfl ?_
    refine j_getr fl_Model_137 tg_483 rv_483_55 d_X11_laysMonomial_66 ?_
    refine j_iload_n rfl d_X11_laysMonomial_69 rfl ?_
    refine j_iload d_X11_laysMonomial_70 rfl ?_
    refine j_iast tg_526 al_526 d_X11_laysMonomial_72 (fun M6 hM6 => ?_)
    refine j_iload_n rfl d_X11_laysMonomial_73 rfl ?_
    refine j_iload d_X11_laysMonomial_74 rfl ?_
    refine j_aload_n rfl d_X11_laysMonomial_76 rfl ?_
    refine j_getr fl_Model_128 tg_483 rv_483_52 d_X11_laysMonomial_77 ?_
    refine j_iload_n rfl d_X11_laysMonomial_80 rfl ?_
    refine j_iald tg_523 al_523 d_X11_laysMonomial_81 ?_
    refine j_imul d_X11_laysMonomial_82 ?_
    refine j_isub d_X11_laysMonomial_83 ?_
    refine j_aload_n rfl d_X11_laysMonomial_84 rfl ?_
    refine j_getr fl_Model_122 tg_483 rv_483_50 d_X11_laysMonomial_85 ?_
    refine j_iload_n rfl d_X11_laysMonomial_88 rfl ?_
    refine j_iald tg_521 al_521 d_X11_laysMonomial_89 ?_
    refine j_idiv d_X11_laysMonomial_90 ?_
    refine j_nmI (fun y7 hy7 => ?_)
    refine j_istore_n (lv' := [some (.inr (.inr 483)), none, some (.inl y7), some (.inl x3), some (.inl x4)]) rfl d_X11_laysMonomial_91 (Nat.le_of_ble_eq_true rfl) rfl ?_
    refine j_iincN (lv' := fun y8 => [some (.inr (.inr 483)), none, some (.inl y7), some (.inl y8), some (.inl x4)]) d_X11_laysMonomial_92 rfl (Nat.le_of_ble_eq_true rfl) (fun _ => rfl) (fun y8 hy8 => ?_)
    refine j_goto (tgt := 30) d_X11_laysMonomial_95 (by decide) ?_
    exact j_wk [true, false, true, true, false] rfl rfl (hrec_30 y7 y8 M6)
  · refine j_iincN (lv' := fun y9 => [some (.inr (.inr 483)), none, some (.inl x2), some (.inl x3), some (.inl y9)]) d_X11_laysMonomial_59 rfl (Nat.le_of_ble_eq_true rfl) (fun _ => rfl) (fun y9 hy9 => ?_)
    refine j_goto (tgt := 38) d_X11_laysMonomial_62 (by decide) ?_
    exact j_wk [true, false, true, true, true] rfl rfl (hrec_38 y9)
def f_X11_laysMonomial_38 (rec_30 : Int → Int → tp_M → Option (tp_M)) (x2 : Int) (x3 : Int) (x4 : Int) (M0 : tp_M) : Option (tp_M) := tp_lp (σ := Int) (fun rec_ u => f_X11_laysMonomial_38B rec_30 x2 x3 M0 (fun x4' => rec_ x4') u) tp_N x4
set_option maxHeartbeats 4000000 in
set_option maxRecDepth 100000 in
theorem T_X11_laysMonomial_38 (G : tp_G) (rec_30 : Int → Int → tp_M → Option (tp_M)) (x2 : Int) (x3 : Int) (x4 : Int) (M0 : tp_M) (hrec_30 : ∀ (x2' x3' : Int) (M' : tp_M), tp_J i_X11_laysMonomial (tp_rm 0) G 0 0 o_X11_laysMonomial tp_NC (tp_st M') 0 0 [some (.inr (.inr 483)), none, some (.inl (x2')), some (.inl (x3')), none] 30 [] (rec_30 x2' x3' M')) : tp_J i_X11_laysMonomial (tp_rm 0) G 0 0 o_X11_laysMonomial tp_NC (tp_st M0) 0 0 [some (.inr (.inr 483)), none, some (.inl x2), some (.inl x3), some (.inl x4)] 38 [] (f_X11_laysMonomial_38 rec_30 x2 x3 x4 M0) := by
  unfold f_X11_laysMonomial_38
  exact j_lp (σ := Int) (n' := fun _ => tp_NC) (g' := fun u => tp_st M0) (k' := fun _ => 0) (q' := fun _ => 0) (lv' := fun u => [some (.inr (.inr 483)), none, some (.inl x2), some (.inl x3), some (.inl u)]) (fun rec_ hrec u => T_X11_laysMonomial_38B G rec_30 x2 x3 M0 hrec_30 (fun x4' => rec_ x4') (fun x4' => hrec x4') u) tp_N x4
def f_X11_laysMonomial_30B (rec_30 : Int → Int → tp_M → Option (tp_M)) (x2 : Int) (x3 : Int) (M0 : tp_M) : Option (tp_M) :=
  if x3 < 1 then
    if (0 : Int) ≤ 0 ∧ (0 : Int) < 7 then
      tp_mp (tp_up M0 526 0 x2) fun M4 =>
      some M4 else none
  else
    f_X11_laysMonomial_38 rec_30 x2 x3 0 M0
set_option maxHeartbeats 4000000 in
set_option maxRecDepth 100000 in
theorem T_X11_laysMonomial_30B (G : tp_G) (rec_30 : Int → Int → tp_M → Option (tp_M)) (hrec_30 : ∀ (x2' x3' : Int) (M' : tp_M), tp_J i_X11_laysMonomial (tp_rm 0) G 0 0 o_X11_laysMonomial tp_NC (tp_st M') 0 0 [some (.inr (.inr 483)), none, some (.inl (x2')), some (.inl (x3')), none] 30 [] (rec_30 x2' x3' M')) (x2 : Int) (x3 : Int) (M0 : tp_M) : tp_J i_X11_laysMonomial (tp_rm 0) G 0 0 o_X11_laysMonomial tp_NC (tp_st M0) 0 0 [some (.inr (.inr 483)), none, some (.inl x2), some (.inl x3), none] 30 [] (f_X11_laysMonomial_30B rec_30 x2 x3 M0) := by
  unfold f_X11_laysMonomial_30B
  refine j_iload_n rfl d_X11_laysMonomial_30 rfl ?_
  refine j_iconst ⟨by decide, by decide⟩ d_X11_laysMonomial_31 ?_
  refine j_icmp_lt (tgt := 98) d_X11_laysMonomial_32 (by decide) (fun h3 => ?_) (fun h3 => ?_)
  · refine j_aload_n rfl d_X11_laysMonomial_98 rfl ?_
    refine j_getr fl_Model_137 tg_483 rv_483_55 d_X11_laysMonomial_99 ?_
    refine j_iconst ⟨by decide, by decide⟩ d_X11_laysMonomial_102 ?_
    refine j_iload_n rfl d_X11_laysMonomial_103 rfl ?_
    refine j_iast tg_526 al_526 d_X11_laysMonomial_104 (fun M4 hM4 => ?_)
    exact j_vret d_X11_laysMonomial_105 rfl rfl ⟨rfl, rfl⟩
  · refine j_iconst ⟨by decide, by decide⟩ d_X11_laysMonomial_35 ?_
    refine j_istore (lv' := [some (.inr (.inr 483)), none, some (.inl x2), some (.inl x3), some (.inl 0)]) d_X11_laysMonomial_36 (Nat.le_of_ble_eq_true rfl) rfl ?_
    exact j_wk [true, false, true, true, true] rfl rfl (T_X11_laysMonomial_38 G rec_30 x2 x3 0 M0 hrec_30)
def f_X11_laysMonomial_30 (x2 : Int) (x3 : Int) (M0 : tp_M) : Option (tp_M) := tp_lp (σ := Int × Int × tp_M) (fun rec_ u => f_X11_laysMonomial_30B (fun x2' x3' M0' => rec_ (x2', x3', M0')) u.1 u.2.1 u.2.2) tp_N (x2, x3, M0)
set_option maxHeartbeats 4000000 in
set_option maxRecDepth 100000 in
theorem T_X11_laysMonomial_30 (G : tp_G) (x2 : Int) (x3 : Int) (M0 : tp_M) : tp_J i_X11_laysMonomial (tp_rm 0) G 0 0 o_X11_laysMonomial tp_NC (tp_st M0) 0 0 [some (.inr (.inr 483)), none, some (.inl x2), some (.inl x3), none] 30 [] (f_X11_laysMonomial_30 x2 x3 M0) := by
  unfold f_X11_laysMonomial_30
  exact j_lp (σ := Int × Int × tp_M) (n' := fun _ => tp_NC) (g' := fun u => tp_st u.2.2) (k' := fun _ => 0) (q' := fun _ => 0) (lv' := fun u => [some (.inr (.inr 483)), none, some (.inl u.1), some (.inl u.2.1), none]) (fun rec_ hrec u => T_X11_laysMonomial_30B G (fun x2' x3' M0' => rec_ (x2', x3', M0')) (fun x2' x3' M0' => hrec (x2', x3', M0')) u.1 u.2.1 u.2.2) tp_N (x2, x3, M0)
def f_X11_laysMonomial_4B (x2 : Int) (rec_4 : Int → tp_M → Option (tp_M)) (x3 : Int) (M0 : tp_M) : Option (tp_M) :=
  if 7 ≤ x3 then
    tp_lt ((tp_w ((M0 483 49) - 1))) fun y2 =>
    f_X11_laysMonomial_30 x2 y2 M0
  else
    if 0 ≤ x3 ∧ x3 < 7 then
      tp_mp (tp_up M0 526 x3 0) fun M10 =>
      tp_lt (tp_w (x3 + 1)) fun y11 =>
      rec_4 y11 M10 else none
set_option maxHeartbeats 4000000 in
set_option maxRecDepth 100000 in
theorem T_X11_laysMonomial_4B (G : tp_G) (x2 : Int) (rec_4 : Int → tp_M → Option (tp_M)) (hrec_4 : ∀ (x3' : Int) (M' : tp_M), tp_J i_X11_laysMonomial (tp_rm 0) G 0 0 o_X11_laysMonomial tp_NC (tp_st M') 0 0 [some (.inr (.inr 483)), none, some (.inl x2), some (.inl (x3')), none] 4 [] (rec_4 x3' M')) (x3 : Int) (M0 : tp_M) : tp_J i_X11_laysMonomial (tp_rm 0) G 0 0 o_X11_laysMonomial tp_NC (tp_st M0) 0 0 [some (.inr (.inr 483)), none, some (.inl x2), some (.inl x3), none] 4 [] (f_X11_laysMonomial_4B x2 rec_4 x3 M0) := by
  unfold f_X11_laysMonomial_4B
  refine j_iload_n rfl d_X11_laysMonomial_4 rfl ?_
  refine j_bipush ⟨by decide, by decide⟩ (by decide +kernel) d_X11_laysMonomial_5 ?_
  refine j_icmp_ge (tgt := 23) d_X11_laysMonomial_7 (by decide) (fun h1 => ?_) (fun h1 => ?_)
  · refine j_aload_n rfl d_X11_laysMonomial_23 rfl ?_
    refine j_geti fl_Model_300 tg_483 d_X11_laysMonomial_24 ?_
    refine j_iconst ⟨by decide, by decide⟩ d_X11_laysMonomial_27 ?_
    refine j_isub d_X11_laysMonomial_28 ?_
    refine j_nmI (fun y2 hy2 => ?_)
    refine j_istore_n (lv' := [some (.inr (.inr 483)), none, some (.inl x2), some (.inl y2), none]) rfl d_X11_laysMonomial_29 (Nat.le_of_ble_eq_true rfl) rfl ?_
    exact j_wk [true, false, true, true, false] rfl rfl (T_X11_laysMonomial_30 G x2 y2 M0)
  · refine j_aload_n rfl d_X11_laysMonomial_10 rfl ?_
    refine j_getr fl_Model_137 tg_483 rv_483_55 d_X11_laysMonomial_11 ?_
    refine j_iload_n rfl d_X11_laysMonomial_14 rfl ?_
    refine j_iconst ⟨by decide, by decide⟩ d_X11_laysMonomial_15 ?_
    refine j_iast tg_526 al_526 d_X11_laysMonomial_16 (fun M10 hM10 => ?_)
    refine j_iincN (lv' := fun y11 => [some (.inr (.inr 483)), none, some (.inl x2), some (.inl y11), none]) d_X11_laysMonomial_17 rfl (Nat.le_of_ble_eq_true rfl) (fun _ => rfl) (fun y11 hy11 => ?_)
    refine j_goto (tgt := 4) d_X11_laysMonomial_20 (by decide) ?_
    exact j_wk [true, false, true, true, false] rfl rfl (hrec_4 y11 M10)
def f_X11_laysMonomial_4 (x2 : Int) (x3 : Int) (M0 : tp_M) : Option (tp_M) := tp_lp (σ := Int × tp_M) (fun rec_ u => f_X11_laysMonomial_4B x2 (fun x3' M0' => rec_ (x3', M0')) u.1 u.2) tp_N (x3, M0)
set_option maxHeartbeats 4000000 in
set_option maxRecDepth 100000 in
theorem T_X11_laysMonomial_4 (G : tp_G) (x2 : Int) (x3 : Int) (M0 : tp_M) : tp_J i_X11_laysMonomial (tp_rm 0) G 0 0 o_X11_laysMonomial tp_NC (tp_st M0) 0 0 [some (.inr (.inr 483)), none, some (.inl x2), some (.inl x3), none] 4 [] (f_X11_laysMonomial_4 x2 x3 M0) := by
  unfold f_X11_laysMonomial_4
  exact j_lp (σ := Int × tp_M) (n' := fun _ => tp_NC) (g' := fun u => tp_st u.2) (k' := fun _ => 0) (q' := fun _ => 0) (lv' := fun u => [some (.inr (.inr 483)), none, some (.inl x2), some (.inl u.1), none]) (fun rec_ hrec u => T_X11_laysMonomial_4B G x2 (fun x3' M0' => rec_ (x3', M0')) (fun x3' M0' => hrec (x3', M0')) u.1 u.2) tp_N (x3, M0)
def f_X11_laysMonomial (a0 : Int) (M0 : tp_M) : Option (tp_M) :=
  f_X11_laysMonomial_4 a0 0 M0
set_option maxHeartbeats 4000000 in
set_option maxRecDepth 100000 in
theorem T_X11_laysMonomial (G : tp_G) (a0 : Int) (M0 : tp_M) : tp_J i_X11_laysMonomial (tp_rm 0) G 0 0 o_X11_laysMonomial tp_NC (tp_st M0) 0 0 [some (.inr (.inr 483)), some (.inl a0), none, none, none] 0 [] (f_X11_laysMonomial a0 M0) := by
  unfold f_X11_laysMonomial
  refine j_iload_n rfl d_X11_laysMonomial_0 rfl ?_
  refine j_istore_n (lv' := [some (.inr (.inr 483)), some (.inl a0), some (.inl a0), none, none]) rfl d_X11_laysMonomial_1 (Nat.le_of_ble_eq_true rfl) rfl ?_
  refine j_iconst ⟨by decide, by decide⟩ d_X11_laysMonomial_2 ?_
  refine j_istore_n (lv' := [some (.inr (.inr 483)), some (.inl a0), some (.inl a0), some (.inl 0), none]) rfl d_X11_laysMonomial_3 (Nat.le_of_ble_eq_true rfl) rfl ?_
  exact j_wk [true, false, true, true, false] rfl rfl (T_X11_laysMonomial_4 G a0 0 M0)
set_option maxHeartbeats 4000000 in
set_option maxRecDepth 100000 in
theorem c_X11_laysMonomial (G : tp_G) (a0 : Int) (M0 : tp_M) (r : tp_M) (h : f_X11_laysMonomial a0 M0 = some r) (l : Launch) : Met l y_X11_laysMonomial (tp_ws y_X11_laysMonomial i_X11_laysMonomial) (tp_rm 0) (tp_Pc G [.inr (.inr 483), .inl a0] tp_NC (tp_st M0)) (tp_Q G (o_X11_laysMonomial r)) 0 0 (tp_A G) :=
  tp_met (I := i_X11_laysMonomial) (y := y_X11_laysMonomial) (by decide +kernel) (Eq.refl "TypesAtPrimeModel") (Eq.refl "laysMonomial") (lv := [some (.inr (.inr 483)), some (.inl a0), none, none, none]) rfl (Nat.le_of_ble_eq_true rfl) (T_X11_laysMonomial G a0 M0) h l
theorem wd_1047 : (.fieldLink "TypesAtPrimeModel" 44 "TypesAtPrimeModel" "its" "[J" : Cond) ∈ lw_tbl := List.mem_append_right _ (List.mem_of_getElem? (i := 1047) (by decide +kernel))
theorem fl_Model_44 : tp_F "TypesAtPrimeModel" 44 11 19 2 := ⟨_, _, _, rfl, by decide, rfl, wd_1047, rfl, by decide⟩
theorem tg_495 : tp_tg 495 = 22 := by decide +kernel
theorem al_495 : tp_al 495 = 9 := by decide +kernel
theorem rv_483_19 : tp_rv 483 19 = 495 := by decide +kernel
def y_X11_laysRow : MethodName := ⟨"TypesAtPrimeModel", "laysRow", "(I)V"⟩
abbrev i_X11_laysRow : tp_I := (prog_13_method_47_code, "TypesAtPrimeModel", none, 3, "laysRow")
abbrev o_X11_laysRow : tp_M → tp_O := fun r => (none, tp_NC, tp_st r)
theorem d_X11_laysRow_0 : decode prog_13_method_47_code 0 = .ok (.iconst 0, 1) := by decide +kernel
theorem d_X11_laysRow_1 : decode prog_13_method_47_code 1 = .ok (.istore_n 2, 1) := by decide +kernel
theorem d_X11_laysRow_2 : decode prog_13_method_47_code 2 = .ok (.iload_n 2, 1) := by decide +kernel
theorem d_X11_laysRow_3 : decode prog_13_method_47_code 3 = .ok (.bipush 24, 2) := by decide +kernel
theorem d_X11_laysRow_5 : decode prog_13_method_47_code 5 = .ok (.if_icmp .ge 31, 3) := by decide +kernel
theorem d_X11_laysRow_8 : decode prog_13_method_47_code 8 = .ok (.aload_n 0, 1) := by decide +kernel
theorem d_X11_laysRow_9 : decode prog_13_method_47_code 9 = .ok (.getfield 20, 3) := by decide +kernel
theorem d_X11_laysRow_12 : decode prog_13_method_47_code 12 = .ok (.iload_n 2, 1) := by decide +kernel
theorem d_X11_laysRow_13 : decode prog_13_method_47_code 13 = .ok (.iload_n 2, 1) := by decide +kernel
theorem d_X11_laysRow_14 : decode prog_13_method_47_code 14 = .ok (.bipush 9, 2) := by decide +kernel
theorem d_X11_laysRow_16 : decode prog_13_method_47_code 16 = .ok (.if_icmp .ge 12, 3) := by decide +kernel
theorem d_X11_laysRow_19 : decode prog_13_method_47_code 19 = .ok (.aload_n 0, 1) := by decide +kernel
theorem d_X11_laysRow_20 : decode prog_13_method_47_code 20 = .ok (.getfield 44, 3) := by decide +kernel
theorem d_X11_laysRow_23 : decode prog_13_method_47_code 23 = .ok (.iload_n 2, 1) := by decide +kernel
theorem d_X11_laysRow_24 : decode prog_13_method_47_code 24 = .ok (.laload, 1) := by decide +kernel
theorem d_X11_laysRow_25 : decode prog_13_method_47_code 25 = .ok (.goto 4, 3) := by decide +kernel
theorem d_X11_laysRow_28 : decode prog_13_method_47_code 28 = .ok (.lconst 0, 1) := by decide +kernel
theorem d_X11_laysRow_29 : decode prog_13_method_47_code 29 = .ok (.lastore, 1) := by decide +kernel
theorem d_X11_laysRow_30 : decode prog_13_method_47_code 30 = .ok (.iinc 2 1, 3) := by decide +kernel
theorem d_X11_laysRow_33 : decode prog_13_method_47_code 33 = .ok (.goto (-31), 3) := by decide +kernel
theorem d_X11_laysRow_36 : decode prog_13_method_47_code 36 = .ok (.aload_n 0, 1) := by decide +kernel
theorem d_X11_laysRow_37 : decode prog_13_method_47_code 37 = .ok (.iconst 0, 1) := by decide +kernel
theorem d_X11_laysRow_38 : decode prog_13_method_47_code 38 = .ok (.bipush 9, 2) := by decide +kernel
theorem d_X11_laysRow_40 : decode prog_13_method_47_code 40 = .ok (.bipush 9, 2) := by decide +kernel
theorem d_X11_laysRow_42 : decode prog_13_method_47_code 42 = .ok (.iload_n 1, 1) := by decide +kernel
theorem d_X11_laysRow_43 : decode prog_13_method_47_code 43 = .ok (.imul, 1) := by decide +kernel
theorem d_X11_laysRow_44 : decode prog_13_method_47_code 44 = .ok (.aload_n 0, 1) := by decide +kernel
theorem d_X11_laysRow_45 : decode prog_13_method_47_code 45 = .ok (.getfield 125, 3) := by decide +kernel
theorem d_X11_laysRow_48 : decode prog_13_method_47_code 48 = .ok (.aload_n 0, 1) := by decide +kernel
theorem d_X11_laysRow_49 : decode prog_13_method_47_code 49 = .ok (.getfield 300, 3) := by decide +kernel
theorem d_X11_laysRow_52 : decode prog_13_method_47_code 52 = .ok (.iaload, 1) := by decide +kernel
theorem d_X11_laysRow_53 : decode prog_13_method_47_code 53 = .ok (.invokevirtual 261, 3) := by decide +kernel
theorem d_X11_laysRow_56 : decode prog_13_method_47_code 56 = .ok (.return_, 1) := by decide +kernel
def f_X11_laysRow_29 (rec_2 : Int → tp_M → Option (tp_M)) (x1 : Int) (x2 : Int) (s0 : Int) (s1 : Int) (M0 : tp_M) : Option (tp_M) :=
  if 0 ≤ s1 ∧ s1 < 24 then
    tp_mp (tp_up M0 487 s1 s0) fun M5 =>
    tp_lt (tp_w (x2 + 1)) fun y6 =>
    rec_2 y6 M5 else none
set_option maxHeartbeats 4000000 in
set_option maxRecDepth 100000 in
theorem T_X11_laysRow_29 (G : tp_G) (rec_2 : Int → tp_M → Option (tp_M)) (x1 : Int) (x2 : Int) (s0 : Int) (s1 : Int) (M0 : tp_M) (hrec_2 : ∀ (x2' : Int) (M' : tp_M), tp_J i_X11_laysRow (tp_rm 2) G 0 0 o_X11_laysRow tp_NC (tp_st M') 0 0 [some (.inr (.inr 483)), some (.inl x1), some (.inl (x2'))] 2 [] (rec_2 x2' M')) : tp_J i_X11_laysRow (tp_rm 2) G 0 0 o_X11_laysRow tp_NC (tp_st M0) 0 0 [some (.inr (.inr 483)), some (.inl x1), some (.inl x2)] 29 [.inr (.inl s0), .inl s1, .inr (.inr 487)] (f_X11_laysRow_29 rec_2 x1 x2 s0 s1 M0) := by
  unfold f_X11_laysRow_29
  refine j_last tg_487 al_487 d_X11_laysRow_29 (fun M5 hM5 => ?_)
  refine j_iincN (lv' := fun y6 => [some (.inr (.inr 483)), some (.inl x1), some (.inl y6)]) d_X11_laysRow_30 rfl (Nat.le_of_ble_eq_true rfl) (fun _ => rfl) (fun y6 hy6 => ?_)
  refine j_goto (tgt := 2) d_X11_laysRow_33 (by decide) ?_
  exact j_wk [true, true, true] rfl rfl (hrec_2 y6 M5)
def f_X11_laysRow_2B (x1 : Int) (rec_2 : Int → tp_M → Option (tp_M)) (x2 : Int) (M0 : tp_M) : Option (tp_M) :=
  if 24 ≤ x2 then
    if 0 ≤ (M0 483 49) ∧ (M0 483 49) < 8 then
      (f_X11_splits 0 9 (tp_w (9 * x1)) (M0 522 (M0 483 49)) M0).bind fun r2 =>
      some r2 else none
  else
    if 9 ≤ x2 then
      f_X11_laysRow_29 rec_2 x1 x2 0 x2 M0
    else
      if 0 ≤ x2 ∧ x2 < 9 then
        f_X11_laysRow_29 rec_2 x1 x2 (M0 495 x2) x2 M0 else none
set_option maxHeartbeats 4000000 in
set_option maxRecDepth 100000 in
theorem T_X11_laysRow_2B (G : tp_G) (x1 : Int) (rec_2 : Int → tp_M → Option (tp_M)) (hrec_2 : ∀ (x2' : Int) (M' : tp_M), tp_J i_X11_laysRow (tp_rm 2) G 0 0 o_X11_laysRow tp_NC (tp_st M') 0 0 [some (.inr (.inr 483)), some (.inl x1), some (.inl (x2'))] 2 [] (rec_2 x2' M')) (x2 : Int) (M0 : tp_M) : tp_J i_X11_laysRow (tp_rm 2) G 0 0 o_X11_laysRow tp_NC (tp_st M0) 0 0 [some (.inr (.inr 483)), some (.inl x1), some (.inl x2)] 2 [] (f_X11_laysRow_2B x1 rec_2 x2 M0) := by
  unfold f_X11_laysRow_2B
  refine j_iload_n rfl d_X11_laysRow_2 rfl ?_
  refine j_bipush ⟨by decide, by decide⟩ (by decide +kernel) d_X11_laysRow_3 ?_
  refine j_icmp_ge (tgt := 36) d_X11_laysRow_5 (by decide) (fun h1 => ?_) (fun h1 => ?_)
  · refine j_aload_n rfl d_X11_laysRow_36 rfl ?_
    refine j_iconst ⟨by decide, by decide⟩ d_X11_laysRow_37 ?_
    refine j_bipush ⟨by decide, by decide⟩ (by decide +kernel) d_X11_laysRow_38 ?_
    refine j_bipush ⟨by decide, by decide⟩ (by decide +kernel) d_X11_laysRow_40 ?_
    refine j_iload_n rfl d_X11_laysRow_42 rfl ?_
    refine j_imul d_X11_laysRow_43 ?_
    refine j_aload_n rfl d_X11_laysRow_44 rfl ?_
    refine j_getr fl_Model_125 tg_483 rv_483_51 d_X11_laysRow_45 ?_
    refine j_aload_n rfl d_X11_laysRow_48 rfl ?_
    refine j_geti fl_Model_300 tg_483 d_X11_laysRow_49 ?_
    refine j_iald tg_522 al_522 d_X11_laysRow_52 ?_
    refine j_bind (fun r2 h3 => ?_)
    refine j_callV (y := y_X11_splits) (I' := i_X11_splits) (avs := [.inl 0, .inl 9, .inl (tp_w (9 * x1)), .inl (M0 522 (M0 483 49))]) (c := 483) (st := []) (c_X11_splits G 0 9 (tp_w (9 * x1)) (M0 522 (M0 483 49)) M0 r2 h3) cs_Model_261 wd_1342 wd_1344 ws_49 tg_483 rfl rfl rfl (Nat.le_of_ble_eq_true rfl) ⟨rfl, rfl⟩ ⟨by decide, by decide⟩ ⟨by decide, by decide⟩ d_X11_laysRow_53 ?_
    exact j_vret d_X11_laysRow_56 rfl rfl ⟨rfl, rfl⟩
  · refine j_aload_n rfl d_X11_laysRow_8 rfl ?_
    refine j_getr fl_Model_20 tg_483 rv_483_8 d_X11_laysRow_9 ?_
    refine j_iload_n rfl d_X11_laysRow_12 rfl ?_
    refine j_iload_n rfl d_X11_laysRow_13 rfl ?_
    refine j_bipush ⟨by decide, by decide⟩ (by decide +kernel) d_X11_laysRow_14 ?_
    refine j_icmp_ge (tgt := 28) d_X11_laysRow_16 (by decide) (fun h4 => ?_) (fun h4 => ?_)
    · refine j_lconst (x := 0) ⟨by decide, by decide⟩ (by decide +kernel) d_X11_laysRow_28 ?_
      exact j_wk [true, true, true] rfl rfl (T_X11_laysRow_29 G rec_2 x1 x2 0 x2 M0 hrec_2)
    · refine j_aload_n rfl d_X11_laysRow_19 rfl ?_
      refine j_getr fl_Model_44 tg_483 rv_483_19 d_X11_laysRow_20 ?_
      refine j_iload_n rfl d_X11_laysRow_23 rfl ?_
      refine j_lald tg_495 al_495 d_X11_laysRow_24 ?_
      refine j_goto (tgt := 29) d_X11_laysRow_25 (by decide) ?_
      exact j_wk [true, true, true] rfl rfl (T_X11_laysRow_29 G rec_2 x1 x2 (M0 495 x2) x2 M0 hrec_2)
def f_X11_laysRow_2 (x1 : Int) (x2 : Int) (M0 : tp_M) : Option (tp_M) := tp_lp (σ := Int × tp_M) (fun rec_ u => f_X11_laysRow_2B x1 (fun x2' M0' => rec_ (x2', M0')) u.1 u.2) tp_N (x2, M0)
set_option maxHeartbeats 4000000 in
set_option maxRecDepth 100000 in
theorem T_X11_laysRow_2 (G : tp_G) (x1 : Int) (x2 : Int) (M0 : tp_M) : tp_J i_X11_laysRow (tp_rm 2) G 0 0 o_X11_laysRow tp_NC (tp_st M0) 0 0 [some (.inr (.inr 483)), some (.inl x1), some (.inl x2)] 2 [] (f_X11_laysRow_2 x1 x2 M0) := by
  unfold f_X11_laysRow_2
  exact j_lp (σ := Int × tp_M) (n' := fun _ => tp_NC) (g' := fun u => tp_st u.2) (k' := fun _ => 0) (q' := fun _ => 0) (lv' := fun u => [some (.inr (.inr 483)), some (.inl x1), some (.inl u.1)]) (fun rec_ hrec u => T_X11_laysRow_2B G x1 (fun x2' M0' => rec_ (x2', M0')) (fun x2' M0' => hrec (x2', M0')) u.1 u.2) tp_N (x2, M0)
def f_X11_laysRow (a0 : Int) (M0 : tp_M) : Option (tp_M) :=
  f_X11_laysRow_2 a0 0 M0
set_option maxHeartbeats 4000000 in
set_option maxRecDepth 100000 in
theorem T_X11_laysRow (G : tp_G) (a0 : Int) (M0 : tp_M) : tp_J i_X11_laysRow (tp_rm 2) G 0 0 o_X11_laysRow tp_NC (tp_st M0) 0 0 [some (.inr (.inr 483)), some (.inl a0), none] 0 [] (f_X11_laysRow a0 M0) := by
  unfold f_X11_laysRow
  refine j_iconst ⟨by decide, by decide⟩ d_X11_laysRow_0 ?_
  refine j_istore_n (lv' := [some (.inr (.inr 483)), some (.inl a0), some (.inl 0)]) rfl d_X11_laysRow_1 (Nat.le_of_ble_eq_true rfl) rfl ?_
  exact j_wk [true, true, true] rfl rfl (T_X11_laysRow_2 G a0 0 M0)
set_option maxHeartbeats 4000000 in
set_option maxRecDepth 100000 in
theorem c_X11_laysRow (G : tp_G) (a0 : Int) (M0 : tp_M) (r : tp_M) (h : f_X11_laysRow a0 M0 = some r) (l : Launch) : Met l y_X11_laysRow (tp_ws y_X11_laysRow i_X11_laysRow) (tp_rm 2) (tp_Pc G [.inr (.inr 483), .inl a0] tp_NC (tp_st M0)) (tp_Q G (o_X11_laysRow r)) 0 0 (tp_A G) :=
  tp_met (I := i_X11_laysRow) (y := y_X11_laysRow) (by decide +kernel) (Eq.refl "TypesAtPrimeModel") (Eq.refl "laysRow") (lv := [some (.inr (.inr 483)), some (.inl a0), none]) rfl (Nat.le_of_ble_eq_true rfl) (T_X11_laysRow G a0 M0) h l
theorem wd_1427 : (.code ⟨"TypesAtPrimeModel", "laysRow", "(I)V"⟩ prog_13_method_47_code 3 (none : Option Jvm.ClassFile.FieldType) : Cond) ∈ lw_tbl := List.mem_append_right _ (List.mem_of_getElem? (i := 1427) (by decide +kernel))
theorem cs_Model_312 : tp_CS "TypesAtPrimeModel" 312 y_X11_laysRow i_X11_laysRow 1 := ⟨wd_1427, wd_12, by decide, by decide, by decide +kernel⟩
theorem wd_1424 : (.methodLink "TypesAtPrimeModel" 312 ⟨"TypesAtPrimeModel", "laysRow", "(I)V"⟩ : Cond) ∈ lw_tbl := List.mem_append_right _ (List.mem_of_getElem? (i := 1424) (by decide +kernel))
theorem wd_1426 : (.instanceMethod ⟨"TypesAtPrimeModel", "laysRow", "(I)V"⟩ : Cond) ∈ lw_tbl := List.mem_append_right _ (List.mem_of_getElem? (i := 1426) (by decide +kernel))
theorem ws_67 : (.selects "TypesAtPrimeModel" ⟨"TypesAtPrimeModel", "laysRow", "(I)V"⟩ ⟨"TypesAtPrimeModel", "laysRow", "(I)V"⟩ : Cond) ∈ lw_tbl := List.mem_append_left _ (List.mem_of_getElem? (i := 67) (by decide +kernel))
theorem wd_1057 : (.fieldLink "TypesAtPrimeModel" 62 "TypesAtPrimeModel" "zeros" "[I" : Cond) ∈ lw_tbl := List.mem_append_right _ (List.mem_of_getElem? (i := 1057) (by decide +kernel))
theorem fl_Model_62 : tp_F "TypesAtPrimeModel" 62 11 29 2 := ⟨_, _, _, rfl, by decide, rfl, wd_1057, rfl, by decide⟩
theorem tg_501 : tp_tg 501 = 21 := by decide +kernel
theorem al_501 : tp_al 501 = 40 := by decide +kernel
theorem rv_483_29 : tp_rv 483 29 = 501 := by decide +kernel
theorem wd_1053 : (.fieldLink "TypesAtPrimeModel" 50 "TypesAtPrimeModel" "manifold" "[I" : Cond) ∈ lw_tbl := List.mem_append_right _ (List.mem_of_getElem? (i := 1053) (by decide +kernel))
theorem fl_Model_50 : tp_F "TypesAtPrimeModel" 50 11 25 2 := ⟨_, _, _, rfl, by decide, rfl, wd_1053, rfl, by decide⟩
theorem tg_497 : tp_tg 497 = 21 := by decide +kernel
theorem al_497 : tp_al 497 = 40 := by decide +kernel
theorem rv_483_25 : tp_rv 483 25 = 497 := by decide +kernel
theorem wd_1059 : (.fieldLink "TypesAtPrimeModel" 68 "TypesAtPrimeModel" "points" "[I" : Cond) ∈ lw_tbl := List.mem_append_right _ (List.mem_of_getElem? (i := 1059) (by decide +kernel))
theorem fl_Model_68 : tp_F "TypesAtPrimeModel" 68 11 31 2 := ⟨_, _, _, rfl, by decide, rfl, wd_1059, rfl, by decide⟩
theorem tg_503 : tp_tg 503 = 21 := by decide +kernel
theorem al_503 : tp_al 503 = 360 := by decide +kernel
theorem rv_483_31 : tp_rv 483 31 = 503 := by decide +kernel
theorem wd_1443 : (.code ⟨"TypesAtPrimeModel", "lift", "()I"⟩ prog_13_method_41_code 1 (some .int) : Cond) ∈ lw_tbl := List.mem_append_right _ (List.mem_of_getElem? (i := 1443) (by decide +kernel))
theorem cs_Model_319 : tp_CS "TypesAtPrimeModel" 319 y_X11_lift i_X11_lift 0 := ⟨wd_1443, wd_12, by decide, by decide, by decide +kernel⟩
theorem wd_1440 : (.methodLink "TypesAtPrimeModel" 319 ⟨"TypesAtPrimeModel", "lift", "()I"⟩ : Cond) ∈ lw_tbl := List.mem_append_right _ (List.mem_of_getElem? (i := 1440) (by decide +kernel))
theorem wd_1442 : (.instanceMethod ⟨"TypesAtPrimeModel", "lift", "()I"⟩ : Cond) ∈ lw_tbl := List.mem_append_right _ (List.mem_of_getElem? (i := 1442) (by decide +kernel))
theorem ws_71 : (.selects "TypesAtPrimeModel" ⟨"TypesAtPrimeModel", "lift", "()I"⟩ ⟨"TypesAtPrimeModel", "lift", "()I"⟩ : Cond) ∈ lw_tbl := List.mem_append_left _ (List.mem_of_getElem? (i := 71) (by decide +kernel))
theorem wd_1431 : (.code ⟨"TypesAtPrimeModel", "head", "(I)I"⟩ prog_13_method_43_code 8 (some .int) : Cond) ∈ lw_tbl := List.mem_append_right _ (List.mem_of_getElem? (i := 1431) (by decide +kernel))
theorem cs_Model_316 : tp_CS "TypesAtPrimeModel" 316 y_X11_head i_X11_head 1 := ⟨wd_1431, wd_12, by decide, by decide, by decide +kernel⟩
theorem wd_1428 : (.methodLink "TypesAtPrimeModel" 316 ⟨"TypesAtPrimeModel", "head", "(I)I"⟩ : Cond) ∈ lw_tbl := List.mem_append_right _ (List.mem_of_getElem? (i := 1428) (by decide +kernel))
theorem wd_1430 : (.instanceMethod ⟨"TypesAtPrimeModel", "head", "(I)I"⟩ : Cond) ∈ lw_tbl := List.mem_append_right _ (List.mem_of_getElem? (i := 1430) (by decide +kernel))
theorem ws_68 : (.selects "TypesAtPrimeModel" ⟨"TypesAtPrimeModel", "head", "(I)I"⟩ ⟨"TypesAtPrimeModel", "head", "(I)I"⟩ : Cond) ∈ lw_tbl := List.mem_append_left _ (List.mem_of_getElem? (i := 68) (by decide +kernel))
def y_X11_laysPoints : MethodName := ⟨"TypesAtPrimeModel", "laysPoints", "(I)V"⟩
abbrev i_X11_laysPoints : tp_I := (prog_13_method_48_code, "TypesAtPrimeModel", none, 5, "laysPoints")
abbrev o_X11_laysPoints : tp_M → tp_O := fun r => (none, tp_NC, tp_st r)
theorem d_X11_laysPoints_0 : decode prog_13_method_48_code 0 = .ok (.aload_n 0, 1) := by decide +kernel
theorem d_X11_laysPoints_1 : decode prog_13_method_48_code 1 = .ok (.getfield 125, 3) := by decide +kernel
theorem d_X11_laysPoints_4 : decode prog_13_method_48_code 4 = .ok (.aload_n 0, 1) := by decide +kernel
theorem d_X11_laysPoints_5 : decode prog_13_method_48_code 5 = .ok (.getfield 300, 3) := by decide +kernel
theorem d_X11_laysPoints_8 : decode prog_13_method_48_code 8 = .ok (.iaload, 1) := by decide +kernel
theorem d_X11_laysPoints_9 : decode prog_13_method_48_code 9 = .ok (.istore_n 2, 1) := by decide +kernel
theorem d_X11_laysPoints_10 : decode prog_13_method_48_code 10 = .ok (.aload_n 0, 1) := by decide +kernel
theorem d_X11_laysPoints_11 : decode prog_13_method_48_code 11 = .ok (.iload_n 1, 1) := by decide +kernel
theorem d_X11_laysPoints_12 : decode prog_13_method_48_code 12 = .ok (.invokevirtual 312, 3) := by decide +kernel
theorem d_X11_laysPoints_15 : decode prog_13_method_48_code 15 = .ok (.aload_n 0, 1) := by decide +kernel
theorem d_X11_laysPoints_16 : decode prog_13_method_48_code 16 = .ok (.getfield 62, 3) := by decide +kernel
theorem d_X11_laysPoints_19 : decode prog_13_method_48_code 19 = .ok (.iload_n 1, 1) := by decide +kernel
theorem d_X11_laysPoints_20 : decode prog_13_method_48_code 20 = .ok (.aload_n 0, 1) := by decide +kernel
theorem d_X11_laysPoints_21 : decode prog_13_method_48_code 21 = .ok (.getfield 50, 3) := by decide +kernel
theorem d_X11_laysPoints_24 : decode prog_13_method_48_code 24 = .ok (.iload_n 1, 1) := by decide +kernel
theorem d_X11_laysPoints_25 : decode prog_13_method_48_code 25 = .ok (.iaload, 1) := by decide +kernel
theorem d_X11_laysPoints_26 : decode prog_13_method_48_code 26 = .ok (.iastore, 1) := by decide +kernel
theorem d_X11_laysPoints_27 : decode prog_13_method_48_code 27 = .ok (.iconst 0, 1) := by decide +kernel
theorem d_X11_laysPoints_28 : decode prog_13_method_48_code 28 = .ok (.istore_n 3, 1) := by decide +kernel
theorem d_X11_laysPoints_29 : decode prog_13_method_48_code 29 = .ok (.iload_n 3, 1) := by decide +kernel
theorem d_X11_laysPoints_30 : decode prog_13_method_48_code 30 = .ok (.bipush 9, 2) := by decide +kernel
theorem d_X11_laysPoints_32 : decode prog_13_method_48_code 32 = .ok (.if_icmp .ge 69, 3) := by decide +kernel
theorem d_X11_laysPoints_35 : decode prog_13_method_48_code 35 = .ok (.iload_n 3, 1) := by decide +kernel
theorem d_X11_laysPoints_36 : decode prog_13_method_48_code 36 = .ok (.aload_n 0, 1) := by decide +kernel
theorem d_X11_laysPoints_37 : decode prog_13_method_48_code 37 = .ok (.getfield 50, 3) := by decide +kernel
theorem d_X11_laysPoints_40 : decode prog_13_method_48_code 40 = .ok (.iload_n 1, 1) := by decide +kernel
theorem d_X11_laysPoints_41 : decode prog_13_method_48_code 41 = .ok (.iaload, 1) := by decide +kernel
theorem d_X11_laysPoints_42 : decode prog_13_method_48_code 42 = .ok (.if_icmp .gt 21, 3) := by decide +kernel
theorem d_X11_laysPoints_45 : decode prog_13_method_48_code 45 = .ok (.iload_n 3, 1) := by decide +kernel
theorem d_X11_laysPoints_46 : decode prog_13_method_48_code 46 = .ok (.iload_n 2, 1) := by decide +kernel
theorem d_X11_laysPoints_47 : decode prog_13_method_48_code 47 = .ok (.imul, 1) := by decide +kernel
theorem d_X11_laysPoints_48 : decode prog_13_method_48_code 48 = .ok (.bipush 9, 2) := by decide +kernel
theorem d_X11_laysPoints_50 : decode prog_13_method_48_code 50 = .ok (.if_icmp .ge 13, 3) := by decide +kernel
theorem d_X11_laysPoints_53 : decode prog_13_method_48_code 53 = .ok (.aload_n 0, 1) := by decide +kernel
theorem d_X11_laysPoints_54 : decode prog_13_method_48_code 54 = .ok (.iload_n 3, 1) := by decide +kernel
theorem d_X11_laysPoints_55 : decode prog_13_method_48_code 55 = .ok (.iload_n 2, 1) := by decide +kernel
theorem d_X11_laysPoints_56 : decode prog_13_method_48_code 56 = .ok (.imul, 1) := by decide +kernel
theorem d_X11_laysPoints_57 : decode prog_13_method_48_code 57 = .ok (.invokevirtual 316, 3) := by decide +kernel
theorem d_X11_laysPoints_60 : decode prog_13_method_48_code 60 = .ok (.goto 4, 3) := by decide +kernel
theorem d_X11_laysPoints_63 : decode prog_13_method_48_code 63 = .ok (.iconst (-1), 1) := by decide +kernel
theorem d_X11_laysPoints_64 : decode prog_13_method_48_code 64 = .ok (.istore 4, 2) := by decide +kernel
theorem d_X11_laysPoints_66 : decode prog_13_method_48_code 66 = .ok (.aload_n 0, 1) := by decide +kernel
theorem d_X11_laysPoints_67 : decode prog_13_method_48_code 67 = .ok (.getfield 68, 3) := by decide +kernel
theorem d_X11_laysPoints_70 : decode prog_13_method_48_code 70 = .ok (.bipush 9, 2) := by decide +kernel
theorem d_X11_laysPoints_72 : decode prog_13_method_48_code 72 = .ok (.iload_n 1, 1) := by decide +kernel
theorem d_X11_laysPoints_73 : decode prog_13_method_48_code 73 = .ok (.imul, 1) := by decide +kernel
theorem d_X11_laysPoints_74 : decode prog_13_method_48_code 74 = .ok (.iload_n 3, 1) := by decide +kernel
theorem d_X11_laysPoints_75 : decode prog_13_method_48_code 75 = .ok (.iadd, 1) := by decide +kernel
theorem d_X11_laysPoints_76 : decode prog_13_method_48_code 76 = .ok (.iload 4, 2) := by decide +kernel
theorem d_X11_laysPoints_78 : decode prog_13_method_48_code 78 = .ok (.ifCond .ge 7, 3) := by decide +kernel
theorem d_X11_laysPoints_81 : decode prog_13_method_48_code 81 = .ok (.iconst (-1), 1) := by decide +kernel
theorem d_X11_laysPoints_82 : decode prog_13_method_48_code 82 = .ok (.goto 12, 3) := by decide +kernel
theorem d_X11_laysPoints_85 : decode prog_13_method_48_code 85 = .ok (.iload 4, 2) := by decide +kernel
theorem d_X11_laysPoints_87 : decode prog_13_method_48_code 87 = .ok (.iload_n 3, 1) := by decide +kernel
theorem d_X11_laysPoints_88 : decode prog_13_method_48_code 88 = .ok (.aload_n 0, 1) := by decide +kernel
theorem d_X11_laysPoints_89 : decode prog_13_method_48_code 89 = .ok (.invokevirtual 319, 3) := by decide +kernel
theorem d_X11_laysPoints_92 : decode prog_13_method_48_code 92 = .ok (.imul, 1) := by decide +kernel
theorem d_X11_laysPoints_93 : decode prog_13_method_48_code 93 = .ok (.iadd, 1) := by decide +kernel
theorem d_X11_laysPoints_94 : decode prog_13_method_48_code 94 = .ok (.iastore, 1) := by decide +kernel
theorem d_X11_laysPoints_95 : decode prog_13_method_48_code 95 = .ok (.iinc 3 1, 3) := by decide +kernel
theorem d_X11_laysPoints_98 : decode prog_13_method_48_code 98 = .ok (.goto (-69), 3) := by decide +kernel
theorem d_X11_laysPoints_101 : decode prog_13_method_48_code 101 = .ok (.aload_n 0, 1) := by decide +kernel
theorem d_X11_laysPoints_102 : decode prog_13_method_48_code 102 = .ok (.getfield 50, 3) := by decide +kernel
theorem d_X11_laysPoints_105 : decode prog_13_method_48_code 105 = .ok (.iload_n 1, 1) := by decide +kernel
theorem d_X11_laysPoints_106 : decode prog_13_method_48_code 106 = .ok (.iaload, 1) := by decide +kernel
theorem d_X11_laysPoints_107 : decode prog_13_method_48_code 107 = .ok (.istore_n 3, 1) := by decide +kernel
theorem d_X11_laysPoints_108 : decode prog_13_method_48_code 108 = .ok (.iload_n 3, 1) := by decide +kernel
theorem d_X11_laysPoints_109 : decode prog_13_method_48_code 109 = .ok (.ifCond .lt 39, 3) := by decide +kernel
theorem d_X11_laysPoints_112 : decode prog_13_method_48_code 112 = .ok (.aload_n 0, 1) := by decide +kernel
theorem d_X11_laysPoints_113 : decode prog_13_method_48_code 113 = .ok (.getfield 62, 3) := by decide +kernel
theorem d_X11_laysPoints_116 : decode prog_13_method_48_code 116 = .ok (.iload_n 1, 1) := by decide +kernel
theorem d_X11_laysPoints_117 : decode prog_13_method_48_code 117 = .ok (.aload_n 0, 1) := by decide +kernel
theorem d_X11_laysPoints_118 : decode prog_13_method_48_code 118 = .ok (.getfield 68, 3) := by decide +kernel
theorem d_X11_laysPoints_121 : decode prog_13_method_48_code 121 = .ok (.bipush 9, 2) := by decide +kernel
theorem d_X11_laysPoints_123 : decode prog_13_method_48_code 123 = .ok (.iload_n 1, 1) := by decide +kernel
theorem d_X11_laysPoints_124 : decode prog_13_method_48_code 124 = .ok (.imul, 1) := by decide +kernel
theorem d_X11_laysPoints_125 : decode prog_13_method_48_code 125 = .ok (.iload_n 3, 1) := by decide +kernel
theorem d_X11_laysPoints_126 : decode prog_13_method_48_code 126 = .ok (.iadd, 1) := by decide +kernel
theorem d_X11_laysPoints_127 : decode prog_13_method_48_code 127 = .ok (.iaload, 1) := by decide +kernel
theorem d_X11_laysPoints_128 : decode prog_13_method_48_code 128 = .ok (.ifCond .lt 7, 3) := by decide +kernel
theorem d_X11_laysPoints_131 : decode prog_13_method_48_code 131 = .ok (.iload_n 3, 1) := by decide +kernel
theorem d_X11_laysPoints_132 : decode prog_13_method_48_code 132 = .ok (.goto 9, 3) := by decide +kernel
theorem d_X11_laysPoints_135 : decode prog_13_method_48_code 135 = .ok (.aload_n 0, 1) := by decide +kernel
theorem d_X11_laysPoints_136 : decode prog_13_method_48_code 136 = .ok (.getfield 62, 3) := by decide +kernel
theorem d_X11_laysPoints_139 : decode prog_13_method_48_code 139 = .ok (.iload_n 1, 1) := by decide +kernel
theorem d_X11_laysPoints_140 : decode prog_13_method_48_code 140 = .ok (.iaload, 1) := by decide +kernel
theorem d_X11_laysPoints_141 : decode prog_13_method_48_code 141 = .ok (.iastore, 1) := by decide +kernel
theorem d_X11_laysPoints_142 : decode prog_13_method_48_code 142 = .ok (.iinc 3 (-1), 3) := by decide +kernel
theorem d_X11_laysPoints_145 : decode prog_13_method_48_code 145 = .ok (.goto (-37), 3) := by decide +kernel
theorem d_X11_laysPoints_148 : decode prog_13_method_48_code 148 = .ok (.return_, 1) := by decide +kernel
def f_X11_laysPoints_141 (rec_108 : Int → tp_M → Option (tp_M)) (x1 : Int) (x3 : Int) (s0 : Int) (s1 : Int) (M0 : tp_M) : Option (tp_M) :=
  if 0 ≤ s1 ∧ s1 < 40 then
    tp_mp (tp_up M0 501 s1 s0) fun M9 =>
    tp_lt (tp_w (x3 + (-1))) fun y10 =>
    rec_108 y10 M9 else none
set_option maxHeartbeats 4000000 in
set_option maxRecDepth 100000 in
theorem T_X11_laysPoints_141 (G : tp_G) (rec_108 : Int → tp_M → Option (tp_M)) (x1 : Int) (x3 : Int) (s0 : Int) (s1 : Int) (M0 : tp_M) (hrec_108 : ∀ (x3' : Int) (M' : tp_M), tp_J i_X11_laysPoints (tp_rm 3) G 0 0 o_X11_laysPoints tp_NC (tp_st M') 0 0 [some (.inr (.inr 483)), some (.inl x1), none, some (.inl (x3')), none] 108 [] (rec_108 x3' M')) : tp_J i_X11_laysPoints (tp_rm 3) G 0 0 o_X11_laysPoints tp_NC (tp_st M0) 0 0 [some (.inr (.inr 483)), some (.inl x1), none, some (.inl x3), none] 141 [.inl s0, .inl s1, .inr (.inr 501)] (f_X11_laysPoints_141 rec_108 x1 x3 s0 s1 M0) := by
  unfold f_X11_laysPoints_141
  refine j_iast tg_501 al_501 d_X11_laysPoints_141 (fun M9 hM9 => ?_)
  refine j_iincN (lv' := fun y10 => [some (.inr (.inr 483)), some (.inl x1), none, some (.inl y10), none]) d_X11_laysPoints_142 rfl (Nat.le_of_ble_eq_true rfl) (fun _ => rfl) (fun y10 hy10 => ?_)
  refine j_goto (tgt := 108) d_X11_laysPoints_145 (by decide) ?_
  exact j_wk [true, true, false, true, false] rfl rfl (hrec_108 y10 M9)
def f_X11_laysPoints_108B (x1 : Int) (rec_108 : Int → tp_M → Option (tp_M)) (x3 : Int) (M0 : tp_M) : Option (tp_M) :=
  if x3 < 0 then
    some M0
  else
    if 0 ≤ (tp_w ((tp_w (9 * x1)) + x3)) ∧ (tp_w ((tp_w (9 * x1)) + x3)) < 360 then
      if (M0 503 (tp_w ((tp_w (9 * x1)) + x3))) < 0 then
        if 0 ≤ x1 ∧ x1 < 40 then
          f_X11_laysPoints_141 rec_108 x1 x3 (M0 501 x1) x1 M0 else none
      else
        f_X11_laysPoints_141 rec_108 x1 x3 x3 x1 M0 else none
set_option maxHeartbeats 4000000 in
set_option maxRecDepth 100000 in
theorem T_X11_laysPoints_108B (G : tp_G) (x1 : Int) (rec_108 : Int → tp_M → Option (tp_M)) (hrec_108 : ∀ (x3' : Int) (M' : tp_M), tp_J i_X11_laysPoints (tp_rm 3) G 0 0 o_X11_laysPoints tp_NC (tp_st M') 0 0 [some (.inr (.inr 483)), some (.inl x1), none, some (.inl (x3')), none] 108 [] (rec_108 x3' M')) (x3 : Int) (M0 : tp_M) : tp_J i_X11_laysPoints (tp_rm 3) G 0 0 o_X11_laysPoints tp_NC (tp_st M0) 0 0 [some (.inr (.inr 483)), some (.inl x1), none, some (.inl x3), none] 108 [] (f_X11_laysPoints_108B x1 rec_108 x3 M0) := by
  unfold f_X11_laysPoints_108B
  refine j_iload_n rfl d_X11_laysPoints_108 rfl ?_
  refine j_if_lt (tgt := 148) d_X11_laysPoints_109 (by decide) (fun h7 => ?_) (fun h7 => ?_)
  · exact j_vret d_X11_laysPoints_148 rfl rfl ⟨rfl, rfl⟩
  · refine j_aload_n rfl d_X11_laysPoints_112 rfl ?_
    refine j_getr fl_Model_62 tg_483 rv_483_29 d_X11_laysPoints_113 ?_
    refine j_iload_n rfl d_X11_laysPoints_116 rfl ?_
    refine j_aload_n rfl d_X11_laysPoints_117 rfl ?_
    refine j_getr fl_Model_68 tg_483 rv_483_31 d_X11_laysPoints_118 ?_
    refine j_bipush ⟨by decide, by decide⟩ (by decide +kernel) d_X11_laysPoints_121 ?_
    refine j_iload_n rfl d_X11_laysPoints_123 rfl ?_
    refine j_imul d_X11_laysPoints_124 ?_
    refine j_iload_n rfl d_X11_laysPoints_125 rfl ?_
    refine j_iadd d_X11_laysPoints_126 ?_
    refine j_iald tg_503 al_503 d_X11_laysPoints_127 ?_
    refine j_if_lt (tgt := 135) d_X11_laysPoints_128 (by decide) (fun h8 => ?_) (fun h8 => ?_)
    · refine j_aload_n rfl d_X11_laysPoints_135 rfl ?_
      refine j_getr fl_Model_62 tg_483 rv_483_29 d_X11_laysPoints_136 ?_
      refine j_iload_n rfl d_X11_laysPoints_139 rfl ?_
      refine j_iald tg_501 al_501 d_X11_laysPoints_140 ?_
      exact j_wk [true, true, false, true, false] rfl rfl (T_X11_laysPoints_141 G rec_108 x1 x3 (M0 501 x1) x1 M0 hrec_108)
    · refine j_iload_n rfl d_X11_laysPoints_131 rfl ?_
      refine j_goto (tgt := 141) d_X11_laysPoints_132 (by decide) ?_
      exact j_wk [true, true, false, true, false] rfl rfl (T_X11_laysPoints_141 G rec_108 x1 x3 x3 x1 M0 hrec_108)
def f_X11_laysPoints_108 (x1 : Int) (x3 : Int) (M0 : tp_M) : Option (tp_M) := tp_lp (σ := Int × tp_M) (fun rec_ u => f_X11_laysPoints_108B x1 (fun x3' M0' => rec_ (x3', M0')) u.1 u.2) tp_N (x3, M0)
set_option maxHeartbeats 4000000 in
set_option maxRecDepth 100000 in
theorem T_X11_laysPoints_108 (G : tp_G) (x1 : Int) (x3 : Int) (M0 : tp_M) : tp_J i_X11_laysPoints (tp_rm 3) G 0 0 o_X11_laysPoints tp_NC (tp_st M0) 0 0 [some (.inr (.inr 483)), some (.inl x1), none, some (.inl x3), none] 108 [] (f_X11_laysPoints_108 x1 x3 M0) := by
  unfold f_X11_laysPoints_108
  exact j_lp (σ := Int × tp_M) (n' := fun _ => tp_NC) (g' := fun u => tp_st u.2) (k' := fun _ => 0) (q' := fun _ => 0) (lv' := fun u => [some (.inr (.inr 483)), some (.inl x1), none, some (.inl u.1), none]) (fun rec_ hrec u => T_X11_laysPoints_108B G x1 (fun x3' M0' => rec_ (x3', M0')) (fun x3' M0' => hrec (x3', M0')) u.1 u.2) tp_N (x3, M0)
def f_X11_laysPoints_94 (rec_29 : Int → tp_M → Option (tp_M)) (x1 : Int) (x2 : Int) (x3 : Int) (s0 : Int) (s1 : Int) (M0 : tp_M) : Option (tp_M) :=
  if 0 ≤ s1 ∧ s1 < 360 then
    tp_mp (tp_up M0 503 s1 s0) fun M15 =>
    tp_lt (tp_w (x3 + 1)) fun y16 =>
    rec_29 y16 M15 else none
set_option maxHeartbeats 4000000 in
set_option maxRecDepth 100000 in
theorem T_X11_laysPoints_94 (G : tp_G) (rec_29 : Int → tp_M → Option (tp_M)) (x1 : Int) (x2 : Int) (x3 : Int) (s0 : Int) (s1 : Int) (M0 : tp_M) (hrec_29 : ∀ (x3' : Int) (M' : tp_M), tp_J i_X11_laysPoints (tp_rm 3) G 0 0 o_X11_laysPoints tp_NC (tp_st M') 0 0 [some (.inr (.inr 483)), some (.inl x1), some (.inl x2), some (.inl (x3')), none] 29 [] (rec_29 x3' M')) : tp_J i_X11_laysPoints (tp_rm 3) G 0 0 o_X11_laysPoints tp_NC (tp_st M0) 0 0 [some (.inr (.inr 483)), some (.inl x1), some (.inl x2), some (.inl x3), none] 94 [.inl s0, .inl s1, .inr (.inr 503)] (f_X11_laysPoints_94 rec_29 x1 x2 x3 s0 s1 M0) := by
  unfold f_X11_laysPoints_94
  refine j_iast tg_503 al_503 d_X11_laysPoints_94 (fun M15 hM15 => ?_)
  refine j_iincN (lv' := fun y16 => [some (.inr (.inr 483)), some (.inl x1), some (.inl x2), some (.inl y16), none]) d_X11_laysPoints_95 rfl (Nat.le_of_ble_eq_true rfl) (fun _ => rfl) (fun y16 hy16 => ?_)
  refine j_goto (tgt := 29) d_X11_laysPoints_98 (by decide) ?_
  exact j_wk [true, true, true, true, false] rfl rfl (hrec_29 y16 M15)
def f_X11_laysPoints_64 (rec_29 : Int → tp_M → Option (tp_M)) (x1 : Int) (x2 : Int) (x3 : Int) (s0 : Int) (M0 : tp_M) : Option (tp_M) :=
  if 0 ≤ s0 then
    (f_X11_lift M0).bind fun r13 =>
    f_X11_laysPoints_94 rec_29 x1 x2 x3 (tp_w (s0 + (tp_w (x3 * r13)))) (tp_w ((tp_w (9 * x1)) + x3)) M0
  else
    f_X11_laysPoints_94 rec_29 x1 x2 x3 (-1) (tp_w ((tp_w (9 * x1)) + x3)) M0
set_option maxHeartbeats 4000000 in
set_option maxRecDepth 100000 in
theorem T_X11_laysPoints_64 (G : tp_G) (rec_29 : Int → tp_M → Option (tp_M)) (x1 : Int) (x2 : Int) (x3 : Int) (s0 : Int) (M0 : tp_M) (hrec_29 : ∀ (x3' : Int) (M' : tp_M), tp_J i_X11_laysPoints (tp_rm 3) G 0 0 o_X11_laysPoints tp_NC (tp_st M') 0 0 [some (.inr (.inr 483)), some (.inl x1), some (.inl x2), some (.inl (x3')), none] 29 [] (rec_29 x3' M')) : tp_J i_X11_laysPoints (tp_rm 3) G 0 0 o_X11_laysPoints tp_NC (tp_st M0) 0 0 [some (.inr (.inr 483)), some (.inl x1), some (.inl x2), some (.inl x3), none] 64 [.inl s0] (f_X11_laysPoints_64 rec_29 x1 x2 x3 s0 M0) := by
  unfold f_X11_laysPoints_64
  refine j_istore (lv' := [some (.inr (.inr 483)), some (.inl x1), some (.inl x2), some (.inl x3), some (.inl s0)]) d_X11_laysPoints_64 (Nat.le_of_ble_eq_true rfl) rfl ?_
  refine j_aload_n rfl d_X11_laysPoints_66 rfl ?_
  refine j_getr fl_Model_68 tg_483 rv_483_31 d_X11_laysPoints_67 ?_
  refine j_bipush ⟨by decide, by decide⟩ (by decide +kernel) d_X11_laysPoints_70 ?_
  refine j_iload_n rfl d_X11_laysPoints_72 rfl ?_
  refine j_imul d_X11_laysPoints_73 ?_
  refine j_iload_n rfl d_X11_laysPoints_74 rfl ?_
  refine j_iadd d_X11_laysPoints_75 ?_
  refine j_iload d_X11_laysPoints_76 rfl ?_
  refine j_if_ge (tgt := 85) d_X11_laysPoints_78 (by decide) (fun h12 => ?_) (fun h12 => ?_)
  · refine j_iload d_X11_laysPoints_85 rfl ?_
    refine j_iload_n rfl d_X11_laysPoints_87 rfl ?_
    refine j_aload_n rfl d_X11_laysPoints_88 rfl ?_
    refine j_bind (fun r13 h14 => ?_)
    refine j_callV (y := y_X11_lift) (I' := i_X11_lift) (avs := []) (c := 483) (st := [.inl x3, .inl s0, .inl (tp_w ((tp_w (9 * x1)) + x3)), .inr (.inr 503)]) (c_X11_lift G M0 r13 h14) cs_Model_319 wd_1440 wd_1442 ws_71 tg_483 rfl rfl rfl (Nat.le_of_ble_eq_true rfl) ⟨rfl, rfl⟩ ⟨by decide, by decide⟩ ⟨by decide, by decide⟩ d_X11_laysPoints_89 ?_
    refine j_imul d_X11_laysPoints_92 ?_
    refine j_iadd d_X11_laysPoints_93 ?_
    exact j_wk [true, true, true, true, false] rfl rfl (T_X11_laysPoints_94 G rec_29 x1 x2 x3 (tp_w (s0 + (tp_w (x3 * r13)))) (tp_w ((tp_w (9 * x1)) + x3)) M0 hrec_29)
  · refine j_iconst ⟨by decide, by decide⟩ d_X11_laysPoints_81 ?_
    refine j_goto (tgt := 94) d_X11_laysPoints_82 (by decide) ?_
    exact j_wk [true, true, true, true, false] rfl rfl (T_X11_laysPoints_94 G rec_29 x1 x2 x3 (-1) (tp_w ((tp_w (9 * x1)) + x3)) M0 hrec_29)
def f_X11_laysPoints_63 (rec_29 : Int → tp_M → Option (tp_M)) (x1 : Int) (x2 : Int) (x3 : Int) (M0 : tp_M) : Option (tp_M) :=
  f_X11_laysPoints_64 rec_29 x1 x2 x3 (-1) M0
set_option maxHeartbeats 4000000 in
set_option maxRecDepth 100000 in
theorem T_X11_laysPoints_63 (G : tp_G) (rec_29 : Int → tp_M → Option (tp_M)) (x1 : Int) (x2 : Int) (x3 : Int) (M0 : tp_M) (hrec_29 : ∀ (x3' : Int) (M' : tp_M), tp_J i_X11_laysPoints (tp_rm 3) G 0 0 o_X11_laysPoints tp_NC (tp_st M') 0 0 [some (.inr (.inr 483)), some (.inl x1), some (.inl x2), some (.inl (x3')), none] 29 [] (rec_29 x3' M')) : tp_J i_X11_laysPoints (tp_rm 3) G 0 0 o_X11_laysPoints tp_NC (tp_st M0) 0 0 [some (.inr (.inr 483)), some (.inl x1), some (.inl x2), some (.inl x3), none] 63 [] (f_X11_laysPoints_63 rec_29 x1 x2 x3 M0) := by
  unfold f_X11_laysPoints_63
  refine j_iconst ⟨by decide, by decide⟩ d_X11_laysPoints_63 ?_
  exact j_wk [true, true, true, true, false] rfl rfl (T_X11_laysPoints_64 G rec_29 x1 x2 x3 (-1) M0 hrec_29)
def f_X11_laysPoints_29B (x1 : Int) (x2 : Int) (rec_29 : Int → tp_M → Option (tp_M)) (x3 : Int) (M0 : tp_M) : Option (tp_M) :=
  if 9 ≤ x3 then
    if 0 ≤ x1 ∧ x1 < 40 then
      tp_lt ((M0 497 x1)) fun y6 =>
      f_X11_laysPoints_108 x1 y6 M0 else none
  else
    if 0 ≤ x1 ∧ x1 < 40 then
      if (M0 497 x1) < x3 then
        f_X11_laysPoints_63 rec_29 x1 x2 x3 M0
      else
        if 9 ≤ (tp_w (x3 * x2)) then
          f_X11_laysPoints_63 rec_29 x1 x2 x3 M0
        else
          (f_X11_head (tp_w (x3 * x2)) M0).bind fun r18 =>
          f_X11_laysPoints_64 rec_29 x1 x2 x3 r18.1 r18.2 else none
set_option maxHeartbeats 4000000 in
set_option maxRecDepth 100000 in
theorem T_X11_laysPoints_29B (G : tp_G) (x1 : Int) (x2 : Int) (rec_29 : Int → tp_M → Option (tp_M)) (hrec_29 : ∀ (x3' : Int) (M' : tp_M), tp_J i_X11_laysPoints (tp_rm 3) G 0 0 o_X11_laysPoints tp_NC (tp_st M') 0 0 [some (.inr (.inr 483)), some (.inl x1), some (.inl x2), some (.inl (x3')), none] 29 [] (rec_29 x3' M')) (x3 : Int) (M0 : tp_M) : tp_J i_X11_laysPoints (tp_rm 3) G 0 0 o_X11_laysPoints tp_NC (tp_st M0) 0 0 [some (.inr (.inr 483)), some (.inl x1), some (.inl x2), some (.inl x3), none] 29 [] (f_X11_laysPoints_29B x1 x2 rec_29 x3 M0) := by
  unfold f_X11_laysPoints_29B
  refine j_iload_n rfl d_X11_laysPoints_29 rfl ?_
  refine j_bipush ⟨by decide, by decide⟩ (by decide +kernel) d_X11_laysPoints_30 ?_
  refine j_icmp_ge (tgt := 101) d_X11_laysPoints_32 (by decide) (fun h5 => ?_) (fun h5 => ?_)
  · refine j_aload_n rfl d_X11_laysPoints_101 rfl ?_
    refine j_getr fl_Model_50 tg_483 rv_483_25 d_X11_laysPoints_102 ?_
    refine j_iload_n rfl d_X11_laysPoints_105 rfl ?_
    refine j_iald tg_497 al_497 d_X11_laysPoints_106 ?_
    refine j_nmI (fun y6 hy6 => ?_)
    refine j_istore_n (lv' := [some (.inr (.inr 483)), some (.inl x1), some (.inl x2), some (.inl y6), none]) rfl d_X11_laysPoints_107 (Nat.le_of_ble_eq_true rfl) rfl ?_
    exact j_wk [true, true, false, true, false] rfl rfl (T_X11_laysPoints_108 G x1 y6 M0)
  · refine j_iload_n rfl d_X11_laysPoints_35 rfl ?_
    refine j_aload_n rfl d_X11_laysPoints_36 rfl ?_
    refine j_getr fl_Model_50 tg_483 rv_483_25 d_X11_laysPoints_37 ?_
    refine j_iload_n rfl d_X11_laysPoints_40 rfl ?_
    refine j_iald tg_497 al_497 d_X11_laysPoints_41 ?_
    refine j_icmp_gt (tgt := 63) d_X11_laysPoints_42 (by decide) (fun h11 => ?_) (fun h11 => ?_)
    · exact j_wk [true, true, true, true, false] rfl rfl (T_X11_laysPoints_63 G rec_29 x1 x2 x3 M0 hrec_29)
    · refine j_iload_n rfl d_X11_laysPoints_45 rfl ?_
      refine j_iload_n rfl d_X11_laysPoints_46 rfl ?_
      refine j_imul d_X11_laysPoints_47 ?_
      refine j_bipush ⟨by decide, by decide⟩ (by decide +kernel) d_X11_laysPoints_48 ?_
      refine j_icmp_ge (tgt := 63) d_X11_laysPoints_50 (by decide) (fun h17 => ?_) (fun h17 => ?_)
      · exact j_wk [true, true, true, true, false] rfl rfl (T_X11_laysPoints_63 G rec_29 x1 x2 x3 M0 hrec_29)
      · refine j_aload_n rfl d_X11_laysPoints_53 rfl ?_
        refine j_iload_n rfl d_X11_laysPoints_54 rfl ?_
        refine j_iload_n rfl d_X11_laysPoints_55 rfl ?_
        refine j_imul d_X11_laysPoints_56 ?_
        refine j_bind (fun r18 h19 => ?_)
        refine j_callV (y := y_X11_head) (I' := i_X11_head) (avs := [.inl (tp_w (x3 * x2))]) (c := 483) (st := []) (c_X11_head G (tp_w (x3 * x2)) M0 r18 h19) cs_Model_316 wd_1428 wd_1430 ws_68 tg_483 rfl rfl rfl (Nat.le_of_ble_eq_true rfl) ⟨rfl, rfl⟩ ⟨by decide, by decide⟩ ⟨by decide, by decide⟩ d_X11_laysPoints_57 ?_
        refine j_goto (tgt := 64) d_X11_laysPoints_60 (by decide) ?_
        exact j_wk [true, true, true, true, false] rfl rfl (T_X11_laysPoints_64 G rec_29 x1 x2 x3 r18.1 r18.2 hrec_29)
def f_X11_laysPoints_29 (x1 : Int) (x2 : Int) (x3 : Int) (M0 : tp_M) : Option (tp_M) := tp_lp (σ := Int × tp_M) (fun rec_ u => f_X11_laysPoints_29B x1 x2 (fun x3' M0' => rec_ (x3', M0')) u.1 u.2) tp_N (x3, M0)
set_option maxHeartbeats 4000000 in
set_option maxRecDepth 100000 in
theorem T_X11_laysPoints_29 (G : tp_G) (x1 : Int) (x2 : Int) (x3 : Int) (M0 : tp_M) : tp_J i_X11_laysPoints (tp_rm 3) G 0 0 o_X11_laysPoints tp_NC (tp_st M0) 0 0 [some (.inr (.inr 483)), some (.inl x1), some (.inl x2), some (.inl x3), none] 29 [] (f_X11_laysPoints_29 x1 x2 x3 M0) := by
  unfold f_X11_laysPoints_29
  exact j_lp (σ := Int × tp_M) (n' := fun _ => tp_NC) (g' := fun u => tp_st u.2) (k' := fun _ => 0) (q' := fun _ => 0) (lv' := fun u => [some (.inr (.inr 483)), some (.inl x1), some (.inl x2), some (.inl u.1), none]) (fun rec_ hrec u => T_X11_laysPoints_29B G x1 x2 (fun x3' M0' => rec_ (x3', M0')) (fun x3' M0' => hrec (x3', M0')) u.1 u.2) tp_N (x3, M0)
def f_X11_laysPoints (a0 : Int) (M0 : tp_M) : Option (tp_M) :=
  if 0 ≤ (M0 483 49) ∧ (M0 483 49) < 8 then
    tp_lt ((M0 522 (M0 483 49))) fun y1 =>
    (f_X11_laysRow a0 M0).bind fun r2 =>
    if 0 ≤ a0 ∧ a0 < 40 then
      if 0 ≤ a0 ∧ a0 < 40 then
        tp_mp (tp_up r2 501 a0 (r2 497 a0)) fun M4 =>
        f_X11_laysPoints_29 a0 y1 0 M4 else none else none else none
set_option maxHeartbeats 4000000 in
set_option maxRecDepth 100000 in
theorem T_X11_laysPoints (G : tp_G) (a0 : Int) (M0 : tp_M) : tp_J i_X11_laysPoints (tp_rm 3) G 0 0 o_X11_laysPoints tp_NC (tp_st M0) 0 0 [some (.inr (.inr 483)), some (.inl a0), none, none, none] 0 [] (f_X11_laysPoints a0 M0) := by
  unfold f_X11_laysPoints
  refine j_aload_n rfl d_X11_laysPoints_0 rfl ?_
  refine j_getr fl_Model_125 tg_483 rv_483_51 d_X11_laysPoints_1 ?_
  refine j_aload_n rfl d_X11_laysPoints_4 rfl ?_
  refine j_geti fl_Model_300 tg_483 d_X11_laysPoints_5 ?_
  refine j_iald tg_522 al_522 d_X11_laysPoints_8 ?_
  refine j_nmI (fun y1 hy1 => ?_)
  refine j_istore_n (lv' := [some (.inr (.inr 483)), some (.inl a0), some (.inl y1), none, none]) rfl d_X11_laysPoints_9 (Nat.le_of_ble_eq_true rfl) rfl ?_
  refine j_aload_n rfl d_X11_laysPoints_10 rfl ?_
  refine j_iload_n rfl d_X11_laysPoints_11 rfl ?_
  refine j_bind (fun r2 h3 => ?_)
  refine j_callV (y := y_X11_laysRow) (I' := i_X11_laysRow) (avs := [.inl a0]) (c := 483) (st := []) (c_X11_laysRow G a0 M0 r2 h3) cs_Model_312 wd_1424 wd_1426 ws_67 tg_483 rfl rfl rfl (Nat.le_of_ble_eq_true rfl) ⟨rfl, rfl⟩ ⟨by decide, by decide⟩ ⟨by decide, by decide⟩ d_X11_laysPoints_12 ?_
  refine j_aload_n rfl d_X11_laysPoints_15 rfl ?_
  refine j_getr fl_Model_62 tg_483 rv_483_29 d_X11_laysPoints_16 ?_
  refine j_iload_n rfl d_X11_laysPoints_19 rfl ?_
  refine j_aload_n rfl d_X11_laysPoints_20 rfl ?_
  refine j_getr fl_Model_50 tg_483 rv_483_25 d_X11_laysPoints_21 ?_
  refine j_iload_n rfl d_X11_laysPoints_24 rfl ?_
  refine j_iald tg_497 al_497 d_X11_laysPoints_25 ?_
  refine j_iast tg_501 al_501 d_X11_laysPoints_26 (fun M4 hM4 => ?_)
  refine j_iconst ⟨by decide, by decide⟩ d_X11_laysPoints_27 ?_
  refine j_istore_n (lv' := [some (.inr (.inr 483)), some (.inl a0), some (.inl y1), some (.inl 0), none]) rfl d_X11_laysPoints_28 (Nat.le_of_ble_eq_true rfl) rfl ?_
  exact j_wk [true, true, true, true, false] rfl rfl (T_X11_laysPoints_29 G a0 y1 0 M4)
set_option maxHeartbeats 4000000 in
set_option maxRecDepth 100000 in
theorem c_X11_laysPoints (G : tp_G) (a0 : Int) (M0 : tp_M) (r : tp_M) (h : f_X11_laysPoints a0 M0 = some r) (l : Launch) : Met l y_X11_laysPoints (tp_ws y_X11_laysPoints i_X11_laysPoints) (tp_rm 3) (tp_Pc G [.inr (.inr 483), .inl a0] tp_NC (tp_st M0)) (tp_Q G (o_X11_laysPoints r)) 0 0 (tp_A G) :=
  tp_met (I := i_X11_laysPoints) (y := y_X11_laysPoints) (by decide +kernel) (Eq.refl "TypesAtPrimeModel") (Eq.refl "laysPoints") (lv := [some (.inr (.inr 483)), some (.inl a0), none, none, none]) rfl (Nat.le_of_ble_eq_true rfl) (T_X11_laysPoints G a0 M0) h l
def y_X11_point0 : MethodName := ⟨"TypesAtPrimeModel", "point0", "(II)I"⟩
abbrev i_X11_point0 : tp_I := (prog_13_method_49_code, "TypesAtPrimeModel", (some .int), 3, "point0")
abbrev o_X11_point0 (M : tp_M) : Int → tp_O := fun r => (some (.inl r), tp_NC, tp_st M)
theorem d_X11_point0_0 : decode prog_13_method_49_code 0 = .ok (.aload_n 0, 1) := by decide +kernel
theorem d_X11_point0_1 : decode prog_13_method_49_code 1 = .ok (.getfield 68, 3) := by decide +kernel
theorem d_X11_point0_4 : decode prog_13_method_49_code 4 = .ok (.bipush 9, 2) := by decide +kernel
theorem d_X11_point0_6 : decode prog_13_method_49_code 6 = .ok (.iload_n 1, 1) := by decide +kernel
theorem d_X11_point0_7 : decode prog_13_method_49_code 7 = .ok (.imul, 1) := by decide +kernel
theorem d_X11_point0_8 : decode prog_13_method_49_code 8 = .ok (.iload_n 2, 1) := by decide +kernel
theorem d_X11_point0_9 : decode prog_13_method_49_code 9 = .ok (.iadd, 1) := by decide +kernel
theorem d_X11_point0_10 : decode prog_13_method_49_code 10 = .ok (.iaload, 1) := by decide +kernel
theorem d_X11_point0_11 : decode prog_13_method_49_code 11 = .ok (.ireturn, 1) := by decide +kernel
def f_X11_point0 (a0 : Int) (a1 : Int) (M0 : tp_M) : Option (Int) :=
  if 0 ≤ (tp_w ((tp_w (9 * a0)) + a1)) ∧ (tp_w ((tp_w (9 * a0)) + a1)) < 360 then
    some (M0 503 (tp_w ((tp_w (9 * a0)) + a1))) else none
set_option maxHeartbeats 4000000 in
set_option maxRecDepth 100000 in
theorem T_X11_point0 (G : tp_G) (a0 : Int) (a1 : Int) (M0 : tp_M) : tp_J i_X11_point0 (tp_rm 0) G 0 0 (o_X11_point0 M0) tp_NC (tp_st M0) 0 0 [some (.inr (.inr 483)), some (.inl a0), some (.inl a1)] 0 [] (f_X11_point0 a0 a1 M0) := by
  unfold f_X11_point0
  refine j_aload_n rfl d_X11_point0_0 rfl ?_
  refine j_getr fl_Model_68 tg_483 rv_483_31 d_X11_point0_1 ?_
  refine j_bipush ⟨by decide, by decide⟩ (by decide +kernel) d_X11_point0_4 ?_
  refine j_iload_n rfl d_X11_point0_6 rfl ?_
  refine j_imul d_X11_point0_7 ?_
  refine j_iload_n rfl d_X11_point0_8 rfl ?_
  refine j_iadd d_X11_point0_9 ?_
  refine j_iald tg_503 al_503 d_X11_point0_10 ?_
  exact j_iret d_X11_point0_11 rfl rfl ⟨rfl, rfl⟩
set_option maxHeartbeats 4000000 in
set_option maxRecDepth 100000 in
theorem c_X11_point0 (G : tp_G) (a0 : Int) (a1 : Int) (M0 : tp_M) (r : Int) (h : f_X11_point0 a0 a1 M0 = some r) (l : Launch) : Met l y_X11_point0 (tp_ws y_X11_point0 i_X11_point0) (tp_rm 0) (tp_Pc G [.inr (.inr 483), .inl a0, .inl a1] tp_NC (tp_st M0)) (tp_Q G ((o_X11_point0 M0) r)) 0 0 (tp_A G) :=
  tp_met (I := i_X11_point0) (y := y_X11_point0) (by decide +kernel) (Eq.refl "TypesAtPrimeModel") (Eq.refl "point0") (lv := [some (.inr (.inr 483)), some (.inl a0), some (.inl a1)]) rfl (Nat.le_of_ble_eq_true rfl) (T_X11_point0 G a0 a1 M0) h l
def y_X11_divisor : MethodName := ⟨"TypesAtPrimeModel", "divisor", "(II)I"⟩
abbrev i_X11_divisor : tp_I := (prog_13_method_50_code, "TypesAtPrimeModel", (some .int), 5, "divisor")
abbrev o_X11_divisor (M : tp_M) : Int → tp_O := fun r => (some (.inl r), tp_NC, tp_st M)
theorem d_X11_divisor_0 : decode prog_13_method_50_code 0 = .ok (.iload_n 0, 1) := by decide +kernel
theorem d_X11_divisor_1 : decode prog_13_method_50_code 1 = .ok (.istore_n 2, 1) := by decide +kernel
theorem d_X11_divisor_2 : decode prog_13_method_50_code 2 = .ok (.iload_n 1, 1) := by decide +kernel
theorem d_X11_divisor_3 : decode prog_13_method_50_code 3 = .ok (.istore_n 3, 1) := by decide +kernel
theorem d_X11_divisor_4 : decode prog_13_method_50_code 4 = .ok (.iload_n 3, 1) := by decide +kernel
theorem d_X11_divisor_5 : decode prog_13_method_50_code 5 = .ok (.ifCond .eq 16, 3) := by decide +kernel
theorem d_X11_divisor_8 : decode prog_13_method_50_code 8 = .ok (.iload_n 2, 1) := by decide +kernel
theorem d_X11_divisor_9 : decode prog_13_method_50_code 9 = .ok (.iload_n 3, 1) := by decide +kernel
theorem d_X11_divisor_10 : decode prog_13_method_50_code 10 = .ok (.irem, 1) := by decide +kernel
theorem d_X11_divisor_11 : decode prog_13_method_50_code 11 = .ok (.istore 4, 2) := by decide +kernel
theorem d_X11_divisor_13 : decode prog_13_method_50_code 13 = .ok (.iload_n 3, 1) := by decide +kernel
theorem d_X11_divisor_14 : decode prog_13_method_50_code 14 = .ok (.istore_n 2, 1) := by decide +kernel
theorem d_X11_divisor_15 : decode prog_13_method_50_code 15 = .ok (.iload 4, 2) := by decide +kernel
theorem d_X11_divisor_17 : decode prog_13_method_50_code 17 = .ok (.istore_n 3, 1) := by decide +kernel
theorem d_X11_divisor_18 : decode prog_13_method_50_code 18 = .ok (.goto (-14), 3) := by decide +kernel
theorem d_X11_divisor_21 : decode prog_13_method_50_code 21 = .ok (.iload_n 2, 1) := by decide +kernel
theorem d_X11_divisor_22 : decode prog_13_method_50_code 22 = .ok (.ireturn, 1) := by decide +kernel
def f_X11_divisor_4B (M0 : tp_M) (rec_4 : Int → Int → Option (Int)) (x2 : Int) (x3 : Int) : Option (Int) :=
  if x3 = 0 then
    some x2
  else
    if x3 = 0 then none else
      tp_lt ((Int.tmod x2 x3)) fun y2 =>
      rec_4 x3 y2
set_option maxHeartbeats 4000000 in
set_option maxRecDepth 100000 in
theorem T_X11_divisor_4B (G : tp_G) (M0 : tp_M) (rec_4 : Int → Int → Option (Int)) (hrec_4 : ∀ (x2' x3' : Int), tp_J i_X11_divisor (tp_rm 0) G 0 0 (o_X11_divisor M0) tp_NC (tp_st M0) 0 0 [none, none, some (.inl (x2')), some (.inl (x3')), none] 4 [] (rec_4 x2' x3')) (x2 : Int) (x3 : Int) : tp_J i_X11_divisor (tp_rm 0) G 0 0 (o_X11_divisor M0) tp_NC (tp_st M0) 0 0 [none, none, some (.inl x2), some (.inl x3), none] 4 [] (f_X11_divisor_4B M0 rec_4 x2 x3) := by
  unfold f_X11_divisor_4B
  refine j_iload_n rfl d_X11_divisor_4 rfl ?_
  refine j_if_eq (tgt := 21) d_X11_divisor_5 (by decide) (fun h1 => ?_) (fun h1 => ?_)
  · refine j_iload_n rfl d_X11_divisor_21 rfl ?_
    exact j_iret d_X11_divisor_22 rfl rfl ⟨rfl, rfl⟩
  · refine j_iload_n rfl d_X11_divisor_8 rfl ?_
    refine j_iload_n rfl d_X11_divisor_9 rfl ?_
    refine j_irem d_X11_divisor_10 ?_
    refine j_nmI (fun y2 hy2 => ?_)
    refine j_istore (lv' := [none, none, some (.inl x2), some (.inl x3), some (.inl y2)]) d_X11_divisor_11 (Nat.le_of_ble_eq_true rfl) rfl ?_
    refine j_iload_n rfl d_X11_divisor_13 rfl ?_
    refine j_istore_n (lv' := [none, none, some (.inl x3), some (.inl x3), some (.inl y2)]) rfl d_X11_divisor_14 (Nat.le_of_ble_eq_true rfl) rfl ?_
    refine j_iload d_X11_divisor_15 rfl ?_
    refine j_istore_n (lv' := [none, none, some (.inl x3), some (.inl y2), some (.inl y2)]) rfl d_X11_divisor_17 (Nat.le_of_ble_eq_true rfl) rfl ?_
    refine j_goto (tgt := 4) d_X11_divisor_18 (by decide) ?_
    exact j_wk [false, false, true, true, false] rfl rfl (hrec_4 x3 y2)
def f_X11_divisor_4 (x2 : Int) (x3 : Int) (M0 : tp_M) : Option (Int) := tp_lp (σ := Int × Int) (fun rec_ u => f_X11_divisor_4B M0 (fun x2' x3' => rec_ (x2', x3')) u.1 u.2) tp_N (x2, x3)
set_option maxHeartbeats 4000000 in
set_option maxRecDepth 100000 in
theorem T_X11_divisor_4 (G : tp_G) (x2 : Int) (x3 : Int) (M0 : tp_M) : tp_J i_X11_divisor (tp_rm 0) G 0 0 (o_X11_divisor M0) tp_NC (tp_st M0) 0 0 [none, none, some (.inl x2), some (.inl x3), none] 4 [] (f_X11_divisor_4 x2 x3 M0) := by
  unfold f_X11_divisor_4
  exact j_lp (σ := Int × Int) (n' := fun _ => tp_NC) (g' := fun u => tp_st M0) (k' := fun _ => 0) (q' := fun _ => 0) (lv' := fun u => [none, none, some (.inl u.1), some (.inl u.2), none]) (fun rec_ hrec u => T_X11_divisor_4B G M0 (fun x2' x3' => rec_ (x2', x3')) (fun x2' x3' => hrec (x2', x3')) u.1 u.2) tp_N (x2, x3)
def f_X11_divisor (a0 : Int) (a1 : Int) (M0 : tp_M) : Option (Int) :=
  f_X11_divisor_4 a0 a1 M0
set_option maxHeartbeats 4000000 in
set_option maxRecDepth 100000 in
theorem T_X11_divisor (G : tp_G) (a0 : Int) (a1 : Int) (M0 : tp_M) : tp_J i_X11_divisor (tp_rm 0) G 0 0 (o_X11_divisor M0) tp_NC (tp_st M0) 0 0 [some (.inl a0), some (.inl a1), none, none, none] 0 [] (f_X11_divisor a0 a1 M0) := by
  unfold f_X11_divisor
  refine j_iload_n rfl d_X11_divisor_0 rfl ?_
  refine j_istore_n (lv' := [some (.inl a0), some (.inl a1), some (.inl a0), none, none]) rfl d_X11_divisor_1 (Nat.le_of_ble_eq_true rfl) rfl ?_
  refine j_iload_n rfl d_X11_divisor_2 rfl ?_
  refine j_istore_n (lv' := [some (.inl a0), some (.inl a1), some (.inl a0), some (.inl a1), none]) rfl d_X11_divisor_3 (Nat.le_of_ble_eq_true rfl) rfl ?_
  exact j_wk [false, false, true, true, false] rfl rfl (T_X11_divisor_4 G a0 a1 M0)
set_option maxHeartbeats 4000000 in
set_option maxRecDepth 100000 in
theorem c_X11_divisor (G : tp_G) (a0 : Int) (a1 : Int) (M0 : tp_M) (r : Int) (h : f_X11_divisor a0 a1 M0 = some r) (l : Launch) : Met l y_X11_divisor (tp_ws y_X11_divisor i_X11_divisor) (tp_rm 0) (tp_Pc G [.inl a0, .inl a1] tp_NC (tp_st M0)) (tp_Q G ((o_X11_divisor M0) r)) 0 0 (tp_A G) :=
  tp_met (I := i_X11_divisor) (y := y_X11_divisor) (by decide +kernel) (Eq.refl "TypesAtPrimeModel") (Eq.refl "divisor") (lv := [some (.inl a0), some (.inl a1), none, none, none]) rfl (Nat.le_of_ble_eq_true rfl) (T_X11_divisor G a0 a1 M0) h l
theorem wd_1451 : (.code ⟨"TypesAtPrimeModel", "point0", "(II)I"⟩ prog_13_method_49_code 3 (some .int) : Cond) ∈ lw_tbl := List.mem_append_right _ (List.mem_of_getElem? (i := 1451) (by decide +kernel))
theorem cs_Model_322 : tp_CS "TypesAtPrimeModel" 322 y_X11_point0 i_X11_point0 2 := ⟨wd_1451, wd_12, by decide, by decide, by decide +kernel⟩
theorem wd_1448 : (.methodLink "TypesAtPrimeModel" 322 ⟨"TypesAtPrimeModel", "point0", "(II)I"⟩ : Cond) ∈ lw_tbl := List.mem_append_right _ (List.mem_of_getElem? (i := 1448) (by decide +kernel))
theorem wd_1450 : (.instanceMethod ⟨"TypesAtPrimeModel", "point0", "(II)I"⟩ : Cond) ∈ lw_tbl := List.mem_append_right _ (List.mem_of_getElem? (i := 1450) (by decide +kernel))
theorem ws_73 : (.selects "TypesAtPrimeModel" ⟨"TypesAtPrimeModel", "point0", "(II)I"⟩ ⟨"TypesAtPrimeModel", "point0", "(II)I"⟩ : Cond) ∈ lw_tbl := List.mem_append_left _ (List.mem_of_getElem? (i := 73) (by decide +kernel))
def y_X11_nextCorner : MethodName := ⟨"TypesAtPrimeModel", "nextCorner", "(III)I"⟩
abbrev i_X11_nextCorner : tp_I := (prog_13_method_51_code, "TypesAtPrimeModel", (some .int), 8, "nextCorner")
abbrev o_X11_nextCorner (M : tp_M) : Int → tp_O := fun r => (some (.inl r), tp_NC, tp_st M)
theorem d_X11_nextCorner_0 : decode prog_13_method_51_code 0 = .ok (.iconst (-1), 1) := by decide +kernel
theorem d_X11_nextCorner_1 : decode prog_13_method_51_code 1 = .ok (.istore 4, 2) := by decide +kernel
theorem d_X11_nextCorner_3 : decode prog_13_method_51_code 3 = .ok (.iload_n 2, 1) := by decide +kernel
theorem d_X11_nextCorner_4 : decode prog_13_method_51_code 4 = .ok (.iconst 1, 1) := by decide +kernel
theorem d_X11_nextCorner_5 : decode prog_13_method_51_code 5 = .ok (.iadd, 1) := by decide +kernel
theorem d_X11_nextCorner_6 : decode prog_13_method_51_code 6 = .ok (.istore 5, 2) := by decide +kernel
theorem d_X11_nextCorner_8 : decode prog_13_method_51_code 8 = .ok (.iload 5, 2) := by decide +kernel
theorem d_X11_nextCorner_10 : decode prog_13_method_51_code 10 = .ok (.iload_n 3, 1) := by decide +kernel
theorem d_X11_nextCorner_11 : decode prog_13_method_51_code 11 = .ok (.if_icmp .gt 90, 3) := by decide +kernel
theorem d_X11_nextCorner_14 : decode prog_13_method_51_code 14 = .ok (.aload_n 0, 1) := by decide +kernel
theorem d_X11_nextCorner_15 : decode prog_13_method_51_code 15 = .ok (.iload_n 1, 1) := by decide +kernel
theorem d_X11_nextCorner_16 : decode prog_13_method_51_code 16 = .ok (.iload 5, 2) := by decide +kernel
theorem d_X11_nextCorner_18 : decode prog_13_method_51_code 18 = .ok (.invokevirtual 322, 3) := by decide +kernel
theorem d_X11_nextCorner_21 : decode prog_13_method_51_code 21 = .ok (.ifCond .lt 74, 3) := by decide +kernel
theorem d_X11_nextCorner_24 : decode prog_13_method_51_code 24 = .ok (.aload_n 0, 1) := by decide +kernel
theorem d_X11_nextCorner_25 : decode prog_13_method_51_code 25 = .ok (.iload_n 1, 1) := by decide +kernel
theorem d_X11_nextCorner_26 : decode prog_13_method_51_code 26 = .ok (.iload 5, 2) := by decide +kernel
theorem d_X11_nextCorner_28 : decode prog_13_method_51_code 28 = .ok (.invokevirtual 322, 3) := by decide +kernel
theorem d_X11_nextCorner_31 : decode prog_13_method_51_code 31 = .ok (.aload_n 0, 1) := by decide +kernel
theorem d_X11_nextCorner_32 : decode prog_13_method_51_code 32 = .ok (.iload_n 1, 1) := by decide +kernel
theorem d_X11_nextCorner_33 : decode prog_13_method_51_code 33 = .ok (.iload_n 2, 1) := by decide +kernel
theorem d_X11_nextCorner_34 : decode prog_13_method_51_code 34 = .ok (.invokevirtual 322, 3) := by decide +kernel
theorem d_X11_nextCorner_37 : decode prog_13_method_51_code 37 = .ok (.isub, 1) := by decide +kernel
theorem d_X11_nextCorner_38 : decode prog_13_method_51_code 38 = .ok (.istore 6, 2) := by decide +kernel
theorem d_X11_nextCorner_40 : decode prog_13_method_51_code 40 = .ok (.iload 4, 2) := by decide +kernel
theorem d_X11_nextCorner_42 : decode prog_13_method_51_code 42 = .ok (.ifCond .lt 32, 3) := by decide +kernel
theorem d_X11_nextCorner_45 : decode prog_13_method_51_code 45 = .ok (.iload 6, 2) := by decide +kernel
theorem d_X11_nextCorner_47 : decode prog_13_method_51_code 47 = .ok (.iload 4, 2) := by decide +kernel
theorem d_X11_nextCorner_49 : decode prog_13_method_51_code 49 = .ok (.iload_n 2, 1) := by decide +kernel
theorem d_X11_nextCorner_50 : decode prog_13_method_51_code 50 = .ok (.isub, 1) := by decide +kernel
theorem d_X11_nextCorner_51 : decode prog_13_method_51_code 51 = .ok (.imul, 1) := by decide +kernel
theorem d_X11_nextCorner_52 : decode prog_13_method_51_code 52 = .ok (.aload_n 0, 1) := by decide +kernel
theorem d_X11_nextCorner_53 : decode prog_13_method_51_code 53 = .ok (.iload_n 1, 1) := by decide +kernel
theorem d_X11_nextCorner_54 : decode prog_13_method_51_code 54 = .ok (.iload 4, 2) := by decide +kernel
theorem d_X11_nextCorner_56 : decode prog_13_method_51_code 56 = .ok (.invokevirtual 322, 3) := by decide +kernel
theorem d_X11_nextCorner_59 : decode prog_13_method_51_code 59 = .ok (.aload_n 0, 1) := by decide +kernel
theorem d_X11_nextCorner_60 : decode prog_13_method_51_code 60 = .ok (.iload_n 1, 1) := by decide +kernel
theorem d_X11_nextCorner_61 : decode prog_13_method_51_code 61 = .ok (.iload_n 2, 1) := by decide +kernel
theorem d_X11_nextCorner_62 : decode prog_13_method_51_code 62 = .ok (.invokevirtual 322, 3) := by decide +kernel
theorem d_X11_nextCorner_65 : decode prog_13_method_51_code 65 = .ok (.isub, 1) := by decide +kernel
theorem d_X11_nextCorner_66 : decode prog_13_method_51_code 66 = .ok (.iload 5, 2) := by decide +kernel
theorem d_X11_nextCorner_68 : decode prog_13_method_51_code 68 = .ok (.iload_n 2, 1) := by decide +kernel
theorem d_X11_nextCorner_69 : decode prog_13_method_51_code 69 = .ok (.isub, 1) := by decide +kernel
theorem d_X11_nextCorner_70 : decode prog_13_method_51_code 70 = .ok (.imul, 1) := by decide +kernel
theorem d_X11_nextCorner_71 : decode prog_13_method_51_code 71 = .ok (.if_icmp .gt 7, 3) := by decide +kernel
theorem d_X11_nextCorner_74 : decode prog_13_method_51_code 74 = .ok (.iconst 1, 1) := by decide +kernel
theorem d_X11_nextCorner_75 : decode prog_13_method_51_code 75 = .ok (.goto 4, 3) := by decide +kernel
theorem d_X11_nextCorner_78 : decode prog_13_method_51_code 78 = .ok (.iconst 0, 1) := by decide +kernel
theorem d_X11_nextCorner_79 : decode prog_13_method_51_code 79 = .ok (.istore 7, 2) := by decide +kernel
theorem d_X11_nextCorner_81 : decode prog_13_method_51_code 81 = .ok (.iload 7, 2) := by decide +kernel
theorem d_X11_nextCorner_83 : decode prog_13_method_51_code 83 = .ok (.ifCond .eq 8, 3) := by decide +kernel
theorem d_X11_nextCorner_86 : decode prog_13_method_51_code 86 = .ok (.iload 5, 2) := by decide +kernel
theorem d_X11_nextCorner_88 : decode prog_13_method_51_code 88 = .ok (.goto 5, 3) := by decide +kernel
theorem d_X11_nextCorner_91 : decode prog_13_method_51_code 91 = .ok (.iload 4, 2) := by decide +kernel
theorem d_X11_nextCorner_93 : decode prog_13_method_51_code 93 = .ok (.istore 4, 2) := by decide +kernel
theorem d_X11_nextCorner_95 : decode prog_13_method_51_code 95 = .ok (.iinc 5 1, 3) := by decide +kernel
theorem d_X11_nextCorner_98 : decode prog_13_method_51_code 98 = .ok (.goto (-90), 3) := by decide +kernel
theorem d_X11_nextCorner_101 : decode prog_13_method_51_code 101 = .ok (.iload 4, 2) := by decide +kernel
theorem d_X11_nextCorner_103 : decode prog_13_method_51_code 103 = .ok (.ireturn, 1) := by decide +kernel
def f_X11_nextCorner_95 (rec_8 : Int → Int → Option (Int)) (x1 : Int) (x2 : Int) (x3 : Int) (x4 : Int) (x5 : Int) (M0 : tp_M) : Option (Int) :=
  tp_lt (tp_w (x5 + 1)) fun y6 =>
  rec_8 x4 y6
set_option maxHeartbeats 4000000 in
set_option maxRecDepth 100000 in
theorem T_X11_nextCorner_95 (G : tp_G) (rec_8 : Int → Int → Option (Int)) (x1 : Int) (x2 : Int) (x3 : Int) (x4 : Int) (x5 : Int) (M0 : tp_M) (hrec_8 : ∀ (x4' x5' : Int), tp_J i_X11_nextCorner (tp_rm 1) G 0 0 (o_X11_nextCorner M0) tp_NC (tp_st M0) 0 0 [some (.inr (.inr 483)), some (.inl x1), some (.inl x2), some (.inl x3), some (.inl (x4')), some (.inl (x5')), none, none] 8 [] (rec_8 x4' x5')) : tp_J i_X11_nextCorner (tp_rm 1) G 0 0 (o_X11_nextCorner M0) tp_NC (tp_st M0) 0 0 [some (.inr (.inr 483)), some (.inl x1), some (.inl x2), some (.inl x3), some (.inl x4), some (.inl x5), none, none] 95 [] (f_X11_nextCorner_95 rec_8 x1 x2 x3 x4 x5 M0) := by
  unfold f_X11_nextCorner_95
  refine j_iincN (lv' := fun y6 => [some (.inr (.inr 483)), some (.inl x1), some (.inl x2), some (.inl x3), some (.inl x4), some (.inl y6), none, none]) d_X11_nextCorner_95 rfl (Nat.le_of_ble_eq_true rfl) (fun _ => rfl) (fun y6 hy6 => ?_)
  refine j_goto (tgt := 8) d_X11_nextCorner_98 (by decide) ?_
  exact j_wk [true, true, true, true, true, true, false, false] rfl rfl (hrec_8 x4 y6)
def f_X11_nextCorner_93 (rec_8 : Int → Int → Option (Int)) (x1 : Int) (x2 : Int) (x3 : Int) (x5 : Int) (s0 : Int) (M0 : tp_M) : Option (Int) :=
  f_X11_nextCorner_95 rec_8 x1 x2 x3 s0 x5 M0
set_option maxHeartbeats 4000000 in
set_option maxRecDepth 100000 in
theorem T_X11_nextCorner_93 (G : tp_G) (rec_8 : Int → Int → Option (Int)) (x1 : Int) (x2 : Int) (x3 : Int) (x5 : Int) (s0 : Int) (M0 : tp_M) (hrec_8 : ∀ (x4' x5' : Int), tp_J i_X11_nextCorner (tp_rm 1) G 0 0 (o_X11_nextCorner M0) tp_NC (tp_st M0) 0 0 [some (.inr (.inr 483)), some (.inl x1), some (.inl x2), some (.inl x3), some (.inl (x4')), some (.inl (x5')), none, none] 8 [] (rec_8 x4' x5')) : tp_J i_X11_nextCorner (tp_rm 1) G 0 0 (o_X11_nextCorner M0) tp_NC (tp_st M0) 0 0 [some (.inr (.inr 483)), some (.inl x1), some (.inl x2), some (.inl x3), none, some (.inl x5), none, none] 93 [.inl s0] (f_X11_nextCorner_93 rec_8 x1 x2 x3 x5 s0 M0) := by
  unfold f_X11_nextCorner_93
  refine j_istore (lv' := [some (.inr (.inr 483)), some (.inl x1), some (.inl x2), some (.inl x3), some (.inl s0), some (.inl x5), none, none]) d_X11_nextCorner_93 (Nat.le_of_ble_eq_true rfl) rfl ?_
  exact j_wk [true, true, true, true, true, true, false, false] rfl rfl (T_X11_nextCorner_95 G rec_8 x1 x2 x3 s0 x5 M0 hrec_8)
def f_X11_nextCorner_79 (rec_8 : Int → Int → Option (Int)) (x1 : Int) (x2 : Int) (x3 : Int) (x4 : Int) (x5 : Int) (s0 : Int) (M0 : tp_M) : Option (Int) :=
  if s0 = 0 then
    f_X11_nextCorner_93 rec_8 x1 x2 x3 x5 x4 M0
  else
    f_X11_nextCorner_93 rec_8 x1 x2 x3 x5 x5 M0
set_option maxHeartbeats 4000000 in
set_option maxRecDepth 100000 in
theorem T_X11_nextCorner_79 (G : tp_G) (rec_8 : Int → Int → Option (Int)) (x1 : Int) (x2 : Int) (x3 : Int) (x4 : Int) (x5 : Int) (s0 : Int) (M0 : tp_M) (hrec_8 : ∀ (x4' x5' : Int), tp_J i_X11_nextCorner (tp_rm 1) G 0 0 (o_X11_nextCorner M0) tp_NC (tp_st M0) 0 0 [some (.inr (.inr 483)), some (.inl x1), some (.inl x2), some (.inl x3), some (.inl (x4')), some (.inl (x5')), none, none] 8 [] (rec_8 x4' x5')) : tp_J i_X11_nextCorner (tp_rm 1) G 0 0 (o_X11_nextCorner M0) tp_NC (tp_st M0) 0 0 [some (.inr (.inr 483)), some (.inl x1), some (.inl x2), some (.inl x3), some (.inl x4), some (.inl x5), none, none] 79 [.inl s0] (f_X11_nextCorner_79 rec_8 x1 x2 x3 x4 x5 s0 M0) := by
  unfold f_X11_nextCorner_79
  refine j_istore (lv' := [some (.inr (.inr 483)), some (.inl x1), some (.inl x2), some (.inl x3), some (.inl x4), some (.inl x5), none, some (.inl s0)]) d_X11_nextCorner_79 (Nat.le_of_ble_eq_true rfl) rfl ?_
  refine j_iload d_X11_nextCorner_81 rfl ?_
  refine j_if_eq (tgt := 91) d_X11_nextCorner_83 (by decide) (fun h13 => ?_) (fun h13 => ?_)
  · refine j_iload d_X11_nextCorner_91 rfl ?_
    exact j_wk [true, true, true, true, false, true, false, false] rfl rfl (T_X11_nextCorner_93 G rec_8 x1 x2 x3 x5 x4 M0 hrec_8)
  · refine j_iload d_X11_nextCorner_86 rfl ?_
    refine j_goto (tgt := 93) d_X11_nextCorner_88 (by decide) ?_
    exact j_wk [true, true, true, true, false, true, false, false] rfl rfl (T_X11_nextCorner_93 G rec_8 x1 x2 x3 x5 x5 M0 hrec_8)
def f_X11_nextCorner_74 (rec_8 : Int → Int → Option (Int)) (x1 : Int) (x2 : Int) (x3 : Int) (x4 : Int) (x5 : Int) (M0 : tp_M) : Option (Int) :=
  f_X11_nextCorner_79 rec_8 x1 x2 x3 x4 x5 1 M0
set_option maxHeartbeats 4000000 in
set_option maxRecDepth 100000 in
theorem T_X11_nextCorner_74 (G : tp_G) (rec_8 : Int → Int → Option (Int)) (x1 : Int) (x2 : Int) (x3 : Int) (x4 : Int) (x5 : Int) (M0 : tp_M) (hrec_8 : ∀ (x4' x5' : Int), tp_J i_X11_nextCorner (tp_rm 1) G 0 0 (o_X11_nextCorner M0) tp_NC (tp_st M0) 0 0 [some (.inr (.inr 483)), some (.inl x1), some (.inl x2), some (.inl x3), some (.inl (x4')), some (.inl (x5')), none, none] 8 [] (rec_8 x4' x5')) : tp_J i_X11_nextCorner (tp_rm 1) G 0 0 (o_X11_nextCorner M0) tp_NC (tp_st M0) 0 0 [some (.inr (.inr 483)), some (.inl x1), some (.inl x2), some (.inl x3), some (.inl x4), some (.inl x5), none, none] 74 [] (f_X11_nextCorner_74 rec_8 x1 x2 x3 x4 x5 M0) := by
  unfold f_X11_nextCorner_74
  refine j_iconst ⟨by decide, by decide⟩ d_X11_nextCorner_74 ?_
  refine j_goto (tgt := 79) d_X11_nextCorner_75 (by decide) ?_
  exact j_wk [true, true, true, true, true, true, false, false] rfl rfl (T_X11_nextCorner_79 G rec_8 x1 x2 x3 x4 x5 1 M0 hrec_8)
def f_X11_nextCorner_8B (x1 : Int) (x2 : Int) (x3 : Int) (M0 : tp_M) (rec_8 : Int → Int → Option (Int)) (x4 : Int) (x5 : Int) : Option (Int) :=
  if x3 < x5 then
    some x4
  else
    (f_X11_point0 x1 x5 M0).bind fun r3 =>
    if r3 < 0 then
      f_X11_nextCorner_95 rec_8 x1 x2 x3 x4 x5 M0
    else
      (f_X11_point0 x1 x5 M0).bind fun r7 =>
      (f_X11_point0 x1 x2 M0).bind fun r9 =>
      tp_lt ((tp_w (r7 - r9))) fun y11 =>
      if x4 < 0 then
        f_X11_nextCorner_74 rec_8 x1 x2 x3 x4 x5 M0
      else
        (f_X11_point0 x1 x4 M0).bind fun r14 =>
        (f_X11_point0 x1 x2 M0).bind fun r16 =>
        if (tp_w ((tp_w (r14 - r16)) * (tp_w (x5 - x2)))) < (tp_w (y11 * (tp_w (x4 - x2)))) then
          f_X11_nextCorner_79 rec_8 x1 x2 x3 x4 x5 0 M0
        else
          f_X11_nextCorner_74 rec_8 x1 x2 x3 x4 x5 M0
set_option maxHeartbeats 4000000 in
set_option maxRecDepth 100000 in
theorem T_X11_nextCorner_8B (G : tp_G) (x1 : Int) (x2 : Int) (x3 : Int) (M0 : tp_M) (rec_8 : Int → Int → Option (Int)) (hrec_8 : ∀ (x4' x5' : Int), tp_J i_X11_nextCorner (tp_rm 1) G 0 0 (o_X11_nextCorner M0) tp_NC (tp_st M0) 0 0 [some (.inr (.inr 483)), some (.inl x1), some (.inl x2), some (.inl x3), some (.inl (x4')), some (.inl (x5')), none, none] 8 [] (rec_8 x4' x5')) (x4 : Int) (x5 : Int) : tp_J i_X11_nextCorner (tp_rm 1) G 0 0 (o_X11_nextCorner M0) tp_NC (tp_st M0) 0 0 [some (.inr (.inr 483)), some (.inl x1), some (.inl x2), some (.inl x3), some (.inl x4), some (.inl x5), none, none] 8 [] (f_X11_nextCorner_8B x1 x2 x3 M0 rec_8 x4 x5) := by
  unfold f_X11_nextCorner_8B
  refine j_iload d_X11_nextCorner_8 rfl ?_
  refine j_iload_n rfl d_X11_nextCorner_10 rfl ?_
  refine j_icmp_gt (tgt := 101) d_X11_nextCorner_11 (by decide) (fun h2 => ?_) (fun h2 => ?_)
  · refine j_iload d_X11_nextCorner_101 rfl ?_
    exact j_iret d_X11_nextCorner_103 rfl rfl ⟨rfl, rfl⟩
  · refine j_aload_n rfl d_X11_nextCorner_14 rfl ?_
    refine j_iload_n rfl d_X11_nextCorner_15 rfl ?_
    refine j_iload d_X11_nextCorner_16 rfl ?_
    refine j_bind (fun r3 h4 => ?_)
    refine j_callV (y := y_X11_point0) (I' := i_X11_point0) (avs := [.inl x1, .inl x5]) (c := 483) (st := []) (c_X11_point0 G x1 x5 M0 r3 h4) cs_Model_322 wd_1448 wd_1450 ws_73 tg_483 rfl rfl rfl (Nat.le_of_ble_eq_true rfl) ⟨rfl, rfl⟩ ⟨by decide, by decide⟩ ⟨by decide, by decide⟩ d_X11_nextCorner_18 ?_
    refine j_if_lt (tgt := 95) d_X11_nextCorner_21 (by decide) (fun h5 => ?_) (fun h5 => ?_)
    · exact j_wk [true, true, true, true, true, true, false, false] rfl rfl (T_X11_nextCorner_95 G rec_8 x1 x2 x3 x4 x5 M0 hrec_8)
    · refine j_aload_n rfl d_X11_nextCorner_24 rfl ?_
      refine j_iload_n rfl d_X11_nextCorner_25 rfl ?_
      refine j_iload d_X11_nextCorner_26 rfl ?_
      refine j_bind (fun r7 h8 => ?_)
      refine j_callV (y := y_X11_point0) (I' := i_X11_point0) (avs := [.inl x1, .inl x5]) (c := 483) (st := []) (c_X11_point0 G x1 x5 M0 r7 h8) cs_Model_322 wd_1448 wd_1450 ws_73 tg_483 rfl rfl rfl (Nat.le_of_ble_eq_true rfl) ⟨rfl, rfl⟩ ⟨by decide, by decide⟩ ⟨by decide, by decide⟩ d_X11_nextCorner_28 ?_
      refine j_aload_n rfl d_X11_nextCorner_31 rfl ?_
      refine j_iload_n rfl d_X11_nextCorner_32 rfl ?_
      refine j_iload_n rfl d_X11_nextCorner_33 rfl ?_
      refine j_bind (fun r9 h10 => ?_)
      refine j_callV (y := y_X11_point0) (I' := i_X11_point0) (avs := [.inl x1, .inl x2]) (c := 483) (st := [.inl r7]) (c_X11_point0 G x1 x2 M0 r9 h10) cs_Model_322 wd_1448 wd_1450 ws_73 tg_483 rfl rfl rfl (Nat.le_of_ble_eq_true rfl) ⟨rfl, rfl⟩ ⟨by decide, by decide⟩ ⟨by decide, by decide⟩ d_X11_nextCorner_34 ?_
      refine j_isub d_X11_nextCorner_37 ?_
      refine j_nmI (fun y11 hy11 => ?_)
      refine j_istore (lv' := [some (.inr (.inr 483)), some (.inl x1), some (.inl x2), some (.inl x3), some (.inl x4), some (.inl x5), some (.inl y11), none]) d_X11_nextCorner_38 (Nat.le_of_ble_eq_true rfl) rfl ?_
      refine j_iload d_X11_nextCorner_40 rfl ?_
      refine j_if_lt (tgt := 74) d_X11_nextCorner_42 (by decide) (fun h12 => ?_) (fun h12 => ?_)
      · exact j_wk [true, true, true, true, true, true, false, false] rfl rfl (T_X11_nextCorner_74 G rec_8 x1 x2 x3 x4 x5 M0 hrec_8)
      · refine j_iload d_X11_nextCorner_45 rfl ?_
        refine j_iload d_X11_nextCorner_47 rfl ?_
        refine j_iload_n rfl d_X11_nextCorner_49 rfl ?_
        refine j_isub d_X11_nextCorner_50 ?_
        refine j_imul d_X11_nextCorner_51 ?_
        refine j_aload_n rfl d_X11_nextCorner_52 rfl ?_
        refine j_iload_n rfl d_X11_nextCorner_53 rfl ?_
        refine j_iload d_X11_nextCorner_54 rfl ?_
        refine j_bind (fun r14 h15 => ?_)
        refine j_callV (y := y_X11_point0) (I' := i_X11_point0) (avs := [.inl x1, .inl x4]) (c := 483) (st := [.inl (tp_w (y11 * (tp_w (x4 - x2))))]) (c_X11_point0 G x1 x4 M0 r14 h15) cs_Model_322 wd_1448 wd_1450 ws_73 tg_483 rfl rfl rfl (Nat.le_of_ble_eq_true rfl) ⟨rfl, rfl⟩ ⟨by decide, by decide⟩ ⟨by decide, by decide⟩ d_X11_nextCorner_56 ?_
        refine j_aload_n rfl d_X11_nextCorner_59 rfl ?_
        refine j_iload_n rfl d_X11_nextCorner_60 rfl ?_
        refine j_iload_n rfl d_X11_nextCorner_61 rfl ?_
        refine j_bind (fun r16 h17 => ?_)
        refine j_callV (y := y_X11_point0) (I' := i_X11_point0) (avs := [.inl x1, .inl x2]) (c := 483) (st := [.inl r14, .inl (tp_w (y11 * (tp_w (x4 - x2))))]) (c_X11_point0 G x1 x2 M0 r16 h17) cs_Model_322 wd_1448 wd_1450 ws_73 tg_483 rfl rfl rfl (Nat.le_of_ble_eq_true rfl) ⟨rfl, rfl⟩ ⟨by decide, by decide⟩ ⟨by decide, by decide⟩ d_X11_nextCorner_62 ?_
        refine j_isub d_X11_nextCorner_65 ?_
        refine j_iload d_X11_nextCorner_66 rfl ?_
        refine j_iload_n rfl d_X11_nextCorner_68 rfl ?_
        refine j_isub d_X11_nextCorner_69 ?_
        refine j_imul d_X11_nextCorner_70 ?_
        refine j_icmp_gt (tgt := 78) d_X11_nextCorner_71 (by decide) (fun h18 => ?_) (fun h18 => ?_)
        · refine j_iconst ⟨by decide, by decide⟩ d_X11_nextCorner_78 ?_
          exact j_wk [true, true, true, true, true, true, false, false] rfl rfl (T_X11_nextCorner_79 G rec_8 x1 x2 x3 x4 x5 0 M0 hrec_8)
        · exact j_wk [true, true, true, true, true, true, false, false] rfl rfl (T_X11_nextCorner_74 G rec_8 x1 x2 x3 x4 x5 M0 hrec_8)
def f_X11_nextCorner_8 (x1 : Int) (x2 : Int) (x3 : Int) (x4 : Int) (x5 : Int) (M0 : tp_M) : Option (Int) := tp_lp (σ := Int × Int) (fun rec_ u => f_X11_nextCorner_8B x1 x2 x3 M0 (fun x4' x5' => rec_ (x4', x5')) u.1 u.2) tp_N (x4, x5)
set_option maxHeartbeats 4000000 in
set_option maxRecDepth 100000 in
theorem T_X11_nextCorner_8 (G : tp_G) (x1 : Int) (x2 : Int) (x3 : Int) (x4 : Int) (x5 : Int) (M0 : tp_M) : tp_J i_X11_nextCorner (tp_rm 1) G 0 0 (o_X11_nextCorner M0) tp_NC (tp_st M0) 0 0 [some (.inr (.inr 483)), some (.inl x1), some (.inl x2), some (.inl x3), some (.inl x4), some (.inl x5), none, none] 8 [] (f_X11_nextCorner_8 x1 x2 x3 x4 x5 M0) := by
  unfold f_X11_nextCorner_8
  exact j_lp (σ := Int × Int) (n' := fun _ => tp_NC) (g' := fun u => tp_st M0) (k' := fun _ => 0) (q' := fun _ => 0) (lv' := fun u => [some (.inr (.inr 483)), some (.inl x1), some (.inl x2), some (.inl x3), some (.inl u.1), some (.inl u.2), none, none]) (fun rec_ hrec u => T_X11_nextCorner_8B G x1 x2 x3 M0 (fun x4' x5' => rec_ (x4', x5')) (fun x4' x5' => hrec (x4', x5')) u.1 u.2) tp_N (x4, x5)
def f_X11_nextCorner (a0 : Int) (a1 : Int) (a2 : Int) (M0 : tp_M) : Option (Int) :=
  tp_lt ((tp_w (a1 + 1))) fun y1 =>
  f_X11_nextCorner_8 a0 a1 a2 (-1) y1 M0
set_option maxHeartbeats 4000000 in
set_option maxRecDepth 100000 in
theorem T_X11_nextCorner (G : tp_G) (a0 : Int) (a1 : Int) (a2 : Int) (M0 : tp_M) : tp_J i_X11_nextCorner (tp_rm 1) G 0 0 (o_X11_nextCorner M0) tp_NC (tp_st M0) 0 0 [some (.inr (.inr 483)), some (.inl a0), some (.inl a1), some (.inl a2), none, none, none, none] 0 [] (f_X11_nextCorner a0 a1 a2 M0) := by
  unfold f_X11_nextCorner
  refine j_iconst ⟨by decide, by decide⟩ d_X11_nextCorner_0 ?_
  refine j_istore (lv' := [some (.inr (.inr 483)), some (.inl a0), some (.inl a1), some (.inl a2), some (.inl (-1)), none, none, none]) d_X11_nextCorner_1 (Nat.le_of_ble_eq_true rfl) rfl ?_
  refine j_iload_n rfl d_X11_nextCorner_3 rfl ?_
  refine j_iconst ⟨by decide, by decide⟩ d_X11_nextCorner_4 ?_
  refine j_iadd d_X11_nextCorner_5 ?_
  refine j_nmI (fun y1 hy1 => ?_)
  refine j_istore (lv' := [some (.inr (.inr 483)), some (.inl a0), some (.inl a1), some (.inl a2), some (.inl (-1)), some (.inl y1), none, none]) d_X11_nextCorner_6 (Nat.le_of_ble_eq_true rfl) rfl ?_
  exact j_wk [true, true, true, true, true, true, false, false] rfl rfl (T_X11_nextCorner_8 G a0 a1 a2 (-1) y1 M0)
set_option maxHeartbeats 4000000 in
set_option maxRecDepth 100000 in
theorem c_X11_nextCorner (G : tp_G) (a0 : Int) (a1 : Int) (a2 : Int) (M0 : tp_M) (r : Int) (h : f_X11_nextCorner a0 a1 a2 M0 = some r) (l : Launch) : Met l y_X11_nextCorner (tp_ws y_X11_nextCorner i_X11_nextCorner) (tp_rm 1) (tp_Pc G [.inr (.inr 483), .inl a0, .inl a1, .inl a2] tp_NC (tp_st M0)) (tp_Q G ((o_X11_nextCorner M0) r)) 0 0 (tp_A G) :=
  tp_met (I := i_X11_nextCorner) (y := y_X11_nextCorner) (by decide +kernel) (Eq.refl "TypesAtPrimeModel") (Eq.refl "nextCorner") (lv := [some (.inr (.inr 483)), some (.inl a0), some (.inl a1), some (.inl a2), none, none, none, none]) rfl (Nat.le_of_ble_eq_true rfl) (T_X11_nextCorner G a0 a1 a2 M0) h l
theorem wd_1474 : (.code ⟨"TypesAtPrimeModel", "takesDown", "()V"⟩ prog_13_method_45_code 3 (none : Option Jvm.ClassFile.FieldType) : Cond) ∈ lw_tbl := List.mem_append_right _ (List.mem_of_getElem? (i := 1474) (by decide +kernel))
theorem cs_Model_346 : tp_CS "TypesAtPrimeModel" 346 y_X11_takesDown i_X11_takesDown 0 := ⟨wd_1474, wd_12, by decide, by decide, by decide +kernel⟩
theorem wd_1471 : (.methodLink "TypesAtPrimeModel" 346 ⟨"TypesAtPrimeModel", "takesDown", "()V"⟩ : Cond) ∈ lw_tbl := List.mem_append_right _ (List.mem_of_getElem? (i := 1471) (by decide +kernel))
theorem wd_1473 : (.instanceMethod ⟨"TypesAtPrimeModel", "takesDown", "()V"⟩ : Cond) ∈ lw_tbl := List.mem_append_right _ (List.mem_of_getElem? (i := 1473) (by decide +kernel))
theorem ws_78 : (.selects "TypesAtPrimeModel" ⟨"TypesAtPrimeModel", "takesDown", "()V"⟩ ⟨"TypesAtPrimeModel", "takesDown", "()V"⟩ : Cond) ∈ lw_tbl := List.mem_append_left _ (List.mem_of_getElem? (i := 78) (by decide +kernel))
theorem wd_1070 : (.fieldLink "TypesAtPrimeModel" 101 "TypesAtPrimeModel" "sideMonomial" "[I" : Cond) ∈ lw_tbl := List.mem_append_right _ (List.mem_of_getElem? (i := 1070) (by decide +kernel))
theorem fl_Model_101 : tp_F "TypesAtPrimeModel" 101 11 42 2 := ⟨_, _, _, rfl, by decide, rfl, wd_1070, rfl, by decide⟩
theorem tg_514 : tp_tg 514 = 21 := by decide +kernel
theorem al_514 : tp_al 514 = 448 := by decide +kernel
theorem rv_483_42 : tp_rv 483 42 = 514 := by decide +kernel
def y_X11_residualAt : MethodName := ⟨"TypesAtPrimeModel", "residualAt", "(IIII)I"⟩
abbrev i_X11_residualAt : tp_I := (prog_13_method_54_code, "TypesAtPrimeModel", (some .int), 7, "residualAt")
abbrev o_X11_residualAt : Int × tp_M → tp_O := fun r => (some (.inl r.1), tp_NC, tp_st r.2)
theorem d_X11_residualAt_0 : decode prog_13_method_54_code 0 = .ok (.aload_n 0, 1) := by decide +kernel
theorem d_X11_residualAt_1 : decode prog_13_method_54_code 1 = .ok (.iload_n 1, 1) := by decide +kernel
theorem d_X11_residualAt_2 : decode prog_13_method_54_code 2 = .ok (.invokevirtual 312, 3) := by decide +kernel
theorem d_X11_residualAt_5 : decode prog_13_method_54_code 5 = .ok (.aload_n 0, 1) := by decide +kernel
theorem d_X11_residualAt_6 : decode prog_13_method_54_code 6 = .ok (.iload_n 3, 1) := by decide +kernel
theorem d_X11_residualAt_7 : decode prog_13_method_54_code 7 = .ok (.aload_n 0, 1) := by decide +kernel
theorem d_X11_residualAt_8 : decode prog_13_method_54_code 8 = .ok (.getfield 125, 3) := by decide +kernel
theorem d_X11_residualAt_11 : decode prog_13_method_54_code 11 = .ok (.aload_n 0, 1) := by decide +kernel
theorem d_X11_residualAt_12 : decode prog_13_method_54_code 12 = .ok (.getfield 300, 3) := by decide +kernel
theorem d_X11_residualAt_15 : decode prog_13_method_54_code 15 = .ok (.iaload, 1) := by decide +kernel
theorem d_X11_residualAt_16 : decode prog_13_method_54_code 16 = .ok (.imul, 1) := by decide +kernel
theorem d_X11_residualAt_17 : decode prog_13_method_54_code 17 = .ok (.invokevirtual 316, 3) := by decide +kernel
theorem d_X11_residualAt_20 : decode prog_13_method_54_code 20 = .ok (.istore 5, 2) := by decide +kernel
theorem d_X11_residualAt_22 : decode prog_13_method_54_code 22 = .ok (.iconst 0, 1) := by decide +kernel
theorem d_X11_residualAt_23 : decode prog_13_method_54_code 23 = .ok (.istore 6, 2) := by decide +kernel
theorem d_X11_residualAt_25 : decode prog_13_method_54_code 25 = .ok (.iload 6, 2) := by decide +kernel
theorem d_X11_residualAt_27 : decode prog_13_method_54_code 27 = .ok (.bipush 7, 2) := by decide +kernel
theorem d_X11_residualAt_29 : decode prog_13_method_54_code 29 = .ok (.if_icmp .ge 34, 3) := by decide +kernel
theorem d_X11_residualAt_32 : decode prog_13_method_54_code 32 = .ok (.aload_n 0, 1) := by decide +kernel
theorem d_X11_residualAt_33 : decode prog_13_method_54_code 33 = .ok (.getfield 137, 3) := by decide +kernel
theorem d_X11_residualAt_36 : decode prog_13_method_54_code 36 = .ok (.iload 6, 2) := by decide +kernel
theorem d_X11_residualAt_38 : decode prog_13_method_54_code 38 = .ok (.dup2, 1) := by decide +kernel
theorem d_X11_residualAt_39 : decode prog_13_method_54_code 39 = .ok (.iaload, 1) := by decide +kernel
theorem d_X11_residualAt_40 : decode prog_13_method_54_code 40 = .ok (.iload 4, 2) := by decide +kernel
theorem d_X11_residualAt_42 : decode prog_13_method_54_code 42 = .ok (.aload_n 0, 1) := by decide +kernel
theorem d_X11_residualAt_43 : decode prog_13_method_54_code 43 = .ok (.getfield 101, 3) := by decide +kernel
theorem d_X11_residualAt_46 : decode prog_13_method_54_code 46 = .ok (.bipush 7, 2) := by decide +kernel
theorem d_X11_residualAt_48 : decode prog_13_method_54_code 48 = .ok (.iload_n 2, 1) := by decide +kernel
theorem d_X11_residualAt_49 : decode prog_13_method_54_code 49 = .ok (.imul, 1) := by decide +kernel
theorem d_X11_residualAt_50 : decode prog_13_method_54_code 50 = .ok (.iload 6, 2) := by decide +kernel
theorem d_X11_residualAt_52 : decode prog_13_method_54_code 52 = .ok (.iadd, 1) := by decide +kernel
theorem d_X11_residualAt_53 : decode prog_13_method_54_code 53 = .ok (.iaload, 1) := by decide +kernel
theorem d_X11_residualAt_54 : decode prog_13_method_54_code 54 = .ok (.imul, 1) := by decide +kernel
theorem d_X11_residualAt_55 : decode prog_13_method_54_code 55 = .ok (.iadd, 1) := by decide +kernel
theorem d_X11_residualAt_56 : decode prog_13_method_54_code 56 = .ok (.iastore, 1) := by decide +kernel
theorem d_X11_residualAt_57 : decode prog_13_method_54_code 57 = .ok (.iinc 6 1, 3) := by decide +kernel
theorem d_X11_residualAt_60 : decode prog_13_method_54_code 60 = .ok (.goto (-35), 3) := by decide +kernel
theorem d_X11_residualAt_63 : decode prog_13_method_54_code 63 = .ok (.aload_n 0, 1) := by decide +kernel
theorem d_X11_residualAt_64 : decode prog_13_method_54_code 64 = .ok (.invokevirtual 346, 3) := by decide +kernel
theorem d_X11_residualAt_67 : decode prog_13_method_54_code 67 = .ok (.aload_n 0, 1) := by decide +kernel
theorem d_X11_residualAt_68 : decode prog_13_method_54_code 68 = .ok (.getfield 309, 3) := by decide +kernel
theorem d_X11_residualAt_71 : decode prog_13_method_54_code 71 = .ok (.ireturn, 1) := by decide +kernel
def f_X11_residualAt_25B (x2 : Int) (x4 : Int) (rec_25 : Int → tp_M → Option (Int × tp_M)) (x6 : Int) (M0 : tp_M) : Option (Int × tp_M) :=
  if 7 ≤ x6 then
    (f_X11_takesDown M0).bind fun r6 =>
    some ((r6 483 56), r6)
  else
    if 0 ≤ x6 ∧ x6 < 7 then
      if 0 ≤ (tp_w ((tp_w (7 * x2)) + x6)) ∧ (tp_w ((tp_w (7 * x2)) + x6)) < 448 then
        if 0 ≤ x6 ∧ x6 < 7 then
          tp_mp (tp_up M0 526 x6 (tp_w ((M0 526 x6) + (tp_w (x4 * (M0 514 (tp_w ((tp_w (7 * x2)) + x6)))))))) fun M8 =>
          tp_lt (tp_w (x6 + 1)) fun y9 =>
          rec_25 y9 M8 else none else none else none
set_option maxHeartbeats 4000000 in
set_option maxRecDepth 100000 in
theorem T_X11_residualAt_25B (G : tp_G) (x2 : Int) (x4 : Int) (rec_25 : Int → tp_M → Option (Int × tp_M)) (hrec_25 : ∀ (x6' : Int) (M' : tp_M), tp_J i_X11_residualAt (tp_rm 3) G 0 0 o_X11_residualAt tp_NC (tp_st M') 0 0 [some (.inr (.inr 483)), none, some (.inl x2), none, some (.inl x4), none, some (.inl (x6'))] 25 [] (rec_25 x6' M')) (x6 : Int) (M0 : tp_M) : tp_J i_X11_residualAt (tp_rm 3) G 0 0 o_X11_residualAt tp_NC (tp_st M0) 0 0 [some (.inr (.inr 483)), none, some (.inl x2), none, some (.inl x4), none, some (.inl x6)] 25 [] (f_X11_residualAt_25B x2 x4 rec_25 x6 M0) := by
  unfold f_X11_residualAt_25B
  refine j_iload d_X11_residualAt_25 rfl ?_
  refine j_bipush ⟨by decide, by decide⟩ (by decide +kernel) d_X11_residualAt_27 ?_
  refine j_icmp_ge (tgt := 63) d_X11_residualAt_29 (by decide) (fun h5 => ?_) (fun h5 => ?_)
  · refine j_aload_n rfl d_X11_residualAt_63 rfl ?_
    refine j_bind (fun r6 h7 => ?_)
    refine j_callV (y := y_X11_takesDown) (I' := i_X11_takesDown) (avs := []) (c := 483) (st := []) (c_X11_takesDown G M0 r6 h7) cs_Model_346 wd_1471 wd_1473 ws_78 tg_483 rfl rfl rfl (Nat.le_of_ble_eq_true rfl) ⟨rfl, rfl⟩ ⟨by decide, by decide⟩ ⟨by decide, by decide⟩ d_X11_residualAt_64 ?_
    refine j_aload_n rfl d_X11_residualAt_67 rfl ?_
    refine j_geti fl_Model_309 tg_483 d_X11_residualAt_68 ?_
    exact j_iret d_X11_residualAt_71 rfl rfl ⟨rfl, rfl⟩
  · refine j_aload_n rfl d_X11_residualAt_32 rfl ?_
    refine j_getr fl_Model_137 tg_483 rv_483_55 d_X11_residualAt_33 ?_
    refine j_iload d_X11_residualAt_36 rfl ?_
    refine j_dup2 d_X11_residualAt_38 (fun G => tp_cat G _) (fun G => tp_cat G _) ?_
    refine j_iald tg_526 al_526 d_X11_residualAt_39 ?_
    refine j_iload d_X11_residualAt_40 rfl ?_
    refine j_aload_n rfl d_X11_residualAt_42 rfl ?_
    refine j_getr fl_Model_101 tg_483 rv_483_42 d_X11_residualAt_43 ?_
    refine j_bipush ⟨by decide, by decide⟩ (by decide +kernel) d_X11_residualAt_46 ?_
    refine j_iload_n rfl d_X11_residualAt_48 rfl ?_
    refine j_imul d_X11_residualAt_49 ?_
    refine j_iload d_X11_residualAt_50 rfl ?_
    refine j_iadd d_X11_residualAt_52 ?_
    refine j_iald tg_514 al_514 d_X11_residualAt_53 ?_
    refine j_imul d_X11_residualAt_54 ?_
    refine j_iadd d_X11_residualAt_55 ?_
    refine j_iast tg_526 al_526 d_X11_residualAt_56 (fun M8 hM8 => ?_)
    refine j_iincN (lv' := fun y9 => [some (.inr (.inr 483)), none, some (.inl x2), none, some (.inl x4), none, some (.inl y9)]) d_X11_residualAt_57 rfl (Nat.le_of_ble_eq_true rfl) (fun _ => rfl) (fun y9 hy9 => ?_)
    refine j_goto (tgt := 25) d_X11_residualAt_60 (by decide) ?_
    exact j_wk [true, false, true, false, true, false, true] rfl rfl (hrec_25 y9 M8)
def f_X11_residualAt_25 (x2 : Int) (x4 : Int) (x6 : Int) (M0 : tp_M) : Option (Int × tp_M) := tp_lp (σ := Int × tp_M) (fun rec_ u => f_X11_residualAt_25B x2 x4 (fun x6' M0' => rec_ (x6', M0')) u.1 u.2) tp_N (x6, M0)
set_option maxHeartbeats 4000000 in
set_option maxRecDepth 100000 in
theorem T_X11_residualAt_25 (G : tp_G) (x2 : Int) (x4 : Int) (x6 : Int) (M0 : tp_M) : tp_J i_X11_residualAt (tp_rm 3) G 0 0 o_X11_residualAt tp_NC (tp_st M0) 0 0 [some (.inr (.inr 483)), none, some (.inl x2), none, some (.inl x4), none, some (.inl x6)] 25 [] (f_X11_residualAt_25 x2 x4 x6 M0) := by
  unfold f_X11_residualAt_25
  exact j_lp (σ := Int × tp_M) (n' := fun _ => tp_NC) (g' := fun u => tp_st u.2) (k' := fun _ => 0) (q' := fun _ => 0) (lv' := fun u => [some (.inr (.inr 483)), none, some (.inl x2), none, some (.inl x4), none, some (.inl u.1)]) (fun rec_ hrec u => T_X11_residualAt_25B G x2 x4 (fun x6' M0' => rec_ (x6', M0')) (fun x6' M0' => hrec (x6', M0')) u.1 u.2) tp_N (x6, M0)
def f_X11_residualAt (a0 : Int) (a1 : Int) (a2 : Int) (a3 : Int) (M0 : tp_M) : Option (Int × tp_M) :=
  (f_X11_laysRow a0 M0).bind fun r1 =>
  if 0 ≤ (r1 483 49) ∧ (r1 483 49) < 8 then
    (f_X11_head (tp_w (a2 * (r1 522 (r1 483 49)))) r1).bind fun r3 =>
    f_X11_residualAt_25 a1 a3 0 r3.2 else none
set_option maxHeartbeats 4000000 in
set_option maxRecDepth 100000 in
theorem T_X11_residualAt (G : tp_G) (a0 : Int) (a1 : Int) (a2 : Int) (a3 : Int) (M0 : tp_M) : tp_J i_X11_residualAt (tp_rm 3) G 0 0 o_X11_residualAt tp_NC (tp_st M0) 0 0 [some (.inr (.inr 483)), some (.inl a0), some (.inl a1), some (.inl a2), some (.inl a3), none, none] 0 [] (f_X11_residualAt a0 a1 a2 a3 M0) := by
  unfold f_X11_residualAt
  refine j_aload_n rfl d_X11_residualAt_0 rfl ?_
  refine j_iload_n rfl d_X11_residualAt_1 rfl ?_
  refine j_bind (fun r1 h2 => ?_)
  refine j_callV (y := y_X11_laysRow) (I' := i_X11_laysRow) (avs := [.inl a0]) (c := 483) (st := []) (c_X11_laysRow G a0 M0 r1 h2) cs_Model_312 wd_1424 wd_1426 ws_67 tg_483 rfl rfl rfl (Nat.le_of_ble_eq_true rfl) ⟨rfl, rfl⟩ ⟨by decide, by decide⟩ ⟨by decide, by decide⟩ d_X11_residualAt_2 ?_
  refine j_aload_n rfl d_X11_residualAt_5 rfl ?_
  refine j_iload_n rfl d_X11_residualAt_6 rfl ?_
  refine j_aload_n rfl d_X11_residualAt_7 rfl ?_
  refine j_getr fl_Model_125 tg_483 rv_483_51 d_X11_residualAt_8 ?_
  refine j_aload_n rfl d_X11_residualAt_11 rfl ?_
  refine j_geti fl_Model_300 tg_483 d_X11_residualAt_12 ?_
  refine j_iald tg_522 al_522 d_X11_residualAt_15 ?_
  refine j_imul d_X11_residualAt_16 ?_
  refine j_bind (fun r3 h4 => ?_)
  refine j_callV (y := y_X11_head) (I' := i_X11_head) (avs := [.inl (tp_w (a2 * (r1 522 (r1 483 49))))]) (c := 483) (st := []) (c_X11_head G (tp_w (a2 * (r1 522 (r1 483 49)))) r1 r3 h4) cs_Model_316 wd_1428 wd_1430 ws_68 tg_483 rfl rfl rfl (Nat.le_of_ble_eq_true rfl) ⟨rfl, rfl⟩ ⟨by decide, by decide⟩ ⟨by decide, by decide⟩ d_X11_residualAt_17 ?_
  refine j_istore (lv' := [some (.inr (.inr 483)), some (.inl a0), some (.inl a1), some (.inl a2), some (.inl a3), some (.inl r3.1), none]) d_X11_residualAt_20 (Nat.le_of_ble_eq_true rfl) rfl ?_
  refine j_iconst ⟨by decide, by decide⟩ d_X11_residualAt_22 ?_
  refine j_istore (lv' := [some (.inr (.inr 483)), some (.inl a0), some (.inl a1), some (.inl a2), some (.inl a3), some (.inl r3.1), some (.inl 0)]) d_X11_residualAt_23 (Nat.le_of_ble_eq_true rfl) rfl ?_
  exact j_wk [true, false, true, false, true, false, true] rfl rfl (T_X11_residualAt_25 G a1 a3 0 r3.2)
set_option maxHeartbeats 4000000 in
set_option maxRecDepth 100000 in
theorem c_X11_residualAt (G : tp_G) (a0 : Int) (a1 : Int) (a2 : Int) (a3 : Int) (M0 : tp_M) (r : Int × tp_M) (h : f_X11_residualAt a0 a1 a2 a3 M0 = some r) (l : Launch) : Met l y_X11_residualAt (tp_ws y_X11_residualAt i_X11_residualAt) (tp_rm 3) (tp_Pc G [.inr (.inr 483), .inl a0, .inl a1, .inl a2, .inl a3] tp_NC (tp_st M0)) (tp_Q G (o_X11_residualAt r)) 0 0 (tp_A G) :=
  tp_met (I := i_X11_residualAt) (y := y_X11_residualAt) (by decide +kernel) (Eq.refl "TypesAtPrimeModel") (Eq.refl "residualAt") (lv := [some (.inr (.inr 483)), some (.inl a0), some (.inl a1), some (.inl a2), some (.inl a3), none, none]) rfl (Nat.le_of_ble_eq_true rfl) (T_X11_residualAt G a0 a1 a2 a3 M0) h l
theorem wd_1050 : (.fieldLink "TypesAtPrimeModel" 325 "TypesAtPrimeModel" "sides" "I" : Cond) ∈ lw_tbl := List.mem_append_right _ (List.mem_of_getElem? (i := 1050) (by decide +kernel))
theorem fl_Model_325 : tp_F "TypesAtPrimeModel" 325 11 22 0 := ⟨_, _, _, rfl, by decide, rfl, wd_1050, rfl, by decide⟩
theorem wd_1462 : (.code ⟨"TypesAtPrimeModel", "divisor", "(II)I"⟩ prog_13_method_50_code 5 (some .int) : Cond) ∈ lw_tbl := List.mem_append_right _ (List.mem_of_getElem? (i := 1462) (by decide +kernel))
theorem cs_Model_336 : tp_CS "TypesAtPrimeModel" 336 y_X11_divisor i_X11_divisor 2 := ⟨wd_1462, wd_12, by decide, by decide, by decide +kernel⟩
theorem wd_1460 : (.methodLink "TypesAtPrimeModel" 336 ⟨"TypesAtPrimeModel", "divisor", "(II)I"⟩ : Cond) ∈ lw_tbl := List.mem_append_right _ (List.mem_of_getElem? (i := 1460) (by decide +kernel))
theorem wd_1461 : (.static ⟨"TypesAtPrimeModel", "divisor", "(II)I"⟩ : Cond) ∈ lw_tbl := List.mem_append_right _ (List.mem_of_getElem? (i := 1461) (by decide +kernel))
theorem wd_1064 : (.fieldLink "TypesAtPrimeModel" 83 "TypesAtPrimeModel" "sideFrom" "[I" : Cond) ∈ lw_tbl := List.mem_append_right _ (List.mem_of_getElem? (i := 1064) (by decide +kernel))
theorem fl_Model_83 : tp_F "TypesAtPrimeModel" 83 11 36 2 := ⟨_, _, _, rfl, by decide, rfl, wd_1064, rfl, by decide⟩
theorem tg_508 : tp_tg 508 = 21 := by decide +kernel
theorem al_508 : tp_al 508 = 64 := by decide +kernel
theorem rv_483_36 : tp_rv 483 36 = 508 := by decide +kernel
theorem wd_1065 : (.fieldLink "TypesAtPrimeModel" 86 "TypesAtPrimeModel" "sideTo" "[I" : Cond) ∈ lw_tbl := List.mem_append_right _ (List.mem_of_getElem? (i := 1065) (by decide +kernel))
theorem fl_Model_86 : tp_F "TypesAtPrimeModel" 86 11 37 2 := ⟨_, _, _, rfl, by decide, rfl, wd_1065, rfl, by decide⟩
theorem tg_509 : tp_tg 509 = 21 := by decide +kernel
theorem al_509 : tp_al 509 = 64 := by decide +kernel
theorem rv_483_37 : tp_rv 483 37 = 509 := by decide +kernel
theorem wd_1066 : (.fieldLink "TypesAtPrimeModel" 89 "TypesAtPrimeModel" "sideFall" "[I" : Cond) ∈ lw_tbl := List.mem_append_right _ (List.mem_of_getElem? (i := 1066) (by decide +kernel))
theorem fl_Model_89 : tp_F "TypesAtPrimeModel" 89 11 38 2 := ⟨_, _, _, rfl, by decide, rfl, wd_1066, rfl, by decide⟩
theorem tg_510 : tp_tg 510 = 21 := by decide +kernel
theorem al_510 : tp_al 510 = 64 := by decide +kernel
theorem rv_483_38 : tp_rv 483 38 = 510 := by decide +kernel
theorem wd_1068 : (.fieldLink "TypesAtPrimeModel" 95 "TypesAtPrimeModel" "sideDegree" "[I" : Cond) ∈ lw_tbl := List.mem_append_right _ (List.mem_of_getElem? (i := 1068) (by decide +kernel))
theorem fl_Model_95 : tp_F "TypesAtPrimeModel" 95 11 40 2 := ⟨_, _, _, rfl, by decide, rfl, wd_1068, rfl, by decide⟩
theorem tg_512 : tp_tg 512 = 21 := by decide +kernel
theorem al_512 : tp_al 512 = 64 := by decide +kernel
theorem rv_483_40 : tp_rv 483 40 = 512 := by decide +kernel
theorem wd_1067 : (.fieldLink "TypesAtPrimeModel" 92 "TypesAtPrimeModel" "sideRamified" "[I" : Cond) ∈ lw_tbl := List.mem_append_right _ (List.mem_of_getElem? (i := 1067) (by decide +kernel))
theorem fl_Model_92 : tp_F "TypesAtPrimeModel" 92 11 39 2 := ⟨_, _, _, rfl, by decide, rfl, wd_1067, rfl, by decide⟩
theorem tg_511 : tp_tg 511 = 21 := by decide +kernel
theorem al_511 : tp_al 511 = 64 := by decide +kernel
theorem rv_483_39 : tp_rv 483 39 = 511 := by decide +kernel
theorem wd_1069 : (.fieldLink "TypesAtPrimeModel" 98 "TypesAtPrimeModel" "sideSlope" "[I" : Cond) ∈ lw_tbl := List.mem_append_right _ (List.mem_of_getElem? (i := 1069) (by decide +kernel))
theorem fl_Model_98 : tp_F "TypesAtPrimeModel" 98 11 41 2 := ⟨_, _, _, rfl, by decide, rfl, wd_1069, rfl, by decide⟩
theorem tg_513 : tp_tg 513 = 21 := by decide +kernel
theorem al_513 : tp_al 513 = 64 := by decide +kernel
theorem rv_483_41 : tp_rv 483 41 = 513 := by decide +kernel
theorem wd_1466 : (.code ⟨"TypesAtPrimeModel", "laysMonomial", "(I)V"⟩ prog_13_method_46_code 5 (none : Option Jvm.ClassFile.FieldType) : Cond) ∈ lw_tbl := List.mem_append_right _ (List.mem_of_getElem? (i := 1466) (by decide +kernel))
theorem cs_Model_339 : tp_CS "TypesAtPrimeModel" 339 y_X11_laysMonomial i_X11_laysMonomial 1 := ⟨wd_1466, wd_12, by decide, by decide, by decide +kernel⟩
theorem wd_1463 : (.methodLink "TypesAtPrimeModel" 339 ⟨"TypesAtPrimeModel", "laysMonomial", "(I)V"⟩ : Cond) ∈ lw_tbl := List.mem_append_right _ (List.mem_of_getElem? (i := 1463) (by decide +kernel))
theorem wd_1465 : (.instanceMethod ⟨"TypesAtPrimeModel", "laysMonomial", "(I)V"⟩ : Cond) ∈ lw_tbl := List.mem_append_right _ (List.mem_of_getElem? (i := 1465) (by decide +kernel))
theorem ws_76 : (.selects "TypesAtPrimeModel" ⟨"TypesAtPrimeModel", "laysMonomial", "(I)V"⟩ ⟨"TypesAtPrimeModel", "laysMonomial", "(I)V"⟩ : Cond) ∈ lw_tbl := List.mem_append_left _ (List.mem_of_getElem? (i := 76) (by decide +kernel))
theorem pf_11_22 (v : Int) : ∀ (C : String) (T : u_T) (N : Nat), vwCl[11]? = some (C, T, N) → (T 22).2.2.2 = false ∧ ∀ G : tp_G, ∃ ty, parseFieldDescriptor (T 22).2.2.1 = some ty ∧ narrow ty (tp_enc G (tp_zv 0 v)) = tp_enc G (tp_zv 0 v) ∧ fits ty (tp_enc G (tp_zv 0 v)) = true := by
  intro C T N h
  cases h
  exact ⟨rfl, fun G => ⟨_, tyX11_ok 22 (by decide), rfl, rfl⟩⟩
theorem wd_1071 : (.fieldLink "TypesAtPrimeModel" 104 "TypesAtPrimeModel" "sideResidual" "[I" : Cond) ∈ lw_tbl := List.mem_append_right _ (List.mem_of_getElem? (i := 1071) (by decide +kernel))
theorem fl_Model_104 : tp_F "TypesAtPrimeModel" 104 11 43 2 := ⟨_, _, _, rfl, by decide, rfl, wd_1071, rfl, by decide⟩
theorem tg_515 : tp_tg 515 = 21 := by decide +kernel
theorem al_515 : tp_al 515 = 576 := by decide +kernel
theorem rv_483_43 : tp_rv 483 43 = 515 := by decide +kernel
theorem wd_1470 : (.code ⟨"TypesAtPrimeModel", "residualAt", "(IIII)I"⟩ prog_13_method_54_code 7 (some .int) : Cond) ∈ lw_tbl := List.mem_append_right _ (List.mem_of_getElem? (i := 1470) (by decide +kernel))
theorem cs_Model_342 : tp_CS "TypesAtPrimeModel" 342 y_X11_residualAt i_X11_residualAt 4 := ⟨wd_1470, wd_12, by decide, by decide, by decide +kernel⟩
theorem wd_1467 : (.methodLink "TypesAtPrimeModel" 342 ⟨"TypesAtPrimeModel", "residualAt", "(IIII)I"⟩ : Cond) ∈ lw_tbl := List.mem_append_right _ (List.mem_of_getElem? (i := 1467) (by decide +kernel))
theorem wd_1469 : (.instanceMethod ⟨"TypesAtPrimeModel", "residualAt", "(IIII)I"⟩ : Cond) ∈ lw_tbl := List.mem_append_right _ (List.mem_of_getElem? (i := 1469) (by decide +kernel))
theorem ws_77 : (.selects "TypesAtPrimeModel" ⟨"TypesAtPrimeModel", "residualAt", "(IIII)I"⟩ ⟨"TypesAtPrimeModel", "residualAt", "(IIII)I"⟩ : Cond) ∈ lw_tbl := List.mem_append_left _ (List.mem_of_getElem? (i := 77) (by decide +kernel))
def y_X11_laysSide : MethodName := ⟨"TypesAtPrimeModel", "laysSide", "(III)V"⟩
abbrev i_X11_laysSide : tp_I := (prog_13_method_53_code, "TypesAtPrimeModel", none, 10, "laysSide")
abbrev o_X11_laysSide : tp_M → tp_O := fun r => (none, tp_NC, tp_st r)
theorem d_X11_laysSide_0 : decode prog_13_method_53_code 0 = .ok (.aload_n 0, 1) := by decide +kernel
theorem d_X11_laysSide_1 : decode prog_13_method_53_code 1 = .ok (.getfield 325, 3) := by decide +kernel
theorem d_X11_laysSide_4 : decode prog_13_method_53_code 4 = .ok (.istore 4, 2) := by decide +kernel
theorem d_X11_laysSide_6 : decode prog_13_method_53_code 6 = .ok (.aload_n 0, 1) := by decide +kernel
theorem d_X11_laysSide_7 : decode prog_13_method_53_code 7 = .ok (.iload_n 1, 1) := by decide +kernel
theorem d_X11_laysSide_8 : decode prog_13_method_53_code 8 = .ok (.iload_n 2, 1) := by decide +kernel
theorem d_X11_laysSide_9 : decode prog_13_method_53_code 9 = .ok (.invokevirtual 322, 3) := by decide +kernel
theorem d_X11_laysSide_12 : decode prog_13_method_53_code 12 = .ok (.aload_n 0, 1) := by decide +kernel
theorem d_X11_laysSide_13 : decode prog_13_method_53_code 13 = .ok (.iload_n 1, 1) := by decide +kernel
theorem d_X11_laysSide_14 : decode prog_13_method_53_code 14 = .ok (.iload_n 3, 1) := by decide +kernel
theorem d_X11_laysSide_15 : decode prog_13_method_53_code 15 = .ok (.invokevirtual 322, 3) := by decide +kernel
theorem d_X11_laysSide_18 : decode prog_13_method_53_code 18 = .ok (.isub, 1) := by decide +kernel
theorem d_X11_laysSide_19 : decode prog_13_method_53_code 19 = .ok (.istore 5, 2) := by decide +kernel
theorem d_X11_laysSide_21 : decode prog_13_method_53_code 21 = .ok (.iload_n 3, 1) := by decide +kernel
theorem d_X11_laysSide_22 : decode prog_13_method_53_code 22 = .ok (.iload_n 2, 1) := by decide +kernel
theorem d_X11_laysSide_23 : decode prog_13_method_53_code 23 = .ok (.isub, 1) := by decide +kernel
theorem d_X11_laysSide_24 : decode prog_13_method_53_code 24 = .ok (.iload 5, 2) := by decide +kernel
theorem d_X11_laysSide_26 : decode prog_13_method_53_code 26 = .ok (.invokestatic 336, 3) := by decide +kernel
theorem d_X11_laysSide_29 : decode prog_13_method_53_code 29 = .ok (.istore 6, 2) := by decide +kernel
theorem d_X11_laysSide_31 : decode prog_13_method_53_code 31 = .ok (.aload_n 0, 1) := by decide +kernel
theorem d_X11_laysSide_32 : decode prog_13_method_53_code 32 = .ok (.getfield 83, 3) := by decide +kernel
theorem d_X11_laysSide_35 : decode prog_13_method_53_code 35 = .ok (.iload 4, 2) := by decide +kernel
theorem d_X11_laysSide_37 : decode prog_13_method_53_code 37 = .ok (.iload_n 2, 1) := by decide +kernel
theorem d_X11_laysSide_38 : decode prog_13_method_53_code 38 = .ok (.iastore, 1) := by decide +kernel
theorem d_X11_laysSide_39 : decode prog_13_method_53_code 39 = .ok (.aload_n 0, 1) := by decide +kernel
theorem d_X11_laysSide_40 : decode prog_13_method_53_code 40 = .ok (.getfield 86, 3) := by decide +kernel
theorem d_X11_laysSide_43 : decode prog_13_method_53_code 43 = .ok (.iload 4, 2) := by decide +kernel
theorem d_X11_laysSide_45 : decode prog_13_method_53_code 45 = .ok (.iload_n 3, 1) := by decide +kernel
theorem d_X11_laysSide_46 : decode prog_13_method_53_code 46 = .ok (.iastore, 1) := by decide +kernel
theorem d_X11_laysSide_47 : decode prog_13_method_53_code 47 = .ok (.aload_n 0, 1) := by decide +kernel
theorem d_X11_laysSide_48 : decode prog_13_method_53_code 48 = .ok (.getfield 89, 3) := by decide +kernel
theorem d_X11_laysSide_51 : decode prog_13_method_53_code 51 = .ok (.iload 4, 2) := by decide +kernel
theorem d_X11_laysSide_53 : decode prog_13_method_53_code 53 = .ok (.iload 5, 2) := by decide +kernel
theorem d_X11_laysSide_55 : decode prog_13_method_53_code 55 = .ok (.iastore, 1) := by decide +kernel
theorem d_X11_laysSide_56 : decode prog_13_method_53_code 56 = .ok (.aload_n 0, 1) := by decide +kernel
theorem d_X11_laysSide_57 : decode prog_13_method_53_code 57 = .ok (.getfield 95, 3) := by decide +kernel
theorem d_X11_laysSide_60 : decode prog_13_method_53_code 60 = .ok (.iload 4, 2) := by decide +kernel
theorem d_X11_laysSide_62 : decode prog_13_method_53_code 62 = .ok (.iload 6, 2) := by decide +kernel
theorem d_X11_laysSide_64 : decode prog_13_method_53_code 64 = .ok (.iastore, 1) := by decide +kernel
theorem d_X11_laysSide_65 : decode prog_13_method_53_code 65 = .ok (.aload_n 0, 1) := by decide +kernel
theorem d_X11_laysSide_66 : decode prog_13_method_53_code 66 = .ok (.getfield 92, 3) := by decide +kernel
theorem d_X11_laysSide_69 : decode prog_13_method_53_code 69 = .ok (.iload 4, 2) := by decide +kernel
theorem d_X11_laysSide_71 : decode prog_13_method_53_code 71 = .ok (.iload_n 3, 1) := by decide +kernel
theorem d_X11_laysSide_72 : decode prog_13_method_53_code 72 = .ok (.iload_n 2, 1) := by decide +kernel
theorem d_X11_laysSide_73 : decode prog_13_method_53_code 73 = .ok (.isub, 1) := by decide +kernel
theorem d_X11_laysSide_74 : decode prog_13_method_53_code 74 = .ok (.iload 6, 2) := by decide +kernel
theorem d_X11_laysSide_76 : decode prog_13_method_53_code 76 = .ok (.idiv, 1) := by decide +kernel
theorem d_X11_laysSide_77 : decode prog_13_method_53_code 77 = .ok (.iastore, 1) := by decide +kernel
theorem d_X11_laysSide_78 : decode prog_13_method_53_code 78 = .ok (.aload_n 0, 1) := by decide +kernel
theorem d_X11_laysSide_79 : decode prog_13_method_53_code 79 = .ok (.getfield 98, 3) := by decide +kernel
theorem d_X11_laysSide_82 : decode prog_13_method_53_code 82 = .ok (.iload 4, 2) := by decide +kernel
theorem d_X11_laysSide_84 : decode prog_13_method_53_code 84 = .ok (.aload_n 0, 1) := by decide +kernel
theorem d_X11_laysSide_85 : decode prog_13_method_53_code 85 = .ok (.getfield 92, 3) := by decide +kernel
theorem d_X11_laysSide_88 : decode prog_13_method_53_code 88 = .ok (.iload 4, 2) := by decide +kernel
theorem d_X11_laysSide_90 : decode prog_13_method_53_code 90 = .ok (.iaload, 1) := by decide +kernel
theorem d_X11_laysSide_91 : decode prog_13_method_53_code 91 = .ok (.aload_n 0, 1) := by decide +kernel
theorem d_X11_laysSide_92 : decode prog_13_method_53_code 92 = .ok (.invokevirtual 319, 3) := by decide +kernel
theorem d_X11_laysSide_95 : decode prog_13_method_53_code 95 = .ok (.imul, 1) := by decide +kernel
theorem d_X11_laysSide_96 : decode prog_13_method_53_code 96 = .ok (.iload 5, 2) := by decide +kernel
theorem d_X11_laysSide_98 : decode prog_13_method_53_code 98 = .ok (.iload 6, 2) := by decide +kernel
theorem d_X11_laysSide_100 : decode prog_13_method_53_code 100 = .ok (.idiv, 1) := by decide +kernel
theorem d_X11_laysSide_101 : decode prog_13_method_53_code 101 = .ok (.iadd, 1) := by decide +kernel
theorem d_X11_laysSide_102 : decode prog_13_method_53_code 102 = .ok (.iastore, 1) := by decide +kernel
theorem d_X11_laysSide_103 : decode prog_13_method_53_code 103 = .ok (.aload_n 0, 1) := by decide +kernel
theorem d_X11_laysSide_104 : decode prog_13_method_53_code 104 = .ok (.aload_n 0, 1) := by decide +kernel
theorem d_X11_laysSide_105 : decode prog_13_method_53_code 105 = .ok (.getfield 98, 3) := by decide +kernel
theorem d_X11_laysSide_108 : decode prog_13_method_53_code 108 = .ok (.iload 4, 2) := by decide +kernel
theorem d_X11_laysSide_110 : decode prog_13_method_53_code 110 = .ok (.iaload, 1) := by decide +kernel
theorem d_X11_laysSide_111 : decode prog_13_method_53_code 111 = .ok (.invokevirtual 339, 3) := by decide +kernel
theorem d_X11_laysSide_114 : decode prog_13_method_53_code 114 = .ok (.iconst 0, 1) := by decide +kernel
theorem d_X11_laysSide_115 : decode prog_13_method_53_code 115 = .ok (.istore 7, 2) := by decide +kernel
theorem d_X11_laysSide_117 : decode prog_13_method_53_code 117 = .ok (.iload 7, 2) := by decide +kernel
theorem d_X11_laysSide_119 : decode prog_13_method_53_code 119 = .ok (.bipush 7, 2) := by decide +kernel
theorem d_X11_laysSide_121 : decode prog_13_method_53_code 121 = .ok (.if_icmp .ge 29, 3) := by decide +kernel
theorem d_X11_laysSide_124 : decode prog_13_method_53_code 124 = .ok (.aload_n 0, 1) := by decide +kernel
theorem d_X11_laysSide_125 : decode prog_13_method_53_code 125 = .ok (.getfield 101, 3) := by decide +kernel
theorem d_X11_laysSide_128 : decode prog_13_method_53_code 128 = .ok (.bipush 7, 2) := by decide +kernel
theorem d_X11_laysSide_130 : decode prog_13_method_53_code 130 = .ok (.iload 4, 2) := by decide +kernel
theorem d_X11_laysSide_132 : decode prog_13_method_53_code 132 = .ok (.imul, 1) := by decide +kernel
theorem d_X11_laysSide_133 : decode prog_13_method_53_code 133 = .ok (.iload 7, 2) := by decide +kernel
theorem d_X11_laysSide_135 : decode prog_13_method_53_code 135 = .ok (.iadd, 1) := by decide +kernel
theorem d_X11_laysSide_136 : decode prog_13_method_53_code 136 = .ok (.aload_n 0, 1) := by decide +kernel
theorem d_X11_laysSide_137 : decode prog_13_method_53_code 137 = .ok (.getfield 137, 3) := by decide +kernel
theorem d_X11_laysSide_140 : decode prog_13_method_53_code 140 = .ok (.iload 7, 2) := by decide +kernel
theorem d_X11_laysSide_142 : decode prog_13_method_53_code 142 = .ok (.iaload, 1) := by decide +kernel
theorem d_X11_laysSide_143 : decode prog_13_method_53_code 143 = .ok (.iastore, 1) := by decide +kernel
theorem d_X11_laysSide_144 : decode prog_13_method_53_code 144 = .ok (.iinc 7 1, 3) := by decide +kernel
theorem d_X11_laysSide_147 : decode prog_13_method_53_code 147 = .ok (.goto (-30), 3) := by decide +kernel
theorem d_X11_laysSide_150 : decode prog_13_method_53_code 150 = .ok (.iconst 0, 1) := by decide +kernel
theorem d_X11_laysSide_151 : decode prog_13_method_53_code 151 = .ok (.istore 7, 2) := by decide +kernel
theorem d_X11_laysSide_153 : decode prog_13_method_53_code 153 = .ok (.iload 7, 2) := by decide +kernel
theorem d_X11_laysSide_155 : decode prog_13_method_53_code 155 = .ok (.bipush 9, 2) := by decide +kernel
theorem d_X11_laysSide_157 : decode prog_13_method_53_code 157 = .ok (.if_icmp .ge 95, 3) := by decide +kernel
theorem d_X11_laysSide_160 : decode prog_13_method_53_code 160 = .ok (.iload_n 2, 1) := by decide +kernel
theorem d_X11_laysSide_161 : decode prog_13_method_53_code 161 = .ok (.iload 7, 2) := by decide +kernel
theorem d_X11_laysSide_163 : decode prog_13_method_53_code 163 = .ok (.aload_n 0, 1) := by decide +kernel
theorem d_X11_laysSide_164 : decode prog_13_method_53_code 164 = .ok (.getfield 92, 3) := by decide +kernel
theorem d_X11_laysSide_167 : decode prog_13_method_53_code 167 = .ok (.iload 4, 2) := by decide +kernel
theorem d_X11_laysSide_169 : decode prog_13_method_53_code 169 = .ok (.iaload, 1) := by decide +kernel
theorem d_X11_laysSide_170 : decode prog_13_method_53_code 170 = .ok (.imul, 1) := by decide +kernel
theorem d_X11_laysSide_171 : decode prog_13_method_53_code 171 = .ok (.iadd, 1) := by decide +kernel
theorem d_X11_laysSide_172 : decode prog_13_method_53_code 172 = .ok (.istore 8, 2) := by decide +kernel
theorem d_X11_laysSide_174 : decode prog_13_method_53_code 174 = .ok (.iload 7, 2) := by decide +kernel
theorem d_X11_laysSide_176 : decode prog_13_method_53_code 176 = .ok (.iload 6, 2) := by decide +kernel
theorem d_X11_laysSide_178 : decode prog_13_method_53_code 178 = .ok (.if_icmp .gt 32, 3) := by decide +kernel
theorem d_X11_laysSide_181 : decode prog_13_method_53_code 181 = .ok (.aload_n 0, 1) := by decide +kernel
theorem d_X11_laysSide_182 : decode prog_13_method_53_code 182 = .ok (.iload_n 1, 1) := by decide +kernel
theorem d_X11_laysSide_183 : decode prog_13_method_53_code 183 = .ok (.iload 8, 2) := by decide +kernel
theorem d_X11_laysSide_185 : decode prog_13_method_53_code 185 = .ok (.invokevirtual 322, 3) := by decide +kernel
theorem d_X11_laysSide_188 : decode prog_13_method_53_code 188 = .ok (.aload_n 0, 1) := by decide +kernel
theorem d_X11_laysSide_189 : decode prog_13_method_53_code 189 = .ok (.iload_n 1, 1) := by decide +kernel
theorem d_X11_laysSide_190 : decode prog_13_method_53_code 190 = .ok (.iload_n 2, 1) := by decide +kernel
theorem d_X11_laysSide_191 : decode prog_13_method_53_code 191 = .ok (.invokevirtual 322, 3) := by decide +kernel
theorem d_X11_laysSide_194 : decode prog_13_method_53_code 194 = .ok (.iload 7, 2) := by decide +kernel
theorem d_X11_laysSide_196 : decode prog_13_method_53_code 196 = .ok (.iload 5, 2) := by decide +kernel
theorem d_X11_laysSide_198 : decode prog_13_method_53_code 198 = .ok (.iload 6, 2) := by decide +kernel
theorem d_X11_laysSide_200 : decode prog_13_method_53_code 200 = .ok (.idiv, 1) := by decide +kernel
theorem d_X11_laysSide_201 : decode prog_13_method_53_code 201 = .ok (.imul, 1) := by decide +kernel
theorem d_X11_laysSide_202 : decode prog_13_method_53_code 202 = .ok (.isub, 1) := by decide +kernel
theorem d_X11_laysSide_203 : decode prog_13_method_53_code 203 = .ok (.if_icmp .ne 7, 3) := by decide +kernel
theorem d_X11_laysSide_206 : decode prog_13_method_53_code 206 = .ok (.iconst 1, 1) := by decide +kernel
theorem d_X11_laysSide_207 : decode prog_13_method_53_code 207 = .ok (.goto 4, 3) := by decide +kernel
theorem d_X11_laysSide_210 : decode prog_13_method_53_code 210 = .ok (.iconst 0, 1) := by decide +kernel
theorem d_X11_laysSide_211 : decode prog_13_method_53_code 211 = .ok (.istore 9, 2) := by decide +kernel
theorem d_X11_laysSide_213 : decode prog_13_method_53_code 213 = .ok (.aload_n 0, 1) := by decide +kernel
theorem d_X11_laysSide_214 : decode prog_13_method_53_code 214 = .ok (.getfield 104, 3) := by decide +kernel
theorem d_X11_laysSide_217 : decode prog_13_method_53_code 217 = .ok (.bipush 9, 2) := by decide +kernel
theorem d_X11_laysSide_219 : decode prog_13_method_53_code 219 = .ok (.iload 4, 2) := by decide +kernel
theorem d_X11_laysSide_221 : decode prog_13_method_53_code 221 = .ok (.imul, 1) := by decide +kernel
theorem d_X11_laysSide_222 : decode prog_13_method_53_code 222 = .ok (.iload 7, 2) := by decide +kernel
theorem d_X11_laysSide_224 : decode prog_13_method_53_code 224 = .ok (.iadd, 1) := by decide +kernel
theorem d_X11_laysSide_225 : decode prog_13_method_53_code 225 = .ok (.iload 9, 2) := by decide +kernel
theorem d_X11_laysSide_227 : decode prog_13_method_53_code 227 = .ok (.ifCond .eq 17, 3) := by decide +kernel
theorem d_X11_laysSide_230 : decode prog_13_method_53_code 230 = .ok (.aload_n 0, 1) := by decide +kernel
theorem d_X11_laysSide_231 : decode prog_13_method_53_code 231 = .ok (.iload_n 1, 1) := by decide +kernel
theorem d_X11_laysSide_232 : decode prog_13_method_53_code 232 = .ok (.iload 4, 2) := by decide +kernel
theorem d_X11_laysSide_234 : decode prog_13_method_53_code 234 = .ok (.iload 8, 2) := by decide +kernel
theorem d_X11_laysSide_236 : decode prog_13_method_53_code 236 = .ok (.iload 7, 2) := by decide +kernel
theorem d_X11_laysSide_238 : decode prog_13_method_53_code 238 = .ok (.invokevirtual 342, 3) := by decide +kernel
theorem d_X11_laysSide_241 : decode prog_13_method_53_code 241 = .ok (.goto 4, 3) := by decide +kernel
theorem d_X11_laysSide_244 : decode prog_13_method_53_code 244 = .ok (.iconst 0, 1) := by decide +kernel
theorem d_X11_laysSide_245 : decode prog_13_method_53_code 245 = .ok (.iastore, 1) := by decide +kernel
theorem d_X11_laysSide_246 : decode prog_13_method_53_code 246 = .ok (.iinc 7 1, 3) := by decide +kernel
theorem d_X11_laysSide_249 : decode prog_13_method_53_code 249 = .ok (.goto (-96), 3) := by decide +kernel
theorem d_X11_laysSide_252 : decode prog_13_method_53_code 252 = .ok (.aload_n 0, 1) := by decide +kernel
theorem d_X11_laysSide_253 : decode prog_13_method_53_code 253 = .ok (.dup, 1) := by decide +kernel
theorem d_X11_laysSide_254 : decode prog_13_method_53_code 254 = .ok (.getfield 325, 3) := by decide +kernel
theorem d_X11_laysSide_257 : decode prog_13_method_53_code 257 = .ok (.iconst 1, 1) := by decide +kernel
theorem d_X11_laysSide_258 : decode prog_13_method_53_code 258 = .ok (.iadd, 1) := by decide +kernel
theorem d_X11_laysSide_259 : decode prog_13_method_53_code 259 = .ok (.putfield 325, 3) := by decide +kernel
theorem d_X11_laysSide_262 : decode prog_13_method_53_code 262 = .ok (.return_, 1) := by decide +kernel
def f_X11_laysSide_245 (rec_153 : Int → tp_M → Option (tp_M)) (x1 : Int) (x2 : Int) (x4 : Int) (x5 : Int) (x6 : Int) (x7 : Int) (s0 : Int) (s1 : Int) (M0 : tp_M) : Option (tp_M) :=
  if 0 ≤ s1 ∧ s1 < 576 then
    tp_mp (tp_up M0 515 s1 s0) fun M25 =>
    tp_lt (tp_w (x7 + 1)) fun y26 =>
    rec_153 y26 M25 else none
set_option maxHeartbeats 4000000 in
set_option maxRecDepth 100000 in
theorem T_X11_laysSide_245 (G : tp_G) (rec_153 : Int → tp_M → Option (tp_M)) (x1 : Int) (x2 : Int) (x4 : Int) (x5 : Int) (x6 : Int) (x7 : Int) (s0 : Int) (s1 : Int) (M0 : tp_M) (hrec_153 : ∀ (x7' : Int) (M' : tp_M), tp_J i_X11_laysSide (tp_rm 4) G 0 0 o_X11_laysSide tp_NC (tp_st M') 0 0 [some (.inr (.inr 483)), some (.inl x1), some (.inl x2), none, some (.inl x4), some (.inl x5), some (.inl x6), some (.inl (x7')), none, none] 153 [] (rec_153 x7' M')) : tp_J i_X11_laysSide (tp_rm 4) G 0 0 o_X11_laysSide tp_NC (tp_st M0) 0 0 [some (.inr (.inr 483)), some (.inl x1), some (.inl x2), none, some (.inl x4), some (.inl x5), some (.inl x6), some (.inl x7), none, none] 245 [.inl s0, .inl s1, .inr (.inr 515)] (f_X11_laysSide_245 rec_153 x1 x2 x4 x5 x6 x7 s0 s1 M0) := by
  unfold f_X11_laysSide_245
  refine j_iast tg_515 al_515 d_X11_laysSide_245 (fun M25 hM25 => ?_)
  refine j_iincN (lv' := fun y26 => [some (.inr (.inr 483)), some (.inl x1), some (.inl x2), none, some (.inl x4), some (.inl x5), some (.inl x6), some (.inl y26), none, none]) d_X11_laysSide_246 rfl (Nat.le_of_ble_eq_true rfl) (fun _ => rfl) (fun y26 hy26 => ?_)
  refine j_goto (tgt := 153) d_X11_laysSide_249 (by decide) ?_
  exact j_wk [true, true, true, false, true, true, true, true, false, false] rfl rfl (hrec_153 y26 M25)
def f_X11_laysSide_211 (rec_153 : Int → tp_M → Option (tp_M)) (x1 : Int) (x2 : Int) (x4 : Int) (x5 : Int) (x6 : Int) (x7 : Int) (x8 : Int) (s0 : Int) (M0 : tp_M) : Option (tp_M) :=
  if s0 = 0 then
    f_X11_laysSide_245 rec_153 x1 x2 x4 x5 x6 x7 0 (tp_w ((tp_w (9 * x4)) + x7)) M0
  else
    (f_X11_residualAt x1 x4 x8 x7 M0).bind fun r27 =>
    f_X11_laysSide_245 rec_153 x1 x2 x4 x5 x6 x7 r27.1 (tp_w ((tp_w (9 * x4)) + x7)) r27.2
set_option maxHeartbeats 4000000 in
set_option maxRecDepth 100000 in
theorem T_X11_laysSide_211 (G : tp_G) (rec_153 : Int → tp_M → Option (tp_M)) (x1 : Int) (x2 : Int) (x4 : Int) (x5 : Int) (x6 : Int) (x7 : Int) (x8 : Int) (s0 : Int) (M0 : tp_M) (hrec_153 : ∀ (x7' : Int) (M' : tp_M), tp_J i_X11_laysSide (tp_rm 4) G 0 0 o_X11_laysSide tp_NC (tp_st M') 0 0 [some (.inr (.inr 483)), some (.inl x1), some (.inl x2), none, some (.inl x4), some (.inl x5), some (.inl x6), some (.inl (x7')), none, none] 153 [] (rec_153 x7' M')) : tp_J i_X11_laysSide (tp_rm 4) G 0 0 o_X11_laysSide tp_NC (tp_st M0) 0 0 [some (.inr (.inr 483)), some (.inl x1), some (.inl x2), none, some (.inl x4), some (.inl x5), some (.inl x6), some (.inl x7), some (.inl x8), none] 211 [.inl s0] (f_X11_laysSide_211 rec_153 x1 x2 x4 x5 x6 x7 x8 s0 M0) := by
  unfold f_X11_laysSide_211
  refine j_istore (lv' := [some (.inr (.inr 483)), some (.inl x1), some (.inl x2), none, some (.inl x4), some (.inl x5), some (.inl x6), some (.inl x7), some (.inl x8), some (.inl s0)]) d_X11_laysSide_211 (Nat.le_of_ble_eq_true rfl) rfl ?_
  refine j_aload_n rfl d_X11_laysSide_213 rfl ?_
  refine j_getr fl_Model_104 tg_483 rv_483_43 d_X11_laysSide_214 ?_
  refine j_bipush ⟨by decide, by decide⟩ (by decide +kernel) d_X11_laysSide_217 ?_
  refine j_iload d_X11_laysSide_219 rfl ?_
  refine j_imul d_X11_laysSide_221 ?_
  refine j_iload d_X11_laysSide_222 rfl ?_
  refine j_iadd d_X11_laysSide_224 ?_
  refine j_iload d_X11_laysSide_225 rfl ?_
  refine j_if_eq (tgt := 244) d_X11_laysSide_227 (by decide) (fun h24 => ?_) (fun h24 => ?_)
  · refine j_iconst ⟨by decide, by decide⟩ d_X11_laysSide_244 ?_
    exact j_wk [true, true, true, false, true, true, true, true, false, false] rfl rfl (T_X11_laysSide_245 G rec_153 x1 x2 x4 x5 x6 x7 0 (tp_w ((tp_w (9 * x4)) + x7)) M0 hrec_153)
  · refine j_aload_n rfl d_X11_laysSide_230 rfl ?_
    refine j_iload_n rfl d_X11_laysSide_231 rfl ?_
    refine j_iload d_X11_laysSide_232 rfl ?_
    refine j_iload d_X11_laysSide_234 rfl ?_
    refine j_iload d_X11_laysSide_236 rfl ?_
    refine j_bind (fun r27 h28 => ?_)
    refine j_callV (y := y_X11_residualAt) (I' := i_X11_residualAt) (avs := [.inl x1, .inl x4, .inl x8, .inl x7]) (c := 483) (st := [.inl (tp_w ((tp_w (9 * x4)) + x7)), .inr (.inr 515)]) (c_X11_residualAt G x1 x4 x8 x7 M0 r27 h28) cs_Model_342 wd_1467 wd_1469 ws_77 tg_483 rfl rfl rfl (Nat.le_of_ble_eq_true rfl) ⟨rfl, rfl⟩ ⟨by decide, by decide⟩ ⟨by decide, by decide⟩ d_X11_laysSide_238 ?_
    refine j_goto (tgt := 245) d_X11_laysSide_241 (by decide) ?_
    exact j_wk [true, true, true, false, true, true, true, true, false, false] rfl rfl (T_X11_laysSide_245 G rec_153 x1 x2 x4 x5 x6 x7 r27.1 (tp_w ((tp_w (9 * x4)) + x7)) r27.2 hrec_153)
def f_X11_laysSide_210 (rec_153 : Int → tp_M → Option (tp_M)) (x1 : Int) (x2 : Int) (x4 : Int) (x5 : Int) (x6 : Int) (x7 : Int) (x8 : Int) (M0 : tp_M) : Option (tp_M) :=
  f_X11_laysSide_211 rec_153 x1 x2 x4 x5 x6 x7 x8 0 M0
set_option maxHeartbeats 4000000 in
set_option maxRecDepth 100000 in
theorem T_X11_laysSide_210 (G : tp_G) (rec_153 : Int → tp_M → Option (tp_M)) (x1 : Int) (x2 : Int) (x4 : Int) (x5 : Int) (x6 : Int) (x7 : Int) (x8 : Int) (M0 : tp_M) (hrec_153 : ∀ (x7' : Int) (M' : tp_M), tp_J i_X11_laysSide (tp_rm 4) G 0 0 o_X11_laysSide tp_NC (tp_st M') 0 0 [some (.inr (.inr 483)), some (.inl x1), some (.inl x2), none, some (.inl x4), some (.inl x5), some (.inl x6), some (.inl (x7')), none, none] 153 [] (rec_153 x7' M')) : tp_J i_X11_laysSide (tp_rm 4) G 0 0 o_X11_laysSide tp_NC (tp_st M0) 0 0 [some (.inr (.inr 483)), some (.inl x1), some (.inl x2), none, some (.inl x4), some (.inl x5), some (.inl x6), some (.inl x7), some (.inl x8), none] 210 [] (f_X11_laysSide_210 rec_153 x1 x2 x4 x5 x6 x7 x8 M0) := by
  unfold f_X11_laysSide_210
  refine j_iconst ⟨by decide, by decide⟩ d_X11_laysSide_210 ?_
  exact j_wk [true, true, true, false, true, true, true, true, true, false] rfl rfl (T_X11_laysSide_211 G rec_153 x1 x2 x4 x5 x6 x7 x8 0 M0 hrec_153)
def f_X11_laysSide_153B (x1 : Int) (x2 : Int) (x4 : Int) (x5 : Int) (x6 : Int) (rec_153 : Int → tp_M → Option (tp_M)) (x7 : Int) (M0 : tp_M) : Option (tp_M) :=
  if 9 ≤ x7 then
    tp_mp (tp_up M0 483 22 (tp_w ((M0 483 22) + 1))) fun M21 =>
    some M21
  else
    if 0 ≤ x4 ∧ x4 < 64 then
      tp_lt ((tp_w (x2 + (tp_w (x7 * (M0 511 x4)))))) fun y22 =>
      if x6 < x7 then
        f_X11_laysSide_210 rec_153 x1 x2 x4 x5 x6 x7 y22 M0
      else
        (f_X11_point0 x1 y22 M0).bind fun r29 =>
        (f_X11_point0 x1 x2 M0).bind fun r31 =>
        if x6 = 0 then none else
          if ¬ r29 = (tp_w (r31 - (tp_w (x7 * (tp_w (Int.tdiv x5 x6)))))) then
            f_X11_laysSide_210 rec_153 x1 x2 x4 x5 x6 x7 y22 M0
          else
            f_X11_laysSide_211 rec_153 x1 x2 x4 x5 x6 x7 y22 1 M0 else none
set_option maxHeartbeats 4000000 in
set_option maxRecDepth 100000 in
theorem T_X11_laysSide_153B (G : tp_G) (x1 : Int) (x2 : Int) (x4 : Int) (x5 : Int) (x6 : Int) (rec_153 : Int → tp_M → Option (tp_M)) (hrec_153 : ∀ (x7' : Int) (M' : tp_M), tp_J i_X11_laysSide (tp_rm 4) G 0 0 o_X11_laysSide tp_NC (tp_st M') 0 0 [some (.inr (.inr 483)), some (.inl x1), some (.inl x2), none, some (.inl x4), some (.inl x5), some (.inl x6), some (.inl (x7')), none, none] 153 [] (rec_153 x7' M')) (x7 : Int) (M0 : tp_M) : tp_J i_X11_laysSide (tp_rm 4) G 0 0 o_X11_laysSide tp_NC (tp_st M0) 0 0 [some (.inr (.inr 483)), some (.inl x1), some (.inl x2), none, some (.inl x4), some (.inl x5), some (.inl x6), some (.inl x7), none, none] 153 [] (f_X11_laysSide_153B x1 x2 x4 x5 x6 rec_153 x7 M0) := by
  unfold f_X11_laysSide_153B
  refine j_iload d_X11_laysSide_153 rfl ?_
  refine j_bipush ⟨by decide, by decide⟩ (by decide +kernel) d_X11_laysSide_155 ?_
  refine j_icmp_ge (tgt := 252) d_X11_laysSide_157 (by decide) (fun h20 => ?_) (fun h20 => ?_)
  · refine j_aload_n rfl d_X11_laysSide_252 rfl ?_
    refine j_dup d_X11_laysSide_253 (fun G => tp_cat G _) ?_
    refine j_geti fl_Model_325 tg_483 d_X11_laysSide_254 ?_
    refine j_iconst ⟨by decide, by decide⟩ d_X11_laysSide_257 ?_
    refine j_iadd d_X11_laysSide_258 ?_
    refine j_put (z := 0) (v := (tp_w ((M0 483 22) + 1))) fl_Model_325 (by decide) tg_483 (pf_11_22 _) pt_11 d_X11_laysSide_259 (fun M21 hM21 => ?_)
    exact j_vret d_X11_laysSide_262 rfl rfl ⟨rfl, rfl⟩
  · refine j_iload_n rfl d_X11_laysSide_160 rfl ?_
    refine j_iload d_X11_laysSide_161 rfl ?_
    refine j_aload_n rfl d_X11_laysSide_163 rfl ?_
    refine j_getr fl_Model_92 tg_483 rv_483_39 d_X11_laysSide_164 ?_
    refine j_iload d_X11_laysSide_167 rfl ?_
    refine j_iald tg_511 al_511 d_X11_laysSide_169 ?_
    refine j_imul d_X11_laysSide_170 ?_
    refine j_iadd d_X11_laysSide_171 ?_
    refine j_nmI (fun y22 hy22 => ?_)
    refine j_istore (lv' := [some (.inr (.inr 483)), some (.inl x1), some (.inl x2), none, some (.inl x4), some (.inl x5), some (.inl x6), some (.inl x7), some (.inl y22), none]) d_X11_laysSide_172 (Nat.le_of_ble_eq_true rfl) rfl ?_
    refine j_iload d_X11_laysSide_174 rfl ?_
    refine j_iload d_X11_laysSide_176 rfl ?_
    refine j_icmp_gt (tgt := 210) d_X11_laysSide_178 (by decide) (fun h23 => ?_) (fun h23 => ?_)
    · exact j_wk [true, true, true, false, true, true, true, true, true, false] rfl rfl (T_X11_laysSide_210 G rec_153 x1 x2 x4 x5 x6 x7 y22 M0 hrec_153)
    · refine j_aload_n rfl d_X11_laysSide_181 rfl ?_
      refine j_iload_n rfl d_X11_laysSide_182 rfl ?_
      refine j_iload d_X11_laysSide_183 rfl ?_
      refine j_bind (fun r29 h30 => ?_)
      refine j_callV (y := y_X11_point0) (I' := i_X11_point0) (avs := [.inl x1, .inl y22]) (c := 483) (st := []) (c_X11_point0 G x1 y22 M0 r29 h30) cs_Model_322 wd_1448 wd_1450 ws_73 tg_483 rfl rfl rfl (Nat.le_of_ble_eq_true rfl) ⟨rfl, rfl⟩ ⟨by decide, by decide⟩ ⟨by decide, by decide⟩ d_X11_laysSide_185 ?_
      refine j_aload_n rfl d_X11_laysSide_188 rfl ?_
      refine j_iload_n rfl d_X11_laysSide_189 rfl ?_
      refine j_iload_n rfl d_X11_laysSide_190 rfl ?_
      refine j_bind (fun r31 h32 => ?_)
      refine j_callV (y := y_X11_point0) (I' := i_X11_point0) (avs := [.inl x1, .inl x2]) (c := 483) (st := [.inl r29]) (c_X11_point0 G x1 x2 M0 r31 h32) cs_Model_322 wd_1448 wd_1450 ws_73 tg_483 rfl rfl rfl (Nat.le_of_ble_eq_true rfl) ⟨rfl, rfl⟩ ⟨by decide, by decide⟩ ⟨by decide, by decide⟩ d_X11_laysSide_191 ?_
      refine j_iload d_X11_laysSide_194 rfl ?_
      refine j_iload d_X11_laysSide_196 rfl ?_
      refine j_iload d_X11_laysSide_198 rfl ?_
      refine j_idiv d_X11_laysSide_200 ?_
      refine j_imul d_X11_laysSide_201 ?_
      refine j_isub d_X11_laysSide_202 ?_
      refine j_icmp_ne (tgt := 210) d_X11_laysSide_203 (by decide) (fun h33 => ?_) (fun h33 => ?_)
      · exact j_wk [true, true, true, false, true, true, true, true, true, false] rfl rfl (T_X11_laysSide_210 G rec_153 x1 x2 x4 x5 x6 x7 y22 M0 hrec_153)
      · refine j_iconst ⟨by decide, by decide⟩ d_X11_laysSide_206 ?_
        refine j_goto (tgt := 211) d_X11_laysSide_207 (by decide) ?_
        exact j_wk [true, true, true, false, true, true, true, true, true, false] rfl rfl (T_X11_laysSide_211 G rec_153 x1 x2 x4 x5 x6 x7 y22 1 M0 hrec_153)
def f_X11_laysSide_153 (x1 : Int) (x2 : Int) (x4 : Int) (x5 : Int) (x6 : Int) (x7 : Int) (M0 : tp_M) : Option (tp_M) := tp_lp (σ := Int × tp_M) (fun rec_ u => f_X11_laysSide_153B x1 x2 x4 x5 x6 (fun x7' M0' => rec_ (x7', M0')) u.1 u.2) tp_N (x7, M0)
set_option maxHeartbeats 4000000 in
set_option maxRecDepth 100000 in
theorem T_X11_laysSide_153 (G : tp_G) (x1 : Int) (x2 : Int) (x4 : Int) (x5 : Int) (x6 : Int) (x7 : Int) (M0 : tp_M) : tp_J i_X11_laysSide (tp_rm 4) G 0 0 o_X11_laysSide tp_NC (tp_st M0) 0 0 [some (.inr (.inr 483)), some (.inl x1), some (.inl x2), none, some (.inl x4), some (.inl x5), some (.inl x6), some (.inl x7), none, none] 153 [] (f_X11_laysSide_153 x1 x2 x4 x5 x6 x7 M0) := by
  unfold f_X11_laysSide_153
  exact j_lp (σ := Int × tp_M) (n' := fun _ => tp_NC) (g' := fun u => tp_st u.2) (k' := fun _ => 0) (q' := fun _ => 0) (lv' := fun u => [some (.inr (.inr 483)), some (.inl x1), some (.inl x2), none, some (.inl x4), some (.inl x5), some (.inl x6), some (.inl u.1), none, none]) (fun rec_ hrec u => T_X11_laysSide_153B G x1 x2 x4 x5 x6 (fun x7' M0' => rec_ (x7', M0')) (fun x7' M0' => hrec (x7', M0')) u.1 u.2) tp_N (x7, M0)
def f_X11_laysSide_117B (x1 : Int) (x2 : Int) (x4 : Int) (x5 : Int) (x6 : Int) (rec_117 : Int → tp_M → Option (tp_M)) (x7 : Int) (M0 : tp_M) : Option (tp_M) :=
  if 7 ≤ x7 then
    f_X11_laysSide_153 x1 x2 x4 x5 x6 0 M0
  else
    if 0 ≤ x7 ∧ x7 < 7 then
      if 0 ≤ (tp_w ((tp_w (7 * x4)) + x7)) ∧ (tp_w ((tp_w (7 * x4)) + x7)) < 448 then
        tp_mp (tp_up M0 514 (tp_w ((tp_w (7 * x4)) + x7)) (M0 526 x7)) fun M34 =>
        tp_lt (tp_w (x7 + 1)) fun y35 =>
        rec_117 y35 M34 else none else none
set_option maxHeartbeats 4000000 in
set_option maxRecDepth 100000 in
theorem T_X11_laysSide_117B (G : tp_G) (x1 : Int) (x2 : Int) (x4 : Int) (x5 : Int) (x6 : Int) (rec_117 : Int → tp_M → Option (tp_M)) (hrec_117 : ∀ (x7' : Int) (M' : tp_M), tp_J i_X11_laysSide (tp_rm 4) G 0 0 o_X11_laysSide tp_NC (tp_st M') 0 0 [some (.inr (.inr 483)), some (.inl x1), some (.inl x2), none, some (.inl x4), some (.inl x5), some (.inl x6), some (.inl (x7')), none, none] 117 [] (rec_117 x7' M')) (x7 : Int) (M0 : tp_M) : tp_J i_X11_laysSide (tp_rm 4) G 0 0 o_X11_laysSide tp_NC (tp_st M0) 0 0 [some (.inr (.inr 483)), some (.inl x1), some (.inl x2), none, some (.inl x4), some (.inl x5), some (.inl x6), some (.inl x7), none, none] 117 [] (f_X11_laysSide_117B x1 x2 x4 x5 x6 rec_117 x7 M0) := by
  unfold f_X11_laysSide_117B
  refine j_iload d_X11_laysSide_117 rfl ?_
  refine j_bipush ⟨by decide, by decide⟩ (by decide +kernel) d_X11_laysSide_119 ?_
  refine j_icmp_ge (tgt := 150) d_X11_laysSide_121 (by decide) (fun h19 => ?_) (fun h19 => ?_)
  · refine j_iconst ⟨by decide, by decide⟩ d_X11_laysSide_150 ?_
    refine j_istore (lv' := [some (.inr (.inr 483)), some (.inl x1), some (.inl x2), none, some (.inl x4), some (.inl x5), some (.inl x6), some (.inl 0), none, none]) d_X11_laysSide_151 (Nat.le_of_ble_eq_true rfl) rfl ?_
    exact j_wk [true, true, true, false, true, true, true, true, false, false] rfl rfl (T_X11_laysSide_153 G x1 x2 x4 x5 x6 0 M0)
  · refine j_aload_n rfl d_X11_laysSide_124 rfl ?_
    refine j_getr fl_Model_101 tg_483 rv_483_42 d_X11_laysSide_125 ?_
    refine j_bipush ⟨by decide, by decide⟩ (by decide +kernel) d_X11_laysSide_128 ?_
    refine j_iload d_X11_laysSide_130 rfl ?_
    refine j_imul d_X11_laysSide_132 ?_
    refine j_iload d_X11_laysSide_133 rfl ?_
    refine j_iadd d_X11_laysSide_135 ?_
    refine j_aload_n rfl d_X11_laysSide_136 rfl ?_
    refine j_getr fl_Model_137 tg_483 rv_483_55 d_X11_laysSide_137 ?_
    refine j_iload d_X11_laysSide_140 rfl ?_
    refine j_iald tg_526 al_526 d_X11_laysSide_142 ?_
    refine j_iast tg_514 al_514 d_X11_laysSide_143 (fun M34 hM34 => ?_)
    refine j_iincN (lv' := fun y35 => [some (.inr (.inr 483)), some (.inl x1), some (.inl x2), none, some (.inl x4), some (.inl x5), some (.inl x6), some (.inl y35), none, none]) d_X11_laysSide_144 rfl (Nat.le_of_ble_eq_true rfl) (fun _ => rfl) (fun y35 hy35 => ?_)
    refine j_goto (tgt := 117) d_X11_laysSide_147 (by decide) ?_
    exact j_wk [true, true, true, false, true, true, true, true, false, false] rfl rfl (hrec_117 y35 M34)
def f_X11_laysSide_117 (x1 : Int) (x2 : Int) (x4 : Int) (x5 : Int) (x6 : Int) (x7 : Int) (M0 : tp_M) : Option (tp_M) := tp_lp (σ := Int × tp_M) (fun rec_ u => f_X11_laysSide_117B x1 x2 x4 x5 x6 (fun x7' M0' => rec_ (x7', M0')) u.1 u.2) tp_N (x7, M0)
set_option maxHeartbeats 4000000 in
set_option maxRecDepth 100000 in
theorem T_X11_laysSide_117 (G : tp_G) (x1 : Int) (x2 : Int) (x4 : Int) (x5 : Int) (x6 : Int) (x7 : Int) (M0 : tp_M) : tp_J i_X11_laysSide (tp_rm 4) G 0 0 o_X11_laysSide tp_NC (tp_st M0) 0 0 [some (.inr (.inr 483)), some (.inl x1), some (.inl x2), none, some (.inl x4), some (.inl x5), some (.inl x6), some (.inl x7), none, none] 117 [] (f_X11_laysSide_117 x1 x2 x4 x5 x6 x7 M0) := by
  unfold f_X11_laysSide_117
  exact j_lp (σ := Int × tp_M) (n' := fun _ => tp_NC) (g' := fun u => tp_st u.2) (k' := fun _ => 0) (q' := fun _ => 0) (lv' := fun u => [some (.inr (.inr 483)), some (.inl x1), some (.inl x2), none, some (.inl x4), some (.inl x5), some (.inl x6), some (.inl u.1), none, none]) (fun rec_ hrec u => T_X11_laysSide_117B G x1 x2 x4 x5 x6 (fun x7' M0' => rec_ (x7', M0')) (fun x7' M0' => hrec (x7', M0')) u.1 u.2) tp_N (x7, M0)
def f_X11_laysSide (a0 : Int) (a1 : Int) (a2 : Int) (M0 : tp_M) : Option (tp_M) :=
  tp_lt ((M0 483 22)) fun y1 =>
  (f_X11_point0 a0 a1 M0).bind fun r2 =>
  (f_X11_point0 a0 a2 M0).bind fun r4 =>
  tp_lt ((tp_w (r2 - r4))) fun y6 =>
  (f_X11_divisor (tp_w (a2 - a1)) y6 M0).bind fun r7 =>
  if 0 ≤ y1 ∧ y1 < 64 then
    tp_mp (tp_up M0 508 y1 a1) fun M9 =>
    if 0 ≤ y1 ∧ y1 < 64 then
      tp_mp (tp_up M9 509 y1 a2) fun M10 =>
      if 0 ≤ y1 ∧ y1 < 64 then
        tp_mp (tp_up M10 510 y1 y6) fun M11 =>
        if 0 ≤ y1 ∧ y1 < 64 then
          tp_mp (tp_up M11 512 y1 r7) fun M12 =>
          if r7 = 0 then none else
            if 0 ≤ y1 ∧ y1 < 64 then
              tp_mp (tp_up M12 511 y1 (tp_w (Int.tdiv (tp_w (a2 - a1)) r7))) fun M13 =>
              if 0 ≤ y1 ∧ y1 < 64 then
                (f_X11_lift M13).bind fun r14 =>
                if r7 = 0 then none else
                  if 0 ≤ y1 ∧ y1 < 64 then
                    tp_mp (tp_up M13 513 y1 (tp_w ((tp_w ((M13 511 y1) * r14)) + (tp_w (Int.tdiv y6 r7))))) fun M16 =>
                    if 0 ≤ y1 ∧ y1 < 64 then
                      (f_X11_laysMonomial (M16 513 y1) M16).bind fun r17 =>
                      f_X11_laysSide_117 a0 a1 y1 y6 r7 0 r17 else none else none else none else none else none else none else none else none
set_option maxHeartbeats 4000000 in
set_option maxRecDepth 100000 in
theorem T_X11_laysSide (G : tp_G) (a0 : Int) (a1 : Int) (a2 : Int) (M0 : tp_M) : tp_J i_X11_laysSide (tp_rm 4) G 0 0 o_X11_laysSide tp_NC (tp_st M0) 0 0 [some (.inr (.inr 483)), some (.inl a0), some (.inl a1), some (.inl a2), none, none, none, none, none, none] 0 [] (f_X11_laysSide a0 a1 a2 M0) := by
  unfold f_X11_laysSide
  refine j_aload_n rfl d_X11_laysSide_0 rfl ?_
  refine j_geti fl_Model_325 tg_483 d_X11_laysSide_1 ?_
  refine j_nmI (fun y1 hy1 => ?_)
  refine j_istore (lv' := [some (.inr (.inr 483)), some (.inl a0), some (.inl a1), some (.inl a2), some (.inl y1), none, none, none, none, none]) d_X11_laysSide_4 (Nat.le_of_ble_eq_true rfl) rfl ?_
  refine j_aload_n rfl d_X11_laysSide_6 rfl ?_
  refine j_iload_n rfl d_X11_laysSide_7 rfl ?_
  refine j_iload_n rfl d_X11_laysSide_8 rfl ?_
  refine j_bind (fun r2 h3 => ?_)
  refine j_callV (y := y_X11_point0) (I' := i_X11_point0) (avs := [.inl a0, .inl a1]) (c := 483) (st := []) (c_X11_point0 G a0 a1 M0 r2 h3) cs_Model_322 wd_1448 wd_1450 ws_73 tg_483 rfl rfl rfl (Nat.le_of_ble_eq_true rfl) ⟨rfl, rfl⟩ ⟨by decide, by decide⟩ ⟨by decide, by decide⟩ d_X11_laysSide_9 ?_
  refine j_aload_n rfl d_X11_laysSide_12 rfl ?_
  refine j_iload_n rfl d_X11_laysSide_13 rfl ?_
  refine j_iload_n rfl d_X11_laysSide_14 rfl ?_
  refine j_bind (fun r4 h5 => ?_)
  refine j_callV (y := y_X11_point0) (I' := i_X11_point0) (avs := [.inl a0, .inl a2]) (c := 483) (st := [.inl r2]) (c_X11_point0 G a0 a2 M0 r4 h5) cs_Model_322 wd_1448 wd_1450 ws_73 tg_483 rfl rfl rfl (Nat.le_of_ble_eq_true rfl) ⟨rfl, rfl⟩ ⟨by decide, by decide⟩ ⟨by decide, by decide⟩ d_X11_laysSide_15 ?_
  refine j_isub d_X11_laysSide_18 ?_
  refine j_nmI (fun y6 hy6 => ?_)
  refine j_istore (lv' := [some (.inr (.inr 483)), some (.inl a0), some (.inl a1), some (.inl a2), some (.inl y1), some (.inl y6), none, none, none, none]) d_X11_laysSide_19 (Nat.le_of_ble_eq_true rfl) rfl ?_
  refine j_iload_n rfl d_X11_laysSide_21 rfl ?_
  refine j_iload_n rfl d_X11_laysSide_22 rfl ?_
  refine j_isub d_X11_laysSide_23 ?_
  refine j_iload d_X11_laysSide_24 rfl ?_
  refine j_bind (fun r7 h8 => ?_)
  refine j_callS (y := y_X11_divisor) (I' := i_X11_divisor) (avs := [.inl (tp_w (a2 - a1)), .inl y6]) (st := []) (c_X11_divisor G (tp_w (a2 - a1)) y6 M0 r7 h8) cs_Model_336 wd_1460 wd_1461 rfl rfl (Nat.le_of_ble_eq_true rfl) ⟨rfl, rfl⟩ ⟨by decide, by decide⟩ ⟨by decide, by decide⟩ d_X11_laysSide_26 ?_
  refine j_istore (lv' := [some (.inr (.inr 483)), some (.inl a0), some (.inl a1), some (.inl a2), some (.inl y1), some (.inl y6), some (.inl r7), none, none, none]) d_X11_laysSide_29 (Nat.le_of_ble_eq_true rfl) rfl ?_
  refine j_aload_n rfl d_X11_laysSide_31 rfl ?_
  refine j_getr fl_Model_83 tg_483 rv_483_36 d_X11_laysSide_32 ?_
  refine j_iload d_X11_laysSide_35 rfl ?_
  refine j_iload_n rfl d_X11_laysSide_37 rfl ?_
  refine j_iast tg_508 al_508 d_X11_laysSide_38 (fun M9 hM9 => ?_)
  refine j_aload_n rfl d_X11_laysSide_39 rfl ?_
  refine j_getr fl_Model_86 tg_483 rv_483_37 d_X11_laysSide_40 ?_
  refine j_iload d_X11_laysSide_43 rfl ?_
  refine j_iload_n rfl d_X11_laysSide_45 rfl ?_
  refine j_iast tg_509 al_509 d_X11_laysSide_46 (fun M10 hM10 => ?_)
  refine j_aload_n rfl d_X11_laysSide_47 rfl ?_
  refine j_getr fl_Model_89 tg_483 rv_483_38 d_X11_laysSide_48 ?_
  refine j_iload d_X11_laysSide_51 rfl ?_
  refine j_iload d_X11_laysSide_53 rfl ?_
  refine j_iast tg_510 al_510 d_X11_laysSide_55 (fun M11 hM11 => ?_)
  refine j_aload_n rfl d_X11_laysSide_56 rfl ?_
  refine j_getr fl_Model_95 tg_483 rv_483_40 d_X11_laysSide_57 ?_
  refine j_iload d_X11_laysSide_60 rfl ?_
  refine j_iload d_X11_laysSide_62 rfl ?_
  refine j_iast tg_512 al_512 d_X11_laysSide_64 (fun M12 hM12 => ?_)
  refine j_aload_n rfl d_X11_laysSide_65 rfl ?_
  refine j_getr fl_Model_92 tg_483 rv_483_39 d_X11_laysSide_66 ?_
  refine j_iload d_X11_laysSide_69 rfl ?_
  refine j_iload_n rfl d_X11_laysSide_71 rfl ?_
  refine j_iload_n rfl d_X11_laysSide_72 rfl ?_
  refine j_isub d_X11_laysSide_73 ?_
  refine j_iload d_X11_laysSide_74 rfl ?_
  refine j_idiv d_X11_laysSide_76 ?_
  refine j_iast tg_511 al_511 d_X11_laysSide_77 (fun M13 hM13 => ?_)
  refine j_aload_n rfl d_X11_laysSide_78 rfl ?_
  refine j_getr fl_Model_98 tg_483 rv_483_41 d_X11_laysSide_79 ?_
  refine j_iload d_X11_laysSide_82 rfl ?_
  refine j_aload_n rfl d_X11_laysSide_84 rfl ?_
  refine j_getr fl_Model_92 tg_483 rv_483_39 d_X11_laysSide_85 ?_
  refine j_iload d_X11_laysSide_88 rfl ?_
  refine j_iald tg_511 al_511 d_X11_laysSide_90 ?_
  refine j_aload_n rfl d_X11_laysSide_91 rfl ?_
  refine j_bind (fun r14 h15 => ?_)
  refine j_callV (y := y_X11_lift) (I' := i_X11_lift) (avs := []) (c := 483) (st := [.inl (M13 511 y1), .inl y1, .inr (.inr 513)]) (c_X11_lift G M13 r14 h15) cs_Model_319 wd_1440 wd_1442 ws_71 tg_483 rfl rfl rfl (Nat.le_of_ble_eq_true rfl) ⟨rfl, rfl⟩ ⟨by decide, by decide⟩ ⟨by decide, by decide⟩ d_X11_laysSide_92 ?_
  refine j_imul d_X11_laysSide_95 ?_
  refine j_iload d_X11_laysSide_96 rfl ?_
  refine j_iload d_X11_laysSide_98 rfl ?_
  refine j_idiv d_X11_laysSide_100 ?_
  refine j_iadd d_X11_laysSide_101 ?_
  refine j_iast tg_513 al_513 d_X11_laysSide_102 (fun M16 hM16 => ?_)
  refine j_aload_n rfl d_X11_laysSide_103 rfl ?_
  refine j_aload_n rfl d_X11_laysSide_104 rfl ?_
  refine j_getr fl_Model_98 tg_483 rv_483_41 d_X11_laysSide_105 ?_
  refine j_iload d_X11_laysSide_108 rfl ?_
  refine j_iald tg_513 al_513 d_X11_laysSide_110 ?_
  refine j_bind (fun r17 h18 => ?_)
  refine j_callV (y := y_X11_laysMonomial) (I' := i_X11_laysMonomial) (avs := [.inl (M16 513 y1)]) (c := 483) (st := []) (c_X11_laysMonomial G (M16 513 y1) M16 r17 h18) cs_Model_339 wd_1463 wd_1465 ws_76 tg_483 rfl rfl rfl (Nat.le_of_ble_eq_true rfl) ⟨rfl, rfl⟩ ⟨by decide, by decide⟩ ⟨by decide, by decide⟩ d_X11_laysSide_111 ?_
  refine j_iconst ⟨by decide, by decide⟩ d_X11_laysSide_114 ?_
  refine j_istore (lv' := [some (.inr (.inr 483)), some (.inl a0), some (.inl a1), some (.inl a2), some (.inl y1), some (.inl y6), some (.inl r7), some (.inl 0), none, none]) d_X11_laysSide_115 (Nat.le_of_ble_eq_true rfl) rfl ?_
  exact j_wk [true, true, true, false, true, true, true, true, false, false] rfl rfl (T_X11_laysSide_117 G a0 a1 y1 y6 r7 0 r17)
set_option maxHeartbeats 4000000 in
set_option maxRecDepth 100000 in
theorem c_X11_laysSide (G : tp_G) (a0 : Int) (a1 : Int) (a2 : Int) (M0 : tp_M) (r : tp_M) (h : f_X11_laysSide a0 a1 a2 M0 = some r) (l : Launch) : Met l y_X11_laysSide (tp_ws y_X11_laysSide i_X11_laysSide) (tp_rm 4) (tp_Pc G [.inr (.inr 483), .inl a0, .inl a1, .inl a2] tp_NC (tp_st M0)) (tp_Q G (o_X11_laysSide r)) 0 0 (tp_A G) :=
  tp_met (I := i_X11_laysSide) (y := y_X11_laysSide) (by decide +kernel) (Eq.refl "TypesAtPrimeModel") (Eq.refl "laysSide") (lv := [some (.inr (.inr 483)), some (.inl a0), some (.inl a1), some (.inl a2), none, none, none, none, none, none]) rfl (Nat.le_of_ble_eq_true rfl) (T_X11_laysSide G a0 a1 a2 M0) h l
theorem wd_1055 : (.fieldLink "TypesAtPrimeModel" 56 "TypesAtPrimeModel" "firstSide" "[I" : Cond) ∈ lw_tbl := List.mem_append_right _ (List.mem_of_getElem? (i := 1055) (by decide +kernel))
theorem fl_Model_56 : tp_F "TypesAtPrimeModel" 56 11 27 2 := ⟨_, _, _, rfl, by decide, rfl, wd_1055, rfl, by decide⟩
theorem tg_499 : tp_tg 499 = 21 := by decide +kernel
theorem al_499 : tp_al 499 = 40 := by decide +kernel
theorem rv_483_27 : tp_rv 483 27 = 499 := by decide +kernel
theorem wd_1058 : (.fieldLink "TypesAtPrimeModel" 65 "TypesAtPrimeModel" "index0" "[I" : Cond) ∈ lw_tbl := List.mem_append_right _ (List.mem_of_getElem? (i := 1058) (by decide +kernel))
theorem fl_Model_65 : tp_F "TypesAtPrimeModel" 65 11 30 2 := ⟨_, _, _, rfl, by decide, rfl, wd_1058, rfl, by decide⟩
theorem tg_502 : tp_tg 502 = 21 := by decide +kernel
theorem al_502 : tp_al 502 = 40 := by decide +kernel
theorem rv_483_30 : tp_rv 483 30 = 502 := by decide +kernel
theorem wd_1056 : (.fieldLink "TypesAtPrimeModel" 59 "TypesAtPrimeModel" "manySides" "[I" : Cond) ∈ lw_tbl := List.mem_append_right _ (List.mem_of_getElem? (i := 1056) (by decide +kernel))
theorem fl_Model_59 : tp_F "TypesAtPrimeModel" 59 11 28 2 := ⟨_, _, _, rfl, by decide, rfl, wd_1056, rfl, by decide⟩
theorem tg_500 : tp_tg 500 = 21 := by decide +kernel
theorem al_500 : tp_al 500 = 40 := by decide +kernel
theorem rv_483_28 : tp_rv 483 28 = 500 := by decide +kernel
theorem wd_1455 : (.code ⟨"TypesAtPrimeModel", "nextCorner", "(III)I"⟩ prog_13_method_51_code 8 (some .int) : Cond) ∈ lw_tbl := List.mem_append_right _ (List.mem_of_getElem? (i := 1455) (by decide +kernel))
theorem cs_Model_328 : tp_CS "TypesAtPrimeModel" 328 y_X11_nextCorner i_X11_nextCorner 3 := ⟨wd_1455, wd_12, by decide, by decide, by decide +kernel⟩
theorem wd_1452 : (.methodLink "TypesAtPrimeModel" 328 ⟨"TypesAtPrimeModel", "nextCorner", "(III)I"⟩ : Cond) ∈ lw_tbl := List.mem_append_right _ (List.mem_of_getElem? (i := 1452) (by decide +kernel))
theorem wd_1454 : (.instanceMethod ⟨"TypesAtPrimeModel", "nextCorner", "(III)I"⟩ : Cond) ∈ lw_tbl := List.mem_append_right _ (List.mem_of_getElem? (i := 1454) (by decide +kernel))
theorem ws_74 : (.selects "TypesAtPrimeModel" ⟨"TypesAtPrimeModel", "nextCorner", "(III)I"⟩ ⟨"TypesAtPrimeModel", "nextCorner", "(III)I"⟩ : Cond) ∈ lw_tbl := List.mem_append_left _ (List.mem_of_getElem? (i := 74) (by decide +kernel))
theorem wd_1459 : (.code ⟨"TypesAtPrimeModel", "laysSide", "(III)V"⟩ prog_13_method_53_code 10 (none : Option Jvm.ClassFile.FieldType) : Cond) ∈ lw_tbl := List.mem_append_right _ (List.mem_of_getElem? (i := 1459) (by decide +kernel))
theorem cs_Model_332 : tp_CS "TypesAtPrimeModel" 332 y_X11_laysSide i_X11_laysSide 3 := ⟨wd_1459, wd_12, by decide, by decide, by decide +kernel⟩
theorem wd_1456 : (.methodLink "TypesAtPrimeModel" 332 ⟨"TypesAtPrimeModel", "laysSide", "(III)V"⟩ : Cond) ∈ lw_tbl := List.mem_append_right _ (List.mem_of_getElem? (i := 1456) (by decide +kernel))
theorem wd_1458 : (.instanceMethod ⟨"TypesAtPrimeModel", "laysSide", "(III)V"⟩ : Cond) ∈ lw_tbl := List.mem_append_right _ (List.mem_of_getElem? (i := 1458) (by decide +kernel))
theorem ws_75 : (.selects "TypesAtPrimeModel" ⟨"TypesAtPrimeModel", "laysSide", "(III)V"⟩ ⟨"TypesAtPrimeModel", "laysSide", "(III)V"⟩ : Cond) ∈ lw_tbl := List.mem_append_left _ (List.mem_of_getElem? (i := 75) (by decide +kernel))
def y_X11_laysSides : MethodName := ⟨"TypesAtPrimeModel", "laysSides", "(I)V"⟩
abbrev i_X11_laysSides : tp_I := (prog_13_method_52_code, "TypesAtPrimeModel", none, 11, "laysSides")
abbrev o_X11_laysSides : tp_M → tp_O := fun r => (none, tp_NC, tp_st r)
theorem d_X11_laysSides_0 : decode prog_13_method_52_code 0 = .ok (.aload_n 0, 1) := by decide +kernel
theorem d_X11_laysSides_1 : decode prog_13_method_52_code 1 = .ok (.getfield 56, 3) := by decide +kernel
theorem d_X11_laysSides_4 : decode prog_13_method_52_code 4 = .ok (.iload_n 1, 1) := by decide +kernel
theorem d_X11_laysSides_5 : decode prog_13_method_52_code 5 = .ok (.aload_n 0, 1) := by decide +kernel
theorem d_X11_laysSides_6 : decode prog_13_method_52_code 6 = .ok (.getfield 325, 3) := by decide +kernel
theorem d_X11_laysSides_9 : decode prog_13_method_52_code 9 = .ok (.iastore, 1) := by decide +kernel
theorem d_X11_laysSides_10 : decode prog_13_method_52_code 10 = .ok (.aload_n 0, 1) := by decide +kernel
theorem d_X11_laysSides_11 : decode prog_13_method_52_code 11 = .ok (.getfield 65, 3) := by decide +kernel
theorem d_X11_laysSides_14 : decode prog_13_method_52_code 14 = .ok (.iload_n 1, 1) := by decide +kernel
theorem d_X11_laysSides_15 : decode prog_13_method_52_code 15 = .ok (.iconst 0, 1) := by decide +kernel
theorem d_X11_laysSides_16 : decode prog_13_method_52_code 16 = .ok (.iastore, 1) := by decide +kernel
theorem d_X11_laysSides_17 : decode prog_13_method_52_code 17 = .ok (.aload_n 0, 1) := by decide +kernel
theorem d_X11_laysSides_18 : decode prog_13_method_52_code 18 = .ok (.getfield 62, 3) := by decide +kernel
theorem d_X11_laysSides_21 : decode prog_13_method_52_code 21 = .ok (.iload_n 1, 1) := by decide +kernel
theorem d_X11_laysSides_22 : decode prog_13_method_52_code 22 = .ok (.iaload, 1) := by decide +kernel
theorem d_X11_laysSides_23 : decode prog_13_method_52_code 23 = .ok (.istore_n 2, 1) := by decide +kernel
theorem d_X11_laysSides_24 : decode prog_13_method_52_code 24 = .ok (.iload_n 2, 1) := by decide +kernel
theorem d_X11_laysSides_25 : decode prog_13_method_52_code 25 = .ok (.istore_n 3, 1) := by decide +kernel
theorem d_X11_laysSides_26 : decode prog_13_method_52_code 26 = .ok (.iload_n 2, 1) := by decide +kernel
theorem d_X11_laysSides_27 : decode prog_13_method_52_code 27 = .ok (.istore 4, 2) := by decide +kernel
theorem d_X11_laysSides_29 : decode prog_13_method_52_code 29 = .ok (.iload 4, 2) := by decide +kernel
theorem d_X11_laysSides_31 : decode prog_13_method_52_code 31 = .ok (.aload_n 0, 1) := by decide +kernel
theorem d_X11_laysSides_32 : decode prog_13_method_52_code 32 = .ok (.getfield 50, 3) := by decide +kernel
theorem d_X11_laysSides_35 : decode prog_13_method_52_code 35 = .ok (.iload_n 1, 1) := by decide +kernel
theorem d_X11_laysSides_36 : decode prog_13_method_52_code 36 = .ok (.iaload, 1) := by decide +kernel
theorem d_X11_laysSides_37 : decode prog_13_method_52_code 37 = .ok (.if_icmp .gt 51, 3) := by decide +kernel
theorem d_X11_laysSides_40 : decode prog_13_method_52_code 40 = .ok (.aload_n 0, 1) := by decide +kernel
theorem d_X11_laysSides_41 : decode prog_13_method_52_code 41 = .ok (.iload_n 1, 1) := by decide +kernel
theorem d_X11_laysSides_42 : decode prog_13_method_52_code 42 = .ok (.iload 4, 2) := by decide +kernel
theorem d_X11_laysSides_44 : decode prog_13_method_52_code 44 = .ok (.invokevirtual 322, 3) := by decide +kernel
theorem d_X11_laysSides_47 : decode prog_13_method_52_code 47 = .ok (.ifCond .lt 33, 3) := by decide +kernel
theorem d_X11_laysSides_50 : decode prog_13_method_52_code 50 = .ok (.aload_n 0, 1) := by decide +kernel
theorem d_X11_laysSides_51 : decode prog_13_method_52_code 51 = .ok (.iload_n 1, 1) := by decide +kernel
theorem d_X11_laysSides_52 : decode prog_13_method_52_code 52 = .ok (.iload_n 3, 1) := by decide +kernel
theorem d_X11_laysSides_53 : decode prog_13_method_52_code 53 = .ok (.invokevirtual 322, 3) := by decide +kernel
theorem d_X11_laysSides_56 : decode prog_13_method_52_code 56 = .ok (.ifCond .lt 19, 3) := by decide +kernel
theorem d_X11_laysSides_59 : decode prog_13_method_52_code 59 = .ok (.aload_n 0, 1) := by decide +kernel
theorem d_X11_laysSides_60 : decode prog_13_method_52_code 60 = .ok (.iload_n 1, 1) := by decide +kernel
theorem d_X11_laysSides_61 : decode prog_13_method_52_code 61 = .ok (.iload 4, 2) := by decide +kernel
theorem d_X11_laysSides_63 : decode prog_13_method_52_code 63 = .ok (.invokevirtual 322, 3) := by decide +kernel
theorem d_X11_laysSides_66 : decode prog_13_method_52_code 66 = .ok (.aload_n 0, 1) := by decide +kernel
theorem d_X11_laysSides_67 : decode prog_13_method_52_code 67 = .ok (.iload_n 1, 1) := by decide +kernel
theorem d_X11_laysSides_68 : decode prog_13_method_52_code 68 = .ok (.iload_n 3, 1) := by decide +kernel
theorem d_X11_laysSides_69 : decode prog_13_method_52_code 69 = .ok (.invokevirtual 322, 3) := by decide +kernel
theorem d_X11_laysSides_72 : decode prog_13_method_52_code 72 = .ok (.if_icmp .ge 8, 3) := by decide +kernel
theorem d_X11_laysSides_75 : decode prog_13_method_52_code 75 = .ok (.iload 4, 2) := by decide +kernel
theorem d_X11_laysSides_77 : decode prog_13_method_52_code 77 = .ok (.goto 4, 3) := by decide +kernel
theorem d_X11_laysSides_80 : decode prog_13_method_52_code 80 = .ok (.iload_n 3, 1) := by decide +kernel
theorem d_X11_laysSides_81 : decode prog_13_method_52_code 81 = .ok (.istore_n 3, 1) := by decide +kernel
theorem d_X11_laysSides_82 : decode prog_13_method_52_code 82 = .ok (.iinc 4 1, 3) := by decide +kernel
theorem d_X11_laysSides_85 : decode prog_13_method_52_code 85 = .ok (.goto (-56), 3) := by decide +kernel
theorem d_X11_laysSides_88 : decode prog_13_method_52_code 88 = .ok (.aload_n 0, 1) := by decide +kernel
theorem d_X11_laysSides_89 : decode prog_13_method_52_code 89 = .ok (.iload_n 1, 1) := by decide +kernel
theorem d_X11_laysSides_90 : decode prog_13_method_52_code 90 = .ok (.iload_n 3, 1) := by decide +kernel
theorem d_X11_laysSides_91 : decode prog_13_method_52_code 91 = .ok (.invokevirtual 322, 3) := by decide +kernel
theorem d_X11_laysSides_94 : decode prog_13_method_52_code 94 = .ok (.istore 4, 2) := by decide +kernel
theorem d_X11_laysSides_96 : decode prog_13_method_52_code 96 = .ok (.iload_n 2, 1) := by decide +kernel
theorem d_X11_laysSides_97 : decode prog_13_method_52_code 97 = .ok (.istore 5, 2) := by decide +kernel
theorem d_X11_laysSides_99 : decode prog_13_method_52_code 99 = .ok (.iload 5, 2) := by decide +kernel
theorem d_X11_laysSides_101 : decode prog_13_method_52_code 101 = .ok (.iload_n 3, 1) := by decide +kernel
theorem d_X11_laysSides_102 : decode prog_13_method_52_code 102 = .ok (.if_icmp .ge 132, 3) := by decide +kernel
theorem d_X11_laysSides_105 : decode prog_13_method_52_code 105 = .ok (.aload_n 0, 1) := by decide +kernel
theorem d_X11_laysSides_106 : decode prog_13_method_52_code 106 = .ok (.iload_n 1, 1) := by decide +kernel
theorem d_X11_laysSides_107 : decode prog_13_method_52_code 107 = .ok (.iload 5, 2) := by decide +kernel
theorem d_X11_laysSides_109 : decode prog_13_method_52_code 109 = .ok (.iload_n 3, 1) := by decide +kernel
theorem d_X11_laysSides_110 : decode prog_13_method_52_code 110 = .ok (.invokevirtual 328, 3) := by decide +kernel
theorem d_X11_laysSides_113 : decode prog_13_method_52_code 113 = .ok (.istore 6, 2) := by decide +kernel
theorem d_X11_laysSides_115 : decode prog_13_method_52_code 115 = .ok (.aload_n 0, 1) := by decide +kernel
theorem d_X11_laysSides_116 : decode prog_13_method_52_code 116 = .ok (.iload_n 1, 1) := by decide +kernel
theorem d_X11_laysSides_117 : decode prog_13_method_52_code 117 = .ok (.iload 5, 2) := by decide +kernel
theorem d_X11_laysSides_119 : decode prog_13_method_52_code 119 = .ok (.iload 6, 2) := by decide +kernel
theorem d_X11_laysSides_121 : decode prog_13_method_52_code 121 = .ok (.invokevirtual 332, 3) := by decide +kernel
theorem d_X11_laysSides_124 : decode prog_13_method_52_code 124 = .ok (.aload_n 0, 1) := by decide +kernel
theorem d_X11_laysSides_125 : decode prog_13_method_52_code 125 = .ok (.iload_n 1, 1) := by decide +kernel
theorem d_X11_laysSides_126 : decode prog_13_method_52_code 126 = .ok (.iload 5, 2) := by decide +kernel
theorem d_X11_laysSides_128 : decode prog_13_method_52_code 128 = .ok (.invokevirtual 322, 3) := by decide +kernel
theorem d_X11_laysSides_131 : decode prog_13_method_52_code 131 = .ok (.aload_n 0, 1) := by decide +kernel
theorem d_X11_laysSides_132 : decode prog_13_method_52_code 132 = .ok (.iload_n 1, 1) := by decide +kernel
theorem d_X11_laysSides_133 : decode prog_13_method_52_code 133 = .ok (.iload 6, 2) := by decide +kernel
theorem d_X11_laysSides_135 : decode prog_13_method_52_code 135 = .ok (.invokevirtual 322, 3) := by decide +kernel
theorem d_X11_laysSides_138 : decode prog_13_method_52_code 138 = .ok (.isub, 1) := by decide +kernel
theorem d_X11_laysSides_139 : decode prog_13_method_52_code 139 = .ok (.istore 7, 2) := by decide +kernel
theorem d_X11_laysSides_141 : decode prog_13_method_52_code 141 = .ok (.iload 5, 2) := by decide +kernel
theorem d_X11_laysSides_143 : decode prog_13_method_52_code 143 = .ok (.iconst 1, 1) := by decide +kernel
theorem d_X11_laysSides_144 : decode prog_13_method_52_code 144 = .ok (.if_icmp .ge 7, 3) := by decide +kernel
theorem d_X11_laysSides_147 : decode prog_13_method_52_code 147 = .ok (.iconst 1, 1) := by decide +kernel
theorem d_X11_laysSides_148 : decode prog_13_method_52_code 148 = .ok (.goto 5, 3) := by decide +kernel
theorem d_X11_laysSides_151 : decode prog_13_method_52_code 151 = .ok (.iload 5, 2) := by decide +kernel
theorem d_X11_laysSides_153 : decode prog_13_method_52_code 153 = .ok (.istore 8, 2) := by decide +kernel
theorem d_X11_laysSides_155 : decode prog_13_method_52_code 155 = .ok (.iload 8, 2) := by decide +kernel
theorem d_X11_laysSides_157 : decode prog_13_method_52_code 157 = .ok (.iload 6, 2) := by decide +kernel
theorem d_X11_laysSides_159 : decode prog_13_method_52_code 159 = .ok (.if_icmp .ge 68, 3) := by decide +kernel
theorem d_X11_laysSides_162 : decode prog_13_method_52_code 162 = .ok (.iload 7, 2) := by decide +kernel
theorem d_X11_laysSides_164 : decode prog_13_method_52_code 164 = .ok (.iload 8, 2) := by decide +kernel
theorem d_X11_laysSides_166 : decode prog_13_method_52_code 166 = .ok (.iload 5, 2) := by decide +kernel
theorem d_X11_laysSides_168 : decode prog_13_method_52_code 168 = .ok (.isub, 1) := by decide +kernel
theorem d_X11_laysSides_169 : decode prog_13_method_52_code 169 = .ok (.imul, 1) := by decide +kernel
theorem d_X11_laysSides_170 : decode prog_13_method_52_code 170 = .ok (.iload 6, 2) := by decide +kernel
theorem d_X11_laysSides_172 : decode prog_13_method_52_code 172 = .ok (.iadd, 1) := by decide +kernel
theorem d_X11_laysSides_173 : decode prog_13_method_52_code 173 = .ok (.iload 5, 2) := by decide +kernel
theorem d_X11_laysSides_175 : decode prog_13_method_52_code 175 = .ok (.isub, 1) := by decide +kernel
theorem d_X11_laysSides_176 : decode prog_13_method_52_code 176 = .ok (.iconst 1, 1) := by decide +kernel
theorem d_X11_laysSides_177 : decode prog_13_method_52_code 177 = .ok (.isub, 1) := by decide +kernel
theorem d_X11_laysSides_178 : decode prog_13_method_52_code 178 = .ok (.iload 6, 2) := by decide +kernel
theorem d_X11_laysSides_180 : decode prog_13_method_52_code 180 = .ok (.iload 5, 2) := by decide +kernel
theorem d_X11_laysSides_182 : decode prog_13_method_52_code 182 = .ok (.isub, 1) := by decide +kernel
theorem d_X11_laysSides_183 : decode prog_13_method_52_code 183 = .ok (.idiv, 1) := by decide +kernel
theorem d_X11_laysSides_184 : decode prog_13_method_52_code 184 = .ok (.istore 9, 2) := by decide +kernel
theorem d_X11_laysSides_186 : decode prog_13_method_52_code 186 = .ok (.aload_n 0, 1) := by decide +kernel
theorem d_X11_laysSides_187 : decode prog_13_method_52_code 187 = .ok (.iload_n 1, 1) := by decide +kernel
theorem d_X11_laysSides_188 : decode prog_13_method_52_code 188 = .ok (.iload 5, 2) := by decide +kernel
theorem d_X11_laysSides_190 : decode prog_13_method_52_code 190 = .ok (.invokevirtual 322, 3) := by decide +kernel
theorem d_X11_laysSides_193 : decode prog_13_method_52_code 193 = .ok (.iload 9, 2) := by decide +kernel
theorem d_X11_laysSides_195 : decode prog_13_method_52_code 195 = .ok (.isub, 1) := by decide +kernel
theorem d_X11_laysSides_196 : decode prog_13_method_52_code 196 = .ok (.iload 4, 2) := by decide +kernel
theorem d_X11_laysSides_198 : decode prog_13_method_52_code 198 = .ok (.isub, 1) := by decide +kernel
theorem d_X11_laysSides_199 : decode prog_13_method_52_code 199 = .ok (.istore 10, 2) := by decide +kernel
theorem d_X11_laysSides_201 : decode prog_13_method_52_code 201 = .ok (.aload_n 0, 1) := by decide +kernel
theorem d_X11_laysSides_202 : decode prog_13_method_52_code 202 = .ok (.getfield 65, 3) := by decide +kernel
theorem d_X11_laysSides_205 : decode prog_13_method_52_code 205 = .ok (.iload_n 1, 1) := by decide +kernel
theorem d_X11_laysSides_206 : decode prog_13_method_52_code 206 = .ok (.dup2, 1) := by decide +kernel
theorem d_X11_laysSides_207 : decode prog_13_method_52_code 207 = .ok (.iaload, 1) := by decide +kernel
theorem d_X11_laysSides_208 : decode prog_13_method_52_code 208 = .ok (.iload 10, 2) := by decide +kernel
theorem d_X11_laysSides_210 : decode prog_13_method_52_code 210 = .ok (.ifCond .le 8, 3) := by decide +kernel
theorem d_X11_laysSides_213 : decode prog_13_method_52_code 213 = .ok (.iload 10, 2) := by decide +kernel
theorem d_X11_laysSides_215 : decode prog_13_method_52_code 215 = .ok (.goto 4, 3) := by decide +kernel
theorem d_X11_laysSides_218 : decode prog_13_method_52_code 218 = .ok (.iconst 0, 1) := by decide +kernel
theorem d_X11_laysSides_219 : decode prog_13_method_52_code 219 = .ok (.iadd, 1) := by decide +kernel
theorem d_X11_laysSides_220 : decode prog_13_method_52_code 220 = .ok (.iastore, 1) := by decide +kernel
theorem d_X11_laysSides_221 : decode prog_13_method_52_code 221 = .ok (.iinc 8 1, 3) := by decide +kernel
theorem d_X11_laysSides_224 : decode prog_13_method_52_code 224 = .ok (.goto (-69), 3) := by decide +kernel
theorem d_X11_laysSides_227 : decode prog_13_method_52_code 227 = .ok (.iload 6, 2) := by decide +kernel
theorem d_X11_laysSides_229 : decode prog_13_method_52_code 229 = .ok (.istore 5, 2) := by decide +kernel
theorem d_X11_laysSides_231 : decode prog_13_method_52_code 231 = .ok (.goto (-132), 3) := by decide +kernel
theorem d_X11_laysSides_234 : decode prog_13_method_52_code 234 = .ok (.aload_n 0, 1) := by decide +kernel
theorem d_X11_laysSides_235 : decode prog_13_method_52_code 235 = .ok (.getfield 59, 3) := by decide +kernel
theorem d_X11_laysSides_238 : decode prog_13_method_52_code 238 = .ok (.iload_n 1, 1) := by decide +kernel
theorem d_X11_laysSides_239 : decode prog_13_method_52_code 239 = .ok (.aload_n 0, 1) := by decide +kernel
theorem d_X11_laysSides_240 : decode prog_13_method_52_code 240 = .ok (.getfield 325, 3) := by decide +kernel
theorem d_X11_laysSides_243 : decode prog_13_method_52_code 243 = .ok (.aload_n 0, 1) := by decide +kernel
theorem d_X11_laysSides_244 : decode prog_13_method_52_code 244 = .ok (.getfield 56, 3) := by decide +kernel
theorem d_X11_laysSides_247 : decode prog_13_method_52_code 247 = .ok (.iload_n 1, 1) := by decide +kernel
theorem d_X11_laysSides_248 : decode prog_13_method_52_code 248 = .ok (.iaload, 1) := by decide +kernel
theorem d_X11_laysSides_249 : decode prog_13_method_52_code 249 = .ok (.isub, 1) := by decide +kernel
theorem d_X11_laysSides_250 : decode prog_13_method_52_code 250 = .ok (.iastore, 1) := by decide +kernel
theorem d_X11_laysSides_251 : decode prog_13_method_52_code 251 = .ok (.return_, 1) := by decide +kernel
def f_X11_laysSides_219 (rec_99 : Int → tp_M → Option (tp_M)) (rec_155 : Int → tp_M → Option (tp_M)) (x1 : Int) (x3 : Int) (x4 : Int) (x5 : Int) (x6 : Int) (x7 : Int) (x8 : Int) (s0 : Int) (s1 : Int) (s2 : Int) (M0 : tp_M) : Option (tp_M) :=
  if 0 ≤ s2 ∧ s2 < 40 then
    tp_mp (tp_up M0 502 s2 (tp_w (s1 + s0))) fun M25 =>
    tp_lt (tp_w (x8 + 1)) fun y26 =>
    rec_155 y26 M25 else none
set_option maxHeartbeats 4000000 in
set_option maxRecDepth 100000 in
theorem T_X11_laysSides_219 (G : tp_G) (rec_99 : Int → tp_M → Option (tp_M)) (rec_155 : Int → tp_M → Option (tp_M)) (x1 : Int) (x3 : Int) (x4 : Int) (x5 : Int) (x6 : Int) (x7 : Int) (x8 : Int) (s0 : Int) (s1 : Int) (s2 : Int) (M0 : tp_M) (hrec_99 : ∀ (x5' : Int) (M' : tp_M), tp_J i_X11_laysSides (tp_rm 5) G 0 0 o_X11_laysSides tp_NC (tp_st M') 0 0 [some (.inr (.inr 483)), some (.inl x1), none, some (.inl x3), some (.inl x4), some (.inl (x5')), none, none, none, none, none] 99 [] (rec_99 x5' M')) (hrec_155 : ∀ (x8' : Int) (M' : tp_M), tp_J i_X11_laysSides (tp_rm 5) G 0 0 o_X11_laysSides tp_NC (tp_st M') 0 0 [some (.inr (.inr 483)), some (.inl x1), none, some (.inl x3), some (.inl x4), some (.inl x5), some (.inl x6), some (.inl x7), some (.inl (x8')), none, none] 155 [] (rec_155 x8' M')) : tp_J i_X11_laysSides (tp_rm 5) G 0 0 o_X11_laysSides tp_NC (tp_st M0) 0 0 [some (.inr (.inr 483)), some (.inl x1), none, some (.inl x3), some (.inl x4), some (.inl x5), some (.inl x6), some (.inl x7), some (.inl x8), none, none] 219 [.inl s0, .inl s1, .inl s2, .inr (.inr 502)] (f_X11_laysSides_219 rec_99 rec_155 x1 x3 x4 x5 x6 x7 x8 s0 s1 s2 M0) := by
  unfold f_X11_laysSides_219
  refine j_iadd d_X11_laysSides_219 ?_
  refine j_iast tg_502 al_502 d_X11_laysSides_220 (fun M25 hM25 => ?_)
  refine j_iincN (lv' := fun y26 => [some (.inr (.inr 483)), some (.inl x1), none, some (.inl x3), some (.inl x4), some (.inl x5), some (.inl x6), some (.inl x7), some (.inl y26), none, none]) d_X11_laysSides_221 rfl (Nat.le_of_ble_eq_true rfl) (fun _ => rfl) (fun y26 hy26 => ?_)
  refine j_goto (tgt := 155) d_X11_laysSides_224 (by decide) ?_
  exact j_wk [true, true, false, true, true, true, true, true, true, false, false] rfl rfl (hrec_155 y26 M25)
def f_X11_laysSides_155B (rec_99 : Int → tp_M → Option (tp_M)) (x1 : Int) (x3 : Int) (x4 : Int) (x5 : Int) (x6 : Int) (x7 : Int) (rec_155 : Int → tp_M → Option (tp_M)) (x8 : Int) (M0 : tp_M) : Option (tp_M) :=
  if x6 ≤ x8 then
    rec_99 x6 M0
  else
    if (tp_w (x6 - x5)) = 0 then none else
      tp_lt ((tp_w (Int.tdiv (tp_w ((tp_w ((tp_w ((tp_w (x7 * (tp_w (x8 - x5)))) + x6)) - x5)) - 1)) (tp_w (x6 - x5))))) fun y20 =>
      (f_X11_point0 x1 x5 M0).bind fun r21 =>
      tp_lt ((tp_w ((tp_w (r21 - y20)) - x4))) fun y23 =>
      if 0 ≤ x1 ∧ x1 < 40 then
        if y23 ≤ 0 then
          f_X11_laysSides_219 rec_99 rec_155 x1 x3 x4 x5 x6 x7 x8 0 (M0 502 x1) x1 M0
        else
          f_X11_laysSides_219 rec_99 rec_155 x1 x3 x4 x5 x6 x7 x8 y23 (M0 502 x1) x1 M0 else none
set_option maxHeartbeats 4000000 in
set_option maxRecDepth 100000 in
theorem T_X11_laysSides_155B (G : tp_G) (rec_99 : Int → tp_M → Option (tp_M)) (x1 : Int) (x3 : Int) (x4 : Int) (x5 : Int) (x6 : Int) (x7 : Int) (hrec_99 : ∀ (x5' : Int) (M' : tp_M), tp_J i_X11_laysSides (tp_rm 5) G 0 0 o_X11_laysSides tp_NC (tp_st M') 0 0 [some (.inr (.inr 483)), some (.inl x1), none, some (.inl x3), some (.inl x4), some (.inl (x5')), none, none, none, none, none] 99 [] (rec_99 x5' M')) (rec_155 : Int → tp_M → Option (tp_M)) (hrec_155 : ∀ (x8' : Int) (M' : tp_M), tp_J i_X11_laysSides (tp_rm 5) G 0 0 o_X11_laysSides tp_NC (tp_st M') 0 0 [some (.inr (.inr 483)), some (.inl x1), none, some (.inl x3), some (.inl x4), some (.inl x5), some (.inl x6), some (.inl x7), some (.inl (x8')), none, none] 155 [] (rec_155 x8' M')) (x8 : Int) (M0 : tp_M) : tp_J i_X11_laysSides (tp_rm 5) G 0 0 o_X11_laysSides tp_NC (tp_st M0) 0 0 [some (.inr (.inr 483)), some (.inl x1), none, some (.inl x3), some (.inl x4), some (.inl x5), some (.inl x6), some (.inl x7), some (.inl x8), none, none] 155 [] (f_X11_laysSides_155B rec_99 x1 x3 x4 x5 x6 x7 rec_155 x8 M0) := by
  unfold f_X11_laysSides_155B
  refine j_iload d_X11_laysSides_155 rfl ?_
  refine j_iload d_X11_laysSides_157 rfl ?_
  refine j_icmp_ge (tgt := 227) d_X11_laysSides_159 (by decide) (fun h19 => ?_) (fun h19 => ?_)
  · refine j_iload d_X11_laysSides_227 rfl ?_
    refine j_istore (lv' := [some (.inr (.inr 483)), some (.inl x1), none, some (.inl x3), some (.inl x4), some (.inl x6), some (.inl x6), some (.inl x7), some (.inl x8), none, none]) d_X11_laysSides_229 (Nat.le_of_ble_eq_true rfl) rfl ?_
    refine j_goto (tgt := 99) d_X11_laysSides_231 (by decide) ?_
    exact j_wk [true, true, false, true, true, true, false, false, false, false, false] rfl rfl (hrec_99 x6 M0)
  · refine j_iload d_X11_laysSides_162 rfl ?_
    refine j_iload d_X11_laysSides_164 rfl ?_
    refine j_iload d_X11_laysSides_166 rfl ?_
    refine j_isub d_X11_laysSides_168 ?_
    refine j_imul d_X11_laysSides_169 ?_
    refine j_iload d_X11_laysSides_170 rfl ?_
    refine j_iadd d_X11_laysSides_172 ?_
    refine j_iload d_X11_laysSides_173 rfl ?_
    refine j_isub d_X11_laysSides_175 ?_
    refine j_iconst ⟨by decide, by decide⟩ d_X11_laysSides_176 ?_
    refine j_isub d_X11_laysSides_177 ?_
    refine j_iload d_X11_laysSides_178 rfl ?_
    refine j_iload d_X11_laysSides_180 rfl ?_
    refine j_isub d_X11_laysSides_182 ?_
    refine j_idiv d_X11_laysSides_183 ?_
    refine j_nmI (fun y20 hy20 => ?_)
    refine j_istore (lv' := [some (.inr (.inr 483)), some (.inl x1), none, some (.inl x3), some (.inl x4), some (.inl x5), some (.inl x6), some (.inl x7), some (.inl x8), some (.inl y20), none]) d_X11_laysSides_184 (Nat.le_of_ble_eq_true rfl) rfl ?_
    refine j_aload_n rfl d_X11_laysSides_186 rfl ?_
    refine j_iload_n rfl d_X11_laysSides_187 rfl ?_
    refine j_iload d_X11_laysSides_188 rfl ?_
    refine j_bind (fun r21 h22 => ?_)
    refine j_callV (y := y_X11_point0) (I' := i_X11_point0) (avs := [.inl x1, .inl x5]) (c := 483) (st := []) (c_X11_point0 G x1 x5 M0 r21 h22) cs_Model_322 wd_1448 wd_1450 ws_73 tg_483 rfl rfl rfl (Nat.le_of_ble_eq_true rfl) ⟨rfl, rfl⟩ ⟨by decide, by decide⟩ ⟨by decide, by decide⟩ d_X11_laysSides_190 ?_
    refine j_iload d_X11_laysSides_193 rfl ?_
    refine j_isub d_X11_laysSides_195 ?_
    refine j_iload d_X11_laysSides_196 rfl ?_
    refine j_isub d_X11_laysSides_198 ?_
    refine j_nmI (fun y23 hy23 => ?_)
    refine j_istore (lv' := [some (.inr (.inr 483)), some (.inl x1), none, some (.inl x3), some (.inl x4), some (.inl x5), some (.inl x6), some (.inl x7), some (.inl x8), some (.inl y20), some (.inl y23)]) d_X11_laysSides_199 (Nat.le_of_ble_eq_true rfl) rfl ?_
    refine j_aload_n rfl d_X11_laysSides_201 rfl ?_
    refine j_getr fl_Model_65 tg_483 rv_483_30 d_X11_laysSides_202 ?_
    refine j_iload_n rfl d_X11_laysSides_205 rfl ?_
    refine j_dup2 d_X11_laysSides_206 (fun G => tp_cat G _) (fun G => tp_cat G _) ?_
    refine j_iald tg_502 al_502 d_X11_laysSides_207 ?_
    refine j_iload d_X11_laysSides_208 rfl ?_
    refine j_if_le (tgt := 218) d_X11_laysSides_210 (by decide) (fun h24 => ?_) (fun h24 => ?_)
    · refine j_iconst ⟨by decide, by decide⟩ d_X11_laysSides_218 ?_
      exact j_wk [true, true, false, true, true, true, true, true, true, false, false] rfl rfl (T_X11_laysSides_219 G rec_99 rec_155 x1 x3 x4 x5 x6 x7 x8 0 (M0 502 x1) x1 M0 hrec_99 hrec_155)
    · refine j_iload d_X11_laysSides_213 rfl ?_
      refine j_goto (tgt := 219) d_X11_laysSides_215 (by decide) ?_
      exact j_wk [true, true, false, true, true, true, true, true, true, false, false] rfl rfl (T_X11_laysSides_219 G rec_99 rec_155 x1 x3 x4 x5 x6 x7 x8 y23 (M0 502 x1) x1 M0 hrec_99 hrec_155)
def f_X11_laysSides_155 (rec_99 : Int → tp_M → Option (tp_M)) (x1 : Int) (x3 : Int) (x4 : Int) (x5 : Int) (x6 : Int) (x7 : Int) (x8 : Int) (M0 : tp_M) : Option (tp_M) := tp_lp (σ := Int × tp_M) (fun rec_ u => f_X11_laysSides_155B rec_99 x1 x3 x4 x5 x6 x7 (fun x8' M0' => rec_ (x8', M0')) u.1 u.2) tp_N (x8, M0)
set_option maxHeartbeats 4000000 in
set_option maxRecDepth 100000 in
theorem T_X11_laysSides_155 (G : tp_G) (rec_99 : Int → tp_M → Option (tp_M)) (x1 : Int) (x3 : Int) (x4 : Int) (x5 : Int) (x6 : Int) (x7 : Int) (x8 : Int) (M0 : tp_M) (hrec_99 : ∀ (x5' : Int) (M' : tp_M), tp_J i_X11_laysSides (tp_rm 5) G 0 0 o_X11_laysSides tp_NC (tp_st M') 0 0 [some (.inr (.inr 483)), some (.inl x1), none, some (.inl x3), some (.inl x4), some (.inl (x5')), none, none, none, none, none] 99 [] (rec_99 x5' M')) : tp_J i_X11_laysSides (tp_rm 5) G 0 0 o_X11_laysSides tp_NC (tp_st M0) 0 0 [some (.inr (.inr 483)), some (.inl x1), none, some (.inl x3), some (.inl x4), some (.inl x5), some (.inl x6), some (.inl x7), some (.inl x8), none, none] 155 [] (f_X11_laysSides_155 rec_99 x1 x3 x4 x5 x6 x7 x8 M0) := by
  unfold f_X11_laysSides_155
  exact j_lp (σ := Int × tp_M) (n' := fun _ => tp_NC) (g' := fun u => tp_st u.2) (k' := fun _ => 0) (q' := fun _ => 0) (lv' := fun u => [some (.inr (.inr 483)), some (.inl x1), none, some (.inl x3), some (.inl x4), some (.inl x5), some (.inl x6), some (.inl x7), some (.inl u.1), none, none]) (fun rec_ hrec u => T_X11_laysSides_155B G rec_99 x1 x3 x4 x5 x6 x7 hrec_99 (fun x8' M0' => rec_ (x8', M0')) (fun x8' M0' => hrec (x8', M0')) u.1 u.2) tp_N (x8, M0)
def f_X11_laysSides_153 (rec_99 : Int → tp_M → Option (tp_M)) (x1 : Int) (x3 : Int) (x4 : Int) (x5 : Int) (x6 : Int) (x7 : Int) (s0 : Int) (M0 : tp_M) : Option (tp_M) :=
  f_X11_laysSides_155 rec_99 x1 x3 x4 x5 x6 x7 s0 M0
set_option maxHeartbeats 4000000 in
set_option maxRecDepth 100000 in
theorem T_X11_laysSides_153 (G : tp_G) (rec_99 : Int → tp_M → Option (tp_M)) (x1 : Int) (x3 : Int) (x4 : Int) (x5 : Int) (x6 : Int) (x7 : Int) (s0 : Int) (M0 : tp_M) (hrec_99 : ∀ (x5' : Int) (M' : tp_M), tp_J i_X11_laysSides (tp_rm 5) G 0 0 o_X11_laysSides tp_NC (tp_st M') 0 0 [some (.inr (.inr 483)), some (.inl x1), none, some (.inl x3), some (.inl x4), some (.inl (x5')), none, none, none, none, none] 99 [] (rec_99 x5' M')) : tp_J i_X11_laysSides (tp_rm 5) G 0 0 o_X11_laysSides tp_NC (tp_st M0) 0 0 [some (.inr (.inr 483)), some (.inl x1), none, some (.inl x3), some (.inl x4), some (.inl x5), some (.inl x6), some (.inl x7), none, none, none] 153 [.inl s0] (f_X11_laysSides_153 rec_99 x1 x3 x4 x5 x6 x7 s0 M0) := by
  unfold f_X11_laysSides_153
  refine j_istore (lv' := [some (.inr (.inr 483)), some (.inl x1), none, some (.inl x3), some (.inl x4), some (.inl x5), some (.inl x6), some (.inl x7), some (.inl s0), none, none]) d_X11_laysSides_153 (Nat.le_of_ble_eq_true rfl) rfl ?_
  exact j_wk [true, true, false, true, true, true, true, true, true, false, false] rfl rfl (T_X11_laysSides_155 G rec_99 x1 x3 x4 x5 x6 x7 s0 M0 hrec_99)
def f_X11_laysSides_99B (x1 : Int) (x3 : Int) (x4 : Int) (rec_99 : Int → tp_M → Option (tp_M)) (x5 : Int) (M0 : tp_M) : Option (tp_M) :=
  if x3 ≤ x5 then
    if 0 ≤ x1 ∧ x1 < 40 then
      if 0 ≤ x1 ∧ x1 < 40 then
        tp_mp (tp_up M0 500 x1 (tp_w ((M0 483 22) - (M0 499 x1)))) fun M8 =>
        some M8 else none else none
  else
    (f_X11_nextCorner x1 x5 x3 M0).bind fun r9 =>
    (f_X11_laysSide x1 x5 r9 M0).bind fun r11 =>
    (f_X11_point0 x1 x5 r11).bind fun r13 =>
    (f_X11_point0 x1 r9 r11).bind fun r15 =>
    tp_lt ((tp_w (r13 - r15))) fun y17 =>
    if 1 ≤ x5 then
      f_X11_laysSides_153 rec_99 x1 x3 x4 x5 r9 y17 x5 r11
    else
      f_X11_laysSides_153 rec_99 x1 x3 x4 x5 r9 y17 1 r11
set_option maxHeartbeats 4000000 in
set_option maxRecDepth 100000 in
theorem T_X11_laysSides_99B (G : tp_G) (x1 : Int) (x3 : Int) (x4 : Int) (rec_99 : Int → tp_M → Option (tp_M)) (hrec_99 : ∀ (x5' : Int) (M' : tp_M), tp_J i_X11_laysSides (tp_rm 5) G 0 0 o_X11_laysSides tp_NC (tp_st M') 0 0 [some (.inr (.inr 483)), some (.inl x1), none, some (.inl x3), some (.inl x4), some (.inl (x5')), none, none, none, none, none] 99 [] (rec_99 x5' M')) (x5 : Int) (M0 : tp_M) : tp_J i_X11_laysSides (tp_rm 5) G 0 0 o_X11_laysSides tp_NC (tp_st M0) 0 0 [some (.inr (.inr 483)), some (.inl x1), none, some (.inl x3), some (.inl x4), some (.inl x5), none, none, none, none, none] 99 [] (f_X11_laysSides_99B x1 x3 x4 rec_99 x5 M0) := by
  unfold f_X11_laysSides_99B
  refine j_iload d_X11_laysSides_99 rfl ?_
  refine j_iload_n rfl d_X11_laysSides_101 rfl ?_
  refine j_icmp_ge (tgt := 234) d_X11_laysSides_102 (by decide) (fun h7 => ?_) (fun h7 => ?_)
  · refine j_aload_n rfl d_X11_laysSides_234 rfl ?_
    refine j_getr fl_Model_59 tg_483 rv_483_28 d_X11_laysSides_235 ?_
    refine j_iload_n rfl d_X11_laysSides_238 rfl ?_
    refine j_aload_n rfl d_X11_laysSides_239 rfl ?_
    refine j_geti fl_Model_325 tg_483 d_X11_laysSides_240 ?_
    refine j_aload_n rfl d_X11_laysSides_243 rfl ?_
    refine j_getr fl_Model_56 tg_483 rv_483_27 d_X11_laysSides_244 ?_
    refine j_iload_n rfl d_X11_laysSides_247 rfl ?_
    refine j_iald tg_499 al_499 d_X11_laysSides_248 ?_
    refine j_isub d_X11_laysSides_249 ?_
    refine j_iast tg_500 al_500 d_X11_laysSides_250 (fun M8 hM8 => ?_)
    exact j_vret d_X11_laysSides_251 rfl rfl ⟨rfl, rfl⟩
  · refine j_aload_n rfl d_X11_laysSides_105 rfl ?_
    refine j_iload_n rfl d_X11_laysSides_106 rfl ?_
    refine j_iload d_X11_laysSides_107 rfl ?_
    refine j_iload_n rfl d_X11_laysSides_109 rfl ?_
    refine j_bind (fun r9 h10 => ?_)
    refine j_callV (y := y_X11_nextCorner) (I' := i_X11_nextCorner) (avs := [.inl x1, .inl x5, .inl x3]) (c := 483) (st := []) (c_X11_nextCorner G x1 x5 x3 M0 r9 h10) cs_Model_328 wd_1452 wd_1454 ws_74 tg_483 rfl rfl rfl (Nat.le_of_ble_eq_true rfl) ⟨rfl, rfl⟩ ⟨by decide, by decide⟩ ⟨by decide, by decide⟩ d_X11_laysSides_110 ?_
    refine j_istore (lv' := [some (.inr (.inr 483)), some (.inl x1), none, some (.inl x3), some (.inl x4), some (.inl x5), some (.inl r9), none, none, none, none]) d_X11_laysSides_113 (Nat.le_of_ble_eq_true rfl) rfl ?_
    refine j_aload_n rfl d_X11_laysSides_115 rfl ?_
    refine j_iload_n rfl d_X11_laysSides_116 rfl ?_
    refine j_iload d_X11_laysSides_117 rfl ?_
    refine j_iload d_X11_laysSides_119 rfl ?_
    refine j_bind (fun r11 h12 => ?_)
    refine j_callV (y := y_X11_laysSide) (I' := i_X11_laysSide) (avs := [.inl x1, .inl x5, .inl r9]) (c := 483) (st := []) (c_X11_laysSide G x1 x5 r9 M0 r11 h12) cs_Model_332 wd_1456 wd_1458 ws_75 tg_483 rfl rfl rfl (Nat.le_of_ble_eq_true rfl) ⟨rfl, rfl⟩ ⟨by decide, by decide⟩ ⟨by decide, by decide⟩ d_X11_laysSides_121 ?_
    refine j_aload_n rfl d_X11_laysSides_124 rfl ?_
    refine j_iload_n rfl d_X11_laysSides_125 rfl ?_
    refine j_iload d_X11_laysSides_126 rfl ?_
    refine j_bind (fun r13 h14 => ?_)
    refine j_callV (y := y_X11_point0) (I' := i_X11_point0) (avs := [.inl x1, .inl x5]) (c := 483) (st := []) (c_X11_point0 G x1 x5 r11 r13 h14) cs_Model_322 wd_1448 wd_1450 ws_73 tg_483 rfl rfl rfl (Nat.le_of_ble_eq_true rfl) ⟨rfl, rfl⟩ ⟨by decide, by decide⟩ ⟨by decide, by decide⟩ d_X11_laysSides_128 ?_
    refine j_aload_n rfl d_X11_laysSides_131 rfl ?_
    refine j_iload_n rfl d_X11_laysSides_132 rfl ?_
    refine j_iload d_X11_laysSides_133 rfl ?_
    refine j_bind (fun r15 h16 => ?_)
    refine j_callV (y := y_X11_point0) (I' := i_X11_point0) (avs := [.inl x1, .inl r9]) (c := 483) (st := [.inl r13]) (c_X11_point0 G x1 r9 r11 r15 h16) cs_Model_322 wd_1448 wd_1450 ws_73 tg_483 rfl rfl rfl (Nat.le_of_ble_eq_true rfl) ⟨rfl, rfl⟩ ⟨by decide, by decide⟩ ⟨by decide, by decide⟩ d_X11_laysSides_135 ?_
    refine j_isub d_X11_laysSides_138 ?_
    refine j_nmI (fun y17 hy17 => ?_)
    refine j_istore (lv' := [some (.inr (.inr 483)), some (.inl x1), none, some (.inl x3), some (.inl x4), some (.inl x5), some (.inl r9), some (.inl y17), none, none, none]) d_X11_laysSides_139 (Nat.le_of_ble_eq_true rfl) rfl ?_
    refine j_iload d_X11_laysSides_141 rfl ?_
    refine j_iconst ⟨by decide, by decide⟩ d_X11_laysSides_143 ?_
    refine j_icmp_ge (tgt := 151) d_X11_laysSides_144 (by decide) (fun h18 => ?_) (fun h18 => ?_)
    · refine j_iload d_X11_laysSides_151 rfl ?_
      exact j_wk [true, true, false, true, true, true, true, true, false, false, false] rfl rfl (T_X11_laysSides_153 G rec_99 x1 x3 x4 x5 r9 y17 x5 r11 hrec_99)
    · refine j_iconst ⟨by decide, by decide⟩ d_X11_laysSides_147 ?_
      refine j_goto (tgt := 153) d_X11_laysSides_148 (by decide) ?_
      exact j_wk [true, true, false, true, true, true, true, true, false, false, false] rfl rfl (T_X11_laysSides_153 G rec_99 x1 x3 x4 x5 r9 y17 1 r11 hrec_99)
def f_X11_laysSides_99 (x1 : Int) (x3 : Int) (x4 : Int) (x5 : Int) (M0 : tp_M) : Option (tp_M) := tp_lp (σ := Int × tp_M) (fun rec_ u => f_X11_laysSides_99B x1 x3 x4 (fun x5' M0' => rec_ (x5', M0')) u.1 u.2) tp_N (x5, M0)
set_option maxHeartbeats 4000000 in
set_option maxRecDepth 100000 in
theorem T_X11_laysSides_99 (G : tp_G) (x1 : Int) (x3 : Int) (x4 : Int) (x5 : Int) (M0 : tp_M) : tp_J i_X11_laysSides (tp_rm 5) G 0 0 o_X11_laysSides tp_NC (tp_st M0) 0 0 [some (.inr (.inr 483)), some (.inl x1), none, some (.inl x3), some (.inl x4), some (.inl x5), none, none, none, none, none] 99 [] (f_X11_laysSides_99 x1 x3 x4 x5 M0) := by
  unfold f_X11_laysSides_99
  exact j_lp (σ := Int × tp_M) (n' := fun _ => tp_NC) (g' := fun u => tp_st u.2) (k' := fun _ => 0) (q' := fun _ => 0) (lv' := fun u => [some (.inr (.inr 483)), some (.inl x1), none, some (.inl x3), some (.inl x4), some (.inl u.1), none, none, none, none, none]) (fun rec_ hrec u => T_X11_laysSides_99B G x1 x3 x4 (fun x5' M0' => rec_ (x5', M0')) (fun x5' M0' => hrec (x5', M0')) u.1 u.2) tp_N (x5, M0)
def f_X11_laysSides_81 (rec_29 : Int → Int → Option (tp_M)) (x1 : Int) (x2 : Int) (x4 : Int) (s0 : Int) (M0 : tp_M) : Option (tp_M) :=
  tp_lt (tp_w (x4 + 1)) fun y30 =>
  rec_29 s0 y30
set_option maxHeartbeats 4000000 in
set_option maxRecDepth 100000 in
theorem T_X11_laysSides_81 (G : tp_G) (rec_29 : Int → Int → Option (tp_M)) (x1 : Int) (x2 : Int) (x4 : Int) (s0 : Int) (M0 : tp_M) (hrec_29 : ∀ (x3' x4' : Int), tp_J i_X11_laysSides (tp_rm 5) G 0 0 o_X11_laysSides tp_NC (tp_st M0) 0 0 [some (.inr (.inr 483)), some (.inl x1), some (.inl x2), some (.inl (x3')), some (.inl (x4')), none, none, none, none, none, none] 29 [] (rec_29 x3' x4')) : tp_J i_X11_laysSides (tp_rm 5) G 0 0 o_X11_laysSides tp_NC (tp_st M0) 0 0 [some (.inr (.inr 483)), some (.inl x1), some (.inl x2), none, some (.inl x4), none, none, none, none, none, none] 81 [.inl s0] (f_X11_laysSides_81 rec_29 x1 x2 x4 s0 M0) := by
  unfold f_X11_laysSides_81
  refine j_istore_n (lv' := [some (.inr (.inr 483)), some (.inl x1), some (.inl x2), some (.inl s0), some (.inl x4), none, none, none, none, none, none]) rfl d_X11_laysSides_81 (Nat.le_of_ble_eq_true rfl) rfl ?_
  refine j_iincN (lv' := fun y30 => [some (.inr (.inr 483)), some (.inl x1), some (.inl x2), some (.inl s0), some (.inl y30), none, none, none, none, none, none]) d_X11_laysSides_82 rfl (Nat.le_of_ble_eq_true rfl) (fun _ => rfl) (fun y30 hy30 => ?_)
  refine j_goto (tgt := 29) d_X11_laysSides_85 (by decide) ?_
  exact j_wk [true, true, true, true, true, false, false, false, false, false, false] rfl rfl (hrec_29 s0 y30)
def f_X11_laysSides_80 (rec_29 : Int → Int → Option (tp_M)) (x1 : Int) (x2 : Int) (x3 : Int) (x4 : Int) (M0 : tp_M) : Option (tp_M) :=
  f_X11_laysSides_81 rec_29 x1 x2 x4 x3 M0
set_option maxHeartbeats 4000000 in
set_option maxRecDepth 100000 in
theorem T_X11_laysSides_80 (G : tp_G) (rec_29 : Int → Int → Option (tp_M)) (x1 : Int) (x2 : Int) (x3 : Int) (x4 : Int) (M0 : tp_M) (hrec_29 : ∀ (x3' x4' : Int), tp_J i_X11_laysSides (tp_rm 5) G 0 0 o_X11_laysSides tp_NC (tp_st M0) 0 0 [some (.inr (.inr 483)), some (.inl x1), some (.inl x2), some (.inl (x3')), some (.inl (x4')), none, none, none, none, none, none] 29 [] (rec_29 x3' x4')) : tp_J i_X11_laysSides (tp_rm 5) G 0 0 o_X11_laysSides tp_NC (tp_st M0) 0 0 [some (.inr (.inr 483)), some (.inl x1), some (.inl x2), some (.inl x3), some (.inl x4), none, none, none, none, none, none] 80 [] (f_X11_laysSides_80 rec_29 x1 x2 x3 x4 M0) := by
  unfold f_X11_laysSides_80
  refine j_iload_n rfl d_X11_laysSides_80 rfl ?_
  exact j_wk [true, true, true, false, true, false, false, false, false, false, false] rfl rfl (T_X11_laysSides_81 G rec_29 x1 x2 x4 x3 M0 hrec_29)
def f_X11_laysSides_75 (rec_29 : Int → Int → Option (tp_M)) (x1 : Int) (x2 : Int) (x4 : Int) (M0 : tp_M) : Option (tp_M) :=
  f_X11_laysSides_81 rec_29 x1 x2 x4 x4 M0
set_option maxHeartbeats 4000000 in
set_option maxRecDepth 100000 in
theorem T_X11_laysSides_75 (G : tp_G) (rec_29 : Int → Int → Option (tp_M)) (x1 : Int) (x2 : Int) (x4 : Int) (M0 : tp_M) (hrec_29 : ∀ (x3' x4' : Int), tp_J i_X11_laysSides (tp_rm 5) G 0 0 o_X11_laysSides tp_NC (tp_st M0) 0 0 [some (.inr (.inr 483)), some (.inl x1), some (.inl x2), some (.inl (x3')), some (.inl (x4')), none, none, none, none, none, none] 29 [] (rec_29 x3' x4')) : tp_J i_X11_laysSides (tp_rm 5) G 0 0 o_X11_laysSides tp_NC (tp_st M0) 0 0 [some (.inr (.inr 483)), some (.inl x1), some (.inl x2), none, some (.inl x4), none, none, none, none, none, none] 75 [] (f_X11_laysSides_75 rec_29 x1 x2 x4 M0) := by
  unfold f_X11_laysSides_75
  refine j_iload d_X11_laysSides_75 rfl ?_
  refine j_goto (tgt := 81) d_X11_laysSides_77 (by decide) ?_
  exact j_wk [true, true, true, false, true, false, false, false, false, false, false] rfl rfl (T_X11_laysSides_81 G rec_29 x1 x2 x4 x4 M0 hrec_29)
def f_X11_laysSides_29B (x1 : Int) (x2 : Int) (M0 : tp_M) (rec_29 : Int → Int → Option (tp_M)) (x3 : Int) (x4 : Int) : Option (tp_M) :=
  if 0 ≤ x1 ∧ x1 < 40 then
    if (M0 497 x1) < x4 then
      (f_X11_point0 x1 x3 M0).bind fun r5 =>
      f_X11_laysSides_99 x1 x3 r5 x2 M0
    else
      (f_X11_point0 x1 x4 M0).bind fun r27 =>
      if r27 < 0 then
        f_X11_laysSides_80 rec_29 x1 x2 x3 x4 M0
      else
        (f_X11_point0 x1 x3 M0).bind fun r31 =>
        if r31 < 0 then
          f_X11_laysSides_75 rec_29 x1 x2 x4 M0
        else
          (f_X11_point0 x1 x4 M0).bind fun r34 =>
          (f_X11_point0 x1 x3 M0).bind fun r36 =>
          if r36 ≤ r34 then
            f_X11_laysSides_80 rec_29 x1 x2 x3 x4 M0
          else
            f_X11_laysSides_75 rec_29 x1 x2 x4 M0 else none
set_option maxHeartbeats 4000000 in
set_option maxRecDepth 100000 in
theorem T_X11_laysSides_29B (G : tp_G) (x1 : Int) (x2 : Int) (M0 : tp_M) (rec_29 : Int → Int → Option (tp_M)) (hrec_29 : ∀ (x3' x4' : Int), tp_J i_X11_laysSides (tp_rm 5) G 0 0 o_X11_laysSides tp_NC (tp_st M0) 0 0 [some (.inr (.inr 483)), some (.inl x1), some (.inl x2), some (.inl (x3')), some (.inl (x4')), none, none, none, none, none, none] 29 [] (rec_29 x3' x4')) (x3 : Int) (x4 : Int) : tp_J i_X11_laysSides (tp_rm 5) G 0 0 o_X11_laysSides tp_NC (tp_st M0) 0 0 [some (.inr (.inr 483)), some (.inl x1), some (.inl x2), some (.inl x3), some (.inl x4), none, none, none, none, none, none] 29 [] (f_X11_laysSides_29B x1 x2 M0 rec_29 x3 x4) := by
  unfold f_X11_laysSides_29B
  refine j_iload d_X11_laysSides_29 rfl ?_
  refine j_aload_n rfl d_X11_laysSides_31 rfl ?_
  refine j_getr fl_Model_50 tg_483 rv_483_25 d_X11_laysSides_32 ?_
  refine j_iload_n rfl d_X11_laysSides_35 rfl ?_
  refine j_iald tg_497 al_497 d_X11_laysSides_36 ?_
  refine j_icmp_gt (tgt := 88) d_X11_laysSides_37 (by decide) (fun h4 => ?_) (fun h4 => ?_)
  · refine j_aload_n rfl d_X11_laysSides_88 rfl ?_
    refine j_iload_n rfl d_X11_laysSides_89 rfl ?_
    refine j_iload_n rfl d_X11_laysSides_90 rfl ?_
    refine j_bind (fun r5 h6 => ?_)
    refine j_callV (y := y_X11_point0) (I' := i_X11_point0) (avs := [.inl x1, .inl x3]) (c := 483) (st := []) (c_X11_point0 G x1 x3 M0 r5 h6) cs_Model_322 wd_1448 wd_1450 ws_73 tg_483 rfl rfl rfl (Nat.le_of_ble_eq_true rfl) ⟨rfl, rfl⟩ ⟨by decide, by decide⟩ ⟨by decide, by decide⟩ d_X11_laysSides_91 ?_
    refine j_istore (lv' := [some (.inr (.inr 483)), some (.inl x1), some (.inl x2), some (.inl x3), some (.inl r5), none, none, none, none, none, none]) d_X11_laysSides_94 (Nat.le_of_ble_eq_true rfl) rfl ?_
    refine j_iload_n rfl d_X11_laysSides_96 rfl ?_
    refine j_istore (lv' := [some (.inr (.inr 483)), some (.inl x1), some (.inl x2), some (.inl x3), some (.inl r5), some (.inl x2), none, none, none, none, none]) d_X11_laysSides_97 (Nat.le_of_ble_eq_true rfl) rfl ?_
    exact j_wk [true, true, false, true, true, true, false, false, false, false, false] rfl rfl (T_X11_laysSides_99 G x1 x3 r5 x2 M0)
  · refine j_aload_n rfl d_X11_laysSides_40 rfl ?_
    refine j_iload_n rfl d_X11_laysSides_41 rfl ?_
    refine j_iload d_X11_laysSides_42 rfl ?_
    refine j_bind (fun r27 h28 => ?_)
    refine j_callV (y := y_X11_point0) (I' := i_X11_point0) (avs := [.inl x1, .inl x4]) (c := 483) (st := []) (c_X11_point0 G x1 x4 M0 r27 h28) cs_Model_322 wd_1448 wd_1450 ws_73 tg_483 rfl rfl rfl (Nat.le_of_ble_eq_true rfl) ⟨rfl, rfl⟩ ⟨by decide, by decide⟩ ⟨by decide, by decide⟩ d_X11_laysSides_44 ?_
    refine j_if_lt (tgt := 80) d_X11_laysSides_47 (by decide) (fun h29 => ?_) (fun h29 => ?_)
    · exact j_wk [true, true, true, true, true, false, false, false, false, false, false] rfl rfl (T_X11_laysSides_80 G rec_29 x1 x2 x3 x4 M0 hrec_29)
    · refine j_aload_n rfl d_X11_laysSides_50 rfl ?_
      refine j_iload_n rfl d_X11_laysSides_51 rfl ?_
      refine j_iload_n rfl d_X11_laysSides_52 rfl ?_
      refine j_bind (fun r31 h32 => ?_)
      refine j_callV (y := y_X11_point0) (I' := i_X11_point0) (avs := [.inl x1, .inl x3]) (c := 483) (st := []) (c_X11_point0 G x1 x3 M0 r31 h32) cs_Model_322 wd_1448 wd_1450 ws_73 tg_483 rfl rfl rfl (Nat.le_of_ble_eq_true rfl) ⟨rfl, rfl⟩ ⟨by decide, by decide⟩ ⟨by decide, by decide⟩ d_X11_laysSides_53 ?_
      refine j_if_lt (tgt := 75) d_X11_laysSides_56 (by decide) (fun h33 => ?_) (fun h33 => ?_)
      · exact j_wk [true, true, true, false, true, false, false, false, false, false, false] rfl rfl (T_X11_laysSides_75 G rec_29 x1 x2 x4 M0 hrec_29)
      · refine j_aload_n rfl d_X11_laysSides_59 rfl ?_
        refine j_iload_n rfl d_X11_laysSides_60 rfl ?_
        refine j_iload d_X11_laysSides_61 rfl ?_
        refine j_bind (fun r34 h35 => ?_)
        refine j_callV (y := y_X11_point0) (I' := i_X11_point0) (avs := [.inl x1, .inl x4]) (c := 483) (st := []) (c_X11_point0 G x1 x4 M0 r34 h35) cs_Model_322 wd_1448 wd_1450 ws_73 tg_483 rfl rfl rfl (Nat.le_of_ble_eq_true rfl) ⟨rfl, rfl⟩ ⟨by decide, by decide⟩ ⟨by decide, by decide⟩ d_X11_laysSides_63 ?_
        refine j_aload_n rfl d_X11_laysSides_66 rfl ?_
        refine j_iload_n rfl d_X11_laysSides_67 rfl ?_
        refine j_iload_n rfl d_X11_laysSides_68 rfl ?_
        refine j_bind (fun r36 h37 => ?_)
        refine j_callV (y := y_X11_point0) (I' := i_X11_point0) (avs := [.inl x1, .inl x3]) (c := 483) (st := [.inl r34]) (c_X11_point0 G x1 x3 M0 r36 h37) cs_Model_322 wd_1448 wd_1450 ws_73 tg_483 rfl rfl rfl (Nat.le_of_ble_eq_true rfl) ⟨rfl, rfl⟩ ⟨by decide, by decide⟩ ⟨by decide, by decide⟩ d_X11_laysSides_69 ?_
        refine j_icmp_ge (tgt := 80) d_X11_laysSides_72 (by decide) (fun h38 => ?_) (fun h38 => ?_)
        · exact j_wk [true, true, true, true, true, false, false, false, false, false, false] rfl rfl (T_X11_laysSides_80 G rec_29 x1 x2 x3 x4 M0 hrec_29)
        · exact j_wk [true, true, true, false, true, false, false, false, false, false, false] rfl rfl (T_X11_laysSides_75 G rec_29 x1 x2 x4 M0 hrec_29)
def f_X11_laysSides_29 (x1 : Int) (x2 : Int) (x3 : Int) (x4 : Int) (M0 : tp_M) : Option (tp_M) := tp_lp (σ := Int × Int) (fun rec_ u => f_X11_laysSides_29B x1 x2 M0 (fun x3' x4' => rec_ (x3', x4')) u.1 u.2) tp_N (x3, x4)
set_option maxHeartbeats 4000000 in
set_option maxRecDepth 100000 in
theorem T_X11_laysSides_29 (G : tp_G) (x1 : Int) (x2 : Int) (x3 : Int) (x4 : Int) (M0 : tp_M) : tp_J i_X11_laysSides (tp_rm 5) G 0 0 o_X11_laysSides tp_NC (tp_st M0) 0 0 [some (.inr (.inr 483)), some (.inl x1), some (.inl x2), some (.inl x3), some (.inl x4), none, none, none, none, none, none] 29 [] (f_X11_laysSides_29 x1 x2 x3 x4 M0) := by
  unfold f_X11_laysSides_29
  exact j_lp (σ := Int × Int) (n' := fun _ => tp_NC) (g' := fun u => tp_st M0) (k' := fun _ => 0) (q' := fun _ => 0) (lv' := fun u => [some (.inr (.inr 483)), some (.inl x1), some (.inl x2), some (.inl u.1), some (.inl u.2), none, none, none, none, none, none]) (fun rec_ hrec u => T_X11_laysSides_29B G x1 x2 M0 (fun x3' x4' => rec_ (x3', x4')) (fun x3' x4' => hrec (x3', x4')) u.1 u.2) tp_N (x3, x4)
def f_X11_laysSides (a0 : Int) (M0 : tp_M) : Option (tp_M) :=
  if 0 ≤ a0 ∧ a0 < 40 then
    tp_mp (tp_up M0 499 a0 (M0 483 22)) fun M1 =>
    if 0 ≤ a0 ∧ a0 < 40 then
      tp_mp (tp_up M1 502 a0 0) fun M2 =>
      if 0 ≤ a0 ∧ a0 < 40 then
        tp_lt ((M2 501 a0)) fun y3 =>
        f_X11_laysSides_29 a0 y3 y3 y3 M2 else none else none else none
set_option maxHeartbeats 4000000 in
set_option maxRecDepth 100000 in
theorem T_X11_laysSides (G : tp_G) (a0 : Int) (M0 : tp_M) : tp_J i_X11_laysSides (tp_rm 5) G 0 0 o_X11_laysSides tp_NC (tp_st M0) 0 0 [some (.inr (.inr 483)), some (.inl a0), none, none, none, none, none, none, none, none, none] 0 [] (f_X11_laysSides a0 M0) := by
  unfold f_X11_laysSides
  refine j_aload_n rfl d_X11_laysSides_0 rfl ?_
  refine j_getr fl_Model_56 tg_483 rv_483_27 d_X11_laysSides_1 ?_
  refine j_iload_n rfl d_X11_laysSides_4 rfl ?_
  refine j_aload_n rfl d_X11_laysSides_5 rfl ?_
  refine j_geti fl_Model_325 tg_483 d_X11_laysSides_6 ?_
  refine j_iast tg_499 al_499 d_X11_laysSides_9 (fun M1 hM1 => ?_)
  refine j_aload_n rfl d_X11_laysSides_10 rfl ?_
  refine j_getr fl_Model_65 tg_483 rv_483_30 d_X11_laysSides_11 ?_
  refine j_iload_n rfl d_X11_laysSides_14 rfl ?_
  refine j_iconst ⟨by decide, by decide⟩ d_X11_laysSides_15 ?_
  refine j_iast tg_502 al_502 d_X11_laysSides_16 (fun M2 hM2 => ?_)
  refine j_aload_n rfl d_X11_laysSides_17 rfl ?_
  refine j_getr fl_Model_62 tg_483 rv_483_29 d_X11_laysSides_18 ?_
  refine j_iload_n rfl d_X11_laysSides_21 rfl ?_
  refine j_iald tg_501 al_501 d_X11_laysSides_22 ?_
  refine j_nmI (fun y3 hy3 => ?_)
  refine j_istore_n (lv' := [some (.inr (.inr 483)), some (.inl a0), some (.inl y3), none, none, none, none, none, none, none, none]) rfl d_X11_laysSides_23 (Nat.le_of_ble_eq_true rfl) rfl ?_
  refine j_iload_n rfl d_X11_laysSides_24 rfl ?_
  refine j_istore_n (lv' := [some (.inr (.inr 483)), some (.inl a0), some (.inl y3), some (.inl y3), none, none, none, none, none, none, none]) rfl d_X11_laysSides_25 (Nat.le_of_ble_eq_true rfl) rfl ?_
  refine j_iload_n rfl d_X11_laysSides_26 rfl ?_
  refine j_istore (lv' := [some (.inr (.inr 483)), some (.inl a0), some (.inl y3), some (.inl y3), some (.inl y3), none, none, none, none, none, none]) d_X11_laysSides_27 (Nat.le_of_ble_eq_true rfl) rfl ?_
  exact j_wk [true, true, true, true, true, false, false, false, false, false, false] rfl rfl (T_X11_laysSides_29 G a0 y3 y3 y3 M2)
set_option maxHeartbeats 4000000 in
set_option maxRecDepth 100000 in
theorem c_X11_laysSides (G : tp_G) (a0 : Int) (M0 : tp_M) (r : tp_M) (h : f_X11_laysSides a0 M0 = some r) (l : Launch) : Met l y_X11_laysSides (tp_ws y_X11_laysSides i_X11_laysSides) (tp_rm 5) (tp_Pc G [.inr (.inr 483), .inl a0] tp_NC (tp_st M0)) (tp_Q G (o_X11_laysSides r)) 0 0 (tp_A G) :=
  tp_met (I := i_X11_laysSides) (y := y_X11_laysSides) (by decide +kernel) (Eq.refl "TypesAtPrimeModel") (Eq.refl "laysSides") (lv := [some (.inr (.inr 483)), some (.inl a0), none, none, none, none, none, none, none, none, none]) rfl (Nat.le_of_ble_eq_true rfl) (T_X11_laysSides G a0 M0) h l
