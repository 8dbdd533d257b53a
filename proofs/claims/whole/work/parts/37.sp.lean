theorem pf_4_0 (v : Int) : ∀ (C : String) (T : u_T) (N : Nat), vwCl[4]? = some (C, T, N) → (T 0).2.2.2 = false ∧ ∀ G : tp_G, ∃ ty, parseFieldDescriptor (T 0).2.2.1 = some ty ∧ narrow ty (tp_enc G (tp_zv 0 v)) = tp_enc G (tp_zv 0 v) ∧ fits ty (tp_enc G (tp_zv 0 v)) = true := by
  intro C T N h
  cases h
  exact ⟨rfl, fun G => ⟨_, tyX4_ok 0 (by decide), rfl, rfl⟩⟩
theorem pt_4 : ∃ ty0 : Nat → FieldType, ∀ (C : String) (T : u_T) (N : Nat), vwCl[4]? = some (C, T, N) → (∀ k, k < N → parseFieldDescriptor (T k).2.2.1 = some (ty0 k)) ∧ ∀ a, a < N → ∀ b, b < N → a ≠ b → (T a).2.1 ≠ (T b).2.1 := ⟨tyX4, fun C T N h => by cases h; exact ⟨tyX4_ok, nmX4⟩⟩
theorem pf_4_1 (v : Int) : ∀ (C : String) (T : u_T) (N : Nat), vwCl[4]? = some (C, T, N) → (T 1).2.2.2 = false ∧ ∀ G : tp_G, ∃ ty, parseFieldDescriptor (T 1).2.2.1 = some ty ∧ narrow ty (tp_enc G (tp_zv 0 v)) = tp_enc G (tp_zv 0 v) ∧ fits ty (tp_enc G (tp_zv 0 v)) = true := by
  intro C T N h
  cases h
  exact ⟨rfl, fun G => ⟨_, tyX4_ok 1 (by decide), rfl, rfl⟩⟩
theorem pf_4_2 (v : Int) : ∀ (C : String) (T : u_T) (N : Nat), vwCl[4]? = some (C, T, N) → (T 2).2.2.2 = false ∧ ∀ G : tp_G, ∃ ty, parseFieldDescriptor (T 2).2.2.1 = some ty ∧ narrow ty (tp_enc G (tp_zv 1 v)) = tp_enc G (tp_zv 1 v) ∧ fits ty (tp_enc G (tp_zv 1 v)) = true := by
  intro C T N h
  cases h
  exact ⟨rfl, fun G => ⟨_, tyX4_ok 2 (by decide), rfl, rfl⟩⟩
def y_X4_choose : MethodName := ⟨"TypesAtPrime$Numbers", "choose", "(I)Z"⟩
abbrev i_X4_choose : tp_I := (prog_6_method_2_code, "TypesAtPrime$Numbers", (some .boolean), 4, "choose")
abbrev o_X4_choose : Int × tp_M → tp_O := fun r => (some (.inl r.1), tp_NC, tp_st r.2)
theorem d_X4_choose_0 : decode prog_6_method_2_code 0 = .ok (.iconst 0, 1) := by decide +kernel
theorem d_X4_choose_1 : decode prog_6_method_2_code 1 = .ok (.istore_n 2, 1) := by decide +kernel
theorem d_X4_choose_2 : decode prog_6_method_2_code 2 = .ok (.iload_n 2, 1) := by decide +kernel
theorem d_X4_choose_3 : decode prog_6_method_2_code 3 = .ok (.getstatic 22, 3) := by decide +kernel
theorem d_X4_choose_6 : decode prog_6_method_2_code 6 = .ok (.arraylength, 1) := by decide +kernel
theorem d_X4_choose_7 : decode prog_6_method_2_code 7 = .ok (.if_icmp .ge 74, 3) := by decide +kernel
theorem d_X4_choose_10 : decode prog_6_method_2_code 10 = .ok (.iload_n 2, 1) := by decide +kernel
theorem d_X4_choose_11 : decode prog_6_method_2_code 11 = .ok (.getstatic 28, 3) := by decide +kernel
theorem d_X4_choose_14 : decode prog_6_method_2_code 14 = .ok (.arraylength, 1) := by decide +kernel
theorem d_X4_choose_15 : decode prog_6_method_2_code 15 = .ok (.if_icmp .ge 66, 3) := by decide +kernel
theorem d_X4_choose_18 : decode prog_6_method_2_code 18 = .ok (.getstatic 22, 3) := by decide +kernel
theorem d_X4_choose_21 : decode prog_6_method_2_code 21 = .ok (.iload_n 2, 1) := by decide +kernel
theorem d_X4_choose_22 : decode prog_6_method_2_code 22 = .ok (.iaload, 1) := by decide +kernel
theorem d_X4_choose_23 : decode prog_6_method_2_code 23 = .ok (.iload_n 1, 1) := by decide +kernel
theorem d_X4_choose_24 : decode prog_6_method_2_code 24 = .ok (.if_icmp .ne 51, 3) := by decide +kernel
theorem d_X4_choose_27 : decode prog_6_method_2_code 27 = .ok (.aload_n 0, 1) := by decide +kernel
theorem d_X4_choose_28 : decode prog_6_method_2_code 28 = .ok (.iload_n 1, 1) := by decide +kernel
theorem d_X4_choose_29 : decode prog_6_method_2_code 29 = .ok (.putfield 7, 3) := by decide +kernel
theorem d_X4_choose_32 : decode prog_6_method_2_code 32 = .ok (.aload_n 0, 1) := by decide +kernel
theorem d_X4_choose_33 : decode prog_6_method_2_code 33 = .ok (.getstatic 28, 3) := by decide +kernel
theorem d_X4_choose_36 : decode prog_6_method_2_code 36 = .ok (.iload_n 2, 1) := by decide +kernel
theorem d_X4_choose_37 : decode prog_6_method_2_code 37 = .ok (.iaload, 1) := by decide +kernel
theorem d_X4_choose_38 : decode prog_6_method_2_code 38 = .ok (.putfield 13, 3) := by decide +kernel
theorem d_X4_choose_41 : decode prog_6_method_2_code 41 = .ok (.aload_n 0, 1) := by decide +kernel
theorem d_X4_choose_42 : decode prog_6_method_2_code 42 = .ok (.lconst 1, 1) := by decide +kernel
theorem d_X4_choose_43 : decode prog_6_method_2_code 43 = .ok (.putfield 18, 3) := by decide +kernel
theorem d_X4_choose_46 : decode prog_6_method_2_code 46 = .ok (.iconst 0, 1) := by decide +kernel
theorem d_X4_choose_47 : decode prog_6_method_2_code 47 = .ok (.istore_n 3, 1) := by decide +kernel
theorem d_X4_choose_48 : decode prog_6_method_2_code 48 = .ok (.iload_n 3, 1) := by decide +kernel
theorem d_X4_choose_49 : decode prog_6_method_2_code 49 = .ok (.aload_n 0, 1) := by decide +kernel
theorem d_X4_choose_50 : decode prog_6_method_2_code 50 = .ok (.getfield 13, 3) := by decide +kernel
theorem d_X4_choose_53 : decode prog_6_method_2_code 53 = .ok (.if_icmp .ge 20, 3) := by decide +kernel
theorem d_X4_choose_56 : decode prog_6_method_2_code 56 = .ok (.aload_n 0, 1) := by decide +kernel
theorem d_X4_choose_57 : decode prog_6_method_2_code 57 = .ok (.dup, 1) := by decide +kernel
theorem d_X4_choose_58 : decode prog_6_method_2_code 58 = .ok (.getfield 18, 3) := by decide +kernel
theorem d_X4_choose_61 : decode prog_6_method_2_code 61 = .ok (.iload_n 1, 1) := by decide +kernel
theorem d_X4_choose_62 : decode prog_6_method_2_code 62 = .ok (.i2l, 1) := by decide +kernel
theorem d_X4_choose_63 : decode prog_6_method_2_code 63 = .ok (.lmul, 1) := by decide +kernel
theorem d_X4_choose_64 : decode prog_6_method_2_code 64 = .ok (.putfield 18, 3) := by decide +kernel
theorem d_X4_choose_67 : decode prog_6_method_2_code 67 = .ok (.iinc 3 1, 3) := by decide +kernel
theorem d_X4_choose_70 : decode prog_6_method_2_code 70 = .ok (.goto (-22), 3) := by decide +kernel
theorem d_X4_choose_73 : decode prog_6_method_2_code 73 = .ok (.iconst 1, 1) := by decide +kernel
theorem d_X4_choose_74 : decode prog_6_method_2_code 74 = .ok (.ireturn, 1) := by decide +kernel
theorem d_X4_choose_75 : decode prog_6_method_2_code 75 = .ok (.iinc 2 1, 3) := by decide +kernel
theorem d_X4_choose_78 : decode prog_6_method_2_code 78 = .ok (.goto (-76), 3) := by decide +kernel
theorem d_X4_choose_81 : decode prog_6_method_2_code 81 = .ok (.iconst 0, 1) := by decide +kernel
theorem d_X4_choose_82 : decode prog_6_method_2_code 82 = .ok (.ireturn, 1) := by decide +kernel
def f_X4_choose_48B (rec_2 : Int → tp_M → Option (Int × tp_M)) (x1 : Int) (rec_48 : Int → tp_M → Option (Int × tp_M)) (x3 : Int) (M0 : tp_M) : Option (Int × tp_M) :=
  if (M0 1 1) ≤ x3 then
    some (1, M0)
  else
    tp_mp (tp_up M0 1 2 (tp_wl ((M0 1 2) * x1))) fun M9 =>
    tp_lt (tp_w (x3 + 1)) fun y10 =>
    rec_48 y10 M9
set_option maxHeartbeats 4000000 in
set_option maxRecDepth 100000 in
theorem T_X4_choose_48B (G : tp_G) (rec_2 : Int → tp_M → Option (Int × tp_M)) (x1 : Int) (hrec_2 : ∀ (x2' : Int) (M' : tp_M), tp_J i_X4_choose (tp_rm 0) G 0 0 o_X4_choose tp_NC (tp_st M') 0 0 [some (.inr (.inr 1)), some (.inl x1), some (.inl (x2')), none] 2 [] (rec_2 x2' M')) (rec_48 : Int → tp_M → Option (Int × tp_M)) (hrec_48 : ∀ (x3' : Int) (M' : tp_M), tp_J i_X4_choose (tp_rm 0) G 0 0 o_X4_choose tp_NC (tp_st M') 0 0 [some (.inr (.inr 1)), some (.inl x1), none, some (.inl (x3'))] 48 [] (rec_48 x3' M')) (x3 : Int) (M0 : tp_M) : tp_J i_X4_choose (tp_rm 0) G 0 0 o_X4_choose tp_NC (tp_st M0) 0 0 [some (.inr (.inr 1)), some (.inl x1), none, some (.inl x3)] 48 [] (f_X4_choose_48B rec_2 x1 rec_48 x3 M0) := by
  unfold f_X4_choose_48B
  refine j_iload_n rfl d_X4_choose_48 rfl ?_
  refine j_aload_n rfl d_X4_choose_49 rfl ?_
  refine j_geti fl_Numbers_13 tg_1 d_X4_choose_50 ?_
  refine j_icmp_ge (tgt := 73) d_X4_choose_53 (by decide) (fun h8 => ?_) (fun h8 => ?_)
  · refine j_iconst ⟨by decide, by decide⟩ d_X4_choose_73 ?_
    exact j_zret d_X4_choose_74 rfl (Or.inr rfl) rfl ⟨rfl, rfl⟩
  · refine j_aload_n rfl d_X4_choose_56 rfl ?_
    refine j_dup d_X4_choose_57 (fun G => tp_cat G _) ?_
    refine j_getl fl_Numbers_18 tg_1 d_X4_choose_58 ?_
    refine j_iload_n rfl d_X4_choose_61 rfl ?_
    refine j_i2l d_X4_choose_62 ?_
    refine j_lmul d_X4_choose_63 ?_
    refine j_put (z := 1) (v := (tp_wl ((M0 1 2) * x1))) fl_Numbers_18 (by decide) tg_1 (pf_4_2 _) pt_4 d_X4_choose_64 (fun M9 hM9 => ?_)
    refine j_iincN (lv' := fun y10 => [some (.inr (.inr 1)), some (.inl x1), none, some (.inl y10)]) d_X4_choose_67 rfl (Nat.le_of_ble_eq_true rfl) (fun _ => rfl) (fun y10 hy10 => ?_)
    refine j_goto (tgt := 48) d_X4_choose_70 (by decide) ?_
    exact j_wk [true, true, false, true] rfl rfl (hrec_48 y10 M9)
def f_X4_choose_48 (rec_2 : Int → tp_M → Option (Int × tp_M)) (x1 : Int) (x3 : Int) (M0 : tp_M) : Option (Int × tp_M) := tp_lp (σ := Int × tp_M) (fun rec_ u => f_X4_choose_48B rec_2 x1 (fun x3' M0' => rec_ (x3', M0')) u.1 u.2) tp_N (x3, M0)
set_option maxHeartbeats 4000000 in
set_option maxRecDepth 100000 in
theorem T_X4_choose_48 (G : tp_G) (rec_2 : Int → tp_M → Option (Int × tp_M)) (x1 : Int) (x3 : Int) (M0 : tp_M) (hrec_2 : ∀ (x2' : Int) (M' : tp_M), tp_J i_X4_choose (tp_rm 0) G 0 0 o_X4_choose tp_NC (tp_st M') 0 0 [some (.inr (.inr 1)), some (.inl x1), some (.inl (x2')), none] 2 [] (rec_2 x2' M')) : tp_J i_X4_choose (tp_rm 0) G 0 0 o_X4_choose tp_NC (tp_st M0) 0 0 [some (.inr (.inr 1)), some (.inl x1), none, some (.inl x3)] 48 [] (f_X4_choose_48 rec_2 x1 x3 M0) := by
  unfold f_X4_choose_48
  exact j_lp (σ := Int × tp_M) (n' := fun _ => tp_NC) (g' := fun u => tp_st u.2) (k' := fun _ => 0) (q' := fun _ => 0) (lv' := fun u => [some (.inr (.inr 1)), some (.inl x1), none, some (.inl u.1)]) (fun rec_ hrec u => T_X4_choose_48B G rec_2 x1 hrec_2 (fun x3' M0' => rec_ (x3', M0')) (fun x3' M0' => hrec (x3', M0')) u.1 u.2) tp_N (x3, M0)
def f_X4_choose_2B (x1 : Int) (rec_2 : Int → tp_M → Option (Int × tp_M)) (x2 : Int) (M0 : tp_M) : Option (Int × tp_M) :=
  if 4 ≤ x2 then
    some (0, M0)
  else
    if 4 ≤ x2 then
      some (0, M0)
    else
      if 0 ≤ x2 ∧ x2 < 4 then
        if ¬ (tp_primes.getD (x2).toNat 0) = x1 then
          tp_lt (tp_w (x2 + 1)) fun y4 =>
          rec_2 y4 M0
        else
          tp_mp (tp_up M0 1 0 x1) fun M5 =>
          if 0 ≤ x2 ∧ x2 < 4 then
            tp_mp (tp_up M5 1 1 (tp_limits.getD (x2).toNat 0)) fun M6 =>
            tp_mp (tp_up M6 1 2 1) fun M7 =>
            f_X4_choose_48 rec_2 x1 0 M7 else none else none
set_option maxHeartbeats 4000000 in
set_option maxRecDepth 100000 in
theorem T_X4_choose_2B (G : tp_G) (x1 : Int) (rec_2 : Int → tp_M → Option (Int × tp_M)) (hrec_2 : ∀ (x2' : Int) (M' : tp_M), tp_J i_X4_choose (tp_rm 0) G 0 0 o_X4_choose tp_NC (tp_st M') 0 0 [some (.inr (.inr 1)), some (.inl x1), some (.inl (x2')), none] 2 [] (rec_2 x2' M')) (x2 : Int) (M0 : tp_M) : tp_J i_X4_choose (tp_rm 0) G 0 0 o_X4_choose tp_NC (tp_st M0) 0 0 [some (.inr (.inr 1)), some (.inl x1), some (.inl x2), none] 2 [] (f_X4_choose_2B x1 rec_2 x2 M0) := by
  unfold f_X4_choose_2B
  refine j_iload_n rfl d_X4_choose_2 rfl ?_
  refine j_gstN (v := .inr (.inr (-2))) (fun s h => h.1.1) trivial (by decide +kernel : (.fieldLinkNest "TypesAtPrime$Numbers" 22 "TypesAtPrime" "PRIMES" "[I" "TypesAtPrime" : Cond) ∈ tp_nest) d_X4_choose_3 ?_
  refine j_xlenN (e := 0) (N := 4) (fun s h => tp_primesT s h) rfl (by decide) rfl d_X4_choose_6 ?_
  refine j_icmp_ge (tgt := 81) d_X4_choose_7 (by decide) (fun h1 => ?_) (fun h1 => ?_)
  · refine j_iconst ⟨by decide, by decide⟩ d_X4_choose_81 ?_
    exact j_zret d_X4_choose_82 rfl (Or.inl rfl) rfl ⟨rfl, rfl⟩
  · refine j_iload_n rfl d_X4_choose_10 rfl ?_
    refine j_gstN (v := .inr (.inr (-3))) (fun s h => h.2.1.1) trivial (by decide +kernel : (.fieldLinkNest "TypesAtPrime$Numbers" 28 "TypesAtPrime" "LIMITS" "[I" "TypesAtPrime" : Cond) ∈ tp_nest) d_X4_choose_11 ?_
    refine j_xlenN (e := 1) (N := 4) (fun s h => tp_limitsT s h) rfl (by decide) rfl d_X4_choose_14 ?_
    refine j_icmp_ge (tgt := 81) d_X4_choose_15 (by decide) (fun h2 => ?_) (fun h2 => ?_)
    · refine j_iconst ⟨by decide, by decide⟩ d_X4_choose_81 ?_
      exact j_zret d_X4_choose_82 rfl (Or.inl rfl) rfl ⟨rfl, rfl⟩
    · refine j_gstN (v := .inr (.inr (-2))) (fun s h => h.1.1) trivial (by decide +kernel : (.fieldLinkNest "TypesAtPrime$Numbers" 22 "TypesAtPrime" "PRIMES" "[I" "TypesAtPrime" : Cond) ∈ tp_nest) d_X4_choose_18 ?_
      refine j_iload_n rfl d_X4_choose_21 rfl ?_
      refine j_xialdN (e := 0) (N := 4) (xs := tp_primes) (fun s h => tp_primesT s h) rfl (tp_lr (by decide +kernel)) rfl d_X4_choose_22 ?_
      refine j_iload_n rfl d_X4_choose_23 rfl ?_
      refine j_icmp_ne (tgt := 75) d_X4_choose_24 (by decide) (fun h3 => ?_) (fun h3 => ?_)
      · refine j_iincN (lv' := fun y4 => [some (.inr (.inr 1)), some (.inl x1), some (.inl y4), none]) d_X4_choose_75 rfl (Nat.le_of_ble_eq_true rfl) (fun _ => rfl) (fun y4 hy4 => ?_)
        refine j_goto (tgt := 2) d_X4_choose_78 (by decide) ?_
        exact j_wk [true, true, true, false] rfl rfl (hrec_2 y4 M0)
      · refine j_aload_n rfl d_X4_choose_27 rfl ?_
        refine j_iload_n rfl d_X4_choose_28 rfl ?_
        refine j_put (z := 0) (v := x1) fl_Numbers_7 (by decide) tg_1 (pf_4_0 _) pt_4 d_X4_choose_29 (fun M5 hM5 => ?_)
        refine j_aload_n rfl d_X4_choose_32 rfl ?_
        refine j_gstN (v := .inr (.inr (-3))) (fun s h => h.2.1.1) trivial (by decide +kernel : (.fieldLinkNest "TypesAtPrime$Numbers" 28 "TypesAtPrime" "LIMITS" "[I" "TypesAtPrime" : Cond) ∈ tp_nest) d_X4_choose_33 ?_
        refine j_iload_n rfl d_X4_choose_36 rfl ?_
        refine j_xialdN (e := 1) (N := 4) (xs := tp_limits) (fun s h => tp_limitsT s h) rfl (tp_lr (by decide +kernel)) rfl d_X4_choose_37 ?_
        refine j_put (z := 0) (v := (tp_limits.getD (x2).toNat 0)) fl_Numbers_13 (by decide) tg_1 (pf_4_1 _) pt_4 d_X4_choose_38 (fun M6 hM6 => ?_)
        refine j_aload_n rfl d_X4_choose_41 rfl ?_
        refine j_lconst (x := 1) ⟨by decide, by decide⟩ (by decide +kernel) d_X4_choose_42 ?_
        refine j_put (z := 1) (v := 1) fl_Numbers_18 (by decide) tg_1 (pf_4_2 _) pt_4 d_X4_choose_43 (fun M7 hM7 => ?_)
        refine j_iconst ⟨by decide, by decide⟩ d_X4_choose_46 ?_
        refine j_istore_n (lv' := [some (.inr (.inr 1)), some (.inl x1), some (.inl x2), some (.inl 0)]) rfl d_X4_choose_47 (Nat.le_of_ble_eq_true rfl) rfl ?_
        exact j_wk [true, true, false, true] rfl rfl (T_X4_choose_48 G rec_2 x1 0 M7 hrec_2)
def f_X4_choose_2 (x1 : Int) (x2 : Int) (M0 : tp_M) : Option (Int × tp_M) := tp_lp (σ := Int × tp_M) (fun rec_ u => f_X4_choose_2B x1 (fun x2' M0' => rec_ (x2', M0')) u.1 u.2) tp_N (x2, M0)
set_option maxHeartbeats 4000000 in
set_option maxRecDepth 100000 in
theorem T_X4_choose_2 (G : tp_G) (x1 : Int) (x2 : Int) (M0 : tp_M) : tp_J i_X4_choose (tp_rm 0) G 0 0 o_X4_choose tp_NC (tp_st M0) 0 0 [some (.inr (.inr 1)), some (.inl x1), some (.inl x2), none] 2 [] (f_X4_choose_2 x1 x2 M0) := by
  unfold f_X4_choose_2
  exact j_lp (σ := Int × tp_M) (n' := fun _ => tp_NC) (g' := fun u => tp_st u.2) (k' := fun _ => 0) (q' := fun _ => 0) (lv' := fun u => [some (.inr (.inr 1)), some (.inl x1), some (.inl u.1), none]) (fun rec_ hrec u => T_X4_choose_2B G x1 (fun x2' M0' => rec_ (x2', M0')) (fun x2' M0' => hrec (x2', M0')) u.1 u.2) tp_N (x2, M0)
def f_X4_choose (a0 : Int) (M0 : tp_M) : Option (Int × tp_M) :=
  f_X4_choose_2 a0 0 M0
set_option maxHeartbeats 4000000 in
set_option maxRecDepth 100000 in
theorem T_X4_choose (G : tp_G) (a0 : Int) (M0 : tp_M) : tp_J i_X4_choose (tp_rm 0) G 0 0 o_X4_choose tp_NC (tp_st M0) 0 0 [some (.inr (.inr 1)), some (.inl a0), none, none] 0 [] (f_X4_choose a0 M0) := by
  unfold f_X4_choose
  refine j_iconst ⟨by decide, by decide⟩ d_X4_choose_0 ?_
  refine j_istore_n (lv' := [some (.inr (.inr 1)), some (.inl a0), some (.inl 0), none]) rfl d_X4_choose_1 (Nat.le_of_ble_eq_true rfl) rfl ?_
  exact j_wk [true, true, true, false] rfl rfl (T_X4_choose_2 G a0 0 M0)
set_option maxHeartbeats 4000000 in
set_option maxRecDepth 100000 in
theorem c_X4_choose (G : tp_G) (a0 : Int) (M0 : tp_M) (r : Int × tp_M) (h : f_X4_choose a0 M0 = some r) (l : Launch) : Met l y_X4_choose (tp_ws y_X4_choose i_X4_choose) (tp_rm 0) (tp_Pc G [.inr (.inr 1), .inl a0] tp_NC (tp_st M0)) (tp_Q G (o_X4_choose r)) 0 0 (tp_A G) :=
  tp_met (I := i_X4_choose) (y := y_X4_choose) (by decide +kernel) (Eq.refl "TypesAtPrime$Numbers") (Eq.refl "choose") (lv := [some (.inr (.inr 1)), some (.inl a0), none, none]) rfl (Nat.le_of_ble_eq_true rfl) (T_X4_choose G a0 M0) h l
def y_X10_word : MethodName := ⟨"TypesAtPrime", "word", "(I)Ljava/lang/String;"⟩
abbrev i_X10_word : tp_I := (prog_1_method_42_code, "TypesAtPrime", (some (.object "java/lang/String")), 1, "word")
abbrev o_X10_word (M : tp_M) : Int → tp_O := fun r => (some (.inr (.inr r)), tp_NC, tp_st M)
theorem d_X10_word_0 : decode prog_1_method_42_code 0 = .ok (.iload_n 0, 1) := by decide +kernel
theorem d_X10_word_1 : decode prog_1_method_42_code 1 = .ok (.tableswitch 79 0 7 #[47, 51, 55, 59, 63, 67, 71, 75], 47) := by decide +kernel
theorem d_X10_word_48 : decode prog_1_method_42_code 48 = .ok (.ldc_w 349, 3) := by decide +kernel
theorem d_X10_word_51 : decode prog_1_method_42_code 51 = .ok (.areturn, 1) := by decide +kernel
theorem d_X10_word_52 : decode prog_1_method_42_code 52 = .ok (.ldc_w 351, 3) := by decide +kernel
theorem d_X10_word_55 : decode prog_1_method_42_code 55 = .ok (.areturn, 1) := by decide +kernel
theorem d_X10_word_56 : decode prog_1_method_42_code 56 = .ok (.ldc_w 353, 3) := by decide +kernel
theorem d_X10_word_59 : decode prog_1_method_42_code 59 = .ok (.areturn, 1) := by decide +kernel
theorem d_X10_word_60 : decode prog_1_method_42_code 60 = .ok (.ldc_w 354, 3) := by decide +kernel
theorem d_X10_word_63 : decode prog_1_method_42_code 63 = .ok (.areturn, 1) := by decide +kernel
theorem d_X10_word_64 : decode prog_1_method_42_code 64 = .ok (.ldc_w 356, 3) := by decide +kernel
theorem d_X10_word_67 : decode prog_1_method_42_code 67 = .ok (.areturn, 1) := by decide +kernel
theorem d_X10_word_68 : decode prog_1_method_42_code 68 = .ok (.ldc_w 358, 3) := by decide +kernel
theorem d_X10_word_71 : decode prog_1_method_42_code 71 = .ok (.areturn, 1) := by decide +kernel
theorem d_X10_word_72 : decode prog_1_method_42_code 72 = .ok (.ldc_w 360, 3) := by decide +kernel
theorem d_X10_word_75 : decode prog_1_method_42_code 75 = .ok (.areturn, 1) := by decide +kernel
theorem d_X10_word_76 : decode prog_1_method_42_code 76 = .ok (.ldc_w 361, 3) := by decide +kernel
theorem d_X10_word_79 : decode prog_1_method_42_code 79 = .ok (.areturn, 1) := by decide +kernel
theorem d_X10_word_80 : decode prog_1_method_42_code 80 = .ok (.ldc_w 362, 3) := by decide +kernel
theorem d_X10_word_83 : decode prog_1_method_42_code 83 = .ok (.areturn, 1) := by decide +kernel
def f_X10_word (a0 : Int) (M0 : tp_M) : Option (Int) :=
  if a0 = 0 then
    some (-4)
  else if a0 = 1 then
    some (-5)
  else if a0 = 2 then
    some (-6)
  else if a0 = 3 then
    some (-7)
  else if a0 = 4 then
    some (-8)
  else if a0 = 5 then
    some (-9)
  else if a0 = 6 then
    some (-10)
  else if a0 = 7 then
    some (-11)
  else 
    some (-12)
set_option maxHeartbeats 4000000 in
set_option maxRecDepth 100000 in
theorem T_X10_word (G : tp_G) (a0 : Int) (M0 : tp_M) : tp_J i_X10_word (tp_rm 0) G 0 0 (o_X10_word M0) tp_NC (tp_st M0) 0 0 [some (.inl a0)] 0 [] (f_X10_word a0 M0) := by
  unfold f_X10_word
  refine j_iload_n rfl d_X10_word_0 rfl ?_
  refine tp_ite (fun h1 => ?_) (fun h1 => ?_)
  · refine j_tsin (tgt := 48) d_X10_word_1 (by omega) (by omega) (off := 47) (by rw [h1]; decide +kernel) (by decide) ?_
    refine j_ldcS (i := 0) (by decide) rfl rfl d_X10_word_48 ?_
    exact j_aret d_X10_word_51 rfl (Or.inl ⟨_, rfl⟩) rfl ⟨rfl, rfl⟩
  refine tp_ite (fun h2 => ?_) (fun h2 => ?_)
  · refine j_tsin (tgt := 52) d_X10_word_1 (by omega) (by omega) (off := 51) (by rw [h2]; decide +kernel) (by decide) ?_
    refine j_ldcS (i := 1) (by decide) rfl rfl d_X10_word_52 ?_
    exact j_aret d_X10_word_55 rfl (Or.inl ⟨_, rfl⟩) rfl ⟨rfl, rfl⟩
  refine tp_ite (fun h3 => ?_) (fun h3 => ?_)
  · refine j_tsin (tgt := 56) d_X10_word_1 (by omega) (by omega) (off := 55) (by rw [h3]; decide +kernel) (by decide) ?_
    refine j_ldcS (i := 2) (by decide) rfl rfl d_X10_word_56 ?_
    exact j_aret d_X10_word_59 rfl (Or.inl ⟨_, rfl⟩) rfl ⟨rfl, rfl⟩
  refine tp_ite (fun h4 => ?_) (fun h4 => ?_)
  · refine j_tsin (tgt := 60) d_X10_word_1 (by omega) (by omega) (off := 59) (by rw [h4]; decide +kernel) (by decide) ?_
    refine j_ldcS (i := 3) (by decide) rfl rfl d_X10_word_60 ?_
    exact j_aret d_X10_word_63 rfl (Or.inl ⟨_, rfl⟩) rfl ⟨rfl, rfl⟩
  refine tp_ite (fun h5 => ?_) (fun h5 => ?_)
  · refine j_tsin (tgt := 64) d_X10_word_1 (by omega) (by omega) (off := 63) (by rw [h5]; decide +kernel) (by decide) ?_
    refine j_ldcS (i := 4) (by decide) rfl rfl d_X10_word_64 ?_
    exact j_aret d_X10_word_67 rfl (Or.inl ⟨_, rfl⟩) rfl ⟨rfl, rfl⟩
  refine tp_ite (fun h6 => ?_) (fun h6 => ?_)
  · refine j_tsin (tgt := 68) d_X10_word_1 (by omega) (by omega) (off := 67) (by rw [h6]; decide +kernel) (by decide) ?_
    refine j_ldcS (i := 5) (by decide) rfl rfl d_X10_word_68 ?_
    exact j_aret d_X10_word_71 rfl (Or.inl ⟨_, rfl⟩) rfl ⟨rfl, rfl⟩
  refine tp_ite (fun h7 => ?_) (fun h7 => ?_)
  · refine j_tsin (tgt := 72) d_X10_word_1 (by omega) (by omega) (off := 71) (by rw [h7]; decide +kernel) (by decide) ?_
    refine j_ldcS (i := 6) (by decide) rfl rfl d_X10_word_72 ?_
    exact j_aret d_X10_word_75 rfl (Or.inl ⟨_, rfl⟩) rfl ⟨rfl, rfl⟩
  refine tp_ite (fun h8 => ?_) (fun h8 => ?_)
  · refine j_tsin (tgt := 76) d_X10_word_1 (by omega) (by omega) (off := 75) (by rw [h8]; decide +kernel) (by decide) ?_
    refine j_ldcS (i := 7) (by decide) rfl rfl d_X10_word_76 ?_
    exact j_aret d_X10_word_79 rfl (Or.inl ⟨_, rfl⟩) rfl ⟨rfl, rfl⟩
  refine j_tsout (tgt := 80) d_X10_word_1 (by omega) (by decide) ?_
  refine j_ldcS (i := 8) (by decide) rfl rfl d_X10_word_80 ?_
  exact j_aret d_X10_word_83 rfl (Or.inl ⟨_, rfl⟩) rfl ⟨rfl, rfl⟩
set_option maxHeartbeats 4000000 in
set_option maxRecDepth 100000 in
theorem c_X10_word (G : tp_G) (a0 : Int) (M0 : tp_M) (r : Int) (h : f_X10_word a0 M0 = some r) (l : Launch) : Met l y_X10_word (tp_ws y_X10_word i_X10_word) (tp_rm 0) (tp_Pc G [.inl a0] tp_NC (tp_st M0)) (tp_Q G ((o_X10_word M0) r)) 0 0 (tp_A G) :=
  tp_met (I := i_X10_word) (y := y_X10_word) (by decide +kernel) (Eq.refl "TypesAtPrime") (Eq.refl "word") (lv := [some (.inl a0)]) rfl (Nat.le_of_ble_eq_true rfl) (T_X10_word G a0 M0) h l
def y_X10_tapeSays : MethodName := ⟨"TypesAtPrime", "tapeSays", "(Ljava/lang/String;)Z"⟩
abbrev i_X10_tapeSays : tp_I := (prog_1_method_43_code, "TypesAtPrime", (some .boolean), 3, "tapeSays")
abbrev o_X10_tapeSays (M : tp_M) : Int → tp_O := fun r => (some (.inl r), tp_NC, tp_st M)
theorem d_X10_tapeSays_0 : decode prog_1_method_43_code 0 = .ok (.aload_n 1, 1) := by decide +kernel
theorem d_X10_tapeSays_1 : decode prog_1_method_43_code 1 = .ok (.invokevirtual 363, 3) := by decide +kernel
theorem d_X10_tapeSays_4 : decode prog_1_method_43_code 4 = .ok (.aload_n 0, 1) := by decide +kernel
theorem d_X10_tapeSays_5 : decode prog_1_method_43_code 5 = .ok (.getfield 86, 3) := by decide +kernel
theorem d_X10_tapeSays_8 : decode prog_1_method_43_code 8 = .ok (.if_icmp .ne 15, 3) := by decide +kernel
theorem d_X10_tapeSays_11 : decode prog_1_method_43_code 11 = .ok (.aload_n 0, 1) := by decide +kernel
theorem d_X10_tapeSays_12 : decode prog_1_method_43_code 12 = .ok (.getfield 86, 3) := by decide +kernel
theorem d_X10_tapeSays_15 : decode prog_1_method_43_code 15 = .ok (.aload_n 0, 1) := by decide +kernel
theorem d_X10_tapeSays_16 : decode prog_1_method_43_code 16 = .ok (.getfield 18, 3) := by decide +kernel
theorem d_X10_tapeSays_19 : decode prog_1_method_43_code 19 = .ok (.arraylength, 1) := by decide +kernel
theorem d_X10_tapeSays_20 : decode prog_1_method_43_code 20 = .ok (.if_icmp .le 5, 3) := by decide +kernel
theorem d_X10_tapeSays_23 : decode prog_1_method_43_code 23 = .ok (.iconst 0, 1) := by decide +kernel
theorem d_X10_tapeSays_24 : decode prog_1_method_43_code 24 = .ok (.ireturn, 1) := by decide +kernel
theorem d_X10_tapeSays_25 : decode prog_1_method_43_code 25 = .ok (.iconst 0, 1) := by decide +kernel
theorem d_X10_tapeSays_26 : decode prog_1_method_43_code 26 = .ok (.istore_n 2, 1) := by decide +kernel
theorem d_X10_tapeSays_27 : decode prog_1_method_43_code 27 = .ok (.iload_n 2, 1) := by decide +kernel
theorem d_X10_tapeSays_28 : decode prog_1_method_43_code 28 = .ok (.aload_n 0, 1) := by decide +kernel
theorem d_X10_tapeSays_29 : decode prog_1_method_43_code 29 = .ok (.getfield 86, 3) := by decide +kernel
theorem d_X10_tapeSays_32 : decode prog_1_method_43_code 32 = .ok (.if_icmp .ge 25, 3) := by decide +kernel
theorem d_X10_tapeSays_35 : decode prog_1_method_43_code 35 = .ok (.aload_n 1, 1) := by decide +kernel
theorem d_X10_tapeSays_36 : decode prog_1_method_43_code 36 = .ok (.iload_n 2, 1) := by decide +kernel
theorem d_X10_tapeSays_37 : decode prog_1_method_43_code 37 = .ok (.invokevirtual 368, 3) := by decide +kernel
theorem d_X10_tapeSays_40 : decode prog_1_method_43_code 40 = .ok (.aload_n 0, 1) := by decide +kernel
theorem d_X10_tapeSays_41 : decode prog_1_method_43_code 41 = .ok (.getfield 18, 3) := by decide +kernel
theorem d_X10_tapeSays_44 : decode prog_1_method_43_code 44 = .ok (.iload_n 2, 1) := by decide +kernel
theorem d_X10_tapeSays_45 : decode prog_1_method_43_code 45 = .ok (.baload, 1) := by decide +kernel
theorem d_X10_tapeSays_46 : decode prog_1_method_43_code 46 = .ok (.if_icmp .eq 5, 3) := by decide +kernel
theorem d_X10_tapeSays_49 : decode prog_1_method_43_code 49 = .ok (.iconst 0, 1) := by decide +kernel
theorem d_X10_tapeSays_50 : decode prog_1_method_43_code 50 = .ok (.ireturn, 1) := by decide +kernel
theorem d_X10_tapeSays_51 : decode prog_1_method_43_code 51 = .ok (.iinc 2 1, 3) := by decide +kernel
theorem d_X10_tapeSays_54 : decode prog_1_method_43_code 54 = .ok (.goto (-27), 3) := by decide +kernel
theorem d_X10_tapeSays_57 : decode prog_1_method_43_code 57 = .ok (.iconst 1, 1) := by decide +kernel
theorem d_X10_tapeSays_58 : decode prog_1_method_43_code 58 = .ok (.ireturn, 1) := by decide +kernel
def f_X10_tapeSays_27B (x1 : Int) (M0 : tp_M) (rec_27 : Int → Option (Int)) (x2 : Int) : Option (Int) :=
  if (M0 0 2) ≤ x2 then
    some 1
  else
    (f_charAt x1 x2).bind fun r6 =>
    if 0 ≤ x2 ∧ x2 < 80 then
      if r6 = (M0 2 x2) then
        tp_lt (tp_w (x2 + 1)) fun y8 =>
        rec_27 y8
      else
        some 0 else none
set_option maxHeartbeats 4000000 in
set_option maxRecDepth 100000 in
theorem T_X10_tapeSays_27B (G : tp_G) (x1 : Int) (M0 : tp_M) (rec_27 : Int → Option (Int)) (hrec_27 : ∀ (x2' : Int), tp_J i_X10_tapeSays (tp_rm 5) G 0 0 (o_X10_tapeSays M0) tp_NC (tp_st M0) 0 0 [some (.inr (.inr 0)), some (.inr (.inr x1)), some (.inl (x2'))] 27 [] (rec_27 x2')) (x2 : Int) : tp_J i_X10_tapeSays (tp_rm 5) G 0 0 (o_X10_tapeSays M0) tp_NC (tp_st M0) 0 0 [some (.inr (.inr 0)), some (.inr (.inr x1)), some (.inl x2)] 27 [] (f_X10_tapeSays_27B x1 M0 rec_27 x2) := by
  unfold f_X10_tapeSays_27B
  refine j_iload_n rfl d_X10_tapeSays_27 rfl ?_
  refine j_aload_n rfl d_X10_tapeSays_28 rfl ?_
  refine j_geti fl_Main_86 tg_0 d_X10_tapeSays_29 ?_
  refine j_icmp_ge (tgt := 57) d_X10_tapeSays_32 (by decide) (fun h5 => ?_) (fun h5 => ?_)
  · refine j_iconst ⟨by decide, by decide⟩ d_X10_tapeSays_57 ?_
    exact j_zret d_X10_tapeSays_58 rfl (Or.inr rfl) rfl ⟨rfl, rfl⟩
  · refine j_aload_n rfl d_X10_tapeSays_35 rfl ?_
    refine j_iload_n rfl d_X10_tapeSays_36 rfl ?_
    refine j_charAt rfl ⟨(by decide : 4 ≤ ((tp_rm 5) : Room).frames), (by decide : 240 ≤ ((tp_rm 5) : Room).locals)⟩ ⟨by decide, by decide⟩ (Nat.le_of_ble_eq_true rfl) d_X10_tapeSays_37 (fun r6 => ?_)
    refine j_aload_n rfl d_X10_tapeSays_40 rfl ?_
    refine j_getr fl_Main_18 tg_0 rv_0_1 d_X10_tapeSays_41 ?_
    refine j_iload_n rfl d_X10_tapeSays_44 rfl ?_
    refine j_bald tg_2 al_2 d_X10_tapeSays_45 ?_
    refine j_icmp_eq (tgt := 51) d_X10_tapeSays_46 (by decide) (fun h7 => ?_) (fun h7 => ?_)
    · refine j_iincN (lv' := fun y8 => [some (.inr (.inr 0)), some (.inr (.inr x1)), some (.inl y8)]) d_X10_tapeSays_51 rfl (Nat.le_of_ble_eq_true rfl) (fun _ => rfl) (fun y8 hy8 => ?_)
      refine j_goto (tgt := 27) d_X10_tapeSays_54 (by decide) ?_
      exact j_wk [true, true, true] rfl rfl (hrec_27 y8)
    · refine j_iconst ⟨by decide, by decide⟩ d_X10_tapeSays_49 ?_
      exact j_zret d_X10_tapeSays_50 rfl (Or.inl rfl) rfl ⟨rfl, rfl⟩
def f_X10_tapeSays_27 (x1 : Int) (x2 : Int) (M0 : tp_M) : Option (Int) := tp_lp (σ := Int) (fun rec_ u => f_X10_tapeSays_27B x1 M0 (fun x2' => rec_ x2') u) tp_N x2
set_option maxHeartbeats 4000000 in
set_option maxRecDepth 100000 in
theorem T_X10_tapeSays_27 (G : tp_G) (x1 : Int) (x2 : Int) (M0 : tp_M) : tp_J i_X10_tapeSays (tp_rm 5) G 0 0 (o_X10_tapeSays M0) tp_NC (tp_st M0) 0 0 [some (.inr (.inr 0)), some (.inr (.inr x1)), some (.inl x2)] 27 [] (f_X10_tapeSays_27 x1 x2 M0) := by
  unfold f_X10_tapeSays_27
  exact j_lp (σ := Int) (n' := fun _ => tp_NC) (g' := fun u => tp_st M0) (k' := fun _ => 0) (q' := fun _ => 0) (lv' := fun u => [some (.inr (.inr 0)), some (.inr (.inr x1)), some (.inl u)]) (fun rec_ hrec u => T_X10_tapeSays_27B G x1 M0 (fun x2' => rec_ x2') (fun x2' => hrec x2') u) tp_N x2
def f_X10_tapeSays (a0 : Int) (M0 : tp_M) : Option (Int) :=
  (f_strlen a0).bind fun r2 =>
  if ¬ r2 = (M0 0 2) then
    some 0
  else
    if (M0 0 2) ≤ 80 then
      f_X10_tapeSays_27 a0 0 M0
    else
      some 0
set_option maxHeartbeats 4000000 in
set_option maxRecDepth 100000 in
theorem T_X10_tapeSays (G : tp_G) (a0 : Int) (M0 : tp_M) : tp_J i_X10_tapeSays (tp_rm 5) G 0 0 (o_X10_tapeSays M0) tp_NC (tp_st M0) 0 0 [some (.inr (.inr 0)), some (.inr (.inr a0)), none] 0 [] (f_X10_tapeSays a0 M0) := by
  unfold f_X10_tapeSays
  refine j_aload_n rfl d_X10_tapeSays_0 rfl ?_
  refine j_strlen rfl ⟨(by decide : 2 ≤ ((tp_rm 5) : Room).frames), (by decide : 120 ≤ ((tp_rm 5) : Room).locals)⟩ ⟨by decide, by decide⟩ (Nat.le_of_ble_eq_true rfl) d_X10_tapeSays_1 (fun r2 => ?_)
  refine j_aload_n rfl d_X10_tapeSays_4 rfl ?_
  refine j_geti fl_Main_86 tg_0 d_X10_tapeSays_5 ?_
  refine j_icmp_ne (tgt := 23) d_X10_tapeSays_8 (by decide) (fun h3 => ?_) (fun h3 => ?_)
  · refine j_iconst ⟨by decide, by decide⟩ d_X10_tapeSays_23 ?_
    exact j_zret d_X10_tapeSays_24 rfl (Or.inl rfl) rfl ⟨rfl, rfl⟩
  · refine j_aload_n rfl d_X10_tapeSays_11 rfl ?_
    refine j_geti fl_Main_86 tg_0 d_X10_tapeSays_12 ?_
    refine j_aload_n rfl d_X10_tapeSays_15 rfl ?_
    refine j_getr fl_Main_18 tg_0 rv_0_1 d_X10_tapeSays_16 ?_
    refine j_alen tg_2 (by decide) al_2 ⟨by decide, by decide⟩ (ty := .byte) (by decide) d_X10_tapeSays_19 ?_
    refine j_icmp_le (tgt := 25) d_X10_tapeSays_20 (by decide) (fun h4 => ?_) (fun h4 => ?_)
    · refine j_iconst ⟨by decide, by decide⟩ d_X10_tapeSays_25 ?_
      refine j_istore_n (lv' := [some (.inr (.inr 0)), some (.inr (.inr a0)), some (.inl 0)]) rfl d_X10_tapeSays_26 (Nat.le_of_ble_eq_true rfl) rfl ?_
      exact j_wk [true, true, true] rfl rfl (T_X10_tapeSays_27 G a0 0 M0)
    · refine j_iconst ⟨by decide, by decide⟩ d_X10_tapeSays_23 ?_
      exact j_zret d_X10_tapeSays_24 rfl (Or.inl rfl) rfl ⟨rfl, rfl⟩
set_option maxHeartbeats 4000000 in
set_option maxRecDepth 100000 in
theorem c_X10_tapeSays (G : tp_G) (a0 : Int) (M0 : tp_M) (r : Int) (h : f_X10_tapeSays a0 M0 = some r) (l : Launch) : Met l y_X10_tapeSays (tp_ws y_X10_tapeSays i_X10_tapeSays) (tp_rm 5) (tp_Pc G [.inr (.inr 0), .inr (.inr a0)] tp_NC (tp_st M0)) (tp_Q G ((o_X10_tapeSays M0) r)) 0 0 (tp_A G) :=
  tp_met (I := i_X10_tapeSays) (y := y_X10_tapeSays) (by decide +kernel) (Eq.refl "TypesAtPrime") (Eq.refl "tapeSays") (lv := [some (.inr (.inr 0)), some (.inr (.inr a0)), none]) rfl (Nat.le_of_ble_eq_true rfl) (T_X10_tapeSays G a0 M0) h l
theorem wd_453 : (.code ⟨"TypesAtPrime$Numbers", "choose", "(I)Z"⟩ prog_6_method_2_code 4 (some .boolean) : Cond) ∈ lw_tbl := List.mem_append_right _ (List.mem_of_getElem? (i := 453) (by decide +kernel))
theorem cs_Main_79 : tp_CS "TypesAtPrime" 79 y_X4_choose i_X4_choose 1 := ⟨wd_453, wd_2, by decide, by decide, by decide +kernel⟩
theorem wd_450 : (.methodLink "TypesAtPrime" 79 ⟨"TypesAtPrime$Numbers", "choose", "(I)Z"⟩ : Cond) ∈ lw_tbl := List.mem_append_right _ (List.mem_of_getElem? (i := 450) (by decide +kernel))
theorem wd_451 : (.instanceMethod ⟨"TypesAtPrime$Numbers", "choose", "(I)Z"⟩ : Cond) ∈ lw_tbl := List.mem_append_right _ (List.mem_of_getElem? (i := 451) (by decide +kernel))
theorem wd_452 : (.selects "TypesAtPrime$Numbers" ⟨"TypesAtPrime$Numbers", "choose", "(I)Z"⟩ ⟨"TypesAtPrime$Numbers", "choose", "(I)Z"⟩ : Cond) ∈ lw_tbl := List.mem_append_right _ (List.mem_of_getElem? (i := 452) (by decide +kernel))
theorem wd_461 : (.code ⟨"TypesAtPrime$Tree", "fell", "()V"⟩ prog_11_method_2_code 1 (none : Option Jvm.ClassFile.FieldType) : Cond) ∈ lw_tbl := List.mem_append_right _ (List.mem_of_getElem? (i := 461) (by decide +kernel))
theorem cs_Main_83 : tp_CS "TypesAtPrime" 83 y_X9_fell i_X9_fell 0 := ⟨wd_461, wd_6, by decide, by decide, by decide +kernel⟩
theorem wd_458 : (.methodLink "TypesAtPrime" 83 ⟨"TypesAtPrime$Tree", "fell", "()V"⟩ : Cond) ∈ lw_tbl := List.mem_append_right _ (List.mem_of_getElem? (i := 458) (by decide +kernel))
theorem wd_459 : (.instanceMethod ⟨"TypesAtPrime$Tree", "fell", "()V"⟩ : Cond) ∈ lw_tbl := List.mem_append_right _ (List.mem_of_getElem? (i := 459) (by decide +kernel))
theorem wd_460 : (.selects "TypesAtPrime$Tree" ⟨"TypesAtPrime$Tree", "fell", "()V"⟩ ⟨"TypesAtPrime$Tree", "fell", "()V"⟩ : Cond) ∈ lw_tbl := List.mem_append_right _ (List.mem_of_getElem? (i := 460) (by decide +kernel))
def y_X10_prime : MethodName := ⟨"TypesAtPrime", "prime", "(I)I"⟩
abbrev i_X10_prime : tp_I := (prog_1_method_2_code, "TypesAtPrime", (some .int), 3, "prime")
abbrev o_X10_prime : Int × tp_M → tp_O := fun r => (some (.inl r.1), tp_NC, tp_st r.2)
theorem d_X10_prime_0 : decode prog_1_method_2_code 0 = .ok (.aload_n 0, 1) := by decide +kernel
theorem d_X10_prime_1 : decode prog_1_method_2_code 1 = .ok (.getfield 12, 3) := by decide +kernel
theorem d_X10_prime_4 : decode prog_1_method_2_code 4 = .ok (.getfield 75, 3) := by decide +kernel
theorem d_X10_prime_7 : decode prog_1_method_2_code 7 = .ok (.istore_n 2, 1) := by decide +kernel
theorem d_X10_prime_8 : decode prog_1_method_2_code 8 = .ok (.aload_n 0, 1) := by decide +kernel
theorem d_X10_prime_9 : decode prog_1_method_2_code 9 = .ok (.getfield 12, 3) := by decide +kernel
theorem d_X10_prime_12 : decode prog_1_method_2_code 12 = .ok (.iload_n 1, 1) := by decide +kernel
theorem d_X10_prime_13 : decode prog_1_method_2_code 13 = .ok (.invokevirtual 79, 3) := by decide +kernel
theorem d_X10_prime_16 : decode prog_1_method_2_code 16 = .ok (.ifCond .ne 5, 3) := by decide +kernel
theorem d_X10_prime_19 : decode prog_1_method_2_code 19 = .ok (.iconst (-1), 1) := by decide +kernel
theorem d_X10_prime_20 : decode prog_1_method_2_code 20 = .ok (.ireturn, 1) := by decide +kernel
theorem d_X10_prime_21 : decode prog_1_method_2_code 21 = .ok (.aload_n 0, 1) := by decide +kernel
theorem d_X10_prime_22 : decode prog_1_method_2_code 22 = .ok (.getfield 51, 3) := by decide +kernel
theorem d_X10_prime_25 : decode prog_1_method_2_code 25 = .ok (.invokevirtual 83, 3) := by decide +kernel
theorem d_X10_prime_28 : decode prog_1_method_2_code 28 = .ok (.iload_n 2, 1) := by decide +kernel
theorem d_X10_prime_29 : decode prog_1_method_2_code 29 = .ok (.ireturn, 1) := by decide +kernel
def f_X10_prime (a0 : Int) (M0 : tp_M) : Option (Int × tp_M) :=
  tp_lt ((M0 1 0)) fun y1 =>
  (f_X4_choose a0 M0).bind fun r2 =>
  if ¬ r2.1 = 0 then
    (f_X9_fell r2.2).bind fun r5 =>
    some (y1, r5)
  else
    some ((-1), r2.2)
set_option maxHeartbeats 4000000 in
set_option maxRecDepth 100000 in
theorem T_X10_prime (G : tp_G) (a0 : Int) (M0 : tp_M) : tp_J i_X10_prime (tp_rm 1) G 0 0 o_X10_prime tp_NC (tp_st M0) 0 0 [some (.inr (.inr 0)), some (.inl a0), none] 0 [] (f_X10_prime a0 M0) := by
  unfold f_X10_prime
  refine j_aload_n rfl d_X10_prime_0 rfl ?_
  refine j_getr fl_Main_12 tg_0 rv_0_0 d_X10_prime_1 ?_
  refine j_geti fl_Main_75 tg_1 d_X10_prime_4 ?_
  refine j_nmI (fun y1 hy1 => ?_)
  refine j_istore_n (lv' := [some (.inr (.inr 0)), some (.inl a0), some (.inl y1)]) rfl d_X10_prime_7 (Nat.le_of_ble_eq_true rfl) rfl ?_
  refine j_aload_n rfl d_X10_prime_8 rfl ?_
  refine j_getr fl_Main_12 tg_0 rv_0_0 d_X10_prime_9 ?_
  refine j_iload_n rfl d_X10_prime_12 rfl ?_
  refine j_bind (fun r2 h3 => ?_)
  refine j_callV (y := y_X4_choose) (I' := i_X4_choose) (avs := [.inl a0]) (c := 1) (st := []) (c_X4_choose G a0 M0 r2 h3) cs_Main_79 wd_450 wd_451 wd_452 tg_1 rfl rfl rfl (Nat.le_of_ble_eq_true rfl) ⟨rfl, rfl⟩ ⟨by decide, by decide⟩ ⟨by decide, by decide⟩ d_X10_prime_13 ?_
  refine j_if_ne (tgt := 21) d_X10_prime_16 (by decide) (fun h4 => ?_) (fun h4 => ?_)
  · refine j_aload_n rfl d_X10_prime_21 rfl ?_
    refine j_getr fl_Main_51 tg_0 rv_0_7 d_X10_prime_22 ?_
    refine j_bind (fun r5 h6 => ?_)
    refine j_callV (y := y_X9_fell) (I' := i_X9_fell) (avs := []) (c := 41) (st := []) (c_X9_fell G r2.2 r5 h6) cs_Main_83 wd_458 wd_459 wd_460 tg_41 rfl rfl rfl (Nat.le_of_ble_eq_true rfl) ⟨rfl, rfl⟩ ⟨by decide, by decide⟩ ⟨by decide, by decide⟩ d_X10_prime_25 ?_
    refine j_iload_n rfl d_X10_prime_28 rfl ?_
    exact j_iret d_X10_prime_29 rfl rfl ⟨rfl, rfl⟩
  · refine j_iconst ⟨by decide, by decide⟩ d_X10_prime_19 ?_
    exact j_iret d_X10_prime_20 rfl rfl ⟨rfl, rfl⟩
set_option maxHeartbeats 4000000 in
set_option maxRecDepth 100000 in
theorem c_X10_prime (G : tp_G) (a0 : Int) (M0 : tp_M) (r : Int × tp_M) (h : f_X10_prime a0 M0 = some r) (l : Launch) : Met l y_X10_prime (tp_ws y_X10_prime i_X10_prime) (tp_rm 1) (tp_Pc G [.inr (.inr 0), .inl a0] tp_NC (tp_st M0)) (tp_Q G (o_X10_prime r)) 0 0 (tp_A G) :=
  tp_met (I := i_X10_prime) (y := y_X10_prime) (by decide +kernel) (Eq.refl "TypesAtPrime") (Eq.refl "prime") (lv := [some (.inr (.inr 0)), some (.inl a0), none]) rfl (Nat.le_of_ble_eq_true rfl) (T_X10_prime G a0 M0) h l
theorem wd_813 : (.code ⟨"TypesAtPrime", "tree", "(I)I"⟩ prog_1_method_15_code 2 (some .int) : Cond) ∈ lw_tbl := List.mem_append_right _ (List.mem_of_getElem? (i := 813) (by decide +kernel))
theorem cs_Main_278 : tp_CS "TypesAtPrime" 278 y_X10_tree i_X10_tree 1 := ⟨wd_813, wd_1, by decide, by decide, by decide +kernel⟩
theorem wd_934 : (.methodLink "TypesAtPrime" 278 ⟨"TypesAtPrime", "tree", "(I)I"⟩ : Cond) ∈ lw_tbl := List.mem_append_right _ (List.mem_of_getElem? (i := 934) (by decide +kernel))
theorem wd_811 : (.instanceMethod ⟨"TypesAtPrime", "tree", "(I)I"⟩ : Cond) ∈ lw_tbl := List.mem_append_right _ (List.mem_of_getElem? (i := 811) (by decide +kernel))
theorem wd_812 : (.selects "TypesAtPrime" ⟨"TypesAtPrime", "tree", "(I)I"⟩ ⟨"TypesAtPrime", "tree", "(I)I"⟩ : Cond) ∈ lw_tbl := List.mem_append_right _ (List.mem_of_getElem? (i := 812) (by decide +kernel))
theorem wd_872 : (.code ⟨"TypesAtPrime", "word", "(I)Ljava/lang/String;"⟩ prog_1_method_42_code 1 (some (.object "java/lang/String")) : Cond) ∈ lw_tbl := List.mem_append_right _ (List.mem_of_getElem? (i := 872) (by decide +kernel))
theorem cs_Main_270 : tp_CS "TypesAtPrime" 270 y_X10_word i_X10_word 1 := ⟨wd_872, wd_1, by decide, by decide, by decide +kernel⟩
theorem wd_870 : (.methodLink "TypesAtPrime" 270 ⟨"TypesAtPrime", "word", "(I)Ljava/lang/String;"⟩ : Cond) ∈ lw_tbl := List.mem_append_right _ (List.mem_of_getElem? (i := 870) (by decide +kernel))
theorem wd_871 : (.static ⟨"TypesAtPrime", "word", "(I)Ljava/lang/String;"⟩ : Cond) ∈ lw_tbl := List.mem_append_right _ (List.mem_of_getElem? (i := 871) (by decide +kernel))
theorem wd_885 : (.code ⟨"TypesAtPrime", "tapeSays", "(Ljava/lang/String;)Z"⟩ prog_1_method_43_code 3 (some .boolean) : Cond) ∈ lw_tbl := List.mem_append_right _ (List.mem_of_getElem? (i := 885) (by decide +kernel))
theorem cs_Main_274 : tp_CS "TypesAtPrime" 274 y_X10_tapeSays i_X10_tapeSays 1 := ⟨wd_885, wd_1, by decide, by decide, by decide +kernel⟩
theorem wd_882 : (.methodLink "TypesAtPrime" 274 ⟨"TypesAtPrime", "tapeSays", "(Ljava/lang/String;)Z"⟩ : Cond) ∈ lw_tbl := List.mem_append_right _ (List.mem_of_getElem? (i := 882) (by decide +kernel))
theorem wd_884 : (.instanceMethod ⟨"TypesAtPrime", "tapeSays", "(Ljava/lang/String;)Z"⟩ : Cond) ∈ lw_tbl := List.mem_append_right _ (List.mem_of_getElem? (i := 884) (by decide +kernel))
theorem ws_32 : (.selects "TypesAtPrime" ⟨"TypesAtPrime", "tapeSays", "(Ljava/lang/String;)Z"⟩ ⟨"TypesAtPrime", "tapeSays", "(Ljava/lang/String;)Z"⟩ : Cond) ∈ lw_tbl := List.mem_append_left _ (List.mem_of_getElem? (i := 32) (by decide +kernel))
def y_X10_ask : MethodName := ⟨"TypesAtPrime", "ask", "()I"⟩
abbrev i_X10_ask : tp_I := (prog_1_method_24_code, "TypesAtPrime", (some .int), 2, "ask")
abbrev o_X10_ask : Int × tp_M → tp_O := fun r => (some (.inl r.1), tp_NC, tp_st r.2)
theorem d_X10_ask_0 : decode prog_1_method_24_code 0 = .ok (.iconst 0, 1) := by decide +kernel
theorem d_X10_ask_1 : decode prog_1_method_24_code 1 = .ok (.istore_n 1, 1) := by decide +kernel
theorem d_X10_ask_2 : decode prog_1_method_24_code 2 = .ok (.iload_n 1, 1) := by decide +kernel
theorem d_X10_ask_3 : decode prog_1_method_24_code 3 = .ok (.bipush 9, 2) := by decide +kernel
theorem d_X10_ask_5 : decode prog_1_method_24_code 5 = .ok (.if_icmp .ge 20, 3) := by decide +kernel
theorem d_X10_ask_8 : decode prog_1_method_24_code 8 = .ok (.aload_n 0, 1) := by decide +kernel
theorem d_X10_ask_9 : decode prog_1_method_24_code 9 = .ok (.iload_n 1, 1) := by decide +kernel
theorem d_X10_ask_10 : decode prog_1_method_24_code 10 = .ok (.invokestatic 270, 3) := by decide +kernel
theorem d_X10_ask_13 : decode prog_1_method_24_code 13 = .ok (.invokevirtual 274, 3) := by decide +kernel
theorem d_X10_ask_16 : decode prog_1_method_24_code 16 = .ok (.ifCond .ne 9, 3) := by decide +kernel
theorem d_X10_ask_19 : decode prog_1_method_24_code 19 = .ok (.iinc 1 1, 3) := by decide +kernel
theorem d_X10_ask_22 : decode prog_1_method_24_code 22 = .ok (.goto (-20), 3) := by decide +kernel
theorem d_X10_ask_25 : decode prog_1_method_24_code 25 = .ok (.aload_n 0, 1) := by decide +kernel
theorem d_X10_ask_26 : decode prog_1_method_24_code 26 = .ok (.iconst 0, 1) := by decide +kernel
theorem d_X10_ask_27 : decode prog_1_method_24_code 27 = .ok (.putfield 86, 3) := by decide +kernel
theorem d_X10_ask_30 : decode prog_1_method_24_code 30 = .ok (.iload_n 1, 1) := by decide +kernel
theorem d_X10_ask_31 : decode prog_1_method_24_code 31 = .ok (.bipush 9, 2) := by decide +kernel
theorem d_X10_ask_33 : decode prog_1_method_24_code 33 = .ok (.if_icmp .ne 6, 3) := by decide +kernel
theorem d_X10_ask_36 : decode prog_1_method_24_code 36 = .ok (.bipush (-3), 2) := by decide +kernel
theorem d_X10_ask_38 : decode prog_1_method_24_code 38 = .ok (.ireturn, 1) := by decide +kernel
theorem d_X10_ask_39 : decode prog_1_method_24_code 39 = .ok (.iload_n 1, 1) := by decide +kernel
theorem d_X10_ask_40 : decode prog_1_method_24_code 40 = .ok (.bipush 8, 2) := by decide +kernel
theorem d_X10_ask_42 : decode prog_1_method_24_code 42 = .ok (.if_icmp .ne 13, 3) := by decide +kernel
theorem d_X10_ask_45 : decode prog_1_method_24_code 45 = .ok (.aload_n 0, 1) := by decide +kernel
theorem d_X10_ask_46 : decode prog_1_method_24_code 46 = .ok (.getfield 12, 3) := by decide +kernel
theorem d_X10_ask_49 : decode prog_1_method_24_code 49 = .ok (.getfield 75, 3) := by decide +kernel
theorem d_X10_ask_52 : decode prog_1_method_24_code 52 = .ok (.goto 8, 3) := by decide +kernel
theorem d_X10_ask_55 : decode prog_1_method_24_code 55 = .ok (.aload_n 0, 1) := by decide +kernel
theorem d_X10_ask_56 : decode prog_1_method_24_code 56 = .ok (.iload_n 1, 1) := by decide +kernel
theorem d_X10_ask_57 : decode prog_1_method_24_code 57 = .ok (.invokevirtual 278, 3) := by decide +kernel
theorem d_X10_ask_60 : decode prog_1_method_24_code 60 = .ok (.ireturn, 1) := by decide +kernel
def f_X10_ask_25 (x1 : Int) (M0 : tp_M) : Option (Int × tp_M) :=
  tp_mp (tp_up M0 0 2 0) fun M2 =>
  if ¬ x1 = 9 then
    if ¬ x1 = 8 then
      (f_X10_tree x1 M2).bind fun r5 =>
      some (r5, M2)
    else
      some ((M2 1 0), M2)
  else
    some ((-3), M2)
set_option maxHeartbeats 4000000 in
set_option maxRecDepth 100000 in
theorem T_X10_ask_25 (G : tp_G) (x1 : Int) (M0 : tp_M) : tp_J i_X10_ask (tp_rm 6) G 0 0 o_X10_ask tp_NC (tp_st M0) 0 0 [some (.inr (.inr 0)), some (.inl x1)] 25 [] (f_X10_ask_25 x1 M0) := by
  unfold f_X10_ask_25
  refine j_aload_n rfl d_X10_ask_25 rfl ?_
  refine j_iconst ⟨by decide, by decide⟩ d_X10_ask_26 ?_
  refine j_put (z := 0) (v := 0) fl_Main_86 (by decide) tg_0 (pf_10_2 _) pt_10 d_X10_ask_27 (fun M2 hM2 => ?_)
  refine j_iload_n rfl d_X10_ask_30 rfl ?_
  refine j_bipush ⟨by decide, by decide⟩ (by decide +kernel) d_X10_ask_31 ?_
  refine j_icmp_ne (tgt := 39) d_X10_ask_33 (by decide) (fun h3 => ?_) (fun h3 => ?_)
  · refine j_iload_n rfl d_X10_ask_39 rfl ?_
    refine j_bipush ⟨by decide, by decide⟩ (by decide +kernel) d_X10_ask_40 ?_
    refine j_icmp_ne (tgt := 55) d_X10_ask_42 (by decide) (fun h4 => ?_) (fun h4 => ?_)
    · refine j_aload_n rfl d_X10_ask_55 rfl ?_
      refine j_iload_n rfl d_X10_ask_56 rfl ?_
      refine j_bind (fun r5 h6 => ?_)
      refine j_callV (y := y_X10_tree) (I' := i_X10_tree) (avs := [.inl x1]) (c := 0) (st := []) (c_X10_tree G x1 M2 r5 h6) cs_Main_278 wd_934 wd_811 wd_812 tg_0 rfl rfl rfl (Nat.le_of_ble_eq_true rfl) ⟨rfl, rfl⟩ ⟨by decide, by decide⟩ ⟨by decide, by decide⟩ d_X10_ask_57 ?_
      exact j_iret d_X10_ask_60 rfl rfl ⟨rfl, rfl⟩
    · refine j_aload_n rfl d_X10_ask_45 rfl ?_
      refine j_getr fl_Main_12 tg_0 rv_0_0 d_X10_ask_46 ?_
      refine j_geti fl_Main_75 tg_1 d_X10_ask_49 ?_
      refine j_goto (tgt := 60) d_X10_ask_52 (by decide) ?_
      exact j_iret d_X10_ask_60 rfl rfl ⟨rfl, rfl⟩
  · refine j_bipush ⟨by decide, by decide⟩ (by decide +kernel) d_X10_ask_36 ?_
    exact j_iret d_X10_ask_38 rfl rfl ⟨rfl, rfl⟩
def f_X10_ask_2B (M0 : tp_M) (rec_2 : Int → Option (Int × tp_M)) (x1 : Int) : Option (Int × tp_M) :=
  if 9 ≤ x1 then
    f_X10_ask_25 x1 M0
  else
    (f_X10_word x1 M0).bind fun r7 =>
    (f_X10_tapeSays r7 M0).bind fun r9 =>
    if ¬ r9 = 0 then
      f_X10_ask_25 x1 M0
    else
      tp_lt (tp_w (x1 + 1)) fun y12 =>
      rec_2 y12
set_option maxHeartbeats 4000000 in
set_option maxRecDepth 100000 in
theorem T_X10_ask_2B (G : tp_G) (M0 : tp_M) (rec_2 : Int → Option (Int × tp_M)) (hrec_2 : ∀ (x1' : Int), tp_J i_X10_ask (tp_rm 6) G 0 0 o_X10_ask tp_NC (tp_st M0) 0 0 [some (.inr (.inr 0)), some (.inl (x1'))] 2 [] (rec_2 x1')) (x1 : Int) : tp_J i_X10_ask (tp_rm 6) G 0 0 o_X10_ask tp_NC (tp_st M0) 0 0 [some (.inr (.inr 0)), some (.inl x1)] 2 [] (f_X10_ask_2B M0 rec_2 x1) := by
  unfold f_X10_ask_2B
  refine j_iload_n rfl d_X10_ask_2 rfl ?_
  refine j_bipush ⟨by decide, by decide⟩ (by decide +kernel) d_X10_ask_3 ?_
  refine j_icmp_ge (tgt := 25) d_X10_ask_5 (by decide) (fun h1 => ?_) (fun h1 => ?_)
  · exact j_wk [true, true] rfl rfl (T_X10_ask_25 G x1 M0)
  · refine j_aload_n rfl d_X10_ask_8 rfl ?_
    refine j_iload_n rfl d_X10_ask_9 rfl ?_
    refine j_bind (fun r7 h8 => ?_)
    refine j_callS (y := y_X10_word) (I' := i_X10_word) (avs := [.inl x1]) (st := [.inr (.inr 0)]) (c_X10_word G x1 M0 r7 h8) cs_Main_270 wd_870 wd_871 rfl rfl (Nat.le_of_ble_eq_true rfl) ⟨rfl, rfl⟩ ⟨by decide, by decide⟩ ⟨by decide, by decide⟩ d_X10_ask_10 ?_
    refine j_bind (fun r9 h10 => ?_)
    refine j_callV (y := y_X10_tapeSays) (I' := i_X10_tapeSays) (avs := [.inr (.inr r7)]) (c := 0) (st := []) (c_X10_tapeSays G r7 M0 r9 h10) cs_Main_274 wd_882 wd_884 ws_32 tg_0 rfl rfl rfl (Nat.le_of_ble_eq_true rfl) ⟨rfl, rfl⟩ ⟨by decide, by decide⟩ ⟨by decide, by decide⟩ d_X10_ask_13 ?_
    refine j_if_ne (tgt := 25) d_X10_ask_16 (by decide) (fun h11 => ?_) (fun h11 => ?_)
    · exact j_wk [true, true] rfl rfl (T_X10_ask_25 G x1 M0)
    · refine j_iincN (lv' := fun y12 => [some (.inr (.inr 0)), some (.inl y12)]) d_X10_ask_19 rfl (Nat.le_of_ble_eq_true rfl) (fun _ => rfl) (fun y12 hy12 => ?_)
      refine j_goto (tgt := 2) d_X10_ask_22 (by decide) ?_
      exact j_wk [true, true] rfl rfl (hrec_2 y12)
def f_X10_ask_2 (x1 : Int) (M0 : tp_M) : Option (Int × tp_M) := tp_lp (σ := Int) (fun rec_ u => f_X10_ask_2B M0 (fun x1' => rec_ x1') u) tp_N x1
set_option maxHeartbeats 4000000 in
set_option maxRecDepth 100000 in
theorem T_X10_ask_2 (G : tp_G) (x1 : Int) (M0 : tp_M) : tp_J i_X10_ask (tp_rm 6) G 0 0 o_X10_ask tp_NC (tp_st M0) 0 0 [some (.inr (.inr 0)), some (.inl x1)] 2 [] (f_X10_ask_2 x1 M0) := by
  unfold f_X10_ask_2
  exact j_lp (σ := Int) (n' := fun _ => tp_NC) (g' := fun u => tp_st M0) (k' := fun _ => 0) (q' := fun _ => 0) (lv' := fun u => [some (.inr (.inr 0)), some (.inl u)]) (fun rec_ hrec u => T_X10_ask_2B G M0 (fun x1' => rec_ x1') (fun x1' => hrec x1') u) tp_N x1
def f_X10_ask (M0 : tp_M) : Option (Int × tp_M) :=
  f_X10_ask_2 0 M0
set_option maxHeartbeats 4000000 in
set_option maxRecDepth 100000 in
theorem T_X10_ask (G : tp_G) (M0 : tp_M) : tp_J i_X10_ask (tp_rm 6) G 0 0 o_X10_ask tp_NC (tp_st M0) 0 0 [some (.inr (.inr 0)), none] 0 [] (f_X10_ask M0) := by
  unfold f_X10_ask
  refine j_iconst ⟨by decide, by decide⟩ d_X10_ask_0 ?_
  refine j_istore_n (lv' := [some (.inr (.inr 0)), some (.inl 0)]) rfl d_X10_ask_1 (Nat.le_of_ble_eq_true rfl) rfl ?_
  exact j_wk [true, true] rfl rfl (T_X10_ask_2 G 0 M0)
set_option maxHeartbeats 4000000 in
set_option maxRecDepth 100000 in
theorem c_X10_ask (G : tp_G) (M0 : tp_M) (r : Int × tp_M) (h : f_X10_ask M0 = some r) (l : Launch) : Met l y_X10_ask (tp_ws y_X10_ask i_X10_ask) (tp_rm 6) (tp_Pc G [.inr (.inr 0)] tp_NC (tp_st M0)) (tp_Q G (o_X10_ask r)) 0 0 (tp_A G) :=
  tp_met (I := i_X10_ask) (y := y_X10_ask) (by decide +kernel) (Eq.refl "TypesAtPrime") (Eq.refl "ask") (lv := [some (.inr (.inr 0)), none]) rfl (Nat.le_of_ble_eq_true rfl) (T_X10_ask G M0) h l
