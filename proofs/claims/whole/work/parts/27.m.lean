theorem tg_483 : tp_tg 483 = 11 := by decide +kernel
theorem wd_1028 : (.fieldLink "TypesAtPrimeModel" 168 "TypesAtPrimeModel" "p" "I" : Cond) ∈ lw_tbl := List.mem_append_right _ (List.mem_of_getElem? (i := 1028) (by decide +kernel))
theorem fl_Model_168 : tp_F "TypesAtPrimeModel" 168 11 0 0 := ⟨_, _, _, rfl, by decide, rfl, wd_1028, rfl, by decide⟩
theorem pf_11_0 (v : Int) : ∀ (C : String) (T : u_T) (N : Nat), vwCl[11]? = some (C, T, N) → (T 0).2.2.2 = false ∧ ∀ G : tp_G, ∃ ty, parseFieldDescriptor (T 0).2.2.1 = some ty ∧ narrow ty (tp_enc G (tp_zv 0 v)) = tp_enc G (tp_zv 0 v) ∧ fits ty (tp_enc G (tp_zv 0 v)) = true := by
  intro C T N h
  cases h
  exact ⟨rfl, fun G => ⟨_, tyX11_ok 0 (by decide), rfl, rfl⟩⟩
theorem pt_11 : ∃ ty0 : Nat → FieldType, ∀ (C : String) (T : u_T) (N : Nat), vwCl[11]? = some (C, T, N) → (∀ k, k < N → parseFieldDescriptor (T k).2.2.1 = some (ty0 k)) ∧ ∀ a, a < N → ∀ b, b < N → a ≠ b → (T a).2.1 ≠ (T b).2.1 := ⟨tyX11, fun C T N h => by cases h; exact ⟨tyX11_ok, nmX11⟩⟩
theorem wd_1029 : (.fieldLink "TypesAtPrimeModel" 172 "TypesAtPrimeModel" "limit" "I" : Cond) ∈ lw_tbl := List.mem_append_right _ (List.mem_of_getElem? (i := 1029) (by decide +kernel))
theorem fl_Model_172 : tp_F "TypesAtPrimeModel" 172 11 1 0 := ⟨_, _, _, rfl, by decide, rfl, wd_1029, rfl, by decide⟩
theorem pf_11_1 (v : Int) : ∀ (C : String) (T : u_T) (N : Nat), vwCl[11]? = some (C, T, N) → (T 1).2.2.2 = false ∧ ∀ G : tp_G, ∃ ty, parseFieldDescriptor (T 1).2.2.1 = some ty ∧ narrow ty (tp_enc G (tp_zv 0 v)) = tp_enc G (tp_zv 0 v) ∧ fits ty (tp_enc G (tp_zv 0 v)) = true := by
  intro C T N h
  cases h
  exact ⟨rfl, fun G => ⟨_, tyX11_ok 1 (by decide), rfl, rfl⟩⟩
theorem wd_1030 : (.fieldLink "TypesAtPrimeModel" 175 "TypesAtPrimeModel" "whole" "J" : Cond) ∈ lw_tbl := List.mem_append_right _ (List.mem_of_getElem? (i := 1030) (by decide +kernel))
theorem fl_Model_175 : tp_F "TypesAtPrimeModel" 175 11 2 1 := ⟨_, _, _, rfl, by decide, rfl, wd_1030, rfl, by decide⟩
theorem pf_11_2 (v : Int) : ∀ (C : String) (T : u_T) (N : Nat), vwCl[11]? = some (C, T, N) → (T 2).2.2.2 = false ∧ ∀ G : tp_G, ∃ ty, parseFieldDescriptor (T 2).2.2.1 = some ty ∧ narrow ty (tp_enc G (tp_zv 1 v)) = tp_enc G (tp_zv 1 v) ∧ fits ty (tp_enc G (tp_zv 1 v)) = true := by
  intro C T N h
  cases h
  exact ⟨rfl, fun G => ⟨_, tyX11_ok 2 (by decide), rfl, rfl⟩⟩
theorem wd_1046 : (.fieldLink "TypesAtPrimeModel" 179 "TypesAtPrimeModel" "isTree" "Z" : Cond) ∈ lw_tbl := List.mem_append_right _ (List.mem_of_getElem? (i := 1046) (by decide +kernel))
theorem fl_Model_179 : tp_F "TypesAtPrimeModel" 179 11 18 0 := ⟨_, _, _, rfl, by decide, rfl, wd_1046, rfl, by decide⟩
theorem pf_11_18 (v : Int) (hv : v = 0 ∨ v = 1) : ∀ (C : String) (T : u_T) (N : Nat), vwCl[11]? = some (C, T, N) → (T 18).2.2.2 = false ∧ ∀ G : tp_G, ∃ ty, parseFieldDescriptor (T 18).2.2.1 = some ty ∧ narrow ty (tp_enc G (tp_zv 0 v)) = tp_enc G (tp_zv 0 v) ∧ fits ty (tp_enc G (tp_zv 0 v)) = true := by
  intro C T N h
  cases h
  refine ⟨rfl, fun G => ⟨_, tyX11_ok 18 (by decide), ?_⟩⟩
  rcases hv with rfl | rfl <;> exact ⟨rfl, rfl⟩
def y_X11_lays : MethodName := ⟨"TypesAtPrimeModel", "lays", "(II)V"⟩
abbrev i_X11_lays : tp_I := (prog_13_method_2_code, "TypesAtPrimeModel", none, 4, "lays")
abbrev o_X11_lays : tp_M → tp_O := fun r => (none, tp_NC, tp_st r)
theorem d_X11_lays_0 : decode prog_13_method_2_code 0 = .ok (.aload_n 0, 1) := by decide +kernel
theorem d_X11_lays_1 : decode prog_13_method_2_code 1 = .ok (.iload_n 1, 1) := by decide +kernel
theorem d_X11_lays_2 : decode prog_13_method_2_code 2 = .ok (.putfield 168, 3) := by decide +kernel
theorem d_X11_lays_5 : decode prog_13_method_2_code 5 = .ok (.aload_n 0, 1) := by decide +kernel
theorem d_X11_lays_6 : decode prog_13_method_2_code 6 = .ok (.iload_n 2, 1) := by decide +kernel
theorem d_X11_lays_7 : decode prog_13_method_2_code 7 = .ok (.putfield 172, 3) := by decide +kernel
theorem d_X11_lays_10 : decode prog_13_method_2_code 10 = .ok (.aload_n 0, 1) := by decide +kernel
theorem d_X11_lays_11 : decode prog_13_method_2_code 11 = .ok (.lconst 1, 1) := by decide +kernel
theorem d_X11_lays_12 : decode prog_13_method_2_code 12 = .ok (.putfield 175, 3) := by decide +kernel
theorem d_X11_lays_15 : decode prog_13_method_2_code 15 = .ok (.iconst 0, 1) := by decide +kernel
theorem d_X11_lays_16 : decode prog_13_method_2_code 16 = .ok (.istore_n 3, 1) := by decide +kernel
theorem d_X11_lays_17 : decode prog_13_method_2_code 17 = .ok (.iload_n 3, 1) := by decide +kernel
theorem d_X11_lays_18 : decode prog_13_method_2_code 18 = .ok (.iload_n 2, 1) := by decide +kernel
theorem d_X11_lays_19 : decode prog_13_method_2_code 19 = .ok (.if_icmp .ge 20, 3) := by decide +kernel
theorem d_X11_lays_22 : decode prog_13_method_2_code 22 = .ok (.aload_n 0, 1) := by decide +kernel
theorem d_X11_lays_23 : decode prog_13_method_2_code 23 = .ok (.dup, 1) := by decide +kernel
theorem d_X11_lays_24 : decode prog_13_method_2_code 24 = .ok (.getfield 175, 3) := by decide +kernel
theorem d_X11_lays_27 : decode prog_13_method_2_code 27 = .ok (.iload_n 1, 1) := by decide +kernel
theorem d_X11_lays_28 : decode prog_13_method_2_code 28 = .ok (.i2l, 1) := by decide +kernel
theorem d_X11_lays_29 : decode prog_13_method_2_code 29 = .ok (.lmul, 1) := by decide +kernel
theorem d_X11_lays_30 : decode prog_13_method_2_code 30 = .ok (.putfield 175, 3) := by decide +kernel
theorem d_X11_lays_33 : decode prog_13_method_2_code 33 = .ok (.iinc 3 1, 3) := by decide +kernel
theorem d_X11_lays_36 : decode prog_13_method_2_code 36 = .ok (.goto (-19), 3) := by decide +kernel
theorem d_X11_lays_39 : decode prog_13_method_2_code 39 = .ok (.aload_n 0, 1) := by decide +kernel
theorem d_X11_lays_40 : decode prog_13_method_2_code 40 = .ok (.iconst 0, 1) := by decide +kernel
theorem d_X11_lays_41 : decode prog_13_method_2_code 41 = .ok (.putfield 179, 3) := by decide +kernel
theorem d_X11_lays_44 : decode prog_13_method_2_code 44 = .ok (.return_, 1) := by decide +kernel
def f_X11_lays_17B (x1 : Int) (x2 : Int) (rec_17 : Int → tp_M → Option (tp_M)) (x3 : Int) (M0 : tp_M) : Option (tp_M) :=
  if x2 ≤ x3 then
    tp_mp (tp_up M0 483 18 0) fun M5 =>
    some M5
  else
    tp_mp (tp_up M0 483 2 (tp_wl ((M0 483 2) * x1))) fun M6 =>
    tp_lt (tp_w (x3 + 1)) fun y7 =>
    rec_17 y7 M6
set_option maxHeartbeats 4000000 in
set_option maxRecDepth 100000 in
theorem T_X11_lays_17B (G : tp_G) (x1 : Int) (x2 : Int) (rec_17 : Int → tp_M → Option (tp_M)) (hrec_17 : ∀ (x3' : Int) (M' : tp_M), tp_J i_X11_lays (tp_rm 0) G 0 0 o_X11_lays tp_NC (tp_st M') 0 0 [some (.inr (.inr 483)), some (.inl x1), some (.inl x2), some (.inl (x3'))] 17 [] (rec_17 x3' M')) (x3 : Int) (M0 : tp_M) : tp_J i_X11_lays (tp_rm 0) G 0 0 o_X11_lays tp_NC (tp_st M0) 0 0 [some (.inr (.inr 483)), some (.inl x1), some (.inl x2), some (.inl x3)] 17 [] (f_X11_lays_17B x1 x2 rec_17 x3 M0) := by
  unfold f_X11_lays_17B
  refine j_iload_n rfl d_X11_lays_17 rfl ?_
  refine j_iload_n rfl d_X11_lays_18 rfl ?_
  refine j_icmp_ge (tgt := 39) d_X11_lays_19 (by decide) (fun h4 => ?_) (fun h4 => ?_)
  · refine j_aload_n rfl d_X11_lays_39 rfl ?_
    refine j_iconst ⟨by decide, by decide⟩ d_X11_lays_40 ?_
    refine j_put (z := 0) (v := 0) fl_Model_179 (by decide) tg_483 (pf_11_18 _ (Or.inl rfl)) pt_11 d_X11_lays_41 (fun M5 hM5 => ?_)
    exact j_vret d_X11_lays_44 rfl rfl ⟨rfl, rfl⟩
  · refine j_aload_n rfl d_X11_lays_22 rfl ?_
    refine j_dup d_X11_lays_23 (fun G => tp_cat G _) ?_
    refine j_getl fl_Model_175 tg_483 d_X11_lays_24 ?_
    refine j_iload_n rfl d_X11_lays_27 rfl ?_
    refine j_i2l d_X11_lays_28 ?_
    refine j_lmul d_X11_lays_29 ?_
    refine j_put (z := 1) (v := (tp_wl ((M0 483 2) * x1))) fl_Model_175 (by decide) tg_483 (pf_11_2 _) pt_11 d_X11_lays_30 (fun M6 hM6 => ?_)
    refine j_iincN (lv' := fun y7 => [some (.inr (.inr 483)), some (.inl x1), some (.inl x2), some (.inl y7)]) d_X11_lays_33 rfl (Nat.le_of_ble_eq_true rfl) (fun _ => rfl) (fun y7 hy7 => ?_)
    refine j_goto (tgt := 17) d_X11_lays_36 (by decide) ?_
    exact j_wk [true, true, true, true] rfl rfl (hrec_17 y7 M6)
def f_X11_lays_17 (x1 : Int) (x2 : Int) (x3 : Int) (M0 : tp_M) : Option (tp_M) := tp_lp (σ := Int × tp_M) (fun rec_ u => f_X11_lays_17B x1 x2 (fun x3' M0' => rec_ (x3', M0')) u.1 u.2) tp_N (x3, M0)
set_option maxHeartbeats 4000000 in
set_option maxRecDepth 100000 in
theorem T_X11_lays_17 (G : tp_G) (x1 : Int) (x2 : Int) (x3 : Int) (M0 : tp_M) : tp_J i_X11_lays (tp_rm 0) G 0 0 o_X11_lays tp_NC (tp_st M0) 0 0 [some (.inr (.inr 483)), some (.inl x1), some (.inl x2), some (.inl x3)] 17 [] (f_X11_lays_17 x1 x2 x3 M0) := by
  unfold f_X11_lays_17
  exact j_lp (σ := Int × tp_M) (n' := fun _ => tp_NC) (g' := fun u => tp_st u.2) (k' := fun _ => 0) (q' := fun _ => 0) (lv' := fun u => [some (.inr (.inr 483)), some (.inl x1), some (.inl x2), some (.inl u.1)]) (fun rec_ hrec u => T_X11_lays_17B G x1 x2 (fun x3' M0' => rec_ (x3', M0')) (fun x3' M0' => hrec (x3', M0')) u.1 u.2) tp_N (x3, M0)
def f_X11_lays (a0 : Int) (a1 : Int) (M0 : tp_M) : Option (tp_M) :=
  tp_mp (tp_up M0 483 0 a0) fun M1 =>
  tp_mp (tp_up M1 483 1 a1) fun M2 =>
  tp_mp (tp_up M2 483 2 1) fun M3 =>
  f_X11_lays_17 a0 a1 0 M3
set_option maxHeartbeats 4000000 in
set_option maxRecDepth 100000 in
theorem T_X11_lays (G : tp_G) (a0 : Int) (a1 : Int) (M0 : tp_M) : tp_J i_X11_lays (tp_rm 0) G 0 0 o_X11_lays tp_NC (tp_st M0) 0 0 [some (.inr (.inr 483)), some (.inl a0), some (.inl a1), none] 0 [] (f_X11_lays a0 a1 M0) := by
  unfold f_X11_lays
  refine j_aload_n rfl d_X11_lays_0 rfl ?_
  refine j_iload_n rfl d_X11_lays_1 rfl ?_
  refine j_put (z := 0) (v := a0) fl_Model_168 (by decide) tg_483 (pf_11_0 _) pt_11 d_X11_lays_2 (fun M1 hM1 => ?_)
  refine j_aload_n rfl d_X11_lays_5 rfl ?_
  refine j_iload_n rfl d_X11_lays_6 rfl ?_
  refine j_put (z := 0) (v := a1) fl_Model_172 (by decide) tg_483 (pf_11_1 _) pt_11 d_X11_lays_7 (fun M2 hM2 => ?_)
  refine j_aload_n rfl d_X11_lays_10 rfl ?_
  refine j_lconst (x := 1) ⟨by decide, by decide⟩ (by decide +kernel) d_X11_lays_11 ?_
  refine j_put (z := 1) (v := 1) fl_Model_175 (by decide) tg_483 (pf_11_2 _) pt_11 d_X11_lays_12 (fun M3 hM3 => ?_)
  refine j_iconst ⟨by decide, by decide⟩ d_X11_lays_15 ?_
  refine j_istore_n (lv' := [some (.inr (.inr 483)), some (.inl a0), some (.inl a1), some (.inl 0)]) rfl d_X11_lays_16 (Nat.le_of_ble_eq_true rfl) rfl ?_
  exact j_wk [true, true, true, true] rfl rfl (T_X11_lays_17 G a0 a1 0 M3)
set_option maxHeartbeats 4000000 in
set_option maxRecDepth 100000 in
theorem c_X11_lays (G : tp_G) (a0 : Int) (a1 : Int) (M0 : tp_M) (r : tp_M) (h : f_X11_lays a0 a1 M0 = some r) (l : Launch) : Met l y_X11_lays (tp_ws y_X11_lays i_X11_lays) (tp_rm 0) (tp_Pc G [.inr (.inr 483), .inl a0, .inl a1] tp_NC (tp_st M0)) (tp_Q G (o_X11_lays r)) 0 0 (tp_A G) :=
  tp_met (I := i_X11_lays) (y := y_X11_lays) (by decide +kernel) (Eq.refl "TypesAtPrimeModel") (Eq.refl "lays") (lv := [some (.inr (.inr 483)), some (.inl a0), some (.inl a1), none]) rfl (Nat.le_of_ble_eq_true rfl) (T_X11_lays G a0 a1 M0) h l
def y_X11_in : MethodName := ⟨"TypesAtPrimeModel", "in", "(JJJ)Z"⟩
abbrev i_X11_in : tp_I := (prog_13_method_3_code, "TypesAtPrimeModel", (some .boolean), 6, "in")
abbrev o_X11_in (M : tp_M) : Int → tp_O := fun r => (some (.inl r), tp_NC, tp_st M)
theorem d_X11_in_0 : decode prog_13_method_3_code 0 = .ok (.lload_n 0, 1) := by decide +kernel
theorem d_X11_in_1 : decode prog_13_method_3_code 1 = .ok (.lload_n 2, 1) := by decide +kernel
theorem d_X11_in_2 : decode prog_13_method_3_code 2 = .ok (.lcmp, 1) := by decide +kernel
theorem d_X11_in_3 : decode prog_13_method_3_code 3 = .ok (.ifCond .lt 14, 3) := by decide +kernel
theorem d_X11_in_6 : decode prog_13_method_3_code 6 = .ok (.lload_n 0, 1) := by decide +kernel
theorem d_X11_in_7 : decode prog_13_method_3_code 7 = .ok (.lload 4, 2) := by decide +kernel
theorem d_X11_in_9 : decode prog_13_method_3_code 9 = .ok (.lcmp, 1) := by decide +kernel
theorem d_X11_in_10 : decode prog_13_method_3_code 10 = .ok (.ifCond .gt 7, 3) := by decide +kernel
theorem d_X11_in_13 : decode prog_13_method_3_code 13 = .ok (.iconst 1, 1) := by decide +kernel
theorem d_X11_in_14 : decode prog_13_method_3_code 14 = .ok (.goto 4, 3) := by decide +kernel
theorem d_X11_in_17 : decode prog_13_method_3_code 17 = .ok (.iconst 0, 1) := by decide +kernel
theorem d_X11_in_18 : decode prog_13_method_3_code 18 = .ok (.ireturn, 1) := by decide +kernel
def f_X11_in (a0 : Int) (a1 : Int) (a2 : Int) (M0 : tp_M) : Option (Int) :=
  if a0 < a1 then
    some 0
  else
    if a2 < a0 then
      some 0
    else
      some 1
set_option maxHeartbeats 4000000 in
set_option maxRecDepth 100000 in
theorem T_X11_in (G : tp_G) (a0 : Int) (a1 : Int) (a2 : Int) (M0 : tp_M) : tp_J i_X11_in (tp_rm 0) G 0 0 (o_X11_in M0) tp_NC (tp_st M0) 0 0 [some (.inr (.inl a0)), none, some (.inr (.inl a1)), none, some (.inr (.inl a2)), none] 0 [] (f_X11_in a0 a1 a2 M0) := by
  unfold f_X11_in
  refine j_lload_n rfl d_X11_in_0 rfl ?_
  refine j_lload_n rfl d_X11_in_1 rfl ?_
  refine j_lcmp_lt (tgt := 17) d_X11_in_2 rfl d_X11_in_3 (by decide) (fun h1 => ?_) (fun h1 => ?_)
  · refine j_iconst ⟨by decide, by decide⟩ d_X11_in_17 ?_
    exact j_zret d_X11_in_18 rfl (Or.inl rfl) rfl ⟨rfl, rfl⟩
  · refine j_lload_n rfl d_X11_in_6 rfl ?_
    refine j_lload d_X11_in_7 rfl ?_
    refine j_lcmp_gt (tgt := 17) d_X11_in_9 rfl d_X11_in_10 (by decide) (fun h2 => ?_) (fun h2 => ?_)
    · refine j_iconst ⟨by decide, by decide⟩ d_X11_in_17 ?_
      exact j_zret d_X11_in_18 rfl (Or.inl rfl) rfl ⟨rfl, rfl⟩
    · refine j_iconst ⟨by decide, by decide⟩ d_X11_in_13 ?_
      refine j_goto (tgt := 18) d_X11_in_14 (by decide) ?_
      exact j_zret d_X11_in_18 rfl (Or.inr rfl) rfl ⟨rfl, rfl⟩
set_option maxHeartbeats 4000000 in
set_option maxRecDepth 100000 in
theorem c_X11_in (G : tp_G) (a0 : Int) (a1 : Int) (a2 : Int) (M0 : tp_M) (r : Int) (h : f_X11_in a0 a1 a2 M0 = some r) (l : Launch) : Met l y_X11_in (tp_ws y_X11_in i_X11_in) (tp_rm 0) (tp_Pc G [.inr (.inl a0), .inr (.inl a1), .inr (.inl a2)] tp_NC (tp_st M0)) (tp_Q G ((o_X11_in M0) r)) 0 0 (tp_A G) :=
  tp_met (I := i_X11_in) (y := y_X11_in) (by decide +kernel) (Eq.refl "TypesAtPrimeModel") (Eq.refl "in") (lv := [some (.inr (.inl a0)), none, some (.inr (.inl a1)), none, some (.inr (.inl a2)), none]) rfl (Nat.le_of_ble_eq_true rfl) (T_X11_in G a0 a1 a2 M0) h l
def y_X11_isSlot : MethodName := ⟨"TypesAtPrimeModel", "isSlot", "(I)Z"⟩
abbrev i_X11_isSlot : tp_I := (prog_13_method_4_code, "TypesAtPrimeModel", (some .boolean), 1, "isSlot")
abbrev o_X11_isSlot (M : tp_M) : Int → tp_O := fun r => (some (.inl r), tp_NC, tp_st M)
theorem d_X11_isSlot_0 : decode prog_13_method_4_code 0 = .ok (.iload_n 0, 1) := by decide +kernel
theorem d_X11_isSlot_1 : decode prog_13_method_4_code 1 = .ok (.ifCond .lt 12, 3) := by decide +kernel
theorem d_X11_isSlot_4 : decode prog_13_method_4_code 4 = .ok (.iload_n 0, 1) := by decide +kernel
theorem d_X11_isSlot_5 : decode prog_13_method_4_code 5 = .ok (.iconst 5, 1) := by decide +kernel
theorem d_X11_isSlot_6 : decode prog_13_method_4_code 6 = .ok (.if_icmp .ge 7, 3) := by decide +kernel
theorem d_X11_isSlot_9 : decode prog_13_method_4_code 9 = .ok (.iconst 1, 1) := by decide +kernel
theorem d_X11_isSlot_10 : decode prog_13_method_4_code 10 = .ok (.goto 4, 3) := by decide +kernel
theorem d_X11_isSlot_13 : decode prog_13_method_4_code 13 = .ok (.iconst 0, 1) := by decide +kernel
theorem d_X11_isSlot_14 : decode prog_13_method_4_code 14 = .ok (.ireturn, 1) := by decide +kernel
def f_X11_isSlot (a0 : Int) (M0 : tp_M) : Option (Int) :=
  if a0 < 0 then
    some 0
  else
    if 5 ≤ a0 then
      some 0
    else
      some 1
set_option maxHeartbeats 4000000 in
set_option maxRecDepth 100000 in
theorem T_X11_isSlot (G : tp_G) (a0 : Int) (M0 : tp_M) : tp_J i_X11_isSlot (tp_rm 0) G 0 0 (o_X11_isSlot M0) tp_NC (tp_st M0) 0 0 [some (.inl a0)] 0 [] (f_X11_isSlot a0 M0) := by
  unfold f_X11_isSlot
  refine j_iload_n rfl d_X11_isSlot_0 rfl ?_
  refine j_if_lt (tgt := 13) d_X11_isSlot_1 (by decide) (fun h1 => ?_) (fun h1 => ?_)
  · refine j_iconst ⟨by decide, by decide⟩ d_X11_isSlot_13 ?_
    exact j_zret d_X11_isSlot_14 rfl (Or.inl rfl) rfl ⟨rfl, rfl⟩
  · refine j_iload_n rfl d_X11_isSlot_4 rfl ?_
    refine j_iconst ⟨by decide, by decide⟩ d_X11_isSlot_5 ?_
    refine j_icmp_ge (tgt := 13) d_X11_isSlot_6 (by decide) (fun h2 => ?_) (fun h2 => ?_)
    · refine j_iconst ⟨by decide, by decide⟩ d_X11_isSlot_13 ?_
      exact j_zret d_X11_isSlot_14 rfl (Or.inl rfl) rfl ⟨rfl, rfl⟩
    · refine j_iconst ⟨by decide, by decide⟩ d_X11_isSlot_9 ?_
      refine j_goto (tgt := 14) d_X11_isSlot_10 (by decide) ?_
      exact j_zret d_X11_isSlot_14 rfl (Or.inr rfl) rfl ⟨rfl, rfl⟩
set_option maxHeartbeats 4000000 in
set_option maxRecDepth 100000 in
theorem c_X11_isSlot (G : tp_G) (a0 : Int) (M0 : tp_M) (r : Int) (h : f_X11_isSlot a0 M0 = some r) (l : Launch) : Met l y_X11_isSlot (tp_ws y_X11_isSlot i_X11_isSlot) (tp_rm 0) (tp_Pc G [.inl a0] tp_NC (tp_st M0)) (tp_Q G ((o_X11_isSlot M0) r)) 0 0 (tp_A G) :=
  tp_met (I := i_X11_isSlot) (y := y_X11_isSlot) (by decide +kernel) (Eq.refl "TypesAtPrimeModel") (Eq.refl "isSlot") (lv := [some (.inl a0)]) rfl (Nat.le_of_ble_eq_true rfl) (T_X11_isSlot G a0 M0) h l
def y_X11_isPower : MethodName := ⟨"TypesAtPrimeModel", "isPower", "(I)Z"⟩
abbrev i_X11_isPower : tp_I := (prog_13_method_5_code, "TypesAtPrimeModel", (some .boolean), 1, "isPower")
abbrev o_X11_isPower (M : tp_M) : Int → tp_O := fun r => (some (.inl r), tp_NC, tp_st M)
theorem d_X11_isPower_0 : decode prog_13_method_5_code 0 = .ok (.iload_n 0, 1) := by decide +kernel
theorem d_X11_isPower_1 : decode prog_13_method_5_code 1 = .ok (.ifCond .lt 13, 3) := by decide +kernel
theorem d_X11_isPower_4 : decode prog_13_method_5_code 4 = .ok (.iload_n 0, 1) := by decide +kernel
theorem d_X11_isPower_5 : decode prog_13_method_5_code 5 = .ok (.bipush 9, 2) := by decide +kernel
theorem d_X11_isPower_7 : decode prog_13_method_5_code 7 = .ok (.if_icmp .ge 7, 3) := by decide +kernel
theorem d_X11_isPower_10 : decode prog_13_method_5_code 10 = .ok (.iconst 1, 1) := by decide +kernel
theorem d_X11_isPower_11 : decode prog_13_method_5_code 11 = .ok (.goto 4, 3) := by decide +kernel
theorem d_X11_isPower_14 : decode prog_13_method_5_code 14 = .ok (.iconst 0, 1) := by decide +kernel
theorem d_X11_isPower_15 : decode prog_13_method_5_code 15 = .ok (.ireturn, 1) := by decide +kernel
def f_X11_isPower (a0 : Int) (M0 : tp_M) : Option (Int) :=
  if a0 < 0 then
    some 0
  else
    if 9 ≤ a0 then
      some 0
    else
      some 1
set_option maxHeartbeats 4000000 in
set_option maxRecDepth 100000 in
theorem T_X11_isPower (G : tp_G) (a0 : Int) (M0 : tp_M) : tp_J i_X11_isPower (tp_rm 0) G 0 0 (o_X11_isPower M0) tp_NC (tp_st M0) 0 0 [some (.inl a0)] 0 [] (f_X11_isPower a0 M0) := by
  unfold f_X11_isPower
  refine j_iload_n rfl d_X11_isPower_0 rfl ?_
  refine j_if_lt (tgt := 14) d_X11_isPower_1 (by decide) (fun h1 => ?_) (fun h1 => ?_)
  · refine j_iconst ⟨by decide, by decide⟩ d_X11_isPower_14 ?_
    exact j_zret d_X11_isPower_15 rfl (Or.inl rfl) rfl ⟨rfl, rfl⟩
  · refine j_iload_n rfl d_X11_isPower_4 rfl ?_
    refine j_bipush ⟨by decide, by decide⟩ (by decide +kernel) d_X11_isPower_5 ?_
    refine j_icmp_ge (tgt := 14) d_X11_isPower_7 (by decide) (fun h2 => ?_) (fun h2 => ?_)
    · refine j_iconst ⟨by decide, by decide⟩ d_X11_isPower_14 ?_
      exact j_zret d_X11_isPower_15 rfl (Or.inl rfl) rfl ⟨rfl, rfl⟩
    · refine j_iconst ⟨by decide, by decide⟩ d_X11_isPower_10 ?_
      refine j_goto (tgt := 15) d_X11_isPower_11 (by decide) ?_
      exact j_zret d_X11_isPower_15 rfl (Or.inr rfl) rfl ⟨rfl, rfl⟩
set_option maxHeartbeats 4000000 in
set_option maxRecDepth 100000 in
theorem c_X11_isPower (G : tp_G) (a0 : Int) (M0 : tp_M) (r : Int) (h : f_X11_isPower a0 M0 = some r) (l : Launch) : Met l y_X11_isPower (tp_ws y_X11_isPower i_X11_isPower) (tp_rm 0) (tp_Pc G [.inl a0] tp_NC (tp_st M0)) (tp_Q G ((o_X11_isPower M0) r)) 0 0 (tp_A G) :=
  tp_met (I := i_X11_isPower) (y := y_X11_isPower) (by decide +kernel) (Eq.refl "TypesAtPrimeModel") (Eq.refl "isPower") (lv := [some (.inl a0)]) rfl (Nat.le_of_ble_eq_true rfl) (T_X11_isPower G a0 M0) h l
theorem wd_1031 : (.fieldLink "TypesAtPrimeModel" 7 "TypesAtPrimeModel" "coefficients" "[I" : Cond) ∈ lw_tbl := List.mem_append_right _ (List.mem_of_getElem? (i := 1031) (by decide +kernel))
theorem fl_Model_7 : tp_F "TypesAtPrimeModel" 7 11 3 2 := ⟨_, _, _, rfl, by decide, rfl, wd_1031, rfl, by decide⟩
theorem tg_484 : tp_tg 484 = 21 := by decide +kernel
theorem al_484 : tp_al 484 = 45 := by decide +kernel
theorem rv_483_3 : tp_rv 483 3 = 484 := by decide +kernel
def y_X11_coefficient : MethodName := ⟨"TypesAtPrimeModel", "coefficient", "(II)I"⟩
abbrev i_X11_coefficient : tp_I := (prog_13_method_6_code, "TypesAtPrimeModel", (some .int), 3, "coefficient")
abbrev o_X11_coefficient (M : tp_M) : Int → tp_O := fun r => (some (.inl r), tp_NC, tp_st M)
theorem d_X11_coefficient_0 : decode prog_13_method_6_code 0 = .ok (.aload_n 0, 1) := by decide +kernel
theorem d_X11_coefficient_1 : decode prog_13_method_6_code 1 = .ok (.getfield 7, 3) := by decide +kernel
theorem d_X11_coefficient_4 : decode prog_13_method_6_code 4 = .ok (.bipush 9, 2) := by decide +kernel
theorem d_X11_coefficient_6 : decode prog_13_method_6_code 6 = .ok (.iload_n 1, 1) := by decide +kernel
theorem d_X11_coefficient_7 : decode prog_13_method_6_code 7 = .ok (.imul, 1) := by decide +kernel
theorem d_X11_coefficient_8 : decode prog_13_method_6_code 8 = .ok (.iload_n 2, 1) := by decide +kernel
theorem d_X11_coefficient_9 : decode prog_13_method_6_code 9 = .ok (.iadd, 1) := by decide +kernel
theorem d_X11_coefficient_10 : decode prog_13_method_6_code 10 = .ok (.iaload, 1) := by decide +kernel
theorem d_X11_coefficient_11 : decode prog_13_method_6_code 11 = .ok (.ireturn, 1) := by decide +kernel
def f_X11_coefficient (a0 : Int) (a1 : Int) (M0 : tp_M) : Option (Int) :=
  if 0 ≤ (tp_w ((tp_w (9 * a0)) + a1)) ∧ (tp_w ((tp_w (9 * a0)) + a1)) < 45 then
    some (M0 484 (tp_w ((tp_w (9 * a0)) + a1))) else none
set_option maxHeartbeats 4000000 in
set_option maxRecDepth 100000 in
theorem T_X11_coefficient (G : tp_G) (a0 : Int) (a1 : Int) (M0 : tp_M) : tp_J i_X11_coefficient (tp_rm 0) G 0 0 (o_X11_coefficient M0) tp_NC (tp_st M0) 0 0 [some (.inr (.inr 483)), some (.inl a0), some (.inl a1)] 0 [] (f_X11_coefficient a0 a1 M0) := by
  unfold f_X11_coefficient
  refine j_aload_n rfl d_X11_coefficient_0 rfl ?_
  refine j_getr fl_Model_7 tg_483 rv_483_3 d_X11_coefficient_1 ?_
  refine j_bipush ⟨by decide, by decide⟩ (by decide +kernel) d_X11_coefficient_4 ?_
  refine j_iload_n rfl d_X11_coefficient_6 rfl ?_
  refine j_imul d_X11_coefficient_7 ?_
  refine j_iload_n rfl d_X11_coefficient_8 rfl ?_
  refine j_iadd d_X11_coefficient_9 ?_
  refine j_iald tg_484 al_484 d_X11_coefficient_10 ?_
  exact j_iret d_X11_coefficient_11 rfl rfl ⟨rfl, rfl⟩
set_option maxHeartbeats 4000000 in
set_option maxRecDepth 100000 in
theorem c_X11_coefficient (G : tp_G) (a0 : Int) (a1 : Int) (M0 : tp_M) (r : Int) (h : f_X11_coefficient a0 a1 M0 = some r) (l : Launch) : Met l y_X11_coefficient (tp_ws y_X11_coefficient i_X11_coefficient) (tp_rm 0) (tp_Pc G [.inr (.inr 483), .inl a0, .inl a1] tp_NC (tp_st M0)) (tp_Q G ((o_X11_coefficient M0) r)) 0 0 (tp_A G) :=
  tp_met (I := i_X11_coefficient) (y := y_X11_coefficient) (by decide +kernel) (Eq.refl "TypesAtPrimeModel") (Eq.refl "coefficient") (lv := [some (.inr (.inr 483)), some (.inl a0), some (.inl a1)]) rfl (Nat.le_of_ble_eq_true rfl) (T_X11_coefficient G a0 a1 M0) h l
theorem wd_1297 : (.code ⟨"TypesAtPrimeModel", "coefficient", "(II)I"⟩ prog_13_method_6_code 3 (some .int) : Cond) ∈ lw_tbl := List.mem_append_right _ (List.mem_of_getElem? (i := 1297) (by decide +kernel))
theorem wd_12 : (.initialized "TypesAtPrimeModel" : Cond) ∈ lw_tbl := List.mem_append_right _ (List.mem_of_getElem? (i := 12) (by decide +kernel))
theorem cs_Model_183 : tp_CS "TypesAtPrimeModel" 183 y_X11_coefficient i_X11_coefficient 2 := ⟨wd_1297, wd_12, by decide, by decide, by decide +kernel⟩
theorem wd_1294 : (.methodLink "TypesAtPrimeModel" 183 ⟨"TypesAtPrimeModel", "coefficient", "(II)I"⟩ : Cond) ∈ lw_tbl := List.mem_append_right _ (List.mem_of_getElem? (i := 1294) (by decide +kernel))
theorem wd_1296 : (.instanceMethod ⟨"TypesAtPrimeModel", "coefficient", "(II)I"⟩ : Cond) ∈ lw_tbl := List.mem_append_right _ (List.mem_of_getElem? (i := 1296) (by decide +kernel))
theorem ws_46 : (.selects "TypesAtPrimeModel" ⟨"TypesAtPrimeModel", "coefficient", "(II)I"⟩ ⟨"TypesAtPrimeModel", "coefficient", "(II)I"⟩ : Cond) ∈ lw_tbl := List.mem_append_left _ (List.mem_of_getElem? (i := 46) (by decide +kernel))
def y_X11_degreeOf : MethodName := ⟨"TypesAtPrimeModel", "degreeOf", "(I)I"⟩
abbrev i_X11_degreeOf : tp_I := (prog_13_method_7_code, "TypesAtPrimeModel", (some .int), 4, "degreeOf")
abbrev o_X11_degreeOf (M : tp_M) : Int → tp_O := fun r => (some (.inl r), tp_NC, tp_st M)
theorem d_X11_degreeOf_0 : decode prog_13_method_7_code 0 = .ok (.iconst (-1), 1) := by decide +kernel
theorem d_X11_degreeOf_1 : decode prog_13_method_7_code 1 = .ok (.istore_n 2, 1) := by decide +kernel
theorem d_X11_degreeOf_2 : decode prog_13_method_7_code 2 = .ok (.iconst 0, 1) := by decide +kernel
theorem d_X11_degreeOf_3 : decode prog_13_method_7_code 3 = .ok (.istore_n 3, 1) := by decide +kernel
theorem d_X11_degreeOf_4 : decode prog_13_method_7_code 4 = .ok (.iload_n 3, 1) := by decide +kernel
theorem d_X11_degreeOf_5 : decode prog_13_method_7_code 5 = .ok (.bipush 9, 2) := by decide +kernel
theorem d_X11_degreeOf_7 : decode prog_13_method_7_code 7 = .ok (.if_icmp .ge 24, 3) := by decide +kernel
theorem d_X11_degreeOf_10 : decode prog_13_method_7_code 10 = .ok (.aload_n 0, 1) := by decide +kernel
theorem d_X11_degreeOf_11 : decode prog_13_method_7_code 11 = .ok (.iload_n 1, 1) := by decide +kernel
theorem d_X11_degreeOf_12 : decode prog_13_method_7_code 12 = .ok (.iload_n 3, 1) := by decide +kernel
theorem d_X11_degreeOf_13 : decode prog_13_method_7_code 13 = .ok (.invokevirtual 183, 3) := by decide +kernel
theorem d_X11_degreeOf_16 : decode prog_13_method_7_code 16 = .ok (.ifCond .eq 7, 3) := by decide +kernel
theorem d_X11_degreeOf_19 : decode prog_13_method_7_code 19 = .ok (.iload_n 3, 1) := by decide +kernel
theorem d_X11_degreeOf_20 : decode prog_13_method_7_code 20 = .ok (.goto 4, 3) := by decide +kernel
theorem d_X11_degreeOf_23 : decode prog_13_method_7_code 23 = .ok (.iload_n 2, 1) := by decide +kernel
theorem d_X11_degreeOf_24 : decode prog_13_method_7_code 24 = .ok (.istore_n 2, 1) := by decide +kernel
theorem d_X11_degreeOf_25 : decode prog_13_method_7_code 25 = .ok (.iinc 3 1, 3) := by decide +kernel
theorem d_X11_degreeOf_28 : decode prog_13_method_7_code 28 = .ok (.goto (-24), 3) := by decide +kernel
theorem d_X11_degreeOf_31 : decode prog_13_method_7_code 31 = .ok (.iload_n 2, 1) := by decide +kernel
theorem d_X11_degreeOf_32 : decode prog_13_method_7_code 32 = .ok (.ireturn, 1) := by decide +kernel
def f_X11_degreeOf_24 (rec_4 : Int → Int → Option (Int)) (x1 : Int) (x3 : Int) (s0 : Int) (M0 : tp_M) : Option (Int) :=
  tp_lt (tp_w (x3 + 1)) fun y5 =>
  rec_4 s0 y5
set_option maxHeartbeats 4000000 in
set_option maxRecDepth 100000 in
theorem T_X11_degreeOf_24 (G : tp_G) (rec_4 : Int → Int → Option (Int)) (x1 : Int) (x3 : Int) (s0 : Int) (M0 : tp_M) (hrec_4 : ∀ (x2' x3' : Int), tp_J i_X11_degreeOf (tp_rm 1) G 0 0 (o_X11_degreeOf M0) tp_NC (tp_st M0) 0 0 [some (.inr (.inr 483)), some (.inl x1), some (.inl (x2')), some (.inl (x3'))] 4 [] (rec_4 x2' x3')) : tp_J i_X11_degreeOf (tp_rm 1) G 0 0 (o_X11_degreeOf M0) tp_NC (tp_st M0) 0 0 [some (.inr (.inr 483)), some (.inl x1), none, some (.inl x3)] 24 [.inl s0] (f_X11_degreeOf_24 rec_4 x1 x3 s0 M0) := by
  unfold f_X11_degreeOf_24
  refine j_istore_n (lv' := [some (.inr (.inr 483)), some (.inl x1), some (.inl s0), some (.inl x3)]) rfl d_X11_degreeOf_24 (Nat.le_of_ble_eq_true rfl) rfl ?_
  refine j_iincN (lv' := fun y5 => [some (.inr (.inr 483)), some (.inl x1), some (.inl s0), some (.inl y5)]) d_X11_degreeOf_25 rfl (Nat.le_of_ble_eq_true rfl) (fun _ => rfl) (fun y5 hy5 => ?_)
  refine j_goto (tgt := 4) d_X11_degreeOf_28 (by decide) ?_
  exact j_wk [true, true, true, true] rfl rfl (hrec_4 s0 y5)
def f_X11_degreeOf_4B (x1 : Int) (M0 : tp_M) (rec_4 : Int → Int → Option (Int)) (x2 : Int) (x3 : Int) : Option (Int) :=
  if 9 ≤ x3 then
    some x2
  else
    (f_X11_coefficient x1 x3 M0).bind fun r2 =>
    if r2 = 0 then
      f_X11_degreeOf_24 rec_4 x1 x3 x2 M0
    else
      f_X11_degreeOf_24 rec_4 x1 x3 x3 M0
set_option maxHeartbeats 4000000 in
set_option maxRecDepth 100000 in
theorem T_X11_degreeOf_4B (G : tp_G) (x1 : Int) (M0 : tp_M) (rec_4 : Int → Int → Option (Int)) (hrec_4 : ∀ (x2' x3' : Int), tp_J i_X11_degreeOf (tp_rm 1) G 0 0 (o_X11_degreeOf M0) tp_NC (tp_st M0) 0 0 [some (.inr (.inr 483)), some (.inl x1), some (.inl (x2')), some (.inl (x3'))] 4 [] (rec_4 x2' x3')) (x2 : Int) (x3 : Int) : tp_J i_X11_degreeOf (tp_rm 1) G 0 0 (o_X11_degreeOf M0) tp_NC (tp_st M0) 0 0 [some (.inr (.inr 483)), some (.inl x1), some (.inl x2), some (.inl x3)] 4 [] (f_X11_degreeOf_4B x1 M0 rec_4 x2 x3) := by
  unfold f_X11_degreeOf_4B
  refine j_iload_n rfl d_X11_degreeOf_4 rfl ?_
  refine j_bipush ⟨by decide, by decide⟩ (by decide +kernel) d_X11_degreeOf_5 ?_
  refine j_icmp_ge (tgt := 31) d_X11_degreeOf_7 (by decide) (fun h1 => ?_) (fun h1 => ?_)
  · refine j_iload_n rfl d_X11_degreeOf_31 rfl ?_
    exact j_iret d_X11_degreeOf_32 rfl rfl ⟨rfl, rfl⟩
  · refine j_aload_n rfl d_X11_degreeOf_10 rfl ?_
    refine j_iload_n rfl d_X11_degreeOf_11 rfl ?_
    refine j_iload_n rfl d_X11_degreeOf_12 rfl ?_
    refine j_bind (fun r2 h3 => ?_)
    refine j_callV (y := y_X11_coefficient) (I' := i_X11_coefficient) (avs := [.inl x1, .inl x3]) (c := 483) (st := []) (c_X11_coefficient G x1 x3 M0 r2 h3) cs_Model_183 wd_1294 wd_1296 ws_46 tg_483 rfl rfl rfl (Nat.le_of_ble_eq_true rfl) ⟨rfl, rfl⟩ ⟨by decide, by decide⟩ ⟨by decide, by decide⟩ d_X11_degreeOf_13 ?_
    refine j_if_eq (tgt := 23) d_X11_degreeOf_16 (by decide) (fun h4 => ?_) (fun h4 => ?_)
    · refine j_iload_n rfl d_X11_degreeOf_23 rfl ?_
      exact j_wk [true, true, false, true] rfl rfl (T_X11_degreeOf_24 G rec_4 x1 x3 x2 M0 hrec_4)
    · refine j_iload_n rfl d_X11_degreeOf_19 rfl ?_
      refine j_goto (tgt := 24) d_X11_degreeOf_20 (by decide) ?_
      exact j_wk [true, true, false, true] rfl rfl (T_X11_degreeOf_24 G rec_4 x1 x3 x3 M0 hrec_4)
def f_X11_degreeOf_4 (x1 : Int) (x2 : Int) (x3 : Int) (M0 : tp_M) : Option (Int) := tp_lp (σ := Int × Int) (fun rec_ u => f_X11_degreeOf_4B x1 M0 (fun x2' x3' => rec_ (x2', x3')) u.1 u.2) tp_N (x2, x3)
set_option maxHeartbeats 4000000 in
set_option maxRecDepth 100000 in
theorem T_X11_degreeOf_4 (G : tp_G) (x1 : Int) (x2 : Int) (x3 : Int) (M0 : tp_M) : tp_J i_X11_degreeOf (tp_rm 1) G 0 0 (o_X11_degreeOf M0) tp_NC (tp_st M0) 0 0 [some (.inr (.inr 483)), some (.inl x1), some (.inl x2), some (.inl x3)] 4 [] (f_X11_degreeOf_4 x1 x2 x3 M0) := by
  unfold f_X11_degreeOf_4
  exact j_lp (σ := Int × Int) (n' := fun _ => tp_NC) (g' := fun u => tp_st M0) (k' := fun _ => 0) (q' := fun _ => 0) (lv' := fun u => [some (.inr (.inr 483)), some (.inl x1), some (.inl u.1), some (.inl u.2)]) (fun rec_ hrec u => T_X11_degreeOf_4B G x1 M0 (fun x2' x3' => rec_ (x2', x3')) (fun x2' x3' => hrec (x2', x3')) u.1 u.2) tp_N (x2, x3)
def f_X11_degreeOf (a0 : Int) (M0 : tp_M) : Option (Int) :=
  f_X11_degreeOf_4 a0 (-1) 0 M0
set_option maxHeartbeats 4000000 in
set_option maxRecDepth 100000 in
theorem T_X11_degreeOf (G : tp_G) (a0 : Int) (M0 : tp_M) : tp_J i_X11_degreeOf (tp_rm 1) G 0 0 (o_X11_degreeOf M0) tp_NC (tp_st M0) 0 0 [some (.inr (.inr 483)), some (.inl a0), none, none] 0 [] (f_X11_degreeOf a0 M0) := by
  unfold f_X11_degreeOf
  refine j_iconst ⟨by decide, by decide⟩ d_X11_degreeOf_0 ?_
  refine j_istore_n (lv' := [some (.inr (.inr 483)), some (.inl a0), some (.inl (-1)), none]) rfl d_X11_degreeOf_1 (Nat.le_of_ble_eq_true rfl) rfl ?_
  refine j_iconst ⟨by decide, by decide⟩ d_X11_degreeOf_2 ?_
  refine j_istore_n (lv' := [some (.inr (.inr 483)), some (.inl a0), some (.inl (-1)), some (.inl 0)]) rfl d_X11_degreeOf_3 (Nat.le_of_ble_eq_true rfl) rfl ?_
  exact j_wk [true, true, true, true] rfl rfl (T_X11_degreeOf_4 G a0 (-1) 0 M0)
set_option maxHeartbeats 4000000 in
set_option maxRecDepth 100000 in
theorem c_X11_degreeOf (G : tp_G) (a0 : Int) (M0 : tp_M) (r : Int) (h : f_X11_degreeOf a0 M0 = some r) (l : Launch) : Met l y_X11_degreeOf (tp_ws y_X11_degreeOf i_X11_degreeOf) (tp_rm 1) (tp_Pc G [.inr (.inr 483), .inl a0] tp_NC (tp_st M0)) (tp_Q G ((o_X11_degreeOf M0) r)) 0 0 (tp_A G) :=
  tp_met (I := i_X11_degreeOf) (y := y_X11_degreeOf) (by decide +kernel) (Eq.refl "TypesAtPrimeModel") (Eq.refl "degreeOf") (lv := [some (.inr (.inr 483)), some (.inl a0), none, none]) rfl (Nat.le_of_ble_eq_true rfl) (T_X11_degreeOf G a0 M0) h l
theorem wd_1293 : (.code ⟨"TypesAtPrimeModel", "degreeOf", "(I)I"⟩ prog_13_method_7_code 4 (some .int) : Cond) ∈ lw_tbl := List.mem_append_right _ (List.mem_of_getElem? (i := 1293) (by decide +kernel))
theorem cs_Model_187 : tp_CS "TypesAtPrimeModel" 187 y_X11_degreeOf i_X11_degreeOf 1 := ⟨wd_1293, wd_12, by decide, by decide, by decide +kernel⟩
theorem wd_1290 : (.methodLink "TypesAtPrimeModel" 187 ⟨"TypesAtPrimeModel", "degreeOf", "(I)I"⟩ : Cond) ∈ lw_tbl := List.mem_append_right _ (List.mem_of_getElem? (i := 1290) (by decide +kernel))
theorem wd_1292 : (.instanceMethod ⟨"TypesAtPrimeModel", "degreeOf", "(I)I"⟩ : Cond) ∈ lw_tbl := List.mem_append_right _ (List.mem_of_getElem? (i := 1292) (by decide +kernel))
theorem ws_45 : (.selects "TypesAtPrimeModel" ⟨"TypesAtPrimeModel", "degreeOf", "(I)I"⟩ ⟨"TypesAtPrimeModel", "degreeOf", "(I)I"⟩ : Cond) ∈ lw_tbl := List.mem_append_left _ (List.mem_of_getElem? (i := 45) (by decide +kernel))
def y_X11_isMonic : MethodName := ⟨"TypesAtPrimeModel", "isMonic", "(I)Z"⟩
abbrev i_X11_isMonic : tp_I := (prog_13_method_8_code, "TypesAtPrimeModel", (some .boolean), 3, "isMonic")
abbrev o_X11_isMonic (M : tp_M) : Int → tp_O := fun r => (some (.inl r), tp_NC, tp_st M)
theorem d_X11_isMonic_0 : decode prog_13_method_8_code 0 = .ok (.aload_n 0, 1) := by decide +kernel
theorem d_X11_isMonic_1 : decode prog_13_method_8_code 1 = .ok (.iload_n 1, 1) := by decide +kernel
theorem d_X11_isMonic_2 : decode prog_13_method_8_code 2 = .ok (.invokevirtual 187, 3) := by decide +kernel
theorem d_X11_isMonic_5 : decode prog_13_method_8_code 5 = .ok (.istore_n 2, 1) := by decide +kernel
theorem d_X11_isMonic_6 : decode prog_13_method_8_code 6 = .ok (.iload_n 2, 1) := by decide +kernel
theorem d_X11_isMonic_7 : decode prog_13_method_8_code 7 = .ok (.ifCond .le 17, 3) := by decide +kernel
theorem d_X11_isMonic_10 : decode prog_13_method_8_code 10 = .ok (.aload_n 0, 1) := by decide +kernel
theorem d_X11_isMonic_11 : decode prog_13_method_8_code 11 = .ok (.iload_n 1, 1) := by decide +kernel
theorem d_X11_isMonic_12 : decode prog_13_method_8_code 12 = .ok (.iload_n 2, 1) := by decide +kernel
theorem d_X11_isMonic_13 : decode prog_13_method_8_code 13 = .ok (.invokevirtual 183, 3) := by decide +kernel
theorem d_X11_isMonic_16 : decode prog_13_method_8_code 16 = .ok (.iconst 1, 1) := by decide +kernel
theorem d_X11_isMonic_17 : decode prog_13_method_8_code 17 = .ok (.if_icmp .ne 7, 3) := by decide +kernel
theorem d_X11_isMonic_20 : decode prog_13_method_8_code 20 = .ok (.iconst 1, 1) := by decide +kernel
theorem d_X11_isMonic_21 : decode prog_13_method_8_code 21 = .ok (.goto 4, 3) := by decide +kernel
theorem d_X11_isMonic_24 : decode prog_13_method_8_code 24 = .ok (.iconst 0, 1) := by decide +kernel
theorem d_X11_isMonic_25 : decode prog_13_method_8_code 25 = .ok (.ireturn, 1) := by decide +kernel
def f_X11_isMonic (a0 : Int) (M0 : tp_M) : Option (Int) :=
  (f_X11_degreeOf a0 M0).bind fun r1 =>
  if r1 ≤ 0 then
    some 0
  else
    (f_X11_coefficient a0 r1 M0).bind fun r4 =>
    if ¬ r4 = 1 then
      some 0
    else
      some 1
set_option maxHeartbeats 4000000 in
set_option maxRecDepth 100000 in
theorem T_X11_isMonic (G : tp_G) (a0 : Int) (M0 : tp_M) : tp_J i_X11_isMonic (tp_rm 2) G 0 0 (o_X11_isMonic M0) tp_NC (tp_st M0) 0 0 [some (.inr (.inr 483)), some (.inl a0), none] 0 [] (f_X11_isMonic a0 M0) := by
  unfold f_X11_isMonic
  refine j_aload_n rfl d_X11_isMonic_0 rfl ?_
  refine j_iload_n rfl d_X11_isMonic_1 rfl ?_
  refine j_bind (fun r1 h2 => ?_)
  refine j_callV (y := y_X11_degreeOf) (I' := i_X11_degreeOf) (avs := [.inl a0]) (c := 483) (st := []) (c_X11_degreeOf G a0 M0 r1 h2) cs_Model_187 wd_1290 wd_1292 ws_45 tg_483 rfl rfl rfl (Nat.le_of_ble_eq_true rfl) ⟨rfl, rfl⟩ ⟨by decide, by decide⟩ ⟨by decide, by decide⟩ d_X11_isMonic_2 ?_
  refine j_istore_n (lv' := [some (.inr (.inr 483)), some (.inl a0), some (.inl r1)]) rfl d_X11_isMonic_5 (Nat.le_of_ble_eq_true rfl) rfl ?_
  refine j_iload_n rfl d_X11_isMonic_6 rfl ?_
  refine j_if_le (tgt := 24) d_X11_isMonic_7 (by decide) (fun h3 => ?_) (fun h3 => ?_)
  · refine j_iconst ⟨by decide, by decide⟩ d_X11_isMonic_24 ?_
    exact j_zret d_X11_isMonic_25 rfl (Or.inl rfl) rfl ⟨rfl, rfl⟩
  · refine j_aload_n rfl d_X11_isMonic_10 rfl ?_
    refine j_iload_n rfl d_X11_isMonic_11 rfl ?_
    refine j_iload_n rfl d_X11_isMonic_12 rfl ?_
    refine j_bind (fun r4 h5 => ?_)
    refine j_callV (y := y_X11_coefficient) (I' := i_X11_coefficient) (avs := [.inl a0, .inl r1]) (c := 483) (st := []) (c_X11_coefficient G a0 r1 M0 r4 h5) cs_Model_183 wd_1294 wd_1296 ws_46 tg_483 rfl rfl rfl (Nat.le_of_ble_eq_true rfl) ⟨rfl, rfl⟩ ⟨by decide, by decide⟩ ⟨by decide, by decide⟩ d_X11_isMonic_13 ?_
    refine j_iconst ⟨by decide, by decide⟩ d_X11_isMonic_16 ?_
    refine j_icmp_ne (tgt := 24) d_X11_isMonic_17 (by decide) (fun h6 => ?_) (fun h6 => ?_)
    · refine j_iconst ⟨by decide, by decide⟩ d_X11_isMonic_24 ?_
      exact j_zret d_X11_isMonic_25 rfl (Or.inl rfl) rfl ⟨rfl, rfl⟩
    · refine j_iconst ⟨by decide, by decide⟩ d_X11_isMonic_20 ?_
      refine j_goto (tgt := 25) d_X11_isMonic_21 (by decide) ?_
      exact j_zret d_X11_isMonic_25 rfl (Or.inr rfl) rfl ⟨rfl, rfl⟩
set_option maxHeartbeats 4000000 in
set_option maxRecDepth 100000 in
theorem c_X11_isMonic (G : tp_G) (a0 : Int) (M0 : tp_M) (r : Int) (h : f_X11_isMonic a0 M0 = some r) (l : Launch) : Met l y_X11_isMonic (tp_ws y_X11_isMonic i_X11_isMonic) (tp_rm 2) (tp_Pc G [.inr (.inr 483), .inl a0] tp_NC (tp_st M0)) (tp_Q G ((o_X11_isMonic M0) r)) 0 0 (tp_A G) :=
  tp_met (I := i_X11_isMonic) (y := y_X11_isMonic) (by decide +kernel) (Eq.refl "TypesAtPrimeModel") (Eq.refl "isMonic") (lv := [some (.inr (.inr 483)), some (.inl a0), none]) rfl (Nat.le_of_ble_eq_true rfl) (T_X11_isMonic G a0 M0) h l
def y_X11_residue : MethodName := ⟨"TypesAtPrimeModel", "residue", "(J)I"⟩
abbrev i_X11_residue : tp_I := (prog_13_method_9_code, "TypesAtPrimeModel", (some .int), 4, "residue")
abbrev o_X11_residue (M : tp_M) : Int → tp_O := fun r => (some (.inl r), tp_NC, tp_st M)
theorem d_X11_residue_0 : decode prog_13_method_9_code 0 = .ok (.lload_n 1, 1) := by decide +kernel
theorem d_X11_residue_1 : decode prog_13_method_9_code 1 = .ok (.aload_n 0, 1) := by decide +kernel
theorem d_X11_residue_2 : decode prog_13_method_9_code 2 = .ok (.getfield 168, 3) := by decide +kernel
theorem d_X11_residue_5 : decode prog_13_method_9_code 5 = .ok (.i2l, 1) := by decide +kernel
theorem d_X11_residue_6 : decode prog_13_method_9_code 6 = .ok (.lrem, 1) := by decide +kernel
theorem d_X11_residue_7 : decode prog_13_method_9_code 7 = .ok (.l2i, 1) := by decide +kernel
theorem d_X11_residue_8 : decode prog_13_method_9_code 8 = .ok (.istore_n 3, 1) := by decide +kernel
theorem d_X11_residue_9 : decode prog_13_method_9_code 9 = .ok (.iload_n 3, 1) := by decide +kernel
theorem d_X11_residue_10 : decode prog_13_method_9_code 10 = .ok (.ifCond .ge 12, 3) := by decide +kernel
theorem d_X11_residue_13 : decode prog_13_method_9_code 13 = .ok (.iload_n 3, 1) := by decide +kernel
theorem d_X11_residue_14 : decode prog_13_method_9_code 14 = .ok (.aload_n 0, 1) := by decide +kernel
theorem d_X11_residue_15 : decode prog_13_method_9_code 15 = .ok (.getfield 168, 3) := by decide +kernel
theorem d_X11_residue_18 : decode prog_13_method_9_code 18 = .ok (.iadd, 1) := by decide +kernel
theorem d_X11_residue_19 : decode prog_13_method_9_code 19 = .ok (.goto 4, 3) := by decide +kernel
theorem d_X11_residue_22 : decode prog_13_method_9_code 22 = .ok (.iload_n 3, 1) := by decide +kernel
theorem d_X11_residue_23 : decode prog_13_method_9_code 23 = .ok (.ireturn, 1) := by decide +kernel
def f_X11_residue (a0 : Int) (M0 : tp_M) : Option (Int) :=
  if (M0 483 0) = 0 then none else
    tp_lt ((tp_w (Int.tmod a0 (M0 483 0)))) fun y1 =>
    if 0 ≤ y1 then
      some y1
    else
      some (tp_w (y1 + (M0 483 0)))
set_option maxHeartbeats 4000000 in
set_option maxRecDepth 100000 in
theorem T_X11_residue (G : tp_G) (a0 : Int) (M0 : tp_M) : tp_J i_X11_residue (tp_rm 0) G 0 0 (o_X11_residue M0) tp_NC (tp_st M0) 0 0 [some (.inr (.inr 483)), some (.inr (.inl a0)), none, none] 0 [] (f_X11_residue a0 M0) := by
  unfold f_X11_residue
  refine j_lload_n rfl d_X11_residue_0 rfl ?_
  refine j_aload_n rfl d_X11_residue_1 rfl ?_
  refine j_geti fl_Model_168 tg_483 d_X11_residue_2 ?_
  refine j_i2l d_X11_residue_5 ?_
  refine j_lrem d_X11_residue_6 ?_
  refine j_l2i d_X11_residue_7 ?_
  refine j_nmI (fun y1 hy1 => ?_)
  refine j_istore_n (lv' := [some (.inr (.inr 483)), some (.inr (.inl a0)), none, some (.inl y1)]) rfl d_X11_residue_8 (Nat.le_of_ble_eq_true rfl) rfl ?_
  refine j_iload_n rfl d_X11_residue_9 rfl ?_
  refine j_if_ge (tgt := 22) d_X11_residue_10 (by decide) (fun h2 => ?_) (fun h2 => ?_)
  · refine j_iload_n rfl d_X11_residue_22 rfl ?_
    exact j_iret d_X11_residue_23 rfl rfl ⟨rfl, rfl⟩
  · refine j_iload_n rfl d_X11_residue_13 rfl ?_
    refine j_aload_n rfl d_X11_residue_14 rfl ?_
    refine j_geti fl_Model_168 tg_483 d_X11_residue_15 ?_
    refine j_iadd d_X11_residue_18 ?_
    refine j_goto (tgt := 23) d_X11_residue_19 (by decide) ?_
    exact j_iret d_X11_residue_23 rfl rfl ⟨rfl, rfl⟩
set_option maxHeartbeats 4000000 in
set_option maxRecDepth 100000 in
theorem c_X11_residue (G : tp_G) (a0 : Int) (M0 : tp_M) (r : Int) (h : f_X11_residue a0 M0 = some r) (l : Launch) : Met l y_X11_residue (tp_ws y_X11_residue i_X11_residue) (tp_rm 0) (tp_Pc G [.inr (.inr 483), .inr (.inl a0)] tp_NC (tp_st M0)) (tp_Q G ((o_X11_residue M0) r)) 0 0 (tp_A G) :=
  tp_met (I := i_X11_residue) (y := y_X11_residue) (by decide +kernel) (Eq.refl "TypesAtPrimeModel") (Eq.refl "residue") (lv := [some (.inr (.inr 483)), some (.inr (.inl a0)), none, none]) rfl (Nat.le_of_ble_eq_true rfl) (T_X11_residue G a0 M0) h l
def y_X11_number : MethodName := ⟨"TypesAtPrimeModel", "number", "(J)J"⟩
abbrev i_X11_number : tp_I := (prog_13_method_10_code, "TypesAtPrimeModel", (some .long), 5, "number")
abbrev o_X11_number (M : tp_M) : Int → tp_O := fun r => (some (.inr (.inl r)), tp_NC, tp_st M)
theorem d_X11_number_0 : decode prog_13_method_10_code 0 = .ok (.lload_n 1, 1) := by decide +kernel
theorem d_X11_number_1 : decode prog_13_method_10_code 1 = .ok (.aload_n 0, 1) := by decide +kernel
theorem d_X11_number_2 : decode prog_13_method_10_code 2 = .ok (.getfield 175, 3) := by decide +kernel
theorem d_X11_number_5 : decode prog_13_method_10_code 5 = .ok (.lrem, 1) := by decide +kernel
theorem d_X11_number_6 : decode prog_13_method_10_code 6 = .ok (.lstore_n 3, 1) := by decide +kernel
theorem d_X11_number_7 : decode prog_13_method_10_code 7 = .ok (.lload_n 3, 1) := by decide +kernel
theorem d_X11_number_8 : decode prog_13_method_10_code 8 = .ok (.lconst 0, 1) := by decide +kernel
theorem d_X11_number_9 : decode prog_13_method_10_code 9 = .ok (.lcmp, 1) := by decide +kernel
theorem d_X11_number_10 : decode prog_13_method_10_code 10 = .ok (.ifCond .ge 12, 3) := by decide +kernel
theorem d_X11_number_13 : decode prog_13_method_10_code 13 = .ok (.lload_n 3, 1) := by decide +kernel
theorem d_X11_number_14 : decode prog_13_method_10_code 14 = .ok (.aload_n 0, 1) := by decide +kernel
theorem d_X11_number_15 : decode prog_13_method_10_code 15 = .ok (.getfield 175, 3) := by decide +kernel
theorem d_X11_number_18 : decode prog_13_method_10_code 18 = .ok (.ladd, 1) := by decide +kernel
theorem d_X11_number_19 : decode prog_13_method_10_code 19 = .ok (.goto 4, 3) := by decide +kernel
theorem d_X11_number_22 : decode prog_13_method_10_code 22 = .ok (.lload_n 3, 1) := by decide +kernel
theorem d_X11_number_23 : decode prog_13_method_10_code 23 = .ok (.lreturn, 1) := by decide +kernel
def f_X11_number (a0 : Int) (M0 : tp_M) : Option (Int) :=
  if (M0 483 2) = 0 then none else
    tp_lt ((Int.tmod a0 (M0 483 2))) fun y1 =>
    if 0 ≤ y1 then
      some y1
    else
      some (tp_wl (y1 + (M0 483 2)))
set_option maxHeartbeats 4000000 in
set_option maxRecDepth 100000 in
theorem T_X11_number (G : tp_G) (a0 : Int) (M0 : tp_M) : tp_J i_X11_number (tp_rm 0) G 0 0 (o_X11_number M0) tp_NC (tp_st M0) 0 0 [some (.inr (.inr 483)), some (.inr (.inl a0)), none, none, none] 0 [] (f_X11_number a0 M0) := by
  unfold f_X11_number
  refine j_lload_n rfl d_X11_number_0 rfl ?_
  refine j_aload_n rfl d_X11_number_1 rfl ?_
  refine j_getl fl_Model_175 tg_483 d_X11_number_2 ?_
  refine j_lrem d_X11_number_5 ?_
  refine j_nmL (fun y1 hy1 => ?_)
  refine j_lstore_n (lv' := [some (.inr (.inr 483)), some (.inr (.inl a0)), none, some (.inr (.inl y1)), none]) rfl d_X11_number_6 (Nat.le_of_ble_eq_true rfl) rfl ?_
  refine j_lload_n rfl d_X11_number_7 rfl ?_
  refine j_lconst (x := 0) ⟨by decide, by decide⟩ (by decide +kernel) d_X11_number_8 ?_
  refine j_lcmp_ge (tgt := 22) d_X11_number_9 rfl d_X11_number_10 (by decide) (fun h2 => ?_) (fun h2 => ?_)
  · refine j_lload_n rfl d_X11_number_22 rfl ?_
    exact j_lret d_X11_number_23 rfl rfl ⟨rfl, rfl⟩
  · refine j_lload_n rfl d_X11_number_13 rfl ?_
    refine j_aload_n rfl d_X11_number_14 rfl ?_
    refine j_getl fl_Model_175 tg_483 d_X11_number_15 ?_
    refine j_ladd d_X11_number_18 ?_
    refine j_goto (tgt := 23) d_X11_number_19 (by decide) ?_
    exact j_lret d_X11_number_23 rfl rfl ⟨rfl, rfl⟩
set_option maxHeartbeats 4000000 in
set_option maxRecDepth 100000 in
theorem c_X11_number (G : tp_G) (a0 : Int) (M0 : tp_M) (r : Int) (h : f_X11_number a0 M0 = some r) (l : Launch) : Met l y_X11_number (tp_ws y_X11_number i_X11_number) (tp_rm 0) (tp_Pc G [.inr (.inr 483), .inr (.inl a0)] tp_NC (tp_st M0)) (tp_Q G ((o_X11_number M0) r)) 0 0 (tp_A G) :=
  tp_met (I := i_X11_number) (y := y_X11_number) (by decide +kernel) (Eq.refl "TypesAtPrimeModel") (Eq.refl "number") (lv := [some (.inr (.inr 483)), some (.inr (.inl a0)), none, none, none]) rfl (Nat.le_of_ble_eq_true rfl) (T_X11_number G a0 M0) h l
theorem wd_1027 : (.code ⟨"TypesAtPrimeModel", "lays", "(II)V"⟩ prog_13_method_2_code 4 (none : Option Jvm.ClassFile.FieldType) : Cond) ∈ lw_tbl := List.mem_append_right _ (List.mem_of_getElem? (i := 1027) (by decide +kernel))
theorem cs_Model_164 : tp_CS "TypesAtPrimeModel" 164 y_X11_lays i_X11_lays 2 := ⟨wd_1027, wd_12, by decide, by decide, by decide +kernel⟩
theorem wd_1024 : (.methodLink "TypesAtPrimeModel" 164 ⟨"TypesAtPrimeModel", "lays", "(II)V"⟩ : Cond) ∈ lw_tbl := List.mem_append_right _ (List.mem_of_getElem? (i := 1024) (by decide +kernel))
theorem wd_1026 : (.instanceMethod ⟨"TypesAtPrimeModel", "lays", "(II)V"⟩ : Cond) ∈ lw_tbl := List.mem_append_right _ (List.mem_of_getElem? (i := 1026) (by decide +kernel))
theorem ws_36 : (.selects "TypesAtPrimeModel" ⟨"TypesAtPrimeModel", "lays", "(II)V"⟩ ⟨"TypesAtPrimeModel", "lays", "(II)V"⟩ : Cond) ∈ lw_tbl := List.mem_append_left _ (List.mem_of_getElem? (i := 36) (by decide +kernel))
def y_X11_prime : MethodName := ⟨"TypesAtPrimeModel", "prime", "(I)I"⟩
abbrev i_X11_prime : tp_I := (prog_13_method_11_code, "TypesAtPrimeModel", (some .int), 3, "prime")
abbrev o_X11_prime : Int × tp_M → tp_O := fun r => (some (.inl r.1), tp_NC, tp_st r.2)
theorem d_X11_prime_0 : decode prog_13_method_11_code 0 = .ok (.iload_n 1, 1) := by decide +kernel
theorem d_X11_prime_1 : decode prog_13_method_11_code 1 = .ok (.iconst 2, 1) := by decide +kernel
theorem d_X11_prime_2 : decode prog_13_method_11_code 2 = .ok (.if_icmp .eq 21, 3) := by decide +kernel
theorem d_X11_prime_5 : decode prog_13_method_11_code 5 = .ok (.iload_n 1, 1) := by decide +kernel
theorem d_X11_prime_6 : decode prog_13_method_11_code 6 = .ok (.iconst 3, 1) := by decide +kernel
theorem d_X11_prime_7 : decode prog_13_method_11_code 7 = .ok (.if_icmp .eq 16, 3) := by decide +kernel
theorem d_X11_prime_10 : decode prog_13_method_11_code 10 = .ok (.iload_n 1, 1) := by decide +kernel
theorem d_X11_prime_11 : decode prog_13_method_11_code 11 = .ok (.iconst 5, 1) := by decide +kernel
theorem d_X11_prime_12 : decode prog_13_method_11_code 12 = .ok (.if_icmp .eq 11, 3) := by decide +kernel
theorem d_X11_prime_15 : decode prog_13_method_11_code 15 = .ok (.iload_n 1, 1) := by decide +kernel
theorem d_X11_prime_16 : decode prog_13_method_11_code 16 = .ok (.bipush 7, 2) := by decide +kernel
theorem d_X11_prime_18 : decode prog_13_method_11_code 18 = .ok (.if_icmp .eq 5, 3) := by decide +kernel
theorem d_X11_prime_21 : decode prog_13_method_11_code 21 = .ok (.iconst (-1), 1) := by decide +kernel
theorem d_X11_prime_22 : decode prog_13_method_11_code 22 = .ok (.ireturn, 1) := by decide +kernel
theorem d_X11_prime_23 : decode prog_13_method_11_code 23 = .ok (.aload_n 0, 1) := by decide +kernel
theorem d_X11_prime_24 : decode prog_13_method_11_code 24 = .ok (.getfield 168, 3) := by decide +kernel
theorem d_X11_prime_27 : decode prog_13_method_11_code 27 = .ok (.istore_n 2, 1) := by decide +kernel
theorem d_X11_prime_28 : decode prog_13_method_11_code 28 = .ok (.aload_n 0, 1) := by decide +kernel
theorem d_X11_prime_29 : decode prog_13_method_11_code 29 = .ok (.iload_n 1, 1) := by decide +kernel
theorem d_X11_prime_30 : decode prog_13_method_11_code 30 = .ok (.iload_n 1, 1) := by decide +kernel
theorem d_X11_prime_31 : decode prog_13_method_11_code 31 = .ok (.iconst 2, 1) := by decide +kernel
theorem d_X11_prime_32 : decode prog_13_method_11_code 32 = .ok (.if_icmp .ne 8, 3) := by decide +kernel
theorem d_X11_prime_35 : decode prog_13_method_11_code 35 = .ok (.bipush 28, 2) := by decide +kernel
theorem d_X11_prime_37 : decode prog_13_method_11_code 37 = .ok (.goto 25, 3) := by decide +kernel
theorem d_X11_prime_40 : decode prog_13_method_11_code 40 = .ok (.iload_n 1, 1) := by decide +kernel
theorem d_X11_prime_41 : decode prog_13_method_11_code 41 = .ok (.iconst 3, 1) := by decide +kernel
theorem d_X11_prime_42 : decode prog_13_method_11_code 42 = .ok (.if_icmp .ne 8, 3) := by decide +kernel
theorem d_X11_prime_45 : decode prog_13_method_11_code 45 = .ok (.bipush 18, 2) := by decide +kernel
theorem d_X11_prime_47 : decode prog_13_method_11_code 47 = .ok (.goto 15, 3) := by decide +kernel
theorem d_X11_prime_50 : decode prog_13_method_11_code 50 = .ok (.iload_n 1, 1) := by decide +kernel
theorem d_X11_prime_51 : decode prog_13_method_11_code 51 = .ok (.iconst 5, 1) := by decide +kernel
theorem d_X11_prime_52 : decode prog_13_method_11_code 52 = .ok (.if_icmp .ne 8, 3) := by decide +kernel
theorem d_X11_prime_55 : decode prog_13_method_11_code 55 = .ok (.bipush 12, 2) := by decide +kernel
theorem d_X11_prime_57 : decode prog_13_method_11_code 57 = .ok (.goto 5, 3) := by decide +kernel
theorem d_X11_prime_60 : decode prog_13_method_11_code 60 = .ok (.bipush 10, 2) := by decide +kernel
theorem d_X11_prime_62 : decode prog_13_method_11_code 62 = .ok (.invokevirtual 164, 3) := by decide +kernel
theorem d_X11_prime_65 : decode prog_13_method_11_code 65 = .ok (.iload_n 2, 1) := by decide +kernel
theorem d_X11_prime_66 : decode prog_13_method_11_code 66 = .ok (.ireturn, 1) := by decide +kernel
def f_X11_prime_62 (x2 : Int) (s0 : Int) (s1 : Int) (M0 : tp_M) : Option (Int × tp_M) :=
  (f_X11_lays s1 s0 M0).bind fun r6 =>
  some (x2, r6)
set_option maxHeartbeats 4000000 in
set_option maxRecDepth 100000 in
theorem T_X11_prime_62 (G : tp_G) (x2 : Int) (s0 : Int) (s1 : Int) (M0 : tp_M) : tp_J i_X11_prime (tp_rm 1) G 0 0 o_X11_prime tp_NC (tp_st M0) 0 0 [none, none, some (.inl x2)] 62 [.inl s0, .inl s1, .inr (.inr 483)] (f_X11_prime_62 x2 s0 s1 M0) := by
  unfold f_X11_prime_62
  refine j_bind (fun r6 h7 => ?_)
  refine j_callV (y := y_X11_lays) (I' := i_X11_lays) (avs := [.inl s1, .inl s0]) (c := 483) (st := []) (c_X11_lays G s1 s0 M0 r6 h7) cs_Model_164 wd_1024 wd_1026 ws_36 tg_483 rfl rfl rfl (Nat.le_of_ble_eq_true rfl) ⟨rfl, rfl⟩ ⟨by decide, by decide⟩ ⟨by decide, by decide⟩ d_X11_prime_62 ?_
  refine j_iload_n rfl d_X11_prime_65 rfl ?_
  exact j_iret d_X11_prime_66 rfl rfl ⟨rfl, rfl⟩
def f_X11_prime_23 (x1 : Int) (M0 : tp_M) : Option (Int × tp_M) :=
  tp_lt ((M0 483 0)) fun y2 =>
  if ¬ x1 = 2 then
    if ¬ x1 = 3 then
      if ¬ x1 = 5 then
        f_X11_prime_62 y2 10 x1 M0
      else
        f_X11_prime_62 y2 12 x1 M0
    else
      f_X11_prime_62 y2 18 x1 M0
  else
    f_X11_prime_62 y2 28 x1 M0
set_option maxHeartbeats 4000000 in
set_option maxRecDepth 100000 in
theorem T_X11_prime_23 (G : tp_G) (x1 : Int) (M0 : tp_M) : tp_J i_X11_prime (tp_rm 1) G 0 0 o_X11_prime tp_NC (tp_st M0) 0 0 [some (.inr (.inr 483)), some (.inl x1), none] 23 [] (f_X11_prime_23 x1 M0) := by
  unfold f_X11_prime_23
  refine j_aload_n rfl d_X11_prime_23 rfl ?_
  refine j_geti fl_Model_168 tg_483 d_X11_prime_24 ?_
  refine j_nmI (fun y2 hy2 => ?_)
  refine j_istore_n (lv' := [some (.inr (.inr 483)), some (.inl x1), some (.inl y2)]) rfl d_X11_prime_27 (Nat.le_of_ble_eq_true rfl) rfl ?_
  refine j_aload_n rfl d_X11_prime_28 rfl ?_
  refine j_iload_n rfl d_X11_prime_29 rfl ?_
  refine j_iload_n rfl d_X11_prime_30 rfl ?_
  refine j_iconst ⟨by decide, by decide⟩ d_X11_prime_31 ?_
  refine j_icmp_ne (tgt := 40) d_X11_prime_32 (by decide) (fun h3 => ?_) (fun h3 => ?_)
  · refine j_iload_n rfl d_X11_prime_40 rfl ?_
    refine j_iconst ⟨by decide, by decide⟩ d_X11_prime_41 ?_
    refine j_icmp_ne (tgt := 50) d_X11_prime_42 (by decide) (fun h4 => ?_) (fun h4 => ?_)
    · refine j_iload_n rfl d_X11_prime_50 rfl ?_
      refine j_iconst ⟨by decide, by decide⟩ d_X11_prime_51 ?_
      refine j_icmp_ne (tgt := 60) d_X11_prime_52 (by decide) (fun h5 => ?_) (fun h5 => ?_)
      · refine j_bipush ⟨by decide, by decide⟩ (by decide +kernel) d_X11_prime_60 ?_
        exact j_wk [false, false, true] rfl rfl (T_X11_prime_62 G y2 10 x1 M0)
      · refine j_bipush ⟨by decide, by decide⟩ (by decide +kernel) d_X11_prime_55 ?_
        refine j_goto (tgt := 62) d_X11_prime_57 (by decide) ?_
        exact j_wk [false, false, true] rfl rfl (T_X11_prime_62 G y2 12 x1 M0)
    · refine j_bipush ⟨by decide, by decide⟩ (by decide +kernel) d_X11_prime_45 ?_
      refine j_goto (tgt := 62) d_X11_prime_47 (by decide) ?_
      exact j_wk [false, false, true] rfl rfl (T_X11_prime_62 G y2 18 x1 M0)
  · refine j_bipush ⟨by decide, by decide⟩ (by decide +kernel) d_X11_prime_35 ?_
    refine j_goto (tgt := 62) d_X11_prime_37 (by decide) ?_
    exact j_wk [false, false, true] rfl rfl (T_X11_prime_62 G y2 28 x1 M0)
def f_X11_prime (a0 : Int) (M0 : tp_M) : Option (Int × tp_M) :=
  if a0 = 2 then
    f_X11_prime_23 a0 M0
  else
    if a0 = 3 then
      f_X11_prime_23 a0 M0
    else
      if a0 = 5 then
        f_X11_prime_23 a0 M0
      else
        if a0 = 7 then
          f_X11_prime_23 a0 M0
        else
          some ((-1), M0)
set_option maxHeartbeats 4000000 in
set_option maxRecDepth 100000 in
theorem T_X11_prime (G : tp_G) (a0 : Int) (M0 : tp_M) : tp_J i_X11_prime (tp_rm 1) G 0 0 o_X11_prime tp_NC (tp_st M0) 0 0 [some (.inr (.inr 483)), some (.inl a0), none] 0 [] (f_X11_prime a0 M0) := by
  unfold f_X11_prime
  refine j_iload_n rfl d_X11_prime_0 rfl ?_
  refine j_iconst ⟨by decide, by decide⟩ d_X11_prime_1 ?_
  refine j_icmp_eq (tgt := 23) d_X11_prime_2 (by decide) (fun h1 => ?_) (fun h1 => ?_)
  · exact j_wk [true, true, false] rfl rfl (T_X11_prime_23 G a0 M0)
  · refine j_iload_n rfl d_X11_prime_5 rfl ?_
    refine j_iconst ⟨by decide, by decide⟩ d_X11_prime_6 ?_
    refine j_icmp_eq (tgt := 23) d_X11_prime_7 (by decide) (fun h8 => ?_) (fun h8 => ?_)
    · exact j_wk [true, true, false] rfl rfl (T_X11_prime_23 G a0 M0)
    · refine j_iload_n rfl d_X11_prime_10 rfl ?_
      refine j_iconst ⟨by decide, by decide⟩ d_X11_prime_11 ?_
      refine j_icmp_eq (tgt := 23) d_X11_prime_12 (by decide) (fun h9 => ?_) (fun h9 => ?_)
      · exact j_wk [true, true, false] rfl rfl (T_X11_prime_23 G a0 M0)
      · refine j_iload_n rfl d_X11_prime_15 rfl ?_
        refine j_bipush ⟨by decide, by decide⟩ (by decide +kernel) d_X11_prime_16 ?_
        refine j_icmp_eq (tgt := 23) d_X11_prime_18 (by decide) (fun h10 => ?_) (fun h10 => ?_)
        · exact j_wk [true, true, false] rfl rfl (T_X11_prime_23 G a0 M0)
        · refine j_iconst ⟨by decide, by decide⟩ d_X11_prime_21 ?_
          exact j_iret d_X11_prime_22 rfl rfl ⟨rfl, rfl⟩
set_option maxHeartbeats 4000000 in
set_option maxRecDepth 100000 in
theorem c_X11_prime (G : tp_G) (a0 : Int) (M0 : tp_M) (r : Int × tp_M) (h : f_X11_prime a0 M0 = some r) (l : Launch) : Met l y_X11_prime (tp_ws y_X11_prime i_X11_prime) (tp_rm 1) (tp_Pc G [.inr (.inr 483), .inl a0] tp_NC (tp_st M0)) (tp_Q G (o_X11_prime r)) 0 0 (tp_A G) :=
  tp_met (I := i_X11_prime) (y := y_X11_prime) (by decide +kernel) (Eq.refl "TypesAtPrimeModel") (Eq.refl "prime") (lv := [some (.inr (.inr 483)), some (.inl a0), none]) rfl (Nat.le_of_ble_eq_true rfl) (T_X11_prime G a0 M0) h l
theorem wd_1238 : (.constantLong "TypesAtPrimeModel" 191 127 : Cond) ∈ lw_tbl := List.mem_append_right _ (List.mem_of_getElem? (i := 1238) (by decide +kernel))
theorem wd_1241 : (.code ⟨"TypesAtPrimeModel", "in", "(JJJ)Z"⟩ prog_13_method_3_code 6 (some .boolean) : Cond) ∈ lw_tbl := List.mem_append_right _ (List.mem_of_getElem? (i := 1241) (by decide +kernel))
theorem cs_Model_193 : tp_CS "TypesAtPrimeModel" 193 y_X11_in i_X11_in 3 := ⟨wd_1241, wd_12, by decide, by decide, by decide +kernel⟩
theorem wd_1239 : (.methodLink "TypesAtPrimeModel" 193 ⟨"TypesAtPrimeModel", "in", "(JJJ)Z"⟩ : Cond) ∈ lw_tbl := List.mem_append_right _ (List.mem_of_getElem? (i := 1239) (by decide +kernel))
theorem wd_1240 : (.static ⟨"TypesAtPrimeModel", "in", "(JJJ)Z"⟩ : Cond) ∈ lw_tbl := List.mem_append_right _ (List.mem_of_getElem? (i := 1240) (by decide +kernel))
theorem wd_1033 : (.fieldLink "TypesAtPrimeModel" 197 "TypesAtPrimeModel" "taped" "I" : Cond) ∈ lw_tbl := List.mem_append_right _ (List.mem_of_getElem? (i := 1033) (by decide +kernel))
theorem fl_Model_197 : tp_F "TypesAtPrimeModel" 197 11 5 0 := ⟨_, _, _, rfl, by decide, rfl, wd_1033, rfl, by decide⟩
theorem wd_1032 : (.fieldLink "TypesAtPrimeModel" 13 "TypesAtPrimeModel" "tape" "[I" : Cond) ∈ lw_tbl := List.mem_append_right _ (List.mem_of_getElem? (i := 1032) (by decide +kernel))
theorem fl_Model_13 : tp_F "TypesAtPrimeModel" 13 11 4 2 := ⟨_, _, _, rfl, by decide, rfl, wd_1032, rfl, by decide⟩
theorem tg_485 : tp_tg 485 = 21 := by decide +kernel
theorem al_485 : tp_al 485 = 80 := by decide +kernel
theorem rv_483_4 : tp_rv 483 4 = 485 := by decide +kernel
theorem pf_11_5 (v : Int) : ∀ (C : String) (T : u_T) (N : Nat), vwCl[11]? = some (C, T, N) → (T 5).2.2.2 = false ∧ ∀ G : tp_G, ∃ ty, parseFieldDescriptor (T 5).2.2.1 = some ty ∧ narrow ty (tp_enc G (tp_zv 0 v)) = tp_enc G (tp_zv 0 v) ∧ fits ty (tp_enc G (tp_zv 0 v)) = true := by
  intro C T N h
  cases h
  exact ⟨rfl, fun G => ⟨_, tyX11_ok 5 (by decide), rfl, rfl⟩⟩
def y_X11_feed : MethodName := ⟨"TypesAtPrimeModel", "feed", "(I)I"⟩
abbrev i_X11_feed : tp_I := (prog_13_method_12_code, "TypesAtPrimeModel", (some .int), 2, "feed")
abbrev o_X11_feed : Int × tp_M → tp_O := fun r => (some (.inl r.1), tp_NC, tp_st r.2)
theorem d_X11_feed_0 : decode prog_13_method_12_code 0 = .ok (.iload_n 1, 1) := by decide +kernel
theorem d_X11_feed_1 : decode prog_13_method_12_code 1 = .ok (.i2l, 1) := by decide +kernel
theorem d_X11_feed_2 : decode prog_13_method_12_code 2 = .ok (.lconst 0, 1) := by decide +kernel
theorem d_X11_feed_3 : decode prog_13_method_12_code 3 = .ok (.ldc2_w 191, 3) := by decide +kernel
theorem d_X11_feed_6 : decode prog_13_method_12_code 6 = .ok (.invokestatic 193, 3) := by decide +kernel
theorem d_X11_feed_9 : decode prog_13_method_12_code 9 = .ok (.ifCond .ne 5, 3) := by decide +kernel
theorem d_X11_feed_12 : decode prog_13_method_12_code 12 = .ok (.iconst (-1), 1) := by decide +kernel
theorem d_X11_feed_13 : decode prog_13_method_12_code 13 = .ok (.ireturn, 1) := by decide +kernel
theorem d_X11_feed_14 : decode prog_13_method_12_code 14 = .ok (.aload_n 0, 1) := by decide +kernel
theorem d_X11_feed_15 : decode prog_13_method_12_code 15 = .ok (.getfield 197, 3) := by decide +kernel
theorem d_X11_feed_18 : decode prog_13_method_12_code 18 = .ok (.bipush 80, 2) := by decide +kernel
theorem d_X11_feed_20 : decode prog_13_method_12_code 20 = .ok (.if_icmp .ne 6, 3) := by decide +kernel
theorem d_X11_feed_23 : decode prog_13_method_12_code 23 = .ok (.bipush (-4), 2) := by decide +kernel
theorem d_X11_feed_25 : decode prog_13_method_12_code 25 = .ok (.ireturn, 1) := by decide +kernel
theorem d_X11_feed_26 : decode prog_13_method_12_code 26 = .ok (.aload_n 0, 1) := by decide +kernel
theorem d_X11_feed_27 : decode prog_13_method_12_code 27 = .ok (.getfield 13, 3) := by decide +kernel
theorem d_X11_feed_30 : decode prog_13_method_12_code 30 = .ok (.aload_n 0, 1) := by decide +kernel
theorem d_X11_feed_31 : decode prog_13_method_12_code 31 = .ok (.getfield 197, 3) := by decide +kernel
theorem d_X11_feed_34 : decode prog_13_method_12_code 34 = .ok (.iload_n 1, 1) := by decide +kernel
theorem d_X11_feed_35 : decode prog_13_method_12_code 35 = .ok (.iastore, 1) := by decide +kernel
theorem d_X11_feed_36 : decode prog_13_method_12_code 36 = .ok (.aload_n 0, 1) := by decide +kernel
theorem d_X11_feed_37 : decode prog_13_method_12_code 37 = .ok (.dup, 1) := by decide +kernel
theorem d_X11_feed_38 : decode prog_13_method_12_code 38 = .ok (.getfield 197, 3) := by decide +kernel
theorem d_X11_feed_41 : decode prog_13_method_12_code 41 = .ok (.iconst 1, 1) := by decide +kernel
theorem d_X11_feed_42 : decode prog_13_method_12_code 42 = .ok (.iadd, 1) := by decide +kernel
theorem d_X11_feed_43 : decode prog_13_method_12_code 43 = .ok (.putfield 197, 3) := by decide +kernel
theorem d_X11_feed_46 : decode prog_13_method_12_code 46 = .ok (.aload_n 0, 1) := by decide +kernel
theorem d_X11_feed_47 : decode prog_13_method_12_code 47 = .ok (.getfield 197, 3) := by decide +kernel
theorem d_X11_feed_50 : decode prog_13_method_12_code 50 = .ok (.ireturn, 1) := by decide +kernel
def f_X11_feed (a0 : Int) (M0 : tp_M) : Option (Int × tp_M) :=
  (f_X11_in a0 0 127 M0).bind fun r1 =>
  if ¬ r1 = 0 then
    if ¬ (M0 483 5) = 80 then
      if 0 ≤ (M0 483 5) ∧ (M0 483 5) < 80 then
        tp_mp (tp_up M0 485 (M0 483 5) a0) fun M5 =>
        tp_mp (tp_up M5 483 5 (tp_w ((M5 483 5) + 1))) fun M6 =>
        some ((M6 483 5), M6) else none
    else
      some ((-4), M0)
  else
    some ((-1), M0)
set_option maxHeartbeats 4000000 in
set_option maxRecDepth 100000 in
theorem T_X11_feed (G : tp_G) (a0 : Int) (M0 : tp_M) : tp_J i_X11_feed (tp_rm 1) G 0 0 o_X11_feed tp_NC (tp_st M0) 0 0 [some (.inr (.inr 483)), some (.inl a0)] 0 [] (f_X11_feed a0 M0) := by
  unfold f_X11_feed
  refine j_iload_n rfl d_X11_feed_0 rfl ?_
  refine j_i2l d_X11_feed_1 ?_
  refine j_lconst (x := 0) ⟨by decide, by decide⟩ (by decide +kernel) d_X11_feed_2 ?_
  refine j_ldc2 (x := 127) ⟨by decide, by decide⟩ (show Cond.constantLong _ _ _ ∈ lw_tbl from wd_1238) d_X11_feed_3 ?_
  refine j_bind (fun r1 h2 => ?_)
  refine j_callS (y := y_X11_in) (I' := i_X11_in) (avs := [.inr (.inl a0), .inr (.inl 0), .inr (.inl 127)]) (st := []) (c_X11_in G a0 0 127 M0 r1 h2) cs_Model_193 wd_1239 wd_1240 rfl rfl (Nat.le_of_ble_eq_true rfl) ⟨rfl, rfl⟩ ⟨by decide, by decide⟩ ⟨by decide, by decide⟩ d_X11_feed_6 ?_
  refine j_if_ne (tgt := 14) d_X11_feed_9 (by decide) (fun h3 => ?_) (fun h3 => ?_)
  · refine j_aload_n rfl d_X11_feed_14 rfl ?_
    refine j_geti fl_Model_197 tg_483 d_X11_feed_15 ?_
    refine j_bipush ⟨by decide, by decide⟩ (by decide +kernel) d_X11_feed_18 ?_
    refine j_icmp_ne (tgt := 26) d_X11_feed_20 (by decide) (fun h4 => ?_) (fun h4 => ?_)
    · refine j_aload_n rfl d_X11_feed_26 rfl ?_
      refine j_getr fl_Model_13 tg_483 rv_483_4 d_X11_feed_27 ?_
      refine j_aload_n rfl d_X11_feed_30 rfl ?_
      refine j_geti fl_Model_197 tg_483 d_X11_feed_31 ?_
      refine j_iload_n rfl d_X11_feed_34 rfl ?_
      refine j_iast tg_485 al_485 d_X11_feed_35 (fun M5 hM5 => ?_)
      refine j_aload_n rfl d_X11_feed_36 rfl ?_
      refine j_dup d_X11_feed_37 (fun G => tp_cat G _) ?_
      refine j_geti fl_Model_197 tg_483 d_X11_feed_38 ?_
      refine j_iconst ⟨by decide, by decide⟩ d_X11_feed_41 ?_
      refine j_iadd d_X11_feed_42 ?_
      refine j_put (z := 0) (v := (tp_w ((M5 483 5) + 1))) fl_Model_197 (by decide) tg_483 (pf_11_5 _) pt_11 d_X11_feed_43 (fun M6 hM6 => ?_)
      refine j_aload_n rfl d_X11_feed_46 rfl ?_
      refine j_geti fl_Model_197 tg_483 d_X11_feed_47 ?_
      exact j_iret d_X11_feed_50 rfl rfl ⟨rfl, rfl⟩
    · refine j_bipush ⟨by decide, by decide⟩ (by decide +kernel) d_X11_feed_23 ?_
      exact j_iret d_X11_feed_25 rfl rfl ⟨rfl, rfl⟩
  · refine j_iconst ⟨by decide, by decide⟩ d_X11_feed_12 ?_
    exact j_iret d_X11_feed_13 rfl rfl ⟨rfl, rfl⟩
set_option maxHeartbeats 4000000 in
set_option maxRecDepth 100000 in
theorem c_X11_feed (G : tp_G) (a0 : Int) (M0 : tp_M) (r : Int × tp_M) (h : f_X11_feed a0 M0 = some r) (l : Launch) : Met l y_X11_feed (tp_ws y_X11_feed i_X11_feed) (tp_rm 1) (tp_Pc G [.inr (.inr 483), .inl a0] tp_NC (tp_st M0)) (tp_Q G (o_X11_feed r)) 0 0 (tp_A G) :=
  tp_met (I := i_X11_feed) (y := y_X11_feed) (by decide +kernel) (Eq.refl "TypesAtPrimeModel") (Eq.refl "feed") (lv := [some (.inr (.inr 483)), some (.inl a0)]) rfl (Nat.le_of_ble_eq_true rfl) (T_X11_feed G a0 M0) h l
def y_X11_wipe : MethodName := ⟨"TypesAtPrimeModel", "wipe", "()I"⟩
abbrev i_X11_wipe : tp_I := (prog_13_method_13_code, "TypesAtPrimeModel", (some .int), 2, "wipe")
abbrev o_X11_wipe : Int × tp_M → tp_O := fun r => (some (.inl r.1), tp_NC, tp_st r.2)
theorem d_X11_wipe_0 : decode prog_13_method_13_code 0 = .ok (.aload_n 0, 1) := by decide +kernel
theorem d_X11_wipe_1 : decode prog_13_method_13_code 1 = .ok (.getfield 197, 3) := by decide +kernel
theorem d_X11_wipe_4 : decode prog_13_method_13_code 4 = .ok (.istore_n 1, 1) := by decide +kernel
theorem d_X11_wipe_5 : decode prog_13_method_13_code 5 = .ok (.aload_n 0, 1) := by decide +kernel
theorem d_X11_wipe_6 : decode prog_13_method_13_code 6 = .ok (.iconst 0, 1) := by decide +kernel
theorem d_X11_wipe_7 : decode prog_13_method_13_code 7 = .ok (.putfield 197, 3) := by decide +kernel
theorem d_X11_wipe_10 : decode prog_13_method_13_code 10 = .ok (.iload_n 1, 1) := by decide +kernel
theorem d_X11_wipe_11 : decode prog_13_method_13_code 11 = .ok (.ireturn, 1) := by decide +kernel
def f_X11_wipe (M0 : tp_M) : Option (Int × tp_M) :=
  tp_lt ((M0 483 5)) fun y1 =>
  tp_mp (tp_up M0 483 5 0) fun M2 =>
  some (y1, M2)
set_option maxHeartbeats 4000000 in
set_option maxRecDepth 100000 in
theorem T_X11_wipe (G : tp_G) (M0 : tp_M) : tp_J i_X11_wipe (tp_rm 0) G 0 0 o_X11_wipe tp_NC (tp_st M0) 0 0 [some (.inr (.inr 483)), none] 0 [] (f_X11_wipe M0) := by
  unfold f_X11_wipe
  refine j_aload_n rfl d_X11_wipe_0 rfl ?_
  refine j_geti fl_Model_197 tg_483 d_X11_wipe_1 ?_
  refine j_nmI (fun y1 hy1 => ?_)
  refine j_istore_n (lv' := [some (.inr (.inr 483)), some (.inl y1)]) rfl d_X11_wipe_4 (Nat.le_of_ble_eq_true rfl) rfl ?_
  refine j_aload_n rfl d_X11_wipe_5 rfl ?_
  refine j_iconst ⟨by decide, by decide⟩ d_X11_wipe_6 ?_
  refine j_put (z := 0) (v := 0) fl_Model_197 (by decide) tg_483 (pf_11_5 _) pt_11 d_X11_wipe_7 (fun M2 hM2 => ?_)
  refine j_iload_n rfl d_X11_wipe_10 rfl ?_
  exact j_iret d_X11_wipe_11 rfl rfl ⟨rfl, rfl⟩
set_option maxHeartbeats 4000000 in
set_option maxRecDepth 100000 in
theorem c_X11_wipe (G : tp_G) (M0 : tp_M) (r : Int × tp_M) (h : f_X11_wipe M0 = some r) (l : Launch) : Met l y_X11_wipe (tp_ws y_X11_wipe i_X11_wipe) (tp_rm 0) (tp_Pc G [.inr (.inr 483)] tp_NC (tp_st M0)) (tp_Q G (o_X11_wipe r)) 0 0 (tp_A G) :=
  tp_met (I := i_X11_wipe) (y := y_X11_wipe) (by decide +kernel) (Eq.refl "TypesAtPrimeModel") (Eq.refl "wipe") (lv := [some (.inr (.inr 483)), none]) rfl (Nat.le_of_ble_eq_true rfl) (T_X11_wipe G M0) h l
theorem wd_1034 : (.fieldLink "TypesAtPrimeModel" 200 "TypesAtPrimeModel" "at" "I" : Cond) ∈ lw_tbl := List.mem_append_right _ (List.mem_of_getElem? (i := 1034) (by decide +kernel))
theorem fl_Model_200 : tp_F "TypesAtPrimeModel" 200 11 6 0 := ⟨_, _, _, rfl, by decide, rfl, wd_1034, rfl, by decide⟩
def y_X11_here : MethodName := ⟨"TypesAtPrimeModel", "here", "()I"⟩
abbrev i_X11_here : tp_I := (prog_13_method_14_code, "TypesAtPrimeModel", (some .int), 1, "here")
abbrev o_X11_here (M : tp_M) : Int → tp_O := fun r => (some (.inl r), tp_NC, tp_st M)
theorem d_X11_here_0 : decode prog_13_method_14_code 0 = .ok (.aload_n 0, 1) := by decide +kernel
theorem d_X11_here_1 : decode prog_13_method_14_code 1 = .ok (.getfield 200, 3) := by decide +kernel
theorem d_X11_here_4 : decode prog_13_method_14_code 4 = .ok (.aload_n 0, 1) := by decide +kernel
theorem d_X11_here_5 : decode prog_13_method_14_code 5 = .ok (.getfield 197, 3) := by decide +kernel
theorem d_X11_here_8 : decode prog_13_method_14_code 8 = .ok (.if_icmp .ge 15, 3) := by decide +kernel
theorem d_X11_here_11 : decode prog_13_method_14_code 11 = .ok (.aload_n 0, 1) := by decide +kernel
theorem d_X11_here_12 : decode prog_13_method_14_code 12 = .ok (.getfield 13, 3) := by decide +kernel
theorem d_X11_here_15 : decode prog_13_method_14_code 15 = .ok (.aload_n 0, 1) := by decide +kernel
theorem d_X11_here_16 : decode prog_13_method_14_code 16 = .ok (.getfield 200, 3) := by decide +kernel
theorem d_X11_here_19 : decode prog_13_method_14_code 19 = .ok (.iaload, 1) := by decide +kernel
theorem d_X11_here_20 : decode prog_13_method_14_code 20 = .ok (.goto 4, 3) := by decide +kernel
theorem d_X11_here_23 : decode prog_13_method_14_code 23 = .ok (.iconst (-1), 1) := by decide +kernel
theorem d_X11_here_24 : decode prog_13_method_14_code 24 = .ok (.ireturn, 1) := by decide +kernel
def f_X11_here (M0 : tp_M) : Option (Int) :=
  if (M0 483 5) ≤ (M0 483 6) then
    some (-1)
  else
    if 0 ≤ (M0 483 6) ∧ (M0 483 6) < 80 then
      some (M0 485 (M0 483 6)) else none
set_option maxHeartbeats 4000000 in
set_option maxRecDepth 100000 in
theorem T_X11_here (G : tp_G) (M0 : tp_M) : tp_J i_X11_here (tp_rm 0) G 0 0 (o_X11_here M0) tp_NC (tp_st M0) 0 0 [some (.inr (.inr 483))] 0 [] (f_X11_here M0) := by
  unfold f_X11_here
  refine j_aload_n rfl d_X11_here_0 rfl ?_
  refine j_geti fl_Model_200 tg_483 d_X11_here_1 ?_
  refine j_aload_n rfl d_X11_here_4 rfl ?_
  refine j_geti fl_Model_197 tg_483 d_X11_here_5 ?_
  refine j_icmp_ge (tgt := 23) d_X11_here_8 (by decide) (fun h1 => ?_) (fun h1 => ?_)
  · refine j_iconst ⟨by decide, by decide⟩ d_X11_here_23 ?_
    exact j_iret d_X11_here_24 rfl rfl ⟨rfl, rfl⟩
  · refine j_aload_n rfl d_X11_here_11 rfl ?_
    refine j_getr fl_Model_13 tg_483 rv_483_4 d_X11_here_12 ?_
    refine j_aload_n rfl d_X11_here_15 rfl ?_
    refine j_geti fl_Model_200 tg_483 d_X11_here_16 ?_
    refine j_iald tg_485 al_485 d_X11_here_19 ?_
    refine j_goto (tgt := 24) d_X11_here_20 (by decide) ?_
    exact j_iret d_X11_here_24 rfl rfl ⟨rfl, rfl⟩
set_option maxHeartbeats 4000000 in
set_option maxRecDepth 100000 in
theorem c_X11_here (G : tp_G) (M0 : tp_M) (r : Int) (h : f_X11_here M0 = some r) (l : Launch) : Met l y_X11_here (tp_ws y_X11_here i_X11_here) (tp_rm 0) (tp_Pc G [.inr (.inr 483)] tp_NC (tp_st M0)) (tp_Q G ((o_X11_here M0) r)) 0 0 (tp_A G) :=
  tp_met (I := i_X11_here) (y := y_X11_here) (by decide +kernel) (Eq.refl "TypesAtPrimeModel") (Eq.refl "here") (lv := [some (.inr (.inr 483))]) rfl (Nat.le_of_ble_eq_true rfl) (T_X11_here G M0) h l
theorem wd_1264 : (.code ⟨"TypesAtPrimeModel", "here", "()I"⟩ prog_13_method_14_code 1 (some .int) : Cond) ∈ lw_tbl := List.mem_append_right _ (List.mem_of_getElem? (i := 1264) (by decide +kernel))
theorem cs_Model_203 : tp_CS "TypesAtPrimeModel" 203 y_X11_here i_X11_here 0 := ⟨wd_1264, wd_12, by decide, by decide, by decide +kernel⟩
theorem wd_1261 : (.methodLink "TypesAtPrimeModel" 203 ⟨"TypesAtPrimeModel", "here", "()I"⟩ : Cond) ∈ lw_tbl := List.mem_append_right _ (List.mem_of_getElem? (i := 1261) (by decide +kernel))
theorem wd_1263 : (.instanceMethod ⟨"TypesAtPrimeModel", "here", "()I"⟩ : Cond) ∈ lw_tbl := List.mem_append_right _ (List.mem_of_getElem? (i := 1263) (by decide +kernel))
theorem ws_39 : (.selects "TypesAtPrimeModel" ⟨"TypesAtPrimeModel", "here", "()I"⟩ ⟨"TypesAtPrimeModel", "here", "()I"⟩ : Cond) ∈ lw_tbl := List.mem_append_left _ (List.mem_of_getElem? (i := 39) (by decide +kernel))
theorem wd_1273 : (.constantLong "TypesAtPrimeModel" 207 48 : Cond) ∈ lw_tbl := List.mem_append_right _ (List.mem_of_getElem? (i := 1273) (by decide +kernel))
theorem wd_1274 : (.constantLong "TypesAtPrimeModel" 209 57 : Cond) ∈ lw_tbl := List.mem_append_right _ (List.mem_of_getElem? (i := 1274) (by decide +kernel))
def y_X11_isDigit : MethodName := ⟨"TypesAtPrimeModel", "isDigit", "()Z"⟩
abbrev i_X11_isDigit : tp_I := (prog_13_method_15_code, "TypesAtPrimeModel", (some .boolean), 1, "isDigit")
abbrev o_X11_isDigit (M : tp_M) : Int → tp_O := fun r => (some (.inl r), tp_NC, tp_st M)
theorem d_X11_isDigit_0 : decode prog_13_method_15_code 0 = .ok (.aload_n 0, 1) := by decide +kernel
theorem d_X11_isDigit_1 : decode prog_13_method_15_code 1 = .ok (.invokevirtual 203, 3) := by decide +kernel
theorem d_X11_isDigit_4 : decode prog_13_method_15_code 4 = .ok (.i2l, 1) := by decide +kernel
theorem d_X11_isDigit_5 : decode prog_13_method_15_code 5 = .ok (.ldc2_w 207, 3) := by decide +kernel
theorem d_X11_isDigit_8 : decode prog_13_method_15_code 8 = .ok (.ldc2_w 209, 3) := by decide +kernel
theorem d_X11_isDigit_11 : decode prog_13_method_15_code 11 = .ok (.invokestatic 193, 3) := by decide +kernel
theorem d_X11_isDigit_14 : decode prog_13_method_15_code 14 = .ok (.ireturn, 1) := by decide +kernel
def f_X11_isDigit (M0 : tp_M) : Option (Int) :=
  (f_X11_here M0).bind fun r1 =>
  (f_X11_in r1 48 57 M0).bind fun r3 =>
  if r3 = 0 ∨ r3 = 1 then
    some r3 else none
set_option maxHeartbeats 4000000 in
set_option maxRecDepth 100000 in
theorem T_X11_isDigit (G : tp_G) (M0 : tp_M) : tp_J i_X11_isDigit (tp_rm 1) G 0 0 (o_X11_isDigit M0) tp_NC (tp_st M0) 0 0 [some (.inr (.inr 483))] 0 [] (f_X11_isDigit M0) := by
  unfold f_X11_isDigit
  refine j_aload_n rfl d_X11_isDigit_0 rfl ?_
  refine j_bind (fun r1 h2 => ?_)
  refine j_callV (y := y_X11_here) (I' := i_X11_here) (avs := []) (c := 483) (st := []) (c_X11_here G M0 r1 h2) cs_Model_203 wd_1261 wd_1263 ws_39 tg_483 rfl rfl rfl (Nat.le_of_ble_eq_true rfl) ⟨rfl, rfl⟩ ⟨by decide, by decide⟩ ⟨by decide, by decide⟩ d_X11_isDigit_1 ?_
  refine j_i2l d_X11_isDigit_4 ?_
  refine j_ldc2 (x := 48) ⟨by decide, by decide⟩ (show Cond.constantLong _ _ _ ∈ lw_tbl from wd_1273) d_X11_isDigit_5 ?_
  refine j_ldc2 (x := 57) ⟨by decide, by decide⟩ (show Cond.constantLong _ _ _ ∈ lw_tbl from wd_1274) d_X11_isDigit_8 ?_
  refine j_bind (fun r3 h4 => ?_)
  refine j_callS (y := y_X11_in) (I' := i_X11_in) (avs := [.inr (.inl r1), .inr (.inl 48), .inr (.inl 57)]) (st := []) (c_X11_in G r1 48 57 M0 r3 h4) cs_Model_193 wd_1239 wd_1240 rfl rfl (Nat.le_of_ble_eq_true rfl) ⟨rfl, rfl⟩ ⟨by decide, by decide⟩ ⟨by decide, by decide⟩ d_X11_isDigit_11 ?_
  refine tp_chk (fun h5 => ?_)
  exact j_zret d_X11_isDigit_14 rfl h5 rfl ⟨rfl, rfl⟩
set_option maxHeartbeats 4000000 in
set_option maxRecDepth 100000 in
theorem c_X11_isDigit (G : tp_G) (M0 : tp_M) (r : Int) (h : f_X11_isDigit M0 = some r) (l : Launch) : Met l y_X11_isDigit (tp_ws y_X11_isDigit i_X11_isDigit) (tp_rm 1) (tp_Pc G [.inr (.inr 483)] tp_NC (tp_st M0)) (tp_Q G ((o_X11_isDigit M0) r)) 0 0 (tp_A G) :=
  tp_met (I := i_X11_isDigit) (y := y_X11_isDigit) (by decide +kernel) (Eq.refl "TypesAtPrimeModel") (Eq.refl "isDigit") (lv := [some (.inr (.inr 483))]) rfl (Nat.le_of_ble_eq_true rfl) (T_X11_isDigit G M0) h l
theorem pf_11_6 (v : Int) : ∀ (C : String) (T : u_T) (N : Nat), vwCl[11]? = some (C, T, N) → (T 6).2.2.2 = false ∧ ∀ G : tp_G, ∃ ty, parseFieldDescriptor (T 6).2.2.1 = some ty ∧ narrow ty (tp_enc G (tp_zv 0 v)) = tp_enc G (tp_zv 0 v) ∧ fits ty (tp_enc G (tp_zv 0 v)) = true := by
  intro C T N h
  cases h
  exact ⟨rfl, fun G => ⟨_, tyX11_ok 6 (by decide), rfl, rfl⟩⟩
def y_X11_takes : MethodName := ⟨"TypesAtPrimeModel", "takes", "(I)Z"⟩
abbrev i_X11_takes : tp_I := (prog_13_method_16_code, "TypesAtPrimeModel", (some .boolean), 3, "takes")
abbrev o_X11_takes : Int × tp_M → tp_O := fun r => (some (.inl r.1), tp_NC, tp_st r.2)
theorem d_X11_takes_0 : decode prog_13_method_16_code 0 = .ok (.aload_n 0, 1) := by decide +kernel
theorem d_X11_takes_1 : decode prog_13_method_16_code 1 = .ok (.invokevirtual 203, 3) := by decide +kernel
theorem d_X11_takes_4 : decode prog_13_method_16_code 4 = .ok (.iload_n 1, 1) := by decide +kernel
theorem d_X11_takes_5 : decode prog_13_method_16_code 5 = .ok (.if_icmp .ne 7, 3) := by decide +kernel
theorem d_X11_takes_8 : decode prog_13_method_16_code 8 = .ok (.iconst 1, 1) := by decide +kernel
theorem d_X11_takes_9 : decode prog_13_method_16_code 9 = .ok (.goto 4, 3) := by decide +kernel
theorem d_X11_takes_12 : decode prog_13_method_16_code 12 = .ok (.iconst 0, 1) := by decide +kernel
theorem d_X11_takes_13 : decode prog_13_method_16_code 13 = .ok (.istore_n 2, 1) := by decide +kernel
theorem d_X11_takes_14 : decode prog_13_method_16_code 14 = .ok (.aload_n 0, 1) := by decide +kernel
theorem d_X11_takes_15 : decode prog_13_method_16_code 15 = .ok (.dup, 1) := by decide +kernel
theorem d_X11_takes_16 : decode prog_13_method_16_code 16 = .ok (.getfield 200, 3) := by decide +kernel
theorem d_X11_takes_19 : decode prog_13_method_16_code 19 = .ok (.iload_n 2, 1) := by decide +kernel
theorem d_X11_takes_20 : decode prog_13_method_16_code 20 = .ok (.ifCond .eq 7, 3) := by decide +kernel
theorem d_X11_takes_23 : decode prog_13_method_16_code 23 = .ok (.iconst 1, 1) := by decide +kernel
theorem d_X11_takes_24 : decode prog_13_method_16_code 24 = .ok (.goto 4, 3) := by decide +kernel
theorem d_X11_takes_27 : decode prog_13_method_16_code 27 = .ok (.iconst 0, 1) := by decide +kernel
theorem d_X11_takes_28 : decode prog_13_method_16_code 28 = .ok (.iadd, 1) := by decide +kernel
theorem d_X11_takes_29 : decode prog_13_method_16_code 29 = .ok (.putfield 200, 3) := by decide +kernel
theorem d_X11_takes_32 : decode prog_13_method_16_code 32 = .ok (.iload_n 2, 1) := by decide +kernel
theorem d_X11_takes_33 : decode prog_13_method_16_code 33 = .ok (.ireturn, 1) := by decide +kernel
def f_X11_takes_13 (s0 : Int) (M0 : tp_M) : Option (Int × tp_M) :=
  if s0 = 0 then
    tp_mp (tp_up M0 483 6 (tp_w ((M0 483 6) + 0))) fun M5 =>
    if s0 = 0 ∨ s0 = 1 then
      some (s0, M5) else none
  else
    tp_mp (tp_up M0 483 6 (tp_w ((M0 483 6) + 1))) fun M7 =>
    if s0 = 0 ∨ s0 = 1 then
      some (s0, M7) else none
set_option maxHeartbeats 4000000 in
set_option maxRecDepth 100000 in
theorem T_X11_takes_13 (G : tp_G) (s0 : Int) (M0 : tp_M) : tp_J i_X11_takes (tp_rm 1) G 0 0 o_X11_takes tp_NC (tp_st M0) 0 0 [some (.inr (.inr 483)), none, none] 13 [.inl s0] (f_X11_takes_13 s0 M0) := by
  unfold f_X11_takes_13
  refine j_istore_n (lv' := [some (.inr (.inr 483)), none, some (.inl s0)]) rfl d_X11_takes_13 (Nat.le_of_ble_eq_true rfl) rfl ?_
  refine j_aload_n rfl d_X11_takes_14 rfl ?_
  refine j_dup d_X11_takes_15 (fun G => tp_cat G _) ?_
  refine j_geti fl_Model_200 tg_483 d_X11_takes_16 ?_
  refine j_iload_n rfl d_X11_takes_19 rfl ?_
  refine j_if_eq (tgt := 27) d_X11_takes_20 (by decide) (fun h4 => ?_) (fun h4 => ?_)
  · refine j_iconst ⟨by decide, by decide⟩ d_X11_takes_27 ?_
    refine j_iadd d_X11_takes_28 ?_
    refine j_put (z := 0) (v := (tp_w ((M0 483 6) + 0))) fl_Model_200 (by decide) tg_483 (pf_11_6 _) pt_11 d_X11_takes_29 (fun M5 hM5 => ?_)
    refine j_iload_n rfl d_X11_takes_32 rfl ?_
    refine tp_chk (fun h6 => ?_)
    exact j_zret d_X11_takes_33 rfl h6 rfl ⟨rfl, rfl⟩
  · refine j_iconst ⟨by decide, by decide⟩ d_X11_takes_23 ?_
    refine j_goto (tgt := 28) d_X11_takes_24 (by decide) ?_
    refine j_iadd d_X11_takes_28 ?_
    refine j_put (z := 0) (v := (tp_w ((M0 483 6) + 1))) fl_Model_200 (by decide) tg_483 (pf_11_6 _) pt_11 d_X11_takes_29 (fun M7 hM7 => ?_)
    refine j_iload_n rfl d_X11_takes_32 rfl ?_
    refine tp_chk (fun h8 => ?_)
    exact j_zret d_X11_takes_33 rfl h8 rfl ⟨rfl, rfl⟩
def f_X11_takes (a0 : Int) (M0 : tp_M) : Option (Int × tp_M) :=
  (f_X11_here M0).bind fun r1 =>
  if ¬ r1 = a0 then
    f_X11_takes_13 0 M0
  else
    f_X11_takes_13 1 M0
set_option maxHeartbeats 4000000 in
set_option maxRecDepth 100000 in
theorem T_X11_takes (G : tp_G) (a0 : Int) (M0 : tp_M) : tp_J i_X11_takes (tp_rm 1) G 0 0 o_X11_takes tp_NC (tp_st M0) 0 0 [some (.inr (.inr 483)), some (.inl a0), none] 0 [] (f_X11_takes a0 M0) := by
  unfold f_X11_takes
  refine j_aload_n rfl d_X11_takes_0 rfl ?_
  refine j_bind (fun r1 h2 => ?_)
  refine j_callV (y := y_X11_here) (I' := i_X11_here) (avs := []) (c := 483) (st := []) (c_X11_here G M0 r1 h2) cs_Model_203 wd_1261 wd_1263 ws_39 tg_483 rfl rfl rfl (Nat.le_of_ble_eq_true rfl) ⟨rfl, rfl⟩ ⟨by decide, by decide⟩ ⟨by decide, by decide⟩ d_X11_takes_1 ?_
  refine j_iload_n rfl d_X11_takes_4 rfl ?_
  refine j_icmp_ne (tgt := 12) d_X11_takes_5 (by decide) (fun h3 => ?_) (fun h3 => ?_)
  · refine j_iconst ⟨by decide, by decide⟩ d_X11_takes_12 ?_
    exact j_wk [true, false, false] rfl rfl (T_X11_takes_13 G 0 M0)
  · refine j_iconst ⟨by decide, by decide⟩ d_X11_takes_8 ?_
    refine j_goto (tgt := 13) d_X11_takes_9 (by decide) ?_
    exact j_wk [true, false, false] rfl rfl (T_X11_takes_13 G 1 M0)
set_option maxHeartbeats 4000000 in
set_option maxRecDepth 100000 in
theorem c_X11_takes (G : tp_G) (a0 : Int) (M0 : tp_M) (r : Int × tp_M) (h : f_X11_takes a0 M0 = some r) (l : Launch) : Met l y_X11_takes (tp_ws y_X11_takes i_X11_takes) (tp_rm 1) (tp_Pc G [.inr (.inr 483), .inl a0] tp_NC (tp_st M0)) (tp_Q G (o_X11_takes r)) 0 0 (tp_A G) :=
  tp_met (I := i_X11_takes) (y := y_X11_takes) (by decide +kernel) (Eq.refl "TypesAtPrimeModel") (Eq.refl "takes") (lv := [some (.inr (.inr 483)), some (.inl a0), none]) rfl (Nat.le_of_ble_eq_true rfl) (T_X11_takes G a0 M0) h l
theorem wd_1260 : (.code ⟨"TypesAtPrimeModel", "takes", "(I)Z"⟩ prog_13_method_16_code 3 (some .boolean) : Cond) ∈ lw_tbl := List.mem_append_right _ (List.mem_of_getElem? (i := 1260) (by decide +kernel))
theorem cs_Model_211 : tp_CS "TypesAtPrimeModel" 211 y_X11_takes i_X11_takes 1 := ⟨wd_1260, wd_12, by decide, by decide, by decide +kernel⟩
theorem wd_1257 : (.methodLink "TypesAtPrimeModel" 211 ⟨"TypesAtPrimeModel", "takes", "(I)Z"⟩ : Cond) ∈ lw_tbl := List.mem_append_right _ (List.mem_of_getElem? (i := 1257) (by decide +kernel))
theorem wd_1259 : (.instanceMethod ⟨"TypesAtPrimeModel", "takes", "(I)Z"⟩ : Cond) ∈ lw_tbl := List.mem_append_right _ (List.mem_of_getElem? (i := 1259) (by decide +kernel))
theorem ws_38 : (.selects "TypesAtPrimeModel" ⟨"TypesAtPrimeModel", "takes", "(I)Z"⟩ ⟨"TypesAtPrimeModel", "takes", "(I)Z"⟩ : Cond) ∈ lw_tbl := List.mem_append_left _ (List.mem_of_getElem? (i := 38) (by decide +kernel))
theorem wd_1279 : (.constantLong "TypesAtPrimeModel" 215 56 : Cond) ∈ lw_tbl := List.mem_append_right _ (List.mem_of_getElem? (i := 1279) (by decide +kernel))
def y_X11_readsPower : MethodName := ⟨"TypesAtPrimeModel", "readsPower", "()I"⟩
abbrev i_X11_readsPower : tp_I := (prog_13_method_17_code, "TypesAtPrimeModel", (some .int), 1, "readsPower")
abbrev o_X11_readsPower : Int × tp_M → tp_O := fun r => (some (.inl r.1), tp_NC, tp_st r.2)
theorem d_X11_readsPower_0 : decode prog_13_method_17_code 0 = .ok (.aload_n 0, 1) := by decide +kernel
theorem d_X11_readsPower_1 : decode prog_13_method_17_code 1 = .ok (.bipush 120, 2) := by decide +kernel
theorem d_X11_readsPower_3 : decode prog_13_method_17_code 3 = .ok (.invokevirtual 211, 3) := by decide +kernel
theorem d_X11_readsPower_6 : decode prog_13_method_17_code 6 = .ok (.ifCond .ne 5, 3) := by decide +kernel
theorem d_X11_readsPower_9 : decode prog_13_method_17_code 9 = .ok (.iconst (-1), 1) := by decide +kernel
theorem d_X11_readsPower_10 : decode prog_13_method_17_code 10 = .ok (.ireturn, 1) := by decide +kernel
theorem d_X11_readsPower_11 : decode prog_13_method_17_code 11 = .ok (.aload_n 0, 1) := by decide +kernel
theorem d_X11_readsPower_12 : decode prog_13_method_17_code 12 = .ok (.bipush 94, 2) := by decide +kernel
theorem d_X11_readsPower_14 : decode prog_13_method_17_code 14 = .ok (.invokevirtual 211, 3) := by decide +kernel
theorem d_X11_readsPower_17 : decode prog_13_method_17_code 17 = .ok (.ifCond .ne 5, 3) := by decide +kernel
theorem d_X11_readsPower_20 : decode prog_13_method_17_code 20 = .ok (.iconst 1, 1) := by decide +kernel
theorem d_X11_readsPower_21 : decode prog_13_method_17_code 21 = .ok (.ireturn, 1) := by decide +kernel
theorem d_X11_readsPower_22 : decode prog_13_method_17_code 22 = .ok (.aload_n 0, 1) := by decide +kernel
theorem d_X11_readsPower_23 : decode prog_13_method_17_code 23 = .ok (.invokevirtual 203, 3) := by decide +kernel
theorem d_X11_readsPower_26 : decode prog_13_method_17_code 26 = .ok (.i2l, 1) := by decide +kernel
theorem d_X11_readsPower_27 : decode prog_13_method_17_code 27 = .ok (.ldc2_w 207, 3) := by decide +kernel
theorem d_X11_readsPower_30 : decode prog_13_method_17_code 30 = .ok (.ldc2_w 215, 3) := by decide +kernel
theorem d_X11_readsPower_33 : decode prog_13_method_17_code 33 = .ok (.invokestatic 193, 3) := by decide +kernel
theorem d_X11_readsPower_36 : decode prog_13_method_17_code 36 = .ok (.ifCond .ne 5, 3) := by decide +kernel
theorem d_X11_readsPower_39 : decode prog_13_method_17_code 39 = .ok (.iconst (-1), 1) := by decide +kernel
theorem d_X11_readsPower_40 : decode prog_13_method_17_code 40 = .ok (.ireturn, 1) := by decide +kernel
theorem d_X11_readsPower_41 : decode prog_13_method_17_code 41 = .ok (.aload_n 0, 1) := by decide +kernel
theorem d_X11_readsPower_42 : decode prog_13_method_17_code 42 = .ok (.dup, 1) := by decide +kernel
theorem d_X11_readsPower_43 : decode prog_13_method_17_code 43 = .ok (.getfield 200, 3) := by decide +kernel
theorem d_X11_readsPower_46 : decode prog_13_method_17_code 46 = .ok (.iconst 1, 1) := by decide +kernel
theorem d_X11_readsPower_47 : decode prog_13_method_17_code 47 = .ok (.iadd, 1) := by decide +kernel
theorem d_X11_readsPower_48 : decode prog_13_method_17_code 48 = .ok (.putfield 200, 3) := by decide +kernel
theorem d_X11_readsPower_51 : decode prog_13_method_17_code 51 = .ok (.aload_n 0, 1) := by decide +kernel
theorem d_X11_readsPower_52 : decode prog_13_method_17_code 52 = .ok (.getfield 13, 3) := by decide +kernel
theorem d_X11_readsPower_55 : decode prog_13_method_17_code 55 = .ok (.aload_n 0, 1) := by decide +kernel
theorem d_X11_readsPower_56 : decode prog_13_method_17_code 56 = .ok (.getfield 200, 3) := by decide +kernel
theorem d_X11_readsPower_59 : decode prog_13_method_17_code 59 = .ok (.iconst 1, 1) := by decide +kernel
theorem d_X11_readsPower_60 : decode prog_13_method_17_code 60 = .ok (.isub, 1) := by decide +kernel
theorem d_X11_readsPower_61 : decode prog_13_method_17_code 61 = .ok (.iaload, 1) := by decide +kernel
theorem d_X11_readsPower_62 : decode prog_13_method_17_code 62 = .ok (.bipush 48, 2) := by decide +kernel
theorem d_X11_readsPower_64 : decode prog_13_method_17_code 64 = .ok (.isub, 1) := by decide +kernel
theorem d_X11_readsPower_65 : decode prog_13_method_17_code 65 = .ok (.ireturn, 1) := by decide +kernel
def f_X11_readsPower (M0 : tp_M) : Option (Int × tp_M) :=
  (f_X11_takes 120 M0).bind fun r1 =>
  if ¬ r1.1 = 0 then
    (f_X11_takes 94 r1.2).bind fun r4 =>
    if ¬ r4.1 = 0 then
      (f_X11_here r4.2).bind fun r7 =>
      (f_X11_in r7 48 56 r4.2).bind fun r9 =>
      if ¬ r9 = 0 then
        tp_mp (tp_up r4.2 483 6 (tp_w ((r4.2 483 6) + 1))) fun M12 =>
        if 0 ≤ (tp_w ((M12 483 6) - 1)) ∧ (tp_w ((M12 483 6) - 1)) < 80 then
          some ((tp_w ((M12 485 (tp_w ((M12 483 6) - 1))) - 48)), M12) else none
      else
        some ((-1), r4.2)
    else
      some (1, r4.2)
  else
    some ((-1), r1.2)
set_option maxHeartbeats 4000000 in
set_option maxRecDepth 100000 in
theorem T_X11_readsPower (G : tp_G) (M0 : tp_M) : tp_J i_X11_readsPower (tp_rm 2) G 0 0 o_X11_readsPower tp_NC (tp_st M0) 0 0 [some (.inr (.inr 483))] 0 [] (f_X11_readsPower M0) := by
  unfold f_X11_readsPower
  refine j_aload_n rfl d_X11_readsPower_0 rfl ?_
  refine j_bipush ⟨by decide, by decide⟩ (by decide +kernel) d_X11_readsPower_1 ?_
  refine j_bind (fun r1 h2 => ?_)
  refine j_callV (y := y_X11_takes) (I' := i_X11_takes) (avs := [.inl 120]) (c := 483) (st := []) (c_X11_takes G 120 M0 r1 h2) cs_Model_211 wd_1257 wd_1259 ws_38 tg_483 rfl rfl rfl (Nat.le_of_ble_eq_true rfl) ⟨rfl, rfl⟩ ⟨by decide, by decide⟩ ⟨by decide, by decide⟩ d_X11_readsPower_3 ?_
  refine j_if_ne (tgt := 11) d_X11_readsPower_6 (by decide) (fun h3 => ?_) (fun h3 => ?_)
  · refine j_aload_n rfl d_X11_readsPower_11 rfl ?_
    refine j_bipush ⟨by decide, by decide⟩ (by decide +kernel) d_X11_readsPower_12 ?_
    refine j_bind (fun r4 h5 => ?_)
    refine j_callV (y := y_X11_takes) (I' := i_X11_takes) (avs := [.inl 94]) (c := 483) (st := []) (c_X11_takes G 94 r1.2 r4 h5) cs_Model_211 wd_1257 wd_1259 ws_38 tg_483 rfl rfl rfl (Nat.le_of_ble_eq_true rfl) ⟨rfl, rfl⟩ ⟨by decide, by decide⟩ ⟨by decide, by decide⟩ d_X11_readsPower_14 ?_
    refine j_if_ne (tgt := 22) d_X11_readsPower_17 (by decide) (fun h6 => ?_) (fun h6 => ?_)
    · refine j_aload_n rfl d_X11_readsPower_22 rfl ?_
      refine j_bind (fun r7 h8 => ?_)
      refine j_callV (y := y_X11_here) (I' := i_X11_here) (avs := []) (c := 483) (st := []) (c_X11_here G r4.2 r7 h8) cs_Model_203 wd_1261 wd_1263 ws_39 tg_483 rfl rfl rfl (Nat.le_of_ble_eq_true rfl) ⟨rfl, rfl⟩ ⟨by decide, by decide⟩ ⟨by decide, by decide⟩ d_X11_readsPower_23 ?_
      refine j_i2l d_X11_readsPower_26 ?_
      refine j_ldc2 (x := 48) ⟨by decide, by decide⟩ (show Cond.constantLong _ _ _ ∈ lw_tbl from wd_1273) d_X11_readsPower_27 ?_
      refine j_ldc2 (x := 56) ⟨by decide, by decide⟩ (show Cond.constantLong _ _ _ ∈ lw_tbl from wd_1279) d_X11_readsPower_30 ?_
      refine j_bind (fun r9 h10 => ?_)
      refine j_callS (y := y_X11_in) (I' := i_X11_in) (avs := [.inr (.inl r7), .inr (.inl 48), .inr (.inl 56)]) (st := []) (c_X11_in G r7 48 56 r4.2 r9 h10) cs_Model_193 wd_1239 wd_1240 rfl rfl (Nat.le_of_ble_eq_true rfl) ⟨rfl, rfl⟩ ⟨by decide, by decide⟩ ⟨by decide, by decide⟩ d_X11_readsPower_33 ?_
      refine j_if_ne (tgt := 41) d_X11_readsPower_36 (by decide) (fun h11 => ?_) (fun h11 => ?_)
      · refine j_aload_n rfl d_X11_readsPower_41 rfl ?_
        refine j_dup d_X11_readsPower_42 (fun G => tp_cat G _) ?_
        refine j_geti fl_Model_200 tg_483 d_X11_readsPower_43 ?_
        refine j_iconst ⟨by decide, by decide⟩ d_X11_readsPower_46 ?_
        refine j_iadd d_X11_readsPower_47 ?_
        refine j_put (z := 0) (v := (tp_w ((r4.2 483 6) + 1))) fl_Model_200 (by decide) tg_483 (pf_11_6 _) pt_11 d_X11_readsPower_48 (fun M12 hM12 => ?_)
        refine j_aload_n rfl d_X11_readsPower_51 rfl ?_
        refine j_getr fl_Model_13 tg_483 rv_483_4 d_X11_readsPower_52 ?_
        refine j_aload_n rfl d_X11_readsPower_55 rfl ?_
        refine j_geti fl_Model_200 tg_483 d_X11_readsPower_56 ?_
        refine j_iconst ⟨by decide, by decide⟩ d_X11_readsPower_59 ?_
        refine j_isub d_X11_readsPower_60 ?_
        refine j_iald tg_485 al_485 d_X11_readsPower_61 ?_
        refine j_bipush ⟨by decide, by decide⟩ (by decide +kernel) d_X11_readsPower_62 ?_
        refine j_isub d_X11_readsPower_64 ?_
        exact j_iret d_X11_readsPower_65 rfl rfl ⟨rfl, rfl⟩
      · refine j_iconst ⟨by decide, by decide⟩ d_X11_readsPower_39 ?_
        exact j_iret d_X11_readsPower_40 rfl rfl ⟨rfl, rfl⟩
    · refine j_iconst ⟨by decide, by decide⟩ d_X11_readsPower_20 ?_
      exact j_iret d_X11_readsPower_21 rfl rfl ⟨rfl, rfl⟩
  · refine j_iconst ⟨by decide, by decide⟩ d_X11_readsPower_9 ?_
    exact j_iret d_X11_readsPower_10 rfl rfl ⟨rfl, rfl⟩
set_option maxHeartbeats 4000000 in
set_option maxRecDepth 100000 in
theorem c_X11_readsPower (G : tp_G) (M0 : tp_M) (r : Int × tp_M) (h : f_X11_readsPower M0 = some r) (l : Launch) : Met l y_X11_readsPower (tp_ws y_X11_readsPower i_X11_readsPower) (tp_rm 2) (tp_Pc G [.inr (.inr 483)] tp_NC (tp_st M0)) (tp_Q G (o_X11_readsPower r)) 0 0 (tp_A G) :=
  tp_met (I := i_X11_readsPower) (y := y_X11_readsPower) (by decide +kernel) (Eq.refl "TypesAtPrimeModel") (Eq.refl "readsPower") (lv := [some (.inr (.inr 483))]) rfl (Nat.le_of_ble_eq_true rfl) (T_X11_readsPower G M0) h l
theorem wd_1272 : (.code ⟨"TypesAtPrimeModel", "isDigit", "()Z"⟩ prog_13_method_15_code 1 (some .boolean) : Cond) ∈ lw_tbl := List.mem_append_right _ (List.mem_of_getElem? (i := 1272) (by decide +kernel))
theorem cs_Model_217 : tp_CS "TypesAtPrimeModel" 217 y_X11_isDigit i_X11_isDigit 0 := ⟨wd_1272, wd_12, by decide, by decide, by decide +kernel⟩
theorem wd_1269 : (.methodLink "TypesAtPrimeModel" 217 ⟨"TypesAtPrimeModel", "isDigit", "()Z"⟩ : Cond) ∈ lw_tbl := List.mem_append_right _ (List.mem_of_getElem? (i := 1269) (by decide +kernel))
theorem wd_1271 : (.instanceMethod ⟨"TypesAtPrimeModel", "isDigit", "()Z"⟩ : Cond) ∈ lw_tbl := List.mem_append_right _ (List.mem_of_getElem? (i := 1271) (by decide +kernel))
theorem ws_41 : (.selects "TypesAtPrimeModel" ⟨"TypesAtPrimeModel", "isDigit", "()Z"⟩ ⟨"TypesAtPrimeModel", "isDigit", "()Z"⟩ : Cond) ∈ lw_tbl := List.mem_append_left _ (List.mem_of_getElem? (i := 41) (by decide +kernel))
theorem wd_1278 : (.code ⟨"TypesAtPrimeModel", "readsPower", "()I"⟩ prog_13_method_17_code 1 (some .int) : Cond) ∈ lw_tbl := List.mem_append_right _ (List.mem_of_getElem? (i := 1278) (by decide +kernel))
theorem cs_Model_221 : tp_CS "TypesAtPrimeModel" 221 y_X11_readsPower i_X11_readsPower 0 := ⟨wd_1278, wd_12, by decide, by decide, by decide +kernel⟩
theorem wd_1275 : (.methodLink "TypesAtPrimeModel" 221 ⟨"TypesAtPrimeModel", "readsPower", "()I"⟩ : Cond) ∈ lw_tbl := List.mem_append_right _ (List.mem_of_getElem? (i := 1275) (by decide +kernel))
theorem wd_1277 : (.instanceMethod ⟨"TypesAtPrimeModel", "readsPower", "()I"⟩ : Cond) ∈ lw_tbl := List.mem_append_right _ (List.mem_of_getElem? (i := 1277) (by decide +kernel))
theorem ws_42 : (.selects "TypesAtPrimeModel" ⟨"TypesAtPrimeModel", "readsPower", "()I"⟩ ⟨"TypesAtPrimeModel", "readsPower", "()I"⟩ : Cond) ∈ lw_tbl := List.mem_append_left _ (List.mem_of_getElem? (i := 42) (by decide +kernel))
theorem wd_1035 : (.fieldLink "TypesAtPrimeModel" 16 "TypesAtPrimeModel" "read" "[J" : Cond) ∈ lw_tbl := List.mem_append_right _ (List.mem_of_getElem? (i := 1035) (by decide +kernel))
theorem fl_Model_16 : tp_F "TypesAtPrimeModel" 16 11 7 2 := ⟨_, _, _, rfl, by decide, rfl, wd_1035, rfl, by decide⟩
theorem tg_486 : tp_tg 486 = 22 := by decide +kernel
theorem al_486 : tp_al 486 = 9 := by decide +kernel
theorem rv_483_7 : tp_rv 483 7 = 486 := by decide +kernel
def y_X11_readsTerm : MethodName := ⟨"TypesAtPrimeModel", "readsTerm", "(I)Z"⟩
abbrev i_X11_readsTerm : tp_I := (prog_13_method_18_code, "TypesAtPrimeModel", (some .boolean), 5, "readsTerm")
abbrev o_X11_readsTerm : Int × tp_M → tp_O := fun r => (some (.inl r.1), tp_NC, tp_st r.2)
theorem d_X11_readsTerm_0 : decode prog_13_method_18_code 0 = .ok (.iconst 1, 1) := by decide +kernel
theorem d_X11_readsTerm_1 : decode prog_13_method_18_code 1 = .ok (.istore_n 2, 1) := by decide +kernel
theorem d_X11_readsTerm_2 : decode prog_13_method_18_code 2 = .ok (.iconst 0, 1) := by decide +kernel
theorem d_X11_readsTerm_3 : decode prog_13_method_18_code 3 = .ok (.istore_n 3, 1) := by decide +kernel
theorem d_X11_readsTerm_4 : decode prog_13_method_18_code 4 = .ok (.aload_n 0, 1) := by decide +kernel
theorem d_X11_readsTerm_5 : decode prog_13_method_18_code 5 = .ok (.invokevirtual 217, 3) := by decide +kernel
theorem d_X11_readsTerm_8 : decode prog_13_method_18_code 8 = .ok (.ifCond .eq 76, 3) := by decide +kernel
theorem d_X11_readsTerm_11 : decode prog_13_method_18_code 11 = .ok (.iconst 0, 1) := by decide +kernel
theorem d_X11_readsTerm_12 : decode prog_13_method_18_code 12 = .ok (.istore_n 2, 1) := by decide +kernel
theorem d_X11_readsTerm_13 : decode prog_13_method_18_code 13 = .ok (.iconst 0, 1) := by decide +kernel
theorem d_X11_readsTerm_14 : decode prog_13_method_18_code 14 = .ok (.istore 4, 2) := by decide +kernel
theorem d_X11_readsTerm_16 : decode prog_13_method_18_code 16 = .ok (.iload 4, 2) := by decide +kernel
theorem d_X11_readsTerm_18 : decode prog_13_method_18_code 18 = .ok (.iconst 4, 1) := by decide +kernel
theorem d_X11_readsTerm_19 : decode prog_13_method_18_code 19 = .ok (.if_icmp .ge 44, 3) := by decide +kernel
theorem d_X11_readsTerm_22 : decode prog_13_method_18_code 22 = .ok (.aload_n 0, 1) := by decide +kernel
theorem d_X11_readsTerm_23 : decode prog_13_method_18_code 23 = .ok (.invokevirtual 217, 3) := by decide +kernel
theorem d_X11_readsTerm_26 : decode prog_13_method_18_code 26 = .ok (.ifCond .eq 37, 3) := by decide +kernel
theorem d_X11_readsTerm_29 : decode prog_13_method_18_code 29 = .ok (.bipush 10, 2) := by decide +kernel
theorem d_X11_readsTerm_31 : decode prog_13_method_18_code 31 = .ok (.iload_n 2, 1) := by decide +kernel
theorem d_X11_readsTerm_32 : decode prog_13_method_18_code 32 = .ok (.imul, 1) := by decide +kernel
theorem d_X11_readsTerm_33 : decode prog_13_method_18_code 33 = .ok (.aload_n 0, 1) := by decide +kernel
theorem d_X11_readsTerm_34 : decode prog_13_method_18_code 34 = .ok (.getfield 13, 3) := by decide +kernel
theorem d_X11_readsTerm_37 : decode prog_13_method_18_code 37 = .ok (.aload_n 0, 1) := by decide +kernel
theorem d_X11_readsTerm_38 : decode prog_13_method_18_code 38 = .ok (.getfield 200, 3) := by decide +kernel
theorem d_X11_readsTerm_41 : decode prog_13_method_18_code 41 = .ok (.iaload, 1) := by decide +kernel
theorem d_X11_readsTerm_42 : decode prog_13_method_18_code 42 = .ok (.iadd, 1) := by decide +kernel
theorem d_X11_readsTerm_43 : decode prog_13_method_18_code 43 = .ok (.bipush 48, 2) := by decide +kernel
theorem d_X11_readsTerm_45 : decode prog_13_method_18_code 45 = .ok (.isub, 1) := by decide +kernel
theorem d_X11_readsTerm_46 : decode prog_13_method_18_code 46 = .ok (.istore_n 2, 1) := by decide +kernel
theorem d_X11_readsTerm_47 : decode prog_13_method_18_code 47 = .ok (.aload_n 0, 1) := by decide +kernel
theorem d_X11_readsTerm_48 : decode prog_13_method_18_code 48 = .ok (.dup, 1) := by decide +kernel
theorem d_X11_readsTerm_49 : decode prog_13_method_18_code 49 = .ok (.getfield 200, 3) := by decide +kernel
theorem d_X11_readsTerm_52 : decode prog_13_method_18_code 52 = .ok (.iconst 1, 1) := by decide +kernel
theorem d_X11_readsTerm_53 : decode prog_13_method_18_code 53 = .ok (.iadd, 1) := by decide +kernel
theorem d_X11_readsTerm_54 : decode prog_13_method_18_code 54 = .ok (.putfield 200, 3) := by decide +kernel
theorem d_X11_readsTerm_57 : decode prog_13_method_18_code 57 = .ok (.iinc 4 1, 3) := by decide +kernel
theorem d_X11_readsTerm_60 : decode prog_13_method_18_code 60 = .ok (.goto (-44), 3) := by decide +kernel
theorem d_X11_readsTerm_63 : decode prog_13_method_18_code 63 = .ok (.aload_n 0, 1) := by decide +kernel
theorem d_X11_readsTerm_64 : decode prog_13_method_18_code 64 = .ok (.bipush 42, 2) := by decide +kernel
theorem d_X11_readsTerm_66 : decode prog_13_method_18_code 66 = .ok (.invokevirtual 211, 3) := by decide +kernel
theorem d_X11_readsTerm_69 : decode prog_13_method_18_code 69 = .ok (.ifCond .eq 10, 3) := by decide +kernel
theorem d_X11_readsTerm_72 : decode prog_13_method_18_code 72 = .ok (.aload_n 0, 1) := by decide +kernel
theorem d_X11_readsTerm_73 : decode prog_13_method_18_code 73 = .ok (.invokevirtual 221, 3) := by decide +kernel
theorem d_X11_readsTerm_76 : decode prog_13_method_18_code 76 = .ok (.goto 4, 3) := by decide +kernel
theorem d_X11_readsTerm_79 : decode prog_13_method_18_code 79 = .ok (.iconst 0, 1) := by decide +kernel
theorem d_X11_readsTerm_80 : decode prog_13_method_18_code 80 = .ok (.istore_n 3, 1) := by decide +kernel
theorem d_X11_readsTerm_81 : decode prog_13_method_18_code 81 = .ok (.goto 8, 3) := by decide +kernel
theorem d_X11_readsTerm_84 : decode prog_13_method_18_code 84 = .ok (.aload_n 0, 1) := by decide +kernel
theorem d_X11_readsTerm_85 : decode prog_13_method_18_code 85 = .ok (.invokevirtual 221, 3) := by decide +kernel
theorem d_X11_readsTerm_88 : decode prog_13_method_18_code 88 = .ok (.istore_n 3, 1) := by decide +kernel
theorem d_X11_readsTerm_89 : decode prog_13_method_18_code 89 = .ok (.iload_n 3, 1) := by decide +kernel
theorem d_X11_readsTerm_90 : decode prog_13_method_18_code 90 = .ok (.ifCond .ge 5, 3) := by decide +kernel
theorem d_X11_readsTerm_93 : decode prog_13_method_18_code 93 = .ok (.iconst 0, 1) := by decide +kernel
theorem d_X11_readsTerm_94 : decode prog_13_method_18_code 94 = .ok (.ireturn, 1) := by decide +kernel
theorem d_X11_readsTerm_95 : decode prog_13_method_18_code 95 = .ok (.aload_n 0, 1) := by decide +kernel
theorem d_X11_readsTerm_96 : decode prog_13_method_18_code 96 = .ok (.getfield 16, 3) := by decide +kernel
theorem d_X11_readsTerm_99 : decode prog_13_method_18_code 99 = .ok (.iload_n 3, 1) := by decide +kernel
theorem d_X11_readsTerm_100 : decode prog_13_method_18_code 100 = .ok (.dup2, 1) := by decide +kernel
theorem d_X11_readsTerm_101 : decode prog_13_method_18_code 101 = .ok (.laload, 1) := by decide +kernel
theorem d_X11_readsTerm_102 : decode prog_13_method_18_code 102 = .ok (.iload_n 1, 1) := by decide +kernel
theorem d_X11_readsTerm_103 : decode prog_13_method_18_code 103 = .ok (.iload_n 2, 1) := by decide +kernel
theorem d_X11_readsTerm_104 : decode prog_13_method_18_code 104 = .ok (.imul, 1) := by decide +kernel
theorem d_X11_readsTerm_105 : decode prog_13_method_18_code 105 = .ok (.i2l, 1) := by decide +kernel
theorem d_X11_readsTerm_106 : decode prog_13_method_18_code 106 = .ok (.ladd, 1) := by decide +kernel
theorem d_X11_readsTerm_107 : decode prog_13_method_18_code 107 = .ok (.lastore, 1) := by decide +kernel
theorem d_X11_readsTerm_108 : decode prog_13_method_18_code 108 = .ok (.iconst 1, 1) := by decide +kernel
theorem d_X11_readsTerm_109 : decode prog_13_method_18_code 109 = .ok (.ireturn, 1) := by decide +kernel
def f_X11_readsTerm_89 (x1 : Int) (x2 : Int) (x3 : Int) (M0 : tp_M) : Option (Int × tp_M) :=
  if 0 ≤ x3 then
    if 0 ≤ x3 ∧ x3 < 9 then
      if 0 ≤ x3 ∧ x3 < 9 then
        tp_mp (tp_up M0 486 x3 (tp_wl ((M0 486 x3) + (tp_w (x1 * x2))))) fun M7 =>
        some (1, M7) else none else none
  else
    some (0, M0)
set_option maxHeartbeats 4000000 in
set_option maxRecDepth 100000 in
theorem T_X11_readsTerm_89 (G : tp_G) (x1 : Int) (x2 : Int) (x3 : Int) (M0 : tp_M) : tp_J i_X11_readsTerm (tp_rm 3) G 0 0 o_X11_readsTerm tp_NC (tp_st M0) 0 0 [some (.inr (.inr 483)), some (.inl x1), some (.inl x2), some (.inl x3), none] 89 [] (f_X11_readsTerm_89 x1 x2 x3 M0) := by
  unfold f_X11_readsTerm_89
  refine j_iload_n rfl d_X11_readsTerm_89 rfl ?_
  refine j_if_ge (tgt := 95) d_X11_readsTerm_90 (by decide) (fun h6 => ?_) (fun h6 => ?_)
  · refine j_aload_n rfl d_X11_readsTerm_95 rfl ?_
    refine j_getr fl_Model_16 tg_483 rv_483_7 d_X11_readsTerm_96 ?_
    refine j_iload_n rfl d_X11_readsTerm_99 rfl ?_
    refine j_dup2 d_X11_readsTerm_100 (fun G => tp_cat G _) (fun G => tp_cat G _) ?_
    refine j_lald tg_486 al_486 d_X11_readsTerm_101 ?_
    refine j_iload_n rfl d_X11_readsTerm_102 rfl ?_
    refine j_iload_n rfl d_X11_readsTerm_103 rfl ?_
    refine j_imul d_X11_readsTerm_104 ?_
    refine j_i2l d_X11_readsTerm_105 ?_
    refine j_ladd d_X11_readsTerm_106 ?_
    refine j_last tg_486 al_486 d_X11_readsTerm_107 (fun M7 hM7 => ?_)
    refine j_iconst ⟨by decide, by decide⟩ d_X11_readsTerm_108 ?_
    exact j_zret d_X11_readsTerm_109 rfl (Or.inr rfl) rfl ⟨rfl, rfl⟩
  · refine j_iconst ⟨by decide, by decide⟩ d_X11_readsTerm_93 ?_
    exact j_zret d_X11_readsTerm_94 rfl (Or.inl rfl) rfl ⟨rfl, rfl⟩
def f_X11_readsTerm_80 (x1 : Int) (x2 : Int) (s0 : Int) (M0 : tp_M) : Option (Int × tp_M) :=
  f_X11_readsTerm_89 x1 x2 s0 M0
set_option maxHeartbeats 4000000 in
set_option maxRecDepth 100000 in
theorem T_X11_readsTerm_80 (G : tp_G) (x1 : Int) (x2 : Int) (s0 : Int) (M0 : tp_M) : tp_J i_X11_readsTerm (tp_rm 3) G 0 0 o_X11_readsTerm tp_NC (tp_st M0) 0 0 [some (.inr (.inr 483)), some (.inl x1), some (.inl x2), none, none] 80 [.inl s0] (f_X11_readsTerm_80 x1 x2 s0 M0) := by
  unfold f_X11_readsTerm_80
  refine j_istore_n (lv' := [some (.inr (.inr 483)), some (.inl x1), some (.inl x2), some (.inl s0), none]) rfl d_X11_readsTerm_80 (Nat.le_of_ble_eq_true rfl) rfl ?_
  refine j_goto (tgt := 89) d_X11_readsTerm_81 (by decide) ?_
  exact j_wk [true, true, true, true, false] rfl rfl (T_X11_readsTerm_89 G x1 x2 s0 M0)
def f_X11_readsTerm_63 (x1 : Int) (x2 : Int) (M0 : tp_M) : Option (Int × tp_M) :=
  (f_X11_takes 42 M0).bind fun r9 =>
  if r9.1 = 0 then
    f_X11_readsTerm_80 x1 x2 0 r9.2
  else
    (f_X11_readsPower r9.2).bind fun r12 =>
    f_X11_readsTerm_80 x1 x2 r12.1 r12.2
set_option maxHeartbeats 4000000 in
set_option maxRecDepth 100000 in
theorem T_X11_readsTerm_63 (G : tp_G) (x1 : Int) (x2 : Int) (M0 : tp_M) : tp_J i_X11_readsTerm (tp_rm 3) G 0 0 o_X11_readsTerm tp_NC (tp_st M0) 0 0 [some (.inr (.inr 483)), some (.inl x1), some (.inl x2), none, none] 63 [] (f_X11_readsTerm_63 x1 x2 M0) := by
  unfold f_X11_readsTerm_63
  refine j_aload_n rfl d_X11_readsTerm_63 rfl ?_
  refine j_bipush ⟨by decide, by decide⟩ (by decide +kernel) d_X11_readsTerm_64 ?_
  refine j_bind (fun r9 h10 => ?_)
  refine j_callV (y := y_X11_takes) (I' := i_X11_takes) (avs := [.inl 42]) (c := 483) (st := []) (c_X11_takes G 42 M0 r9 h10) cs_Model_211 wd_1257 wd_1259 ws_38 tg_483 rfl rfl rfl (Nat.le_of_ble_eq_true rfl) ⟨rfl, rfl⟩ ⟨by decide, by decide⟩ ⟨by decide, by decide⟩ d_X11_readsTerm_66 ?_
  refine j_if_eq (tgt := 79) d_X11_readsTerm_69 (by decide) (fun h11 => ?_) (fun h11 => ?_)
  · refine j_iconst ⟨by decide, by decide⟩ d_X11_readsTerm_79 ?_
    exact j_wk [true, true, true, false, false] rfl rfl (T_X11_readsTerm_80 G x1 x2 0 r9.2)
  · refine j_aload_n rfl d_X11_readsTerm_72 rfl ?_
    refine j_bind (fun r12 h13 => ?_)
    refine j_callV (y := y_X11_readsPower) (I' := i_X11_readsPower) (avs := []) (c := 483) (st := []) (c_X11_readsPower G r9.2 r12 h13) cs_Model_221 wd_1275 wd_1277 ws_42 tg_483 rfl rfl rfl (Nat.le_of_ble_eq_true rfl) ⟨rfl, rfl⟩ ⟨by decide, by decide⟩ ⟨by decide, by decide⟩ d_X11_readsTerm_73 ?_
    refine j_goto (tgt := 80) d_X11_readsTerm_76 (by decide) ?_
    exact j_wk [true, true, true, false, false] rfl rfl (T_X11_readsTerm_80 G x1 x2 r12.1 r12.2)
def f_X11_readsTerm_16B (x1 : Int) (rec_16 : Int → Int → tp_M → Option (Int × tp_M)) (x2 : Int) (x4 : Int) (M0 : tp_M) : Option (Int × tp_M) :=
  if 4 ≤ x4 then
    f_X11_readsTerm_63 x1 x2 M0
  else
    (f_X11_isDigit M0).bind fun r14 =>
    if r14 = 0 then
      f_X11_readsTerm_63 x1 x2 M0
    else
      if 0 ≤ (M0 483 6) ∧ (M0 483 6) < 80 then
        tp_lt ((tp_w ((tp_w ((tp_w (10 * x2)) + (M0 485 (M0 483 6)))) - 48))) fun y17 =>
        tp_mp (tp_up M0 483 6 (tp_w ((M0 483 6) + 1))) fun M18 =>
        tp_lt (tp_w (x4 + 1)) fun y19 =>
        rec_16 y17 y19 M18 else none
set_option maxHeartbeats 4000000 in
set_option maxRecDepth 100000 in
theorem T_X11_readsTerm_16B (G : tp_G) (x1 : Int) (rec_16 : Int → Int → tp_M → Option (Int × tp_M)) (hrec_16 : ∀ (x2' x4' : Int) (M' : tp_M), tp_J i_X11_readsTerm (tp_rm 3) G 0 0 o_X11_readsTerm tp_NC (tp_st M') 0 0 [some (.inr (.inr 483)), some (.inl x1), some (.inl (x2')), none, some (.inl (x4'))] 16 [] (rec_16 x2' x4' M')) (x2 : Int) (x4 : Int) (M0 : tp_M) : tp_J i_X11_readsTerm (tp_rm 3) G 0 0 o_X11_readsTerm tp_NC (tp_st M0) 0 0 [some (.inr (.inr 483)), some (.inl x1), some (.inl x2), none, some (.inl x4)] 16 [] (f_X11_readsTerm_16B x1 rec_16 x2 x4 M0) := by
  unfold f_X11_readsTerm_16B
  refine j_iload d_X11_readsTerm_16 rfl ?_
  refine j_iconst ⟨by decide, by decide⟩ d_X11_readsTerm_18 ?_
  refine j_icmp_ge (tgt := 63) d_X11_readsTerm_19 (by decide) (fun h8 => ?_) (fun h8 => ?_)
  · exact j_wk [true, true, true, false, false] rfl rfl (T_X11_readsTerm_63 G x1 x2 M0)
  · refine j_aload_n rfl d_X11_readsTerm_22 rfl ?_
    refine j_bind (fun r14 h15 => ?_)
    refine j_callV (y := y_X11_isDigit) (I' := i_X11_isDigit) (avs := []) (c := 483) (st := []) (c_X11_isDigit G M0 r14 h15) cs_Model_217 wd_1269 wd_1271 ws_41 tg_483 rfl rfl rfl (Nat.le_of_ble_eq_true rfl) ⟨rfl, rfl⟩ ⟨by decide, by decide⟩ ⟨by decide, by decide⟩ d_X11_readsTerm_23 ?_
    refine j_if_eq (tgt := 63) d_X11_readsTerm_26 (by decide) (fun h16 => ?_) (fun h16 => ?_)
    · exact j_wk [true, true, true, false, false] rfl rfl (T_X11_readsTerm_63 G x1 x2 M0)
    · refine j_bipush ⟨by decide, by decide⟩ (by decide +kernel) d_X11_readsTerm_29 ?_
      refine j_iload_n rfl d_X11_readsTerm_31 rfl ?_
      refine j_imul d_X11_readsTerm_32 ?_
      refine j_aload_n rfl d_X11_readsTerm_33 rfl ?_
      refine j_getr fl_Model_13 tg_483 rv_483_4 d_X11_readsTerm_34 ?_
      refine j_aload_n rfl d_X11_readsTerm_37 rfl ?_
      refine j_geti fl_Model_200 tg_483 d_X11_readsTerm_38 ?_
      refine j_iald tg_485 al_485 d_X11_readsTerm_41 ?_
      refine j_iadd d_X11_readsTerm_42 ?_
      refine j_bipush ⟨by decide, by decide⟩ (by decide +kernel) d_X11_readsTerm_43 ?_
      refine j_isub d_X11_readsTerm_45 ?_
      refine j_nmI (fun y17 hy17 => ?_)
      refine j_istore_n (lv' := [some (.inr (.inr 483)), some (.inl x1), some (.inl y17), none, some (.inl x4)]) rfl d_X11_readsTerm_46 (Nat.le_of_ble_eq_true rfl) rfl ?_
      refine j_aload_n rfl d_X11_readsTerm_47 rfl ?_
      refine j_dup d_X11_readsTerm_48 (fun G => tp_cat G _) ?_
      refine j_geti fl_Model_200 tg_483 d_X11_readsTerm_49 ?_
      refine j_iconst ⟨by decide, by decide⟩ d_X11_readsTerm_52 ?_
      refine j_iadd d_X11_readsTerm_53 ?_
      refine j_put (z := 0) (v := (tp_w ((M0 483 6) + 1))) fl_Model_200 (by decide) tg_483 (pf_11_6 _) pt_11 d_X11_readsTerm_54 (fun M18 hM18 => ?_)
      refine j_iincN (lv' := fun y19 => [some (.inr (.inr 483)), some (.inl x1), some (.inl y17), none, some (.inl y19)]) d_X11_readsTerm_57 rfl (Nat.le_of_ble_eq_true rfl) (fun _ => rfl) (fun y19 hy19 => ?_)
      refine j_goto (tgt := 16) d_X11_readsTerm_60 (by decide) ?_
      exact j_wk [true, true, true, false, true] rfl rfl (hrec_16 y17 y19 M18)
def f_X11_readsTerm_16 (x1 : Int) (x2 : Int) (x4 : Int) (M0 : tp_M) : Option (Int × tp_M) := tp_lp (σ := Int × Int × tp_M) (fun rec_ u => f_X11_readsTerm_16B x1 (fun x2' x4' M0' => rec_ (x2', x4', M0')) u.1 u.2.1 u.2.2) tp_N (x2, x4, M0)
set_option maxHeartbeats 4000000 in
set_option maxRecDepth 100000 in
theorem T_X11_readsTerm_16 (G : tp_G) (x1 : Int) (x2 : Int) (x4 : Int) (M0 : tp_M) : tp_J i_X11_readsTerm (tp_rm 3) G 0 0 o_X11_readsTerm tp_NC (tp_st M0) 0 0 [some (.inr (.inr 483)), some (.inl x1), some (.inl x2), none, some (.inl x4)] 16 [] (f_X11_readsTerm_16 x1 x2 x4 M0) := by
  unfold f_X11_readsTerm_16
  exact j_lp (σ := Int × Int × tp_M) (n' := fun _ => tp_NC) (g' := fun u => tp_st u.2.2) (k' := fun _ => 0) (q' := fun _ => 0) (lv' := fun u => [some (.inr (.inr 483)), some (.inl x1), some (.inl u.1), none, some (.inl u.2.1)]) (fun rec_ hrec u => T_X11_readsTerm_16B G x1 (fun x2' x4' M0' => rec_ (x2', x4', M0')) (fun x2' x4' M0' => hrec (x2', x4', M0')) u.1 u.2.1 u.2.2) tp_N (x2, x4, M0)
def f_X11_readsTerm (a0 : Int) (M0 : tp_M) : Option (Int × tp_M) :=
  (f_X11_isDigit M0).bind fun r1 =>
  if r1 = 0 then
    (f_X11_readsPower M0).bind fun r4 =>
    f_X11_readsTerm_89 a0 1 r4.1 r4.2
  else
    f_X11_readsTerm_16 a0 0 0 M0
set_option maxHeartbeats 4000000 in
set_option maxRecDepth 100000 in
theorem T_X11_readsTerm (G : tp_G) (a0 : Int) (M0 : tp_M) : tp_J i_X11_readsTerm (tp_rm 3) G 0 0 o_X11_readsTerm tp_NC (tp_st M0) 0 0 [some (.inr (.inr 483)), some (.inl a0), none, none, none] 0 [] (f_X11_readsTerm a0 M0) := by
  unfold f_X11_readsTerm
  refine j_iconst ⟨by decide, by decide⟩ d_X11_readsTerm_0 ?_
  refine j_istore_n (lv' := [some (.inr (.inr 483)), some (.inl a0), some (.inl 1), none, none]) rfl d_X11_readsTerm_1 (Nat.le_of_ble_eq_true rfl) rfl ?_
  refine j_iconst ⟨by decide, by decide⟩ d_X11_readsTerm_2 ?_
  refine j_istore_n (lv' := [some (.inr (.inr 483)), some (.inl a0), some (.inl 1), some (.inl 0), none]) rfl d_X11_readsTerm_3 (Nat.le_of_ble_eq_true rfl) rfl ?_
  refine j_aload_n rfl d_X11_readsTerm_4 rfl ?_
  refine j_bind (fun r1 h2 => ?_)
  refine j_callV (y := y_X11_isDigit) (I' := i_X11_isDigit) (avs := []) (c := 483) (st := []) (c_X11_isDigit G M0 r1 h2) cs_Model_217 wd_1269 wd_1271 ws_41 tg_483 rfl rfl rfl (Nat.le_of_ble_eq_true rfl) ⟨rfl, rfl⟩ ⟨by decide, by decide⟩ ⟨by decide, by decide⟩ d_X11_readsTerm_5 ?_
  refine j_if_eq (tgt := 84) d_X11_readsTerm_8 (by decide) (fun h3 => ?_) (fun h3 => ?_)
  · refine j_aload_n rfl d_X11_readsTerm_84 rfl ?_
    refine j_bind (fun r4 h5 => ?_)
    refine j_callV (y := y_X11_readsPower) (I' := i_X11_readsPower) (avs := []) (c := 483) (st := []) (c_X11_readsPower G M0 r4 h5) cs_Model_221 wd_1275 wd_1277 ws_42 tg_483 rfl rfl rfl (Nat.le_of_ble_eq_true rfl) ⟨rfl, rfl⟩ ⟨by decide, by decide⟩ ⟨by decide, by decide⟩ d_X11_readsTerm_85 ?_
    refine j_istore_n (lv' := [some (.inr (.inr 483)), some (.inl a0), some (.inl 1), some (.inl r4.1), none]) rfl d_X11_readsTerm_88 (Nat.le_of_ble_eq_true rfl) rfl ?_
    exact j_wk [true, true, true, true, false] rfl rfl (T_X11_readsTerm_89 G a0 1 r4.1 r4.2)
  · refine j_iconst ⟨by decide, by decide⟩ d_X11_readsTerm_11 ?_
    refine j_istore_n (lv' := [some (.inr (.inr 483)), some (.inl a0), some (.inl 0), some (.inl 0), none]) rfl d_X11_readsTerm_12 (Nat.le_of_ble_eq_true rfl) rfl ?_
    refine j_iconst ⟨by decide, by decide⟩ d_X11_readsTerm_13 ?_
    refine j_istore (lv' := [some (.inr (.inr 483)), some (.inl a0), some (.inl 0), some (.inl 0), some (.inl 0)]) d_X11_readsTerm_14 (Nat.le_of_ble_eq_true rfl) rfl ?_
    exact j_wk [true, true, true, false, true] rfl rfl (T_X11_readsTerm_16 G a0 0 0 M0)
set_option maxHeartbeats 4000000 in
set_option maxRecDepth 100000 in
theorem c_X11_readsTerm (G : tp_G) (a0 : Int) (M0 : tp_M) (r : Int × tp_M) (h : f_X11_readsTerm a0 M0 = some r) (l : Launch) : Met l y_X11_readsTerm (tp_ws y_X11_readsTerm i_X11_readsTerm) (tp_rm 3) (tp_Pc G [.inr (.inr 483), .inl a0] tp_NC (tp_st M0)) (tp_Q G (o_X11_readsTerm r)) 0 0 (tp_A G) :=
  tp_met (I := i_X11_readsTerm) (y := y_X11_readsTerm) (by decide +kernel) (Eq.refl "TypesAtPrimeModel") (Eq.refl "readsTerm") (lv := [some (.inr (.inr 483)), some (.inl a0), none, none, none]) rfl (Nat.le_of_ble_eq_true rfl) (T_X11_readsTerm G a0 M0) h l
theorem wd_1268 : (.code ⟨"TypesAtPrimeModel", "readsTerm", "(I)Z"⟩ prog_13_method_18_code 5 (some .boolean) : Cond) ∈ lw_tbl := List.mem_append_right _ (List.mem_of_getElem? (i := 1268) (by decide +kernel))
theorem cs_Model_224 : tp_CS "TypesAtPrimeModel" 224 y_X11_readsTerm i_X11_readsTerm 1 := ⟨wd_1268, wd_12, by decide, by decide, by decide +kernel⟩
theorem wd_1265 : (.methodLink "TypesAtPrimeModel" 224 ⟨"TypesAtPrimeModel", "readsTerm", "(I)Z"⟩ : Cond) ∈ lw_tbl := List.mem_append_right _ (List.mem_of_getElem? (i := 1265) (by decide +kernel))
theorem wd_1267 : (.instanceMethod ⟨"TypesAtPrimeModel", "readsTerm", "(I)Z"⟩ : Cond) ∈ lw_tbl := List.mem_append_right _ (List.mem_of_getElem? (i := 1267) (by decide +kernel))
theorem ws_40 : (.selects "TypesAtPrimeModel" ⟨"TypesAtPrimeModel", "readsTerm", "(I)Z"⟩ ⟨"TypesAtPrimeModel", "readsTerm", "(I)Z"⟩ : Cond) ∈ lw_tbl := List.mem_append_left _ (List.mem_of_getElem? (i := 40) (by decide +kernel))
def y_X11_readsAll : MethodName := ⟨"TypesAtPrimeModel", "readsAll", "()Z"⟩
abbrev i_X11_readsAll : tp_I := (prog_13_method_19_code, "TypesAtPrimeModel", (some .boolean), 3, "readsAll")
abbrev o_X11_readsAll : Int × tp_M → tp_O := fun r => (some (.inl r.1), tp_NC, tp_st r.2)
theorem d_X11_readsAll_0 : decode prog_13_method_19_code 0 = .ok (.aload_n 0, 1) := by decide +kernel
theorem d_X11_readsAll_1 : decode prog_13_method_19_code 1 = .ok (.iconst 0, 1) := by decide +kernel
theorem d_X11_readsAll_2 : decode prog_13_method_19_code 2 = .ok (.putfield 200, 3) := by decide +kernel
theorem d_X11_readsAll_5 : decode prog_13_method_19_code 5 = .ok (.iconst 0, 1) := by decide +kernel
theorem d_X11_readsAll_6 : decode prog_13_method_19_code 6 = .ok (.istore_n 1, 1) := by decide +kernel
theorem d_X11_readsAll_7 : decode prog_13_method_19_code 7 = .ok (.iload_n 1, 1) := by decide +kernel
theorem d_X11_readsAll_8 : decode prog_13_method_19_code 8 = .ok (.bipush 9, 2) := by decide +kernel
theorem d_X11_readsAll_10 : decode prog_13_method_19_code 10 = .ok (.if_icmp .ge 16, 3) := by decide +kernel
theorem d_X11_readsAll_13 : decode prog_13_method_19_code 13 = .ok (.aload_n 0, 1) := by decide +kernel
theorem d_X11_readsAll_14 : decode prog_13_method_19_code 14 = .ok (.getfield 16, 3) := by decide +kernel
theorem d_X11_readsAll_17 : decode prog_13_method_19_code 17 = .ok (.iload_n 1, 1) := by decide +kernel
theorem d_X11_readsAll_18 : decode prog_13_method_19_code 18 = .ok (.lconst 0, 1) := by decide +kernel
theorem d_X11_readsAll_19 : decode prog_13_method_19_code 19 = .ok (.lastore, 1) := by decide +kernel
theorem d_X11_readsAll_20 : decode prog_13_method_19_code 20 = .ok (.iinc 1 1, 3) := by decide +kernel
theorem d_X11_readsAll_23 : decode prog_13_method_19_code 23 = .ok (.goto (-16), 3) := by decide +kernel
theorem d_X11_readsAll_26 : decode prog_13_method_19_code 26 = .ok (.aload_n 0, 1) := by decide +kernel
theorem d_X11_readsAll_27 : decode prog_13_method_19_code 27 = .ok (.bipush 45, 2) := by decide +kernel
theorem d_X11_readsAll_29 : decode prog_13_method_19_code 29 = .ok (.invokevirtual 211, 3) := by decide +kernel
theorem d_X11_readsAll_32 : decode prog_13_method_19_code 32 = .ok (.ifCond .eq 7, 3) := by decide +kernel
theorem d_X11_readsAll_35 : decode prog_13_method_19_code 35 = .ok (.iconst (-1), 1) := by decide +kernel
theorem d_X11_readsAll_36 : decode prog_13_method_19_code 36 = .ok (.goto 4, 3) := by decide +kernel
theorem d_X11_readsAll_39 : decode prog_13_method_19_code 39 = .ok (.iconst 1, 1) := by decide +kernel
theorem d_X11_readsAll_40 : decode prog_13_method_19_code 40 = .ok (.istore_n 1, 1) := by decide +kernel
theorem d_X11_readsAll_41 : decode prog_13_method_19_code 41 = .ok (.aload_n 0, 1) := by decide +kernel
theorem d_X11_readsAll_42 : decode prog_13_method_19_code 42 = .ok (.iload_n 1, 1) := by decide +kernel
theorem d_X11_readsAll_43 : decode prog_13_method_19_code 43 = .ok (.invokevirtual 224, 3) := by decide +kernel
theorem d_X11_readsAll_46 : decode prog_13_method_19_code 46 = .ok (.istore_n 2, 1) := by decide +kernel
theorem d_X11_readsAll_47 : decode prog_13_method_19_code 47 = .ok (.iload_n 2, 1) := by decide +kernel
theorem d_X11_readsAll_48 : decode prog_13_method_19_code 48 = .ok (.ifCond .eq 55, 3) := by decide +kernel
theorem d_X11_readsAll_51 : decode prog_13_method_19_code 51 = .ok (.aload_n 0, 1) := by decide +kernel
theorem d_X11_readsAll_52 : decode prog_13_method_19_code 52 = .ok (.invokevirtual 203, 3) := by decide +kernel
theorem d_X11_readsAll_55 : decode prog_13_method_19_code 55 = .ok (.bipush 43, 2) := by decide +kernel
theorem d_X11_readsAll_57 : decode prog_13_method_19_code 57 = .ok (.if_icmp .eq 12, 3) := by decide +kernel
theorem d_X11_readsAll_60 : decode prog_13_method_19_code 60 = .ok (.aload_n 0, 1) := by decide +kernel
theorem d_X11_readsAll_61 : decode prog_13_method_19_code 61 = .ok (.invokevirtual 203, 3) := by decide +kernel
theorem d_X11_readsAll_64 : decode prog_13_method_19_code 64 = .ok (.bipush 45, 2) := by decide +kernel
theorem d_X11_readsAll_66 : decode prog_13_method_19_code 66 = .ok (.if_icmp .ne 37, 3) := by decide +kernel
theorem d_X11_readsAll_69 : decode prog_13_method_19_code 69 = .ok (.aload_n 0, 1) := by decide +kernel
theorem d_X11_readsAll_70 : decode prog_13_method_19_code 70 = .ok (.invokevirtual 203, 3) := by decide +kernel
theorem d_X11_readsAll_73 : decode prog_13_method_19_code 73 = .ok (.bipush 45, 2) := by decide +kernel
theorem d_X11_readsAll_75 : decode prog_13_method_19_code 75 = .ok (.if_icmp .ne 7, 3) := by decide +kernel
theorem d_X11_readsAll_78 : decode prog_13_method_19_code 78 = .ok (.iconst (-1), 1) := by decide +kernel
theorem d_X11_readsAll_79 : decode prog_13_method_19_code 79 = .ok (.goto 4, 3) := by decide +kernel
theorem d_X11_readsAll_82 : decode prog_13_method_19_code 82 = .ok (.iconst 1, 1) := by decide +kernel
theorem d_X11_readsAll_83 : decode prog_13_method_19_code 83 = .ok (.istore_n 1, 1) := by decide +kernel
theorem d_X11_readsAll_84 : decode prog_13_method_19_code 84 = .ok (.aload_n 0, 1) := by decide +kernel
theorem d_X11_readsAll_85 : decode prog_13_method_19_code 85 = .ok (.dup, 1) := by decide +kernel
theorem d_X11_readsAll_86 : decode prog_13_method_19_code 86 = .ok (.getfield 200, 3) := by decide +kernel
theorem d_X11_readsAll_89 : decode prog_13_method_19_code 89 = .ok (.iconst 1, 1) := by decide +kernel
theorem d_X11_readsAll_90 : decode prog_13_method_19_code 90 = .ok (.iadd, 1) := by decide +kernel
theorem d_X11_readsAll_91 : decode prog_13_method_19_code 91 = .ok (.putfield 200, 3) := by decide +kernel
theorem d_X11_readsAll_94 : decode prog_13_method_19_code 94 = .ok (.aload_n 0, 1) := by decide +kernel
theorem d_X11_readsAll_95 : decode prog_13_method_19_code 95 = .ok (.iload_n 1, 1) := by decide +kernel
theorem d_X11_readsAll_96 : decode prog_13_method_19_code 96 = .ok (.invokevirtual 224, 3) := by decide +kernel
theorem d_X11_readsAll_99 : decode prog_13_method_19_code 99 = .ok (.istore_n 2, 1) := by decide +kernel
theorem d_X11_readsAll_100 : decode prog_13_method_19_code 100 = .ok (.goto (-53), 3) := by decide +kernel
theorem d_X11_readsAll_103 : decode prog_13_method_19_code 103 = .ok (.iload_n 2, 1) := by decide +kernel
theorem d_X11_readsAll_104 : decode prog_13_method_19_code 104 = .ok (.ifCond .eq 18, 3) := by decide +kernel
theorem d_X11_readsAll_107 : decode prog_13_method_19_code 107 = .ok (.aload_n 0, 1) := by decide +kernel
theorem d_X11_readsAll_108 : decode prog_13_method_19_code 108 = .ok (.getfield 200, 3) := by decide +kernel
theorem d_X11_readsAll_111 : decode prog_13_method_19_code 111 = .ok (.aload_n 0, 1) := by decide +kernel
theorem d_X11_readsAll_112 : decode prog_13_method_19_code 112 = .ok (.getfield 197, 3) := by decide +kernel
theorem d_X11_readsAll_115 : decode prog_13_method_19_code 115 = .ok (.if_icmp .ne 7, 3) := by decide +kernel
theorem d_X11_readsAll_118 : decode prog_13_method_19_code 118 = .ok (.iconst 1, 1) := by decide +kernel
theorem d_X11_readsAll_119 : decode prog_13_method_19_code 119 = .ok (.goto 4, 3) := by decide +kernel
theorem d_X11_readsAll_122 : decode prog_13_method_19_code 122 = .ok (.iconst 0, 1) := by decide +kernel
theorem d_X11_readsAll_123 : decode prog_13_method_19_code 123 = .ok (.ireturn, 1) := by decide +kernel
def f_X11_readsAll_103 (x2 : Int) (M0 : tp_M) : Option (Int × tp_M) :=
  if x2 = 0 then
    some (0, M0)
  else
    if ¬ (M0 483 6) = (M0 483 5) then
      some (0, M0)
    else
      some (1, M0)
set_option maxHeartbeats 4000000 in
set_option maxRecDepth 100000 in
theorem T_X11_readsAll_103 (G : tp_G) (x2 : Int) (M0 : tp_M) : tp_J i_X11_readsAll (tp_rm 4) G 0 0 o_X11_readsAll tp_NC (tp_st M0) 0 0 [some (.inr (.inr 483)), none, some (.inl x2)] 103 [] (f_X11_readsAll_103 x2 M0) := by
  unfold f_X11_readsAll_103
  refine j_iload_n rfl d_X11_readsAll_103 rfl ?_
  refine j_if_eq (tgt := 122) d_X11_readsAll_104 (by decide) (fun h9 => ?_) (fun h9 => ?_)
  · refine j_iconst ⟨by decide, by decide⟩ d_X11_readsAll_122 ?_
    exact j_zret d_X11_readsAll_123 rfl (Or.inl rfl) rfl ⟨rfl, rfl⟩
  · refine j_aload_n rfl d_X11_readsAll_107 rfl ?_
    refine j_geti fl_Model_200 tg_483 d_X11_readsAll_108 ?_
    refine j_aload_n rfl d_X11_readsAll_111 rfl ?_
    refine j_geti fl_Model_197 tg_483 d_X11_readsAll_112 ?_
    refine j_icmp_ne (tgt := 122) d_X11_readsAll_115 (by decide) (fun h10 => ?_) (fun h10 => ?_)
    · refine j_iconst ⟨by decide, by decide⟩ d_X11_readsAll_122 ?_
      exact j_zret d_X11_readsAll_123 rfl (Or.inl rfl) rfl ⟨rfl, rfl⟩
    · refine j_iconst ⟨by decide, by decide⟩ d_X11_readsAll_118 ?_
      refine j_goto (tgt := 123) d_X11_readsAll_119 (by decide) ?_
      exact j_zret d_X11_readsAll_123 rfl (Or.inr rfl) rfl ⟨rfl, rfl⟩
def f_X11_readsAll_83 (rec_47 : Int → tp_M → Option (Int × tp_M)) (s0 : Int) (M0 : tp_M) : Option (Int × tp_M) :=
  tp_mp (tp_up M0 483 6 (tp_w ((M0 483 6) + 1))) fun M17 =>
  (f_X11_readsTerm s0 M17).bind fun r18 =>
  rec_47 r18.1 r18.2
set_option maxHeartbeats 4000000 in
set_option maxRecDepth 100000 in
theorem T_X11_readsAll_83 (G : tp_G) (rec_47 : Int → tp_M → Option (Int × tp_M)) (s0 : Int) (M0 : tp_M) (hrec_47 : ∀ (x2' : Int) (M' : tp_M), tp_J i_X11_readsAll (tp_rm 4) G 0 0 o_X11_readsAll tp_NC (tp_st M') 0 0 [some (.inr (.inr 483)), none, some (.inl (x2'))] 47 [] (rec_47 x2' M')) : tp_J i_X11_readsAll (tp_rm 4) G 0 0 o_X11_readsAll tp_NC (tp_st M0) 0 0 [some (.inr (.inr 483)), none, none] 83 [.inl s0] (f_X11_readsAll_83 rec_47 s0 M0) := by
  unfold f_X11_readsAll_83
  refine j_istore_n (lv' := [some (.inr (.inr 483)), some (.inl s0), none]) rfl d_X11_readsAll_83 (Nat.le_of_ble_eq_true rfl) rfl ?_
  refine j_aload_n rfl d_X11_readsAll_84 rfl ?_
  refine j_dup d_X11_readsAll_85 (fun G => tp_cat G _) ?_
  refine j_geti fl_Model_200 tg_483 d_X11_readsAll_86 ?_
  refine j_iconst ⟨by decide, by decide⟩ d_X11_readsAll_89 ?_
  refine j_iadd d_X11_readsAll_90 ?_
  refine j_put (z := 0) (v := (tp_w ((M0 483 6) + 1))) fl_Model_200 (by decide) tg_483 (pf_11_6 _) pt_11 d_X11_readsAll_91 (fun M17 hM17 => ?_)
  refine j_aload_n rfl d_X11_readsAll_94 rfl ?_
  refine j_iload_n rfl d_X11_readsAll_95 rfl ?_
  refine j_bind (fun r18 h19 => ?_)
  refine j_callV (y := y_X11_readsTerm) (I' := i_X11_readsTerm) (avs := [.inl s0]) (c := 483) (st := []) (c_X11_readsTerm G s0 M17 r18 h19) cs_Model_224 wd_1265 wd_1267 ws_40 tg_483 rfl rfl rfl (Nat.le_of_ble_eq_true rfl) ⟨rfl, rfl⟩ ⟨by decide, by decide⟩ ⟨by decide, by decide⟩ d_X11_readsAll_96 ?_
  refine j_istore_n (lv' := [some (.inr (.inr 483)), some (.inl s0), some (.inl r18.1)]) rfl d_X11_readsAll_99 (Nat.le_of_ble_eq_true rfl) rfl ?_
  refine j_goto (tgt := 47) d_X11_readsAll_100 (by decide) ?_
  exact j_wk [true, false, true] rfl rfl (hrec_47 r18.1 r18.2)
def f_X11_readsAll_69 (rec_47 : Int → tp_M → Option (Int × tp_M)) (M0 : tp_M) : Option (Int × tp_M) :=
  (f_X11_here M0).bind fun r14 =>
  if ¬ r14 = 45 then
    f_X11_readsAll_83 rec_47 1 M0
  else
    f_X11_readsAll_83 rec_47 (-1) M0
set_option maxHeartbeats 4000000 in
set_option maxRecDepth 100000 in
theorem T_X11_readsAll_69 (G : tp_G) (rec_47 : Int → tp_M → Option (Int × tp_M)) (M0 : tp_M) (hrec_47 : ∀ (x2' : Int) (M' : tp_M), tp_J i_X11_readsAll (tp_rm 4) G 0 0 o_X11_readsAll tp_NC (tp_st M') 0 0 [some (.inr (.inr 483)), none, some (.inl (x2'))] 47 [] (rec_47 x2' M')) : tp_J i_X11_readsAll (tp_rm 4) G 0 0 o_X11_readsAll tp_NC (tp_st M0) 0 0 [some (.inr (.inr 483)), none, none] 69 [] (f_X11_readsAll_69 rec_47 M0) := by
  unfold f_X11_readsAll_69
  refine j_aload_n rfl d_X11_readsAll_69 rfl ?_
  refine j_bind (fun r14 h15 => ?_)
  refine j_callV (y := y_X11_here) (I' := i_X11_here) (avs := []) (c := 483) (st := []) (c_X11_here G M0 r14 h15) cs_Model_203 wd_1261 wd_1263 ws_39 tg_483 rfl rfl rfl (Nat.le_of_ble_eq_true rfl) ⟨rfl, rfl⟩ ⟨by decide, by decide⟩ ⟨by decide, by decide⟩ d_X11_readsAll_70 ?_
  refine j_bipush ⟨by decide, by decide⟩ (by decide +kernel) d_X11_readsAll_73 ?_
  refine j_icmp_ne (tgt := 82) d_X11_readsAll_75 (by decide) (fun h16 => ?_) (fun h16 => ?_)
  · refine j_iconst ⟨by decide, by decide⟩ d_X11_readsAll_82 ?_
    exact j_wk [true, false, false] rfl rfl (T_X11_readsAll_83 G rec_47 1 M0 hrec_47)
  · refine j_iconst ⟨by decide, by decide⟩ d_X11_readsAll_78 ?_
    refine j_goto (tgt := 83) d_X11_readsAll_79 (by decide) ?_
    exact j_wk [true, false, false] rfl rfl (T_X11_readsAll_83 G rec_47 (-1) M0 hrec_47)
def f_X11_readsAll_47B (rec_47 : Int → tp_M → Option (Int × tp_M)) (x2 : Int) (M0 : tp_M) : Option (Int × tp_M) :=
  if x2 = 0 then
    f_X11_readsAll_103 x2 M0
  else
    (f_X11_here M0).bind fun r11 =>
    if r11 = 43 then
      f_X11_readsAll_69 rec_47 M0
    else
      (f_X11_here M0).bind fun r20 =>
      if ¬ r20 = 45 then
        f_X11_readsAll_103 x2 M0
      else
        f_X11_readsAll_69 rec_47 M0
set_option maxHeartbeats 4000000 in
set_option maxRecDepth 100000 in
theorem T_X11_readsAll_47B (G : tp_G) (rec_47 : Int → tp_M → Option (Int × tp_M)) (hrec_47 : ∀ (x2' : Int) (M' : tp_M), tp_J i_X11_readsAll (tp_rm 4) G 0 0 o_X11_readsAll tp_NC (tp_st M') 0 0 [some (.inr (.inr 483)), none, some (.inl (x2'))] 47 [] (rec_47 x2' M')) (x2 : Int) (M0 : tp_M) : tp_J i_X11_readsAll (tp_rm 4) G 0 0 o_X11_readsAll tp_NC (tp_st M0) 0 0 [some (.inr (.inr 483)), none, some (.inl x2)] 47 [] (f_X11_readsAll_47B rec_47 x2 M0) := by
  unfold f_X11_readsAll_47B
  refine j_iload_n rfl d_X11_readsAll_47 rfl ?_
  refine j_if_eq (tgt := 103) d_X11_readsAll_48 (by decide) (fun h8 => ?_) (fun h8 => ?_)
  · exact j_wk [true, false, true] rfl rfl (T_X11_readsAll_103 G x2 M0)
  · refine j_aload_n rfl d_X11_readsAll_51 rfl ?_
    refine j_bind (fun r11 h12 => ?_)
    refine j_callV (y := y_X11_here) (I' := i_X11_here) (avs := []) (c := 483) (st := []) (c_X11_here G M0 r11 h12) cs_Model_203 wd_1261 wd_1263 ws_39 tg_483 rfl rfl rfl (Nat.le_of_ble_eq_true rfl) ⟨rfl, rfl⟩ ⟨by decide, by decide⟩ ⟨by decide, by decide⟩ d_X11_readsAll_52 ?_
    refine j_bipush ⟨by decide, by decide⟩ (by decide +kernel) d_X11_readsAll_55 ?_
    refine j_icmp_eq (tgt := 69) d_X11_readsAll_57 (by decide) (fun h13 => ?_) (fun h13 => ?_)
    · exact j_wk [true, false, false] rfl rfl (T_X11_readsAll_69 G rec_47 M0 hrec_47)
    · refine j_aload_n rfl d_X11_readsAll_60 rfl ?_
      refine j_bind (fun r20 h21 => ?_)
      refine j_callV (y := y_X11_here) (I' := i_X11_here) (avs := []) (c := 483) (st := []) (c_X11_here G M0 r20 h21) cs_Model_203 wd_1261 wd_1263 ws_39 tg_483 rfl rfl rfl (Nat.le_of_ble_eq_true rfl) ⟨rfl, rfl⟩ ⟨by decide, by decide⟩ ⟨by decide, by decide⟩ d_X11_readsAll_61 ?_
      refine j_bipush ⟨by decide, by decide⟩ (by decide +kernel) d_X11_readsAll_64 ?_
      refine j_icmp_ne (tgt := 103) d_X11_readsAll_66 (by decide) (fun h22 => ?_) (fun h22 => ?_)
      · exact j_wk [true, false, true] rfl rfl (T_X11_readsAll_103 G x2 M0)
      · exact j_wk [true, false, false] rfl rfl (T_X11_readsAll_69 G rec_47 M0 hrec_47)
def f_X11_readsAll_47 (x2 : Int) (M0 : tp_M) : Option (Int × tp_M) := tp_lp (σ := Int × tp_M) (fun rec_ u => f_X11_readsAll_47B (fun x2' M0' => rec_ (x2', M0')) u.1 u.2) tp_N (x2, M0)
set_option maxHeartbeats 4000000 in
set_option maxRecDepth 100000 in
theorem T_X11_readsAll_47 (G : tp_G) (x2 : Int) (M0 : tp_M) : tp_J i_X11_readsAll (tp_rm 4) G 0 0 o_X11_readsAll tp_NC (tp_st M0) 0 0 [some (.inr (.inr 483)), none, some (.inl x2)] 47 [] (f_X11_readsAll_47 x2 M0) := by
  unfold f_X11_readsAll_47
  exact j_lp (σ := Int × tp_M) (n' := fun _ => tp_NC) (g' := fun u => tp_st u.2) (k' := fun _ => 0) (q' := fun _ => 0) (lv' := fun u => [some (.inr (.inr 483)), none, some (.inl u.1)]) (fun rec_ hrec u => T_X11_readsAll_47B G (fun x2' M0' => rec_ (x2', M0')) (fun x2' M0' => hrec (x2', M0')) u.1 u.2) tp_N (x2, M0)
def f_X11_readsAll_40 (s0 : Int) (M0 : tp_M) : Option (Int × tp_M) :=
  (f_X11_readsTerm s0 M0).bind fun r6 =>
  f_X11_readsAll_47 r6.1 r6.2
set_option maxHeartbeats 4000000 in
set_option maxRecDepth 100000 in
theorem T_X11_readsAll_40 (G : tp_G) (s0 : Int) (M0 : tp_M) : tp_J i_X11_readsAll (tp_rm 4) G 0 0 o_X11_readsAll tp_NC (tp_st M0) 0 0 [some (.inr (.inr 483)), none, none] 40 [.inl s0] (f_X11_readsAll_40 s0 M0) := by
  unfold f_X11_readsAll_40
  refine j_istore_n (lv' := [some (.inr (.inr 483)), some (.inl s0), none]) rfl d_X11_readsAll_40 (Nat.le_of_ble_eq_true rfl) rfl ?_
  refine j_aload_n rfl d_X11_readsAll_41 rfl ?_
  refine j_iload_n rfl d_X11_readsAll_42 rfl ?_
  refine j_bind (fun r6 h7 => ?_)
  refine j_callV (y := y_X11_readsTerm) (I' := i_X11_readsTerm) (avs := [.inl s0]) (c := 483) (st := []) (c_X11_readsTerm G s0 M0 r6 h7) cs_Model_224 wd_1265 wd_1267 ws_40 tg_483 rfl rfl rfl (Nat.le_of_ble_eq_true rfl) ⟨rfl, rfl⟩ ⟨by decide, by decide⟩ ⟨by decide, by decide⟩ d_X11_readsAll_43 ?_
  refine j_istore_n (lv' := [some (.inr (.inr 483)), some (.inl s0), some (.inl r6.1)]) rfl d_X11_readsAll_46 (Nat.le_of_ble_eq_true rfl) rfl ?_
  exact j_wk [true, false, true] rfl rfl (T_X11_readsAll_47 G r6.1 r6.2)
def f_X11_readsAll_7B (rec_7 : Int → tp_M → Option (Int × tp_M)) (x1 : Int) (M0 : tp_M) : Option (Int × tp_M) :=
  if 9 ≤ x1 then
    (f_X11_takes 45 M0).bind fun r3 =>
    if r3.1 = 0 then
      f_X11_readsAll_40 1 r3.2
    else
      f_X11_readsAll_40 (-1) r3.2
  else
    if 0 ≤ x1 ∧ x1 < 9 then
      tp_mp (tp_up M0 486 x1 0) fun M23 =>
      tp_lt (tp_w (x1 + 1)) fun y24 =>
      rec_7 y24 M23 else none
set_option maxHeartbeats 4000000 in
set_option maxRecDepth 100000 in
theorem T_X11_readsAll_7B (G : tp_G) (rec_7 : Int → tp_M → Option (Int × tp_M)) (hrec_7 : ∀ (x1' : Int) (M' : tp_M), tp_J i_X11_readsAll (tp_rm 4) G 0 0 o_X11_readsAll tp_NC (tp_st M') 0 0 [some (.inr (.inr 483)), some (.inl (x1')), none] 7 [] (rec_7 x1' M')) (x1 : Int) (M0 : tp_M) : tp_J i_X11_readsAll (tp_rm 4) G 0 0 o_X11_readsAll tp_NC (tp_st M0) 0 0 [some (.inr (.inr 483)), some (.inl x1), none] 7 [] (f_X11_readsAll_7B rec_7 x1 M0) := by
  unfold f_X11_readsAll_7B
  refine j_iload_n rfl d_X11_readsAll_7 rfl ?_
  refine j_bipush ⟨by decide, by decide⟩ (by decide +kernel) d_X11_readsAll_8 ?_
  refine j_icmp_ge (tgt := 26) d_X11_readsAll_10 (by decide) (fun h2 => ?_) (fun h2 => ?_)
  · refine j_aload_n rfl d_X11_readsAll_26 rfl ?_
    refine j_bipush ⟨by decide, by decide⟩ (by decide +kernel) d_X11_readsAll_27 ?_
    refine j_bind (fun r3 h4 => ?_)
    refine j_callV (y := y_X11_takes) (I' := i_X11_takes) (avs := [.inl 45]) (c := 483) (st := []) (c_X11_takes G 45 M0 r3 h4) cs_Model_211 wd_1257 wd_1259 ws_38 tg_483 rfl rfl rfl (Nat.le_of_ble_eq_true rfl) ⟨rfl, rfl⟩ ⟨by decide, by decide⟩ ⟨by decide, by decide⟩ d_X11_readsAll_29 ?_
    refine j_if_eq (tgt := 39) d_X11_readsAll_32 (by decide) (fun h5 => ?_) (fun h5 => ?_)
    · refine j_iconst ⟨by decide, by decide⟩ d_X11_readsAll_39 ?_
      exact j_wk [true, false, false] rfl rfl (T_X11_readsAll_40 G 1 r3.2)
    · refine j_iconst ⟨by decide, by decide⟩ d_X11_readsAll_35 ?_
      refine j_goto (tgt := 40) d_X11_readsAll_36 (by decide) ?_
      exact j_wk [true, false, false] rfl rfl (T_X11_readsAll_40 G (-1) r3.2)
  · refine j_aload_n rfl d_X11_readsAll_13 rfl ?_
    refine j_getr fl_Model_16 tg_483 rv_483_7 d_X11_readsAll_14 ?_
    refine j_iload_n rfl d_X11_readsAll_17 rfl ?_
    refine j_lconst (x := 0) ⟨by decide, by decide⟩ (by decide +kernel) d_X11_readsAll_18 ?_
    refine j_last tg_486 al_486 d_X11_readsAll_19 (fun M23 hM23 => ?_)
    refine j_iincN (lv' := fun y24 => [some (.inr (.inr 483)), some (.inl y24), none]) d_X11_readsAll_20 rfl (Nat.le_of_ble_eq_true rfl) (fun _ => rfl) (fun y24 hy24 => ?_)
    refine j_goto (tgt := 7) d_X11_readsAll_23 (by decide) ?_
    exact j_wk [true, true, false] rfl rfl (hrec_7 y24 M23)
def f_X11_readsAll_7 (x1 : Int) (M0 : tp_M) : Option (Int × tp_M) := tp_lp (σ := Int × tp_M) (fun rec_ u => f_X11_readsAll_7B (fun x1' M0' => rec_ (x1', M0')) u.1 u.2) tp_N (x1, M0)
set_option maxHeartbeats 4000000 in
set_option maxRecDepth 100000 in
theorem T_X11_readsAll_7 (G : tp_G) (x1 : Int) (M0 : tp_M) : tp_J i_X11_readsAll (tp_rm 4) G 0 0 o_X11_readsAll tp_NC (tp_st M0) 0 0 [some (.inr (.inr 483)), some (.inl x1), none] 7 [] (f_X11_readsAll_7 x1 M0) := by
  unfold f_X11_readsAll_7
  exact j_lp (σ := Int × tp_M) (n' := fun _ => tp_NC) (g' := fun u => tp_st u.2) (k' := fun _ => 0) (q' := fun _ => 0) (lv' := fun u => [some (.inr (.inr 483)), some (.inl u.1), none]) (fun rec_ hrec u => T_X11_readsAll_7B G (fun x1' M0' => rec_ (x1', M0')) (fun x1' M0' => hrec (x1', M0')) u.1 u.2) tp_N (x1, M0)
def f_X11_readsAll (M0 : tp_M) : Option (Int × tp_M) :=
  tp_mp (tp_up M0 483 6 0) fun M1 =>
  f_X11_readsAll_7 0 M1
set_option maxHeartbeats 4000000 in
set_option maxRecDepth 100000 in
theorem T_X11_readsAll (G : tp_G) (M0 : tp_M) : tp_J i_X11_readsAll (tp_rm 4) G 0 0 o_X11_readsAll tp_NC (tp_st M0) 0 0 [some (.inr (.inr 483)), none, none] 0 [] (f_X11_readsAll M0) := by
  unfold f_X11_readsAll
  refine j_aload_n rfl d_X11_readsAll_0 rfl ?_
  refine j_iconst ⟨by decide, by decide⟩ d_X11_readsAll_1 ?_
  refine j_put (z := 0) (v := 0) fl_Model_200 (by decide) tg_483 (pf_11_6 _) pt_11 d_X11_readsAll_2 (fun M1 hM1 => ?_)
  refine j_iconst ⟨by decide, by decide⟩ d_X11_readsAll_5 ?_
  refine j_istore_n (lv' := [some (.inr (.inr 483)), some (.inl 0), none]) rfl d_X11_readsAll_6 (Nat.le_of_ble_eq_true rfl) rfl ?_
  exact j_wk [true, true, false] rfl rfl (T_X11_readsAll_7 G 0 M1)
set_option maxHeartbeats 4000000 in
set_option maxRecDepth 100000 in
theorem c_X11_readsAll (G : tp_G) (M0 : tp_M) (r : Int × tp_M) (h : f_X11_readsAll M0 = some r) (l : Launch) : Met l y_X11_readsAll (tp_ws y_X11_readsAll i_X11_readsAll) (tp_rm 4) (tp_Pc G [.inr (.inr 483)] tp_NC (tp_st M0)) (tp_Q G (o_X11_readsAll r)) 0 0 (tp_A G) :=
  tp_met (I := i_X11_readsAll) (y := y_X11_readsAll) (by decide +kernel) (Eq.refl "TypesAtPrimeModel") (Eq.refl "readsAll") (lv := [some (.inr (.inr 483)), none, none]) rfl (Nat.le_of_ble_eq_true rfl) (T_X11_readsAll G M0) h l
theorem wd_1284 : (.constantLong "TypesAtPrimeModel" 227 (-9999) : Cond) ∈ lw_tbl := List.mem_append_right _ (List.mem_of_getElem? (i := 1284) (by decide +kernel))
theorem wd_1285 : (.constantLong "TypesAtPrimeModel" 229 9999 : Cond) ∈ lw_tbl := List.mem_append_right _ (List.mem_of_getElem? (i := 1285) (by decide +kernel))
def y_X11_takesRead : MethodName := ⟨"TypesAtPrimeModel", "takesRead", "(I)Z"⟩
abbrev i_X11_takesRead : tp_I := (prog_13_method_20_code, "TypesAtPrimeModel", (some .boolean), 4, "takesRead")
abbrev o_X11_takesRead : Int × tp_M → tp_O := fun r => (some (.inl r.1), tp_NC, tp_st r.2)
theorem d_X11_takesRead_0 : decode prog_13_method_20_code 0 = .ok (.iconst 1, 1) := by decide +kernel
theorem d_X11_takesRead_1 : decode prog_13_method_20_code 1 = .ok (.istore_n 2, 1) := by decide +kernel
theorem d_X11_takesRead_2 : decode prog_13_method_20_code 2 = .ok (.iconst 0, 1) := by decide +kernel
theorem d_X11_takesRead_3 : decode prog_13_method_20_code 3 = .ok (.istore_n 3, 1) := by decide +kernel
theorem d_X11_takesRead_4 : decode prog_13_method_20_code 4 = .ok (.iload_n 3, 1) := by decide +kernel
theorem d_X11_takesRead_5 : decode prog_13_method_20_code 5 = .ok (.bipush 9, 2) := by decide +kernel
theorem d_X11_takesRead_7 : decode prog_13_method_20_code 7 = .ok (.if_icmp .ge 37, 3) := by decide +kernel
theorem d_X11_takesRead_10 : decode prog_13_method_20_code 10 = .ok (.iload_n 2, 1) := by decide +kernel
theorem d_X11_takesRead_11 : decode prog_13_method_20_code 11 = .ok (.ifCond .eq 25, 3) := by decide +kernel
theorem d_X11_takesRead_14 : decode prog_13_method_20_code 14 = .ok (.aload_n 0, 1) := by decide +kernel
theorem d_X11_takesRead_15 : decode prog_13_method_20_code 15 = .ok (.getfield 16, 3) := by decide +kernel
theorem d_X11_takesRead_18 : decode prog_13_method_20_code 18 = .ok (.iload_n 3, 1) := by decide +kernel
theorem d_X11_takesRead_19 : decode prog_13_method_20_code 19 = .ok (.laload, 1) := by decide +kernel
theorem d_X11_takesRead_20 : decode prog_13_method_20_code 20 = .ok (.ldc2_w 227, 3) := by decide +kernel
theorem d_X11_takesRead_23 : decode prog_13_method_20_code 23 = .ok (.ldc2_w 229, 3) := by decide +kernel
theorem d_X11_takesRead_26 : decode prog_13_method_20_code 26 = .ok (.invokestatic 193, 3) := by decide +kernel
theorem d_X11_takesRead_29 : decode prog_13_method_20_code 29 = .ok (.ifCond .eq 7, 3) := by decide +kernel
theorem d_X11_takesRead_32 : decode prog_13_method_20_code 32 = .ok (.iconst 1, 1) := by decide +kernel
theorem d_X11_takesRead_33 : decode prog_13_method_20_code 33 = .ok (.goto 4, 3) := by decide +kernel
theorem d_X11_takesRead_36 : decode prog_13_method_20_code 36 = .ok (.iconst 0, 1) := by decide +kernel
theorem d_X11_takesRead_37 : decode prog_13_method_20_code 37 = .ok (.istore_n 2, 1) := by decide +kernel
theorem d_X11_takesRead_38 : decode prog_13_method_20_code 38 = .ok (.iinc 3 1, 3) := by decide +kernel
theorem d_X11_takesRead_41 : decode prog_13_method_20_code 41 = .ok (.goto (-37), 3) := by decide +kernel
theorem d_X11_takesRead_44 : decode prog_13_method_20_code 44 = .ok (.iconst 0, 1) := by decide +kernel
theorem d_X11_takesRead_45 : decode prog_13_method_20_code 45 = .ok (.istore_n 3, 1) := by decide +kernel
theorem d_X11_takesRead_46 : decode prog_13_method_20_code 46 = .ok (.iload_n 3, 1) := by decide +kernel
theorem d_X11_takesRead_47 : decode prog_13_method_20_code 47 = .ok (.bipush 9, 2) := by decide +kernel
theorem d_X11_takesRead_49 : decode prog_13_method_20_code 49 = .ok (.if_icmp .ge 31, 3) := by decide +kernel
theorem d_X11_takesRead_52 : decode prog_13_method_20_code 52 = .ok (.iload_n 2, 1) := by decide +kernel
theorem d_X11_takesRead_53 : decode prog_13_method_20_code 53 = .ok (.ifCond .eq 27, 3) := by decide +kernel
theorem d_X11_takesRead_56 : decode prog_13_method_20_code 56 = .ok (.aload_n 0, 1) := by decide +kernel
theorem d_X11_takesRead_57 : decode prog_13_method_20_code 57 = .ok (.getfield 7, 3) := by decide +kernel
theorem d_X11_takesRead_60 : decode prog_13_method_20_code 60 = .ok (.bipush 9, 2) := by decide +kernel
theorem d_X11_takesRead_62 : decode prog_13_method_20_code 62 = .ok (.iload_n 1, 1) := by decide +kernel
theorem d_X11_takesRead_63 : decode prog_13_method_20_code 63 = .ok (.imul, 1) := by decide +kernel
theorem d_X11_takesRead_64 : decode prog_13_method_20_code 64 = .ok (.iload_n 3, 1) := by decide +kernel
theorem d_X11_takesRead_65 : decode prog_13_method_20_code 65 = .ok (.iadd, 1) := by decide +kernel
theorem d_X11_takesRead_66 : decode prog_13_method_20_code 66 = .ok (.aload_n 0, 1) := by decide +kernel
theorem d_X11_takesRead_67 : decode prog_13_method_20_code 67 = .ok (.getfield 16, 3) := by decide +kernel
theorem d_X11_takesRead_70 : decode prog_13_method_20_code 70 = .ok (.iload_n 3, 1) := by decide +kernel
theorem d_X11_takesRead_71 : decode prog_13_method_20_code 71 = .ok (.laload, 1) := by decide +kernel
theorem d_X11_takesRead_72 : decode prog_13_method_20_code 72 = .ok (.l2i, 1) := by decide +kernel
theorem d_X11_takesRead_73 : decode prog_13_method_20_code 73 = .ok (.iastore, 1) := by decide +kernel
theorem d_X11_takesRead_74 : decode prog_13_method_20_code 74 = .ok (.iinc 3 1, 3) := by decide +kernel
theorem d_X11_takesRead_77 : decode prog_13_method_20_code 77 = .ok (.goto (-31), 3) := by decide +kernel
theorem d_X11_takesRead_80 : decode prog_13_method_20_code 80 = .ok (.iload_n 2, 1) := by decide +kernel
theorem d_X11_takesRead_81 : decode prog_13_method_20_code 81 = .ok (.ireturn, 1) := by decide +kernel
def f_X11_takesRead_46B (x1 : Int) (x2 : Int) (rec_46 : Int → tp_M → Option (Int × tp_M)) (x3 : Int) (M0 : tp_M) : Option (Int × tp_M) :=
  if 9 ≤ x3 then
    if x2 = 0 ∨ x2 = 1 then
      some (x2, M0) else none
  else
    if x2 = 0 then
      if x2 = 0 ∨ x2 = 1 then
        some (x2, M0) else none
    else
      if 0 ≤ x3 ∧ x3 < 9 then
        if 0 ≤ (tp_w ((tp_w (9 * x1)) + x3)) ∧ (tp_w ((tp_w (9 * x1)) + x3)) < 45 then
          tp_mp (tp_up M0 484 (tp_w ((tp_w (9 * x1)) + x3)) (tp_w (M0 486 x3))) fun M6 =>
          tp_lt (tp_w (x3 + 1)) fun y7 =>
          rec_46 y7 M6 else none else none
set_option maxHeartbeats 4000000 in
set_option maxRecDepth 100000 in
theorem T_X11_takesRead_46B (G : tp_G) (x1 : Int) (x2 : Int) (rec_46 : Int → tp_M → Option (Int × tp_M)) (hrec_46 : ∀ (x3' : Int) (M' : tp_M), tp_J i_X11_takesRead (tp_rm 1) G 0 0 o_X11_takesRead tp_NC (tp_st M') 0 0 [some (.inr (.inr 483)), some (.inl x1), some (.inl x2), some (.inl (x3'))] 46 [] (rec_46 x3' M')) (x3 : Int) (M0 : tp_M) : tp_J i_X11_takesRead (tp_rm 1) G 0 0 o_X11_takesRead tp_NC (tp_st M0) 0 0 [some (.inr (.inr 483)), some (.inl x1), some (.inl x2), some (.inl x3)] 46 [] (f_X11_takesRead_46B x1 x2 rec_46 x3 M0) := by
  unfold f_X11_takesRead_46B
  refine j_iload_n rfl d_X11_takesRead_46 rfl ?_
  refine j_bipush ⟨by decide, by decide⟩ (by decide +kernel) d_X11_takesRead_47 ?_
  refine j_icmp_ge (tgt := 80) d_X11_takesRead_49 (by decide) (fun h2 => ?_) (fun h2 => ?_)
  · refine j_iload_n rfl d_X11_takesRead_80 rfl ?_
    refine tp_chk (fun h3 => ?_)
    exact j_zret d_X11_takesRead_81 rfl h3 rfl ⟨rfl, rfl⟩
  · refine j_iload_n rfl d_X11_takesRead_52 rfl ?_
    refine j_if_eq (tgt := 80) d_X11_takesRead_53 (by decide) (fun h4 => ?_) (fun h4 => ?_)
    · refine j_iload_n rfl d_X11_takesRead_80 rfl ?_
      refine tp_chk (fun h5 => ?_)
      exact j_zret d_X11_takesRead_81 rfl h5 rfl ⟨rfl, rfl⟩
    · refine j_aload_n rfl d_X11_takesRead_56 rfl ?_
      refine j_getr fl_Model_7 tg_483 rv_483_3 d_X11_takesRead_57 ?_
      refine j_bipush ⟨by decide, by decide⟩ (by decide +kernel) d_X11_takesRead_60 ?_
      refine j_iload_n rfl d_X11_takesRead_62 rfl ?_
      refine j_imul d_X11_takesRead_63 ?_
      refine j_iload_n rfl d_X11_takesRead_64 rfl ?_
      refine j_iadd d_X11_takesRead_65 ?_
      refine j_aload_n rfl d_X11_takesRead_66 rfl ?_
      refine j_getr fl_Model_16 tg_483 rv_483_7 d_X11_takesRead_67 ?_
      refine j_iload_n rfl d_X11_takesRead_70 rfl ?_
      refine j_lald tg_486 al_486 d_X11_takesRead_71 ?_
      refine j_l2i d_X11_takesRead_72 ?_
      refine j_iast tg_484 al_484 d_X11_takesRead_73 (fun M6 hM6 => ?_)
      refine j_iincN (lv' := fun y7 => [some (.inr (.inr 483)), some (.inl x1), some (.inl x2), some (.inl y7)]) d_X11_takesRead_74 rfl (Nat.le_of_ble_eq_true rfl) (fun _ => rfl) (fun y7 hy7 => ?_)
      refine j_goto (tgt := 46) d_X11_takesRead_77 (by decide) ?_
      exact j_wk [true, true, true, true] rfl rfl (hrec_46 y7 M6)
def f_X11_takesRead_46 (x1 : Int) (x2 : Int) (x3 : Int) (M0 : tp_M) : Option (Int × tp_M) := tp_lp (σ := Int × tp_M) (fun rec_ u => f_X11_takesRead_46B x1 x2 (fun x3' M0' => rec_ (x3', M0')) u.1 u.2) tp_N (x3, M0)
set_option maxHeartbeats 4000000 in
set_option maxRecDepth 100000 in
theorem T_X11_takesRead_46 (G : tp_G) (x1 : Int) (x2 : Int) (x3 : Int) (M0 : tp_M) : tp_J i_X11_takesRead (tp_rm 1) G 0 0 o_X11_takesRead tp_NC (tp_st M0) 0 0 [some (.inr (.inr 483)), some (.inl x1), some (.inl x2), some (.inl x3)] 46 [] (f_X11_takesRead_46 x1 x2 x3 M0) := by
  unfold f_X11_takesRead_46
  exact j_lp (σ := Int × tp_M) (n' := fun _ => tp_NC) (g' := fun u => tp_st u.2) (k' := fun _ => 0) (q' := fun _ => 0) (lv' := fun u => [some (.inr (.inr 483)), some (.inl x1), some (.inl x2), some (.inl u.1)]) (fun rec_ hrec u => T_X11_takesRead_46B G x1 x2 (fun x3' M0' => rec_ (x3', M0')) (fun x3' M0' => hrec (x3', M0')) u.1 u.2) tp_N (x3, M0)
def f_X11_takesRead_37 (rec_4 : Int → Int → Option (Int × tp_M)) (x1 : Int) (x3 : Int) (s0 : Int) (M0 : tp_M) : Option (Int × tp_M) :=
  tp_lt (tp_w (x3 + 1)) fun y9 =>
  rec_4 s0 y9
set_option maxHeartbeats 4000000 in
set_option maxRecDepth 100000 in
theorem T_X11_takesRead_37 (G : tp_G) (rec_4 : Int → Int → Option (Int × tp_M)) (x1 : Int) (x3 : Int) (s0 : Int) (M0 : tp_M) (hrec_4 : ∀ (x2' x3' : Int), tp_J i_X11_takesRead (tp_rm 1) G 0 0 o_X11_takesRead tp_NC (tp_st M0) 0 0 [some (.inr (.inr 483)), some (.inl x1), some (.inl (x2')), some (.inl (x3'))] 4 [] (rec_4 x2' x3')) : tp_J i_X11_takesRead (tp_rm 1) G 0 0 o_X11_takesRead tp_NC (tp_st M0) 0 0 [some (.inr (.inr 483)), some (.inl x1), none, some (.inl x3)] 37 [.inl s0] (f_X11_takesRead_37 rec_4 x1 x3 s0 M0) := by
  unfold f_X11_takesRead_37
  refine j_istore_n (lv' := [some (.inr (.inr 483)), some (.inl x1), some (.inl s0), some (.inl x3)]) rfl d_X11_takesRead_37 (Nat.le_of_ble_eq_true rfl) rfl ?_
  refine j_iincN (lv' := fun y9 => [some (.inr (.inr 483)), some (.inl x1), some (.inl s0), some (.inl y9)]) d_X11_takesRead_38 rfl (Nat.le_of_ble_eq_true rfl) (fun _ => rfl) (fun y9 hy9 => ?_)
  refine j_goto (tgt := 4) d_X11_takesRead_41 (by decide) ?_
  exact j_wk [true, true, true, true] rfl rfl (hrec_4 s0 y9)
def f_X11_takesRead_36 (rec_4 : Int → Int → Option (Int × tp_M)) (x1 : Int) (x3 : Int) (M0 : tp_M) : Option (Int × tp_M) :=
  f_X11_takesRead_37 rec_4 x1 x3 0 M0
set_option maxHeartbeats 4000000 in
set_option maxRecDepth 100000 in
theorem T_X11_takesRead_36 (G : tp_G) (rec_4 : Int → Int → Option (Int × tp_M)) (x1 : Int) (x3 : Int) (M0 : tp_M) (hrec_4 : ∀ (x2' x3' : Int), tp_J i_X11_takesRead (tp_rm 1) G 0 0 o_X11_takesRead tp_NC (tp_st M0) 0 0 [some (.inr (.inr 483)), some (.inl x1), some (.inl (x2')), some (.inl (x3'))] 4 [] (rec_4 x2' x3')) : tp_J i_X11_takesRead (tp_rm 1) G 0 0 o_X11_takesRead tp_NC (tp_st M0) 0 0 [some (.inr (.inr 483)), some (.inl x1), none, some (.inl x3)] 36 [] (f_X11_takesRead_36 rec_4 x1 x3 M0) := by
  unfold f_X11_takesRead_36
  refine j_iconst ⟨by decide, by decide⟩ d_X11_takesRead_36 ?_
  exact j_wk [true, true, false, true] rfl rfl (T_X11_takesRead_37 G rec_4 x1 x3 0 M0 hrec_4)
def f_X11_takesRead_4B (x1 : Int) (M0 : tp_M) (rec_4 : Int → Int → Option (Int × tp_M)) (x2 : Int) (x3 : Int) : Option (Int × tp_M) :=
  if 9 ≤ x3 then
    f_X11_takesRead_46 x1 x2 0 M0
  else
    if x2 = 0 then
      f_X11_takesRead_36 rec_4 x1 x3 M0
    else
      if 0 ≤ x3 ∧ x3 < 9 then
        (f_X11_in (M0 486 x3) (-9999) 9999 M0).bind fun r10 =>
        if r10 = 0 then
          f_X11_takesRead_36 rec_4 x1 x3 M0
        else
          f_X11_takesRead_37 rec_4 x1 x3 1 M0 else none
set_option maxHeartbeats 4000000 in
set_option maxRecDepth 100000 in
theorem T_X11_takesRead_4B (G : tp_G) (x1 : Int) (M0 : tp_M) (rec_4 : Int → Int → Option (Int × tp_M)) (hrec_4 : ∀ (x2' x3' : Int), tp_J i_X11_takesRead (tp_rm 1) G 0 0 o_X11_takesRead tp_NC (tp_st M0) 0 0 [some (.inr (.inr 483)), some (.inl x1), some (.inl (x2')), some (.inl (x3'))] 4 [] (rec_4 x2' x3')) (x2 : Int) (x3 : Int) : tp_J i_X11_takesRead (tp_rm 1) G 0 0 o_X11_takesRead tp_NC (tp_st M0) 0 0 [some (.inr (.inr 483)), some (.inl x1), some (.inl x2), some (.inl x3)] 4 [] (f_X11_takesRead_4B x1 M0 rec_4 x2 x3) := by
  unfold f_X11_takesRead_4B
  refine j_iload_n rfl d_X11_takesRead_4 rfl ?_
  refine j_bipush ⟨by decide, by decide⟩ (by decide +kernel) d_X11_takesRead_5 ?_
  refine j_icmp_ge (tgt := 44) d_X11_takesRead_7 (by decide) (fun h1 => ?_) (fun h1 => ?_)
  · refine j_iconst ⟨by decide, by decide⟩ d_X11_takesRead_44 ?_
    refine j_istore_n (lv' := [some (.inr (.inr 483)), some (.inl x1), some (.inl x2), some (.inl 0)]) rfl d_X11_takesRead_45 (Nat.le_of_ble_eq_true rfl) rfl ?_
    exact j_wk [true, true, true, true] rfl rfl (T_X11_takesRead_46 G x1 x2 0 M0)
  · refine j_iload_n rfl d_X11_takesRead_10 rfl ?_
    refine j_if_eq (tgt := 36) d_X11_takesRead_11 (by decide) (fun h8 => ?_) (fun h8 => ?_)
    · exact j_wk [true, true, false, true] rfl rfl (T_X11_takesRead_36 G rec_4 x1 x3 M0 hrec_4)
    · refine j_aload_n rfl d_X11_takesRead_14 rfl ?_
      refine j_getr fl_Model_16 tg_483 rv_483_7 d_X11_takesRead_15 ?_
      refine j_iload_n rfl d_X11_takesRead_18 rfl ?_
      refine j_lald tg_486 al_486 d_X11_takesRead_19 ?_
      refine j_ldc2 (x := (-9999)) ⟨by decide, by decide⟩ (show Cond.constantLong _ _ _ ∈ lw_tbl from wd_1284) d_X11_takesRead_20 ?_
      refine j_ldc2 (x := 9999) ⟨by decide, by decide⟩ (show Cond.constantLong _ _ _ ∈ lw_tbl from wd_1285) d_X11_takesRead_23 ?_
      refine j_bind (fun r10 h11 => ?_)
      refine j_callS (y := y_X11_in) (I' := i_X11_in) (avs := [.inr (.inl (M0 486 x3)), .inr (.inl (-9999)), .inr (.inl 9999)]) (st := []) (c_X11_in G (M0 486 x3) (-9999) 9999 M0 r10 h11) cs_Model_193 wd_1239 wd_1240 rfl rfl (Nat.le_of_ble_eq_true rfl) ⟨rfl, rfl⟩ ⟨by decide, by decide⟩ ⟨by decide, by decide⟩ d_X11_takesRead_26 ?_
      refine j_if_eq (tgt := 36) d_X11_takesRead_29 (by decide) (fun h12 => ?_) (fun h12 => ?_)
      · exact j_wk [true, true, false, true] rfl rfl (T_X11_takesRead_36 G rec_4 x1 x3 M0 hrec_4)
      · refine j_iconst ⟨by decide, by decide⟩ d_X11_takesRead_32 ?_
        refine j_goto (tgt := 37) d_X11_takesRead_33 (by decide) ?_
        exact j_wk [true, true, false, true] rfl rfl (T_X11_takesRead_37 G rec_4 x1 x3 1 M0 hrec_4)
def f_X11_takesRead_4 (x1 : Int) (x2 : Int) (x3 : Int) (M0 : tp_M) : Option (Int × tp_M) := tp_lp (σ := Int × Int) (fun rec_ u => f_X11_takesRead_4B x1 M0 (fun x2' x3' => rec_ (x2', x3')) u.1 u.2) tp_N (x2, x3)
set_option maxHeartbeats 4000000 in
set_option maxRecDepth 100000 in
theorem T_X11_takesRead_4 (G : tp_G) (x1 : Int) (x2 : Int) (x3 : Int) (M0 : tp_M) : tp_J i_X11_takesRead (tp_rm 1) G 0 0 o_X11_takesRead tp_NC (tp_st M0) 0 0 [some (.inr (.inr 483)), some (.inl x1), some (.inl x2), some (.inl x3)] 4 [] (f_X11_takesRead_4 x1 x2 x3 M0) := by
  unfold f_X11_takesRead_4
  exact j_lp (σ := Int × Int) (n' := fun _ => tp_NC) (g' := fun u => tp_st M0) (k' := fun _ => 0) (q' := fun _ => 0) (lv' := fun u => [some (.inr (.inr 483)), some (.inl x1), some (.inl u.1), some (.inl u.2)]) (fun rec_ hrec u => T_X11_takesRead_4B G x1 M0 (fun x2' x3' => rec_ (x2', x3')) (fun x2' x3' => hrec (x2', x3')) u.1 u.2) tp_N (x2, x3)
def f_X11_takesRead (a0 : Int) (M0 : tp_M) : Option (Int × tp_M) :=
  f_X11_takesRead_4 a0 1 0 M0
set_option maxHeartbeats 4000000 in
set_option maxRecDepth 100000 in
theorem T_X11_takesRead (G : tp_G) (a0 : Int) (M0 : tp_M) : tp_J i_X11_takesRead (tp_rm 1) G 0 0 o_X11_takesRead tp_NC (tp_st M0) 0 0 [some (.inr (.inr 483)), some (.inl a0), none, none] 0 [] (f_X11_takesRead a0 M0) := by
  unfold f_X11_takesRead
  refine j_iconst ⟨by decide, by decide⟩ d_X11_takesRead_0 ?_
  refine j_istore_n (lv' := [some (.inr (.inr 483)), some (.inl a0), some (.inl 1), none]) rfl d_X11_takesRead_1 (Nat.le_of_ble_eq_true rfl) rfl ?_
  refine j_iconst ⟨by decide, by decide⟩ d_X11_takesRead_2 ?_
  refine j_istore_n (lv' := [some (.inr (.inr 483)), some (.inl a0), some (.inl 1), some (.inl 0)]) rfl d_X11_takesRead_3 (Nat.le_of_ble_eq_true rfl) rfl ?_
  exact j_wk [true, true, true, true] rfl rfl (T_X11_takesRead_4 G a0 1 0 M0)
set_option maxHeartbeats 4000000 in
set_option maxRecDepth 100000 in
theorem c_X11_takesRead (G : tp_G) (a0 : Int) (M0 : tp_M) (r : Int × tp_M) (h : f_X11_takesRead a0 M0 = some r) (l : Launch) : Met l y_X11_takesRead (tp_ws y_X11_takesRead i_X11_takesRead) (tp_rm 1) (tp_Pc G [.inr (.inr 483), .inl a0] tp_NC (tp_st M0)) (tp_Q G (o_X11_takesRead r)) 0 0 (tp_A G) :=
  tp_met (I := i_X11_takesRead) (y := y_X11_takesRead) (by decide +kernel) (Eq.refl "TypesAtPrimeModel") (Eq.refl "takesRead") (lv := [some (.inr (.inr 483)), some (.inl a0), none, none]) rfl (Nat.le_of_ble_eq_true rfl) (T_X11_takesRead G a0 M0) h l
def y_X11_toldDegree : MethodName := ⟨"TypesAtPrimeModel", "toldDegree", "(I)I"⟩
abbrev i_X11_toldDegree : tp_I := (prog_13_method_21_code, "TypesAtPrimeModel", (some .int), 3, "toldDegree")
abbrev o_X11_toldDegree (M : tp_M) : Int → tp_O := fun r => (some (.inl r), tp_NC, tp_st M)
theorem d_X11_toldDegree_0 : decode prog_13_method_21_code 0 = .ok (.aload_n 0, 1) := by decide +kernel
theorem d_X11_toldDegree_1 : decode prog_13_method_21_code 1 = .ok (.iload_n 1, 1) := by decide +kernel
theorem d_X11_toldDegree_2 : decode prog_13_method_21_code 2 = .ok (.invokevirtual 187, 3) := by decide +kernel
theorem d_X11_toldDegree_5 : decode prog_13_method_21_code 5 = .ok (.istore_n 2, 1) := by decide +kernel
theorem d_X11_toldDegree_6 : decode prog_13_method_21_code 6 = .ok (.iload_n 2, 1) := by decide +kernel
theorem d_X11_toldDegree_7 : decode prog_13_method_21_code 7 = .ok (.ifCond .ge 8, 3) := by decide +kernel
theorem d_X11_toldDegree_10 : decode prog_13_method_21_code 10 = .ok (.bipush (-10), 2) := by decide +kernel
theorem d_X11_toldDegree_12 : decode prog_13_method_21_code 12 = .ok (.goto 4, 3) := by decide +kernel
theorem d_X11_toldDegree_15 : decode prog_13_method_21_code 15 = .ok (.iload_n 2, 1) := by decide +kernel
theorem d_X11_toldDegree_16 : decode prog_13_method_21_code 16 = .ok (.ireturn, 1) := by decide +kernel
def f_X11_toldDegree (a0 : Int) (M0 : tp_M) : Option (Int) :=
  (f_X11_degreeOf a0 M0).bind fun r1 =>
  if 0 ≤ r1 then
    some r1
  else
    some (-10)
set_option maxHeartbeats 4000000 in
set_option maxRecDepth 100000 in
theorem T_X11_toldDegree (G : tp_G) (a0 : Int) (M0 : tp_M) : tp_J i_X11_toldDegree (tp_rm 2) G 0 0 (o_X11_toldDegree M0) tp_NC (tp_st M0) 0 0 [some (.inr (.inr 483)), some (.inl a0), none] 0 [] (f_X11_toldDegree a0 M0) := by
  unfold f_X11_toldDegree
  refine j_aload_n rfl d_X11_toldDegree_0 rfl ?_
  refine j_iload_n rfl d_X11_toldDegree_1 rfl ?_
  refine j_bind (fun r1 h2 => ?_)
  refine j_callV (y := y_X11_degreeOf) (I' := i_X11_degreeOf) (avs := [.inl a0]) (c := 483) (st := []) (c_X11_degreeOf G a0 M0 r1 h2) cs_Model_187 wd_1290 wd_1292 ws_45 tg_483 rfl rfl rfl (Nat.le_of_ble_eq_true rfl) ⟨rfl, rfl⟩ ⟨by decide, by decide⟩ ⟨by decide, by decide⟩ d_X11_toldDegree_2 ?_
  refine j_istore_n (lv' := [some (.inr (.inr 483)), some (.inl a0), some (.inl r1)]) rfl d_X11_toldDegree_5 (Nat.le_of_ble_eq_true rfl) rfl ?_
  refine j_iload_n rfl d_X11_toldDegree_6 rfl ?_
  refine j_if_ge (tgt := 15) d_X11_toldDegree_7 (by decide) (fun h3 => ?_) (fun h3 => ?_)
  · refine j_iload_n rfl d_X11_toldDegree_15 rfl ?_
    exact j_iret d_X11_toldDegree_16 rfl rfl ⟨rfl, rfl⟩
  · refine j_bipush ⟨by decide, by decide⟩ (by decide +kernel) d_X11_toldDegree_10 ?_
    refine j_goto (tgt := 16) d_X11_toldDegree_12 (by decide) ?_
    exact j_iret d_X11_toldDegree_16 rfl rfl ⟨rfl, rfl⟩
set_option maxHeartbeats 4000000 in
set_option maxRecDepth 100000 in
theorem c_X11_toldDegree (G : tp_G) (a0 : Int) (M0 : tp_M) (r : Int) (h : f_X11_toldDegree a0 M0 = some r) (l : Launch) : Met l y_X11_toldDegree (tp_ws y_X11_toldDegree i_X11_toldDegree) (tp_rm 2) (tp_Pc G [.inr (.inr 483), .inl a0] tp_NC (tp_st M0)) (tp_Q G ((o_X11_toldDegree M0) r)) 0 0 (tp_A G) :=
  tp_met (I := i_X11_toldDegree) (y := y_X11_toldDegree) (by decide +kernel) (Eq.refl "TypesAtPrimeModel") (Eq.refl "toldDegree") (lv := [some (.inr (.inr 483)), some (.inl a0), none]) rfl (Nat.le_of_ble_eq_true rfl) (T_X11_toldDegree G a0 M0) h l
theorem wd_1252 : (.code ⟨"TypesAtPrimeModel", "isSlot", "(I)Z"⟩ prog_13_method_4_code 1 (some .boolean) : Cond) ∈ lw_tbl := List.mem_append_right _ (List.mem_of_getElem? (i := 1252) (by decide +kernel))
theorem cs_Model_231 : tp_CS "TypesAtPrimeModel" 231 y_X11_isSlot i_X11_isSlot 1 := ⟨wd_1252, wd_12, by decide, by decide, by decide +kernel⟩
theorem wd_1250 : (.methodLink "TypesAtPrimeModel" 231 ⟨"TypesAtPrimeModel", "isSlot", "(I)Z"⟩ : Cond) ∈ lw_tbl := List.mem_append_right _ (List.mem_of_getElem? (i := 1250) (by decide +kernel))
theorem wd_1251 : (.static ⟨"TypesAtPrimeModel", "isSlot", "(I)Z"⟩ : Cond) ∈ lw_tbl := List.mem_append_right _ (List.mem_of_getElem? (i := 1251) (by decide +kernel))
theorem wd_1256 : (.code ⟨"TypesAtPrimeModel", "readsAll", "()Z"⟩ prog_13_method_19_code 3 (some .boolean) : Cond) ∈ lw_tbl := List.mem_append_right _ (List.mem_of_getElem? (i := 1256) (by decide +kernel))
theorem cs_Model_234 : tp_CS "TypesAtPrimeModel" 234 y_X11_readsAll i_X11_readsAll 0 := ⟨wd_1256, wd_12, by decide, by decide, by decide +kernel⟩
theorem wd_1253 : (.methodLink "TypesAtPrimeModel" 234 ⟨"TypesAtPrimeModel", "readsAll", "()Z"⟩ : Cond) ∈ lw_tbl := List.mem_append_right _ (List.mem_of_getElem? (i := 1253) (by decide +kernel))
theorem wd_1255 : (.instanceMethod ⟨"TypesAtPrimeModel", "readsAll", "()Z"⟩ : Cond) ∈ lw_tbl := List.mem_append_right _ (List.mem_of_getElem? (i := 1255) (by decide +kernel))
theorem ws_37 : (.selects "TypesAtPrimeModel" ⟨"TypesAtPrimeModel", "readsAll", "()Z"⟩ ⟨"TypesAtPrimeModel", "readsAll", "()Z"⟩ : Cond) ∈ lw_tbl := List.mem_append_left _ (List.mem_of_getElem? (i := 37) (by decide +kernel))
theorem wd_1283 : (.code ⟨"TypesAtPrimeModel", "takesRead", "(I)Z"⟩ prog_13_method_20_code 4 (some .boolean) : Cond) ∈ lw_tbl := List.mem_append_right _ (List.mem_of_getElem? (i := 1283) (by decide +kernel))
theorem cs_Model_237 : tp_CS "TypesAtPrimeModel" 237 y_X11_takesRead i_X11_takesRead 1 := ⟨wd_1283, wd_12, by decide, by decide, by decide +kernel⟩
theorem wd_1280 : (.methodLink "TypesAtPrimeModel" 237 ⟨"TypesAtPrimeModel", "takesRead", "(I)Z"⟩ : Cond) ∈ lw_tbl := List.mem_append_right _ (List.mem_of_getElem? (i := 1280) (by decide +kernel))
theorem wd_1282 : (.instanceMethod ⟨"TypesAtPrimeModel", "takesRead", "(I)Z"⟩ : Cond) ∈ lw_tbl := List.mem_append_right _ (List.mem_of_getElem? (i := 1282) (by decide +kernel))
theorem ws_43 : (.selects "TypesAtPrimeModel" ⟨"TypesAtPrimeModel", "takesRead", "(I)Z"⟩ ⟨"TypesAtPrimeModel", "takesRead", "(I)Z"⟩ : Cond) ∈ lw_tbl := List.mem_append_left _ (List.mem_of_getElem? (i := 43) (by decide +kernel))
theorem wd_1289 : (.code ⟨"TypesAtPrimeModel", "toldDegree", "(I)I"⟩ prog_13_method_21_code 3 (some .int) : Cond) ∈ lw_tbl := List.mem_append_right _ (List.mem_of_getElem? (i := 1289) (by decide +kernel))
theorem cs_Model_240 : tp_CS "TypesAtPrimeModel" 240 y_X11_toldDegree i_X11_toldDegree 1 := ⟨wd_1289, wd_12, by decide, by decide, by decide +kernel⟩
theorem wd_1286 : (.methodLink "TypesAtPrimeModel" 240 ⟨"TypesAtPrimeModel", "toldDegree", "(I)I"⟩ : Cond) ∈ lw_tbl := List.mem_append_right _ (List.mem_of_getElem? (i := 1286) (by decide +kernel))
theorem wd_1288 : (.instanceMethod ⟨"TypesAtPrimeModel", "toldDegree", "(I)I"⟩ : Cond) ∈ lw_tbl := List.mem_append_right _ (List.mem_of_getElem? (i := 1288) (by decide +kernel))
theorem ws_44 : (.selects "TypesAtPrimeModel" ⟨"TypesAtPrimeModel", "toldDegree", "(I)I"⟩ ⟨"TypesAtPrimeModel", "toldDegree", "(I)I"⟩ : Cond) ∈ lw_tbl := List.mem_append_left _ (List.mem_of_getElem? (i := 44) (by decide +kernel))
def y_X11_text : MethodName := ⟨"TypesAtPrimeModel", "text", "(I)I"⟩
abbrev i_X11_text : tp_I := (prog_13_method_22_code, "TypesAtPrimeModel", (some .int), 3, "text")
abbrev o_X11_text : Int × tp_M → tp_O := fun r => (some (.inl r.1), tp_NC, tp_st r.2)
theorem d_X11_text_0 : decode prog_13_method_22_code 0 = .ok (.iload_n 1, 1) := by decide +kernel
theorem d_X11_text_1 : decode prog_13_method_22_code 1 = .ok (.invokestatic 231, 3) := by decide +kernel
theorem d_X11_text_4 : decode prog_13_method_22_code 4 = .ok (.ifCond .ne 5, 3) := by decide +kernel
theorem d_X11_text_7 : decode prog_13_method_22_code 7 = .ok (.iconst (-1), 1) := by decide +kernel
theorem d_X11_text_8 : decode prog_13_method_22_code 8 = .ok (.ireturn, 1) := by decide +kernel
theorem d_X11_text_9 : decode prog_13_method_22_code 9 = .ok (.aload_n 0, 1) := by decide +kernel
theorem d_X11_text_10 : decode prog_13_method_22_code 10 = .ok (.invokevirtual 234, 3) := by decide +kernel
theorem d_X11_text_13 : decode prog_13_method_22_code 13 = .ok (.istore_n 2, 1) := by decide +kernel
theorem d_X11_text_14 : decode prog_13_method_22_code 14 = .ok (.aload_n 0, 1) := by decide +kernel
theorem d_X11_text_15 : decode prog_13_method_22_code 15 = .ok (.iconst 0, 1) := by decide +kernel
theorem d_X11_text_16 : decode prog_13_method_22_code 16 = .ok (.putfield 197, 3) := by decide +kernel
theorem d_X11_text_19 : decode prog_13_method_22_code 19 = .ok (.iload_n 2, 1) := by decide +kernel
theorem d_X11_text_20 : decode prog_13_method_22_code 20 = .ok (.ifCond .ne 11, 3) := by decide +kernel
theorem d_X11_text_23 : decode prog_13_method_22_code 23 = .ok (.bipush (-100), 2) := by decide +kernel
theorem d_X11_text_25 : decode prog_13_method_22_code 25 = .ok (.aload_n 0, 1) := by decide +kernel
theorem d_X11_text_26 : decode prog_13_method_22_code 26 = .ok (.getfield 200, 3) := by decide +kernel
theorem d_X11_text_29 : decode prog_13_method_22_code 29 = .ok (.isub, 1) := by decide +kernel
theorem d_X11_text_30 : decode prog_13_method_22_code 30 = .ok (.ireturn, 1) := by decide +kernel
theorem d_X11_text_31 : decode prog_13_method_22_code 31 = .ok (.aload_n 0, 1) := by decide +kernel
theorem d_X11_text_32 : decode prog_13_method_22_code 32 = .ok (.iload_n 1, 1) := by decide +kernel
theorem d_X11_text_33 : decode prog_13_method_22_code 33 = .ok (.invokevirtual 237, 3) := by decide +kernel
theorem d_X11_text_36 : decode prog_13_method_22_code 36 = .ok (.ifCond .eq 11, 3) := by decide +kernel
theorem d_X11_text_39 : decode prog_13_method_22_code 39 = .ok (.aload_n 0, 1) := by decide +kernel
theorem d_X11_text_40 : decode prog_13_method_22_code 40 = .ok (.iload_n 1, 1) := by decide +kernel
theorem d_X11_text_41 : decode prog_13_method_22_code 41 = .ok (.invokevirtual 240, 3) := by decide +kernel
theorem d_X11_text_44 : decode prog_13_method_22_code 44 = .ok (.goto 5, 3) := by decide +kernel
theorem d_X11_text_47 : decode prog_13_method_22_code 47 = .ok (.bipush (-3), 2) := by decide +kernel
theorem d_X11_text_49 : decode prog_13_method_22_code 49 = .ok (.ireturn, 1) := by decide +kernel
def f_X11_text (a0 : Int) (M0 : tp_M) : Option (Int × tp_M) :=
  (f_X11_isSlot a0 M0).bind fun r1 =>
  if ¬ r1 = 0 then
    (f_X11_readsAll M0).bind fun r4 =>
    tp_mp (tp_up r4.2 483 5 0) fun M6 =>
    if ¬ r4.1 = 0 then
      (f_X11_takesRead a0 M6).bind fun r8 =>
      if r8.1 = 0 then
        some ((-3), r8.2)
      else
        (f_X11_toldDegree a0 r8.2).bind fun r11 =>
        some (r11, r8.2)
    else
      some ((tp_w ((-100) - (M6 483 6))), M6)
  else
    some ((-1), M0)
set_option maxHeartbeats 4000000 in
set_option maxRecDepth 100000 in
theorem T_X11_text (G : tp_G) (a0 : Int) (M0 : tp_M) : tp_J i_X11_text (tp_rm 5) G 0 0 o_X11_text tp_NC (tp_st M0) 0 0 [some (.inr (.inr 483)), some (.inl a0), none] 0 [] (f_X11_text a0 M0) := by
  unfold f_X11_text
  refine j_iload_n rfl d_X11_text_0 rfl ?_
  refine j_bind (fun r1 h2 => ?_)
  refine j_callS (y := y_X11_isSlot) (I' := i_X11_isSlot) (avs := [.inl a0]) (st := []) (c_X11_isSlot G a0 M0 r1 h2) cs_Model_231 wd_1250 wd_1251 rfl rfl (Nat.le_of_ble_eq_true rfl) ⟨rfl, rfl⟩ ⟨by decide, by decide⟩ ⟨by decide, by decide⟩ d_X11_text_1 ?_
  refine j_if_ne (tgt := 9) d_X11_text_4 (by decide) (fun h3 => ?_) (fun h3 => ?_)
  · refine j_aload_n rfl d_X11_text_9 rfl ?_
    refine j_bind (fun r4 h5 => ?_)
    refine j_callV (y := y_X11_readsAll) (I' := i_X11_readsAll) (avs := []) (c := 483) (st := []) (c_X11_readsAll G M0 r4 h5) cs_Model_234 wd_1253 wd_1255 ws_37 tg_483 rfl rfl rfl (Nat.le_of_ble_eq_true rfl) ⟨rfl, rfl⟩ ⟨by decide, by decide⟩ ⟨by decide, by decide⟩ d_X11_text_10 ?_
    refine j_istore_n (lv' := [some (.inr (.inr 483)), some (.inl a0), some (.inl r4.1)]) rfl d_X11_text_13 (Nat.le_of_ble_eq_true rfl) rfl ?_
    refine j_aload_n rfl d_X11_text_14 rfl ?_
    refine j_iconst ⟨by decide, by decide⟩ d_X11_text_15 ?_
    refine j_put (z := 0) (v := 0) fl_Model_197 (by decide) tg_483 (pf_11_5 _) pt_11 d_X11_text_16 (fun M6 hM6 => ?_)
    refine j_iload_n rfl d_X11_text_19 rfl ?_
    refine j_if_ne (tgt := 31) d_X11_text_20 (by decide) (fun h7 => ?_) (fun h7 => ?_)
    · refine j_aload_n rfl d_X11_text_31 rfl ?_
      refine j_iload_n rfl d_X11_text_32 rfl ?_
      refine j_bind (fun r8 h9 => ?_)
      refine j_callV (y := y_X11_takesRead) (I' := i_X11_takesRead) (avs := [.inl a0]) (c := 483) (st := []) (c_X11_takesRead G a0 M6 r8 h9) cs_Model_237 wd_1280 wd_1282 ws_43 tg_483 rfl rfl rfl (Nat.le_of_ble_eq_true rfl) ⟨rfl, rfl⟩ ⟨by decide, by decide⟩ ⟨by decide, by decide⟩ d_X11_text_33 ?_
      refine j_if_eq (tgt := 47) d_X11_text_36 (by decide) (fun h10 => ?_) (fun h10 => ?_)
      · refine j_bipush ⟨by decide, by decide⟩ (by decide +kernel) d_X11_text_47 ?_
        exact j_iret d_X11_text_49 rfl rfl ⟨rfl, rfl⟩
      · refine j_aload_n rfl d_X11_text_39 rfl ?_
        refine j_iload_n rfl d_X11_text_40 rfl ?_
        refine j_bind (fun r11 h12 => ?_)
        refine j_callV (y := y_X11_toldDegree) (I' := i_X11_toldDegree) (avs := [.inl a0]) (c := 483) (st := []) (c_X11_toldDegree G a0 r8.2 r11 h12) cs_Model_240 wd_1286 wd_1288 ws_44 tg_483 rfl rfl rfl (Nat.le_of_ble_eq_true rfl) ⟨rfl, rfl⟩ ⟨by decide, by decide⟩ ⟨by decide, by decide⟩ d_X11_text_41 ?_
        refine j_goto (tgt := 49) d_X11_text_44 (by decide) ?_
        exact j_iret d_X11_text_49 rfl rfl ⟨rfl, rfl⟩
    · refine j_bipush ⟨by decide, by decide⟩ (by decide +kernel) d_X11_text_23 ?_
      refine j_aload_n rfl d_X11_text_25 rfl ?_
      refine j_geti fl_Model_200 tg_483 d_X11_text_26 ?_
      refine j_isub d_X11_text_29 ?_
      exact j_iret d_X11_text_30 rfl rfl ⟨rfl, rfl⟩
  · refine j_iconst ⟨by decide, by decide⟩ d_X11_text_7 ?_
    exact j_iret d_X11_text_8 rfl rfl ⟨rfl, rfl⟩
set_option maxHeartbeats 4000000 in
set_option maxRecDepth 100000 in
theorem c_X11_text (G : tp_G) (a0 : Int) (M0 : tp_M) (r : Int × tp_M) (h : f_X11_text a0 M0 = some r) (l : Launch) : Met l y_X11_text (tp_ws y_X11_text i_X11_text) (tp_rm 5) (tp_Pc G [.inr (.inr 483), .inl a0] tp_NC (tp_st M0)) (tp_Q G (o_X11_text r)) 0 0 (tp_A G) :=
  tp_met (I := i_X11_text) (y := y_X11_text) (by decide +kernel) (Eq.refl "TypesAtPrimeModel") (Eq.refl "text") (lv := [some (.inr (.inr 483)), some (.inl a0), none]) rfl (Nat.le_of_ble_eq_true rfl) (T_X11_text G a0 M0) h l
theorem wd_1305 : (.constantLong "TypesAtPrimeModel" 246 (-9223372036854775808) : Cond) ∈ lw_tbl := List.mem_append_right _ (List.mem_of_getElem? (i := 1305) (by decide +kernel))
theorem wd_1304 : (.code ⟨"TypesAtPrimeModel", "isPower", "(I)Z"⟩ prog_13_method_5_code 1 (some .boolean) : Cond) ∈ lw_tbl := List.mem_append_right _ (List.mem_of_getElem? (i := 1304) (by decide +kernel))
theorem cs_Model_243 : tp_CS "TypesAtPrimeModel" 243 y_X11_isPower i_X11_isPower 1 := ⟨wd_1304, wd_12, by decide, by decide, by decide +kernel⟩
theorem wd_1302 : (.methodLink "TypesAtPrimeModel" 243 ⟨"TypesAtPrimeModel", "isPower", "(I)Z"⟩ : Cond) ∈ lw_tbl := List.mem_append_right _ (List.mem_of_getElem? (i := 1302) (by decide +kernel))
theorem wd_1303 : (.static ⟨"TypesAtPrimeModel", "isPower", "(I)Z"⟩ : Cond) ∈ lw_tbl := List.mem_append_right _ (List.mem_of_getElem? (i := 1303) (by decide +kernel))
def y_X11_set : MethodName := ⟨"TypesAtPrimeModel", "set", "(III)J"⟩
abbrev i_X11_set : tp_I := (prog_13_method_23_code, "TypesAtPrimeModel", (some .long), 5, "set")
abbrev o_X11_set : Int × tp_M → tp_O := fun r => (some (.inr (.inl r.1)), tp_NC, tp_st r.2)
theorem d_X11_set_0 : decode prog_13_method_23_code 0 = .ok (.iload_n 1, 1) := by decide +kernel
theorem d_X11_set_1 : decode prog_13_method_23_code 1 = .ok (.invokestatic 231, 3) := by decide +kernel
theorem d_X11_set_4 : decode prog_13_method_23_code 4 = .ok (.ifCond .eq 24, 3) := by decide +kernel
theorem d_X11_set_7 : decode prog_13_method_23_code 7 = .ok (.iload_n 2, 1) := by decide +kernel
theorem d_X11_set_8 : decode prog_13_method_23_code 8 = .ok (.invokestatic 243, 3) := by decide +kernel
theorem d_X11_set_11 : decode prog_13_method_23_code 11 = .ok (.ifCond .eq 17, 3) := by decide +kernel
theorem d_X11_set_14 : decode prog_13_method_23_code 14 = .ok (.iload_n 3, 1) := by decide +kernel
theorem d_X11_set_15 : decode prog_13_method_23_code 15 = .ok (.i2l, 1) := by decide +kernel
theorem d_X11_set_16 : decode prog_13_method_23_code 16 = .ok (.ldc2_w 227, 3) := by decide +kernel
theorem d_X11_set_19 : decode prog_13_method_23_code 19 = .ok (.ldc2_w 229, 3) := by decide +kernel
theorem d_X11_set_22 : decode prog_13_method_23_code 22 = .ok (.invokestatic 193, 3) := by decide +kernel
theorem d_X11_set_25 : decode prog_13_method_23_code 25 = .ok (.ifCond .ne 7, 3) := by decide +kernel
theorem d_X11_set_28 : decode prog_13_method_23_code 28 = .ok (.ldc2_w 246, 3) := by decide +kernel
theorem d_X11_set_31 : decode prog_13_method_23_code 31 = .ok (.lreturn, 1) := by decide +kernel
theorem d_X11_set_32 : decode prog_13_method_23_code 32 = .ok (.aload_n 0, 1) := by decide +kernel
theorem d_X11_set_33 : decode prog_13_method_23_code 33 = .ok (.iload_n 1, 1) := by decide +kernel
theorem d_X11_set_34 : decode prog_13_method_23_code 34 = .ok (.iload_n 2, 1) := by decide +kernel
theorem d_X11_set_35 : decode prog_13_method_23_code 35 = .ok (.invokevirtual 183, 3) := by decide +kernel
theorem d_X11_set_38 : decode prog_13_method_23_code 38 = .ok (.istore 4, 2) := by decide +kernel
theorem d_X11_set_40 : decode prog_13_method_23_code 40 = .ok (.aload_n 0, 1) := by decide +kernel
theorem d_X11_set_41 : decode prog_13_method_23_code 41 = .ok (.getfield 7, 3) := by decide +kernel
theorem d_X11_set_44 : decode prog_13_method_23_code 44 = .ok (.bipush 9, 2) := by decide +kernel
theorem d_X11_set_46 : decode prog_13_method_23_code 46 = .ok (.iload_n 1, 1) := by decide +kernel
theorem d_X11_set_47 : decode prog_13_method_23_code 47 = .ok (.imul, 1) := by decide +kernel
theorem d_X11_set_48 : decode prog_13_method_23_code 48 = .ok (.iload_n 2, 1) := by decide +kernel
theorem d_X11_set_49 : decode prog_13_method_23_code 49 = .ok (.iadd, 1) := by decide +kernel
theorem d_X11_set_50 : decode prog_13_method_23_code 50 = .ok (.iload_n 3, 1) := by decide +kernel
theorem d_X11_set_51 : decode prog_13_method_23_code 51 = .ok (.iastore, 1) := by decide +kernel
theorem d_X11_set_52 : decode prog_13_method_23_code 52 = .ok (.iload 4, 2) := by decide +kernel
theorem d_X11_set_54 : decode prog_13_method_23_code 54 = .ok (.i2l, 1) := by decide +kernel
theorem d_X11_set_55 : decode prog_13_method_23_code 55 = .ok (.lreturn, 1) := by decide +kernel
def f_X11_set (a0 : Int) (a1 : Int) (a2 : Int) (M0 : tp_M) : Option (Int × tp_M) :=
  (f_X11_isSlot a0 M0).bind fun r1 =>
  if r1 = 0 then
    some ((-9223372036854775808), M0)
  else
    (f_X11_isPower a1 M0).bind fun r4 =>
    if r4 = 0 then
      some ((-9223372036854775808), M0)
    else
      (f_X11_in a2 (-9999) 9999 M0).bind fun r7 =>
      if ¬ r7 = 0 then
        (f_X11_coefficient a0 a1 M0).bind fun r10 =>
        if 0 ≤ (tp_w ((tp_w (9 * a0)) + a1)) ∧ (tp_w ((tp_w (9 * a0)) + a1)) < 45 then
          tp_mp (tp_up M0 484 (tp_w ((tp_w (9 * a0)) + a1)) a2) fun M12 =>
          some (r10, M12) else none
      else
        some ((-9223372036854775808), M0)
set_option maxHeartbeats 4000000 in
set_option maxRecDepth 100000 in
theorem T_X11_set (G : tp_G) (a0 : Int) (a1 : Int) (a2 : Int) (M0 : tp_M) : tp_J i_X11_set (tp_rm 1) G 0 0 o_X11_set tp_NC (tp_st M0) 0 0 [some (.inr (.inr 483)), some (.inl a0), some (.inl a1), some (.inl a2), none] 0 [] (f_X11_set a0 a1 a2 M0) := by
  unfold f_X11_set
  refine j_iload_n rfl d_X11_set_0 rfl ?_
  refine j_bind (fun r1 h2 => ?_)
  refine j_callS (y := y_X11_isSlot) (I' := i_X11_isSlot) (avs := [.inl a0]) (st := []) (c_X11_isSlot G a0 M0 r1 h2) cs_Model_231 wd_1250 wd_1251 rfl rfl (Nat.le_of_ble_eq_true rfl) ⟨rfl, rfl⟩ ⟨by decide, by decide⟩ ⟨by decide, by decide⟩ d_X11_set_1 ?_
  refine j_if_eq (tgt := 28) d_X11_set_4 (by decide) (fun h3 => ?_) (fun h3 => ?_)
  · refine j_ldc2 (x := (-9223372036854775808)) ⟨by decide, by decide⟩ (show Cond.constantLong _ _ _ ∈ lw_tbl from wd_1305) d_X11_set_28 ?_
    exact j_lret d_X11_set_31 rfl rfl ⟨rfl, rfl⟩
  · refine j_iload_n rfl d_X11_set_7 rfl ?_
    refine j_bind (fun r4 h5 => ?_)
    refine j_callS (y := y_X11_isPower) (I' := i_X11_isPower) (avs := [.inl a1]) (st := []) (c_X11_isPower G a1 M0 r4 h5) cs_Model_243 wd_1302 wd_1303 rfl rfl (Nat.le_of_ble_eq_true rfl) ⟨rfl, rfl⟩ ⟨by decide, by decide⟩ ⟨by decide, by decide⟩ d_X11_set_8 ?_
    refine j_if_eq (tgt := 28) d_X11_set_11 (by decide) (fun h6 => ?_) (fun h6 => ?_)
    · refine j_ldc2 (x := (-9223372036854775808)) ⟨by decide, by decide⟩ (show Cond.constantLong _ _ _ ∈ lw_tbl from wd_1305) d_X11_set_28 ?_
      exact j_lret d_X11_set_31 rfl rfl ⟨rfl, rfl⟩
    · refine j_iload_n rfl d_X11_set_14 rfl ?_
      refine j_i2l d_X11_set_15 ?_
      refine j_ldc2 (x := (-9999)) ⟨by decide, by decide⟩ (show Cond.constantLong _ _ _ ∈ lw_tbl from wd_1284) d_X11_set_16 ?_
      refine j_ldc2 (x := 9999) ⟨by decide, by decide⟩ (show Cond.constantLong _ _ _ ∈ lw_tbl from wd_1285) d_X11_set_19 ?_
      refine j_bind (fun r7 h8 => ?_)
      refine j_callS (y := y_X11_in) (I' := i_X11_in) (avs := [.inr (.inl a2), .inr (.inl (-9999)), .inr (.inl 9999)]) (st := []) (c_X11_in G a2 (-9999) 9999 M0 r7 h8) cs_Model_193 wd_1239 wd_1240 rfl rfl (Nat.le_of_ble_eq_true rfl) ⟨rfl, rfl⟩ ⟨by decide, by decide⟩ ⟨by decide, by decide⟩ d_X11_set_22 ?_
      refine j_if_ne (tgt := 32) d_X11_set_25 (by decide) (fun h9 => ?_) (fun h9 => ?_)
      · refine j_aload_n rfl d_X11_set_32 rfl ?_
        refine j_iload_n rfl d_X11_set_33 rfl ?_
        refine j_iload_n rfl d_X11_set_34 rfl ?_
        refine j_bind (fun r10 h11 => ?_)
        refine j_callV (y := y_X11_coefficient) (I' := i_X11_coefficient) (avs := [.inl a0, .inl a1]) (c := 483) (st := []) (c_X11_coefficient G a0 a1 M0 r10 h11) cs_Model_183 wd_1294 wd_1296 ws_46 tg_483 rfl rfl rfl (Nat.le_of_ble_eq_true rfl) ⟨rfl, rfl⟩ ⟨by decide, by decide⟩ ⟨by decide, by decide⟩ d_X11_set_35 ?_
        refine j_istore (lv' := [some (.inr (.inr 483)), some (.inl a0), some (.inl a1), some (.inl a2), some (.inl r10)]) d_X11_set_38 (Nat.le_of_ble_eq_true rfl) rfl ?_
        refine j_aload_n rfl d_X11_set_40 rfl ?_
        refine j_getr fl_Model_7 tg_483 rv_483_3 d_X11_set_41 ?_
        refine j_bipush ⟨by decide, by decide⟩ (by decide +kernel) d_X11_set_44 ?_
        refine j_iload_n rfl d_X11_set_46 rfl ?_
        refine j_imul d_X11_set_47 ?_
        refine j_iload_n rfl d_X11_set_48 rfl ?_
        refine j_iadd d_X11_set_49 ?_
        refine j_iload_n rfl d_X11_set_50 rfl ?_
        refine j_iast tg_484 al_484 d_X11_set_51 (fun M12 hM12 => ?_)
        refine j_iload d_X11_set_52 rfl ?_
        refine j_i2l d_X11_set_54 ?_
        exact j_lret d_X11_set_55 rfl rfl ⟨rfl, rfl⟩
      · refine j_ldc2 (x := (-9223372036854775808)) ⟨by decide, by decide⟩ (show Cond.constantLong _ _ _ ∈ lw_tbl from wd_1305) d_X11_set_28 ?_
        exact j_lret d_X11_set_31 rfl rfl ⟨rfl, rfl⟩
set_option maxHeartbeats 4000000 in
set_option maxRecDepth 100000 in
theorem c_X11_set (G : tp_G) (a0 : Int) (a1 : Int) (a2 : Int) (M0 : tp_M) (r : Int × tp_M) (h : f_X11_set a0 a1 a2 M0 = some r) (l : Launch) : Met l y_X11_set (tp_ws y_X11_set i_X11_set) (tp_rm 1) (tp_Pc G [.inr (.inr 483), .inl a0, .inl a1, .inl a2] tp_NC (tp_st M0)) (tp_Q G (o_X11_set r)) 0 0 (tp_A G) :=
  tp_met (I := i_X11_set) (y := y_X11_set) (by decide +kernel) (Eq.refl "TypesAtPrimeModel") (Eq.refl "set") (lv := [some (.inr (.inr 483)), some (.inl a0), some (.inl a1), some (.inl a2), none]) rfl (Nat.le_of_ble_eq_true rfl) (T_X11_set G a0 a1 a2 M0) h l
def y_X11_at : MethodName := ⟨"TypesAtPrimeModel", "at", "(II)J"⟩
abbrev i_X11_at : tp_I := (prog_13_method_24_code, "TypesAtPrimeModel", (some .long), 3, "at")
abbrev o_X11_at (M : tp_M) : Int → tp_O := fun r => (some (.inr (.inl r)), tp_NC, tp_st M)
theorem d_X11_at_0 : decode prog_13_method_24_code 0 = .ok (.iload_n 1, 1) := by decide +kernel
theorem d_X11_at_1 : decode prog_13_method_24_code 1 = .ok (.invokestatic 231, 3) := by decide +kernel
theorem d_X11_at_4 : decode prog_13_method_24_code 4 = .ok (.ifCond .eq 20, 3) := by decide +kernel
theorem d_X11_at_7 : decode prog_13_method_24_code 7 = .ok (.iload_n 2, 1) := by decide +kernel
theorem d_X11_at_8 : decode prog_13_method_24_code 8 = .ok (.invokestatic 243, 3) := by decide +kernel
theorem d_X11_at_11 : decode prog_13_method_24_code 11 = .ok (.ifCond .eq 13, 3) := by decide +kernel
theorem d_X11_at_14 : decode prog_13_method_24_code 14 = .ok (.aload_n 0, 1) := by decide +kernel
theorem d_X11_at_15 : decode prog_13_method_24_code 15 = .ok (.iload_n 1, 1) := by decide +kernel
theorem d_X11_at_16 : decode prog_13_method_24_code 16 = .ok (.iload_n 2, 1) := by decide +kernel
theorem d_X11_at_17 : decode prog_13_method_24_code 17 = .ok (.invokevirtual 183, 3) := by decide +kernel
theorem d_X11_at_20 : decode prog_13_method_24_code 20 = .ok (.i2l, 1) := by decide +kernel
theorem d_X11_at_21 : decode prog_13_method_24_code 21 = .ok (.goto 6, 3) := by decide +kernel
theorem d_X11_at_24 : decode prog_13_method_24_code 24 = .ok (.ldc2_w 246, 3) := by decide +kernel
theorem d_X11_at_27 : decode prog_13_method_24_code 27 = .ok (.lreturn, 1) := by decide +kernel
def f_X11_at (a0 : Int) (a1 : Int) (M0 : tp_M) : Option (Int) :=
  (f_X11_isSlot a0 M0).bind fun r1 =>
  if r1 = 0 then
    some (-9223372036854775808)
  else
    (f_X11_isPower a1 M0).bind fun r4 =>
    if r4 = 0 then
      some (-9223372036854775808)
    else
      (f_X11_coefficient a0 a1 M0).bind fun r7 =>
      some r7
set_option maxHeartbeats 4000000 in
set_option maxRecDepth 100000 in
theorem T_X11_at (G : tp_G) (a0 : Int) (a1 : Int) (M0 : tp_M) : tp_J i_X11_at (tp_rm 1) G 0 0 (o_X11_at M0) tp_NC (tp_st M0) 0 0 [some (.inr (.inr 483)), some (.inl a0), some (.inl a1)] 0 [] (f_X11_at a0 a1 M0) := by
  unfold f_X11_at
  refine j_iload_n rfl d_X11_at_0 rfl ?_
  refine j_bind (fun r1 h2 => ?_)
  refine j_callS (y := y_X11_isSlot) (I' := i_X11_isSlot) (avs := [.inl a0]) (st := []) (c_X11_isSlot G a0 M0 r1 h2) cs_Model_231 wd_1250 wd_1251 rfl rfl (Nat.le_of_ble_eq_true rfl) ⟨rfl, rfl⟩ ⟨by decide, by decide⟩ ⟨by decide, by decide⟩ d_X11_at_1 ?_
  refine j_if_eq (tgt := 24) d_X11_at_4 (by decide) (fun h3 => ?_) (fun h3 => ?_)
  · refine j_ldc2 (x := (-9223372036854775808)) ⟨by decide, by decide⟩ (show Cond.constantLong _ _ _ ∈ lw_tbl from wd_1305) d_X11_at_24 ?_
    exact j_lret d_X11_at_27 rfl rfl ⟨rfl, rfl⟩
  · refine j_iload_n rfl d_X11_at_7 rfl ?_
    refine j_bind (fun r4 h5 => ?_)
    refine j_callS (y := y_X11_isPower) (I' := i_X11_isPower) (avs := [.inl a1]) (st := []) (c_X11_isPower G a1 M0 r4 h5) cs_Model_243 wd_1302 wd_1303 rfl rfl (Nat.le_of_ble_eq_true rfl) ⟨rfl, rfl⟩ ⟨by decide, by decide⟩ ⟨by decide, by decide⟩ d_X11_at_8 ?_
    refine j_if_eq (tgt := 24) d_X11_at_11 (by decide) (fun h6 => ?_) (fun h6 => ?_)
    · refine j_ldc2 (x := (-9223372036854775808)) ⟨by decide, by decide⟩ (show Cond.constantLong _ _ _ ∈ lw_tbl from wd_1305) d_X11_at_24 ?_
      exact j_lret d_X11_at_27 rfl rfl ⟨rfl, rfl⟩
    · refine j_aload_n rfl d_X11_at_14 rfl ?_
      refine j_iload_n rfl d_X11_at_15 rfl ?_
      refine j_iload_n rfl d_X11_at_16 rfl ?_
      refine j_bind (fun r7 h8 => ?_)
      refine j_callV (y := y_X11_coefficient) (I' := i_X11_coefficient) (avs := [.inl a0, .inl a1]) (c := 483) (st := []) (c_X11_coefficient G a0 a1 M0 r7 h8) cs_Model_183 wd_1294 wd_1296 ws_46 tg_483 rfl rfl rfl (Nat.le_of_ble_eq_true rfl) ⟨rfl, rfl⟩ ⟨by decide, by decide⟩ ⟨by decide, by decide⟩ d_X11_at_17 ?_
      refine j_i2l d_X11_at_20 ?_
      refine j_goto (tgt := 27) d_X11_at_21 (by decide) ?_
      exact j_lret d_X11_at_27 rfl rfl ⟨rfl, rfl⟩
set_option maxHeartbeats 4000000 in
set_option maxRecDepth 100000 in
theorem c_X11_at (G : tp_G) (a0 : Int) (a1 : Int) (M0 : tp_M) (r : Int) (h : f_X11_at a0 a1 M0 = some r) (l : Launch) : Met l y_X11_at (tp_ws y_X11_at i_X11_at) (tp_rm 1) (tp_Pc G [.inr (.inr 483), .inl a0, .inl a1] tp_NC (tp_st M0)) (tp_Q G ((o_X11_at M0) r)) 0 0 (tp_A G) :=
  tp_met (I := i_X11_at) (y := y_X11_at) (by decide +kernel) (Eq.refl "TypesAtPrimeModel") (Eq.refl "at") (lv := [some (.inr (.inr 483)), some (.inl a0), some (.inl a1)]) rfl (Nat.le_of_ble_eq_true rfl) (T_X11_at G a0 a1 M0) h l
theorem wd_1317 : (.code ⟨"TypesAtPrimeModel", "isMonic", "(I)Z"⟩ prog_13_method_8_code 3 (some .boolean) : Cond) ∈ lw_tbl := List.mem_append_right _ (List.mem_of_getElem? (i := 1317) (by decide +kernel))
theorem cs_Model_248 : tp_CS "TypesAtPrimeModel" 248 y_X11_isMonic i_X11_isMonic 1 := ⟨wd_1317, wd_12, by decide, by decide, by decide +kernel⟩
theorem wd_1314 : (.methodLink "TypesAtPrimeModel" 248 ⟨"TypesAtPrimeModel", "isMonic", "(I)Z"⟩ : Cond) ∈ lw_tbl := List.mem_append_right _ (List.mem_of_getElem? (i := 1314) (by decide +kernel))
theorem wd_1316 : (.instanceMethod ⟨"TypesAtPrimeModel", "isMonic", "(I)Z"⟩ : Cond) ∈ lw_tbl := List.mem_append_right _ (List.mem_of_getElem? (i := 1316) (by decide +kernel))
theorem ws_47 : (.selects "TypesAtPrimeModel" ⟨"TypesAtPrimeModel", "isMonic", "(I)Z"⟩ ⟨"TypesAtPrimeModel", "isMonic", "(I)Z"⟩ : Cond) ∈ lw_tbl := List.mem_append_left _ (List.mem_of_getElem? (i := 47) (by decide +kernel))
def y_X11_told : MethodName := ⟨"TypesAtPrimeModel", "told", "(II)I"⟩
abbrev i_X11_told : tp_I := (prog_13_method_25_code, "TypesAtPrimeModel", (some .int), 3, "told")
abbrev o_X11_told (M : tp_M) : Int → tp_O := fun r => (some (.inl r), tp_NC, tp_st M)
theorem d_X11_told_0 : decode prog_13_method_25_code 0 = .ok (.iload_n 1, 1) := by decide +kernel
theorem d_X11_told_1 : decode prog_13_method_25_code 1 = .ok (.invokestatic 231, 3) := by decide +kernel
theorem d_X11_told_4 : decode prog_13_method_25_code 4 = .ok (.ifCond .eq 13, 3) := by decide +kernel
theorem d_X11_told_7 : decode prog_13_method_25_code 7 = .ok (.iload_n 2, 1) := by decide +kernel
theorem d_X11_told_8 : decode prog_13_method_25_code 8 = .ok (.i2l, 1) := by decide +kernel
theorem d_X11_told_9 : decode prog_13_method_25_code 9 = .ok (.lconst 0, 1) := by decide +kernel
theorem d_X11_told_10 : decode prog_13_method_25_code 10 = .ok (.lconst 1, 1) := by decide +kernel
theorem d_X11_told_11 : decode prog_13_method_25_code 11 = .ok (.invokestatic 193, 3) := by decide +kernel
theorem d_X11_told_14 : decode prog_13_method_25_code 14 = .ok (.ifCond .ne 5, 3) := by decide +kernel
theorem d_X11_told_17 : decode prog_13_method_25_code 17 = .ok (.iconst (-1), 1) := by decide +kernel
theorem d_X11_told_18 : decode prog_13_method_25_code 18 = .ok (.ireturn, 1) := by decide +kernel
theorem d_X11_told_19 : decode prog_13_method_25_code 19 = .ok (.iload_n 2, 1) := by decide +kernel
theorem d_X11_told_20 : decode prog_13_method_25_code 20 = .ok (.ifCond .ne 11, 3) := by decide +kernel
theorem d_X11_told_23 : decode prog_13_method_25_code 23 = .ok (.aload_n 0, 1) := by decide +kernel
theorem d_X11_told_24 : decode prog_13_method_25_code 24 = .ok (.iload_n 1, 1) := by decide +kernel
theorem d_X11_told_25 : decode prog_13_method_25_code 25 = .ok (.invokevirtual 240, 3) := by decide +kernel
theorem d_X11_told_28 : decode prog_13_method_25_code 28 = .ok (.goto 16, 3) := by decide +kernel
theorem d_X11_told_31 : decode prog_13_method_25_code 31 = .ok (.aload_n 0, 1) := by decide +kernel
theorem d_X11_told_32 : decode prog_13_method_25_code 32 = .ok (.iload_n 1, 1) := by decide +kernel
theorem d_X11_told_33 : decode prog_13_method_25_code 33 = .ok (.invokevirtual 248, 3) := by decide +kernel
theorem d_X11_told_36 : decode prog_13_method_25_code 36 = .ok (.ifCond .eq 7, 3) := by decide +kernel
theorem d_X11_told_39 : decode prog_13_method_25_code 39 = .ok (.iconst 1, 1) := by decide +kernel
theorem d_X11_told_40 : decode prog_13_method_25_code 40 = .ok (.goto 4, 3) := by decide +kernel
theorem d_X11_told_43 : decode prog_13_method_25_code 43 = .ok (.iconst 0, 1) := by decide +kernel
theorem d_X11_told_44 : decode prog_13_method_25_code 44 = .ok (.ireturn, 1) := by decide +kernel
def f_X11_told (a0 : Int) (a1 : Int) (M0 : tp_M) : Option (Int) :=
  (f_X11_isSlot a0 M0).bind fun r1 =>
  if r1 = 0 then
    some (-1)
  else
    (f_X11_in a1 0 1 M0).bind fun r4 =>
    if ¬ r4 = 0 then
      if ¬ a1 = 0 then
        (f_X11_isMonic a0 M0).bind fun r8 =>
        if r8 = 0 then
          some 0
        else
          some 1
      else
        (f_X11_toldDegree a0 M0).bind fun r11 =>
        some r11
    else
      some (-1)
set_option maxHeartbeats 4000000 in
set_option maxRecDepth 100000 in
theorem T_X11_told (G : tp_G) (a0 : Int) (a1 : Int) (M0 : tp_M) : tp_J i_X11_told (tp_rm 3) G 0 0 (o_X11_told M0) tp_NC (tp_st M0) 0 0 [some (.inr (.inr 483)), some (.inl a0), some (.inl a1)] 0 [] (f_X11_told a0 a1 M0) := by
  unfold f_X11_told
  refine j_iload_n rfl d_X11_told_0 rfl ?_
  refine j_bind (fun r1 h2 => ?_)
  refine j_callS (y := y_X11_isSlot) (I' := i_X11_isSlot) (avs := [.inl a0]) (st := []) (c_X11_isSlot G a0 M0 r1 h2) cs_Model_231 wd_1250 wd_1251 rfl rfl (Nat.le_of_ble_eq_true rfl) ⟨rfl, rfl⟩ ⟨by decide, by decide⟩ ⟨by decide, by decide⟩ d_X11_told_1 ?_
  refine j_if_eq (tgt := 17) d_X11_told_4 (by decide) (fun h3 => ?_) (fun h3 => ?_)
  · refine j_iconst ⟨by decide, by decide⟩ d_X11_told_17 ?_
    exact j_iret d_X11_told_18 rfl rfl ⟨rfl, rfl⟩
  · refine j_iload_n rfl d_X11_told_7 rfl ?_
    refine j_i2l d_X11_told_8 ?_
    refine j_lconst (x := 0) ⟨by decide, by decide⟩ (by decide +kernel) d_X11_told_9 ?_
    refine j_lconst (x := 1) ⟨by decide, by decide⟩ (by decide +kernel) d_X11_told_10 ?_
    refine j_bind (fun r4 h5 => ?_)
    refine j_callS (y := y_X11_in) (I' := i_X11_in) (avs := [.inr (.inl a1), .inr (.inl 0), .inr (.inl 1)]) (st := []) (c_X11_in G a1 0 1 M0 r4 h5) cs_Model_193 wd_1239 wd_1240 rfl rfl (Nat.le_of_ble_eq_true rfl) ⟨rfl, rfl⟩ ⟨by decide, by decide⟩ ⟨by decide, by decide⟩ d_X11_told_11 ?_
    refine j_if_ne (tgt := 19) d_X11_told_14 (by decide) (fun h6 => ?_) (fun h6 => ?_)
    · refine j_iload_n rfl d_X11_told_19 rfl ?_
      refine j_if_ne (tgt := 31) d_X11_told_20 (by decide) (fun h7 => ?_) (fun h7 => ?_)
      · refine j_aload_n rfl d_X11_told_31 rfl ?_
        refine j_iload_n rfl d_X11_told_32 rfl ?_
        refine j_bind (fun r8 h9 => ?_)
        refine j_callV (y := y_X11_isMonic) (I' := i_X11_isMonic) (avs := [.inl a0]) (c := 483) (st := []) (c_X11_isMonic G a0 M0 r8 h9) cs_Model_248 wd_1314 wd_1316 ws_47 tg_483 rfl rfl rfl (Nat.le_of_ble_eq_true rfl) ⟨rfl, rfl⟩ ⟨by decide, by decide⟩ ⟨by decide, by decide⟩ d_X11_told_33 ?_
        refine j_if_eq (tgt := 43) d_X11_told_36 (by decide) (fun h10 => ?_) (fun h10 => ?_)
        · refine j_iconst ⟨by decide, by decide⟩ d_X11_told_43 ?_
          exact j_iret d_X11_told_44 rfl rfl ⟨rfl, rfl⟩
        · refine j_iconst ⟨by decide, by decide⟩ d_X11_told_39 ?_
          refine j_goto (tgt := 44) d_X11_told_40 (by decide) ?_
          exact j_iret d_X11_told_44 rfl rfl ⟨rfl, rfl⟩
      · refine j_aload_n rfl d_X11_told_23 rfl ?_
        refine j_iload_n rfl d_X11_told_24 rfl ?_
        refine j_bind (fun r11 h12 => ?_)
        refine j_callV (y := y_X11_toldDegree) (I' := i_X11_toldDegree) (avs := [.inl a0]) (c := 483) (st := []) (c_X11_toldDegree G a0 M0 r11 h12) cs_Model_240 wd_1286 wd_1288 ws_44 tg_483 rfl rfl rfl (Nat.le_of_ble_eq_true rfl) ⟨rfl, rfl⟩ ⟨by decide, by decide⟩ ⟨by decide, by decide⟩ d_X11_told_25 ?_
        refine j_goto (tgt := 44) d_X11_told_28 (by decide) ?_
        exact j_iret d_X11_told_44 rfl rfl ⟨rfl, rfl⟩
    · refine j_iconst ⟨by decide, by decide⟩ d_X11_told_17 ?_
      exact j_iret d_X11_told_18 rfl rfl ⟨rfl, rfl⟩
set_option maxHeartbeats 4000000 in
set_option maxRecDepth 100000 in
theorem c_X11_told (G : tp_G) (a0 : Int) (a1 : Int) (M0 : tp_M) (r : Int) (h : f_X11_told a0 a1 M0 = some r) (l : Launch) : Met l y_X11_told (tp_ws y_X11_told i_X11_told) (tp_rm 3) (tp_Pc G [.inr (.inr 483), .inl a0, .inl a1] tp_NC (tp_st M0)) (tp_Q G ((o_X11_told M0) r)) 0 0 (tp_A G) :=
  tp_met (I := i_X11_told) (y := y_X11_told) (by decide +kernel) (Eq.refl "TypesAtPrimeModel") (Eq.refl "told") (lv := [some (.inr (.inr 483)), some (.inl a0), some (.inl a1)]) rfl (Nat.le_of_ble_eq_true rfl) (T_X11_told G a0 a1 M0) h l
def y_X11_mix : MethodName := ⟨"TypesAtPrimeModel", "mix", "(IIIII)I"⟩
abbrev i_X11_mix : tp_I := (prog_13_method_26_code, "TypesAtPrimeModel", (some .int), 7, "mix")
abbrev o_X11_mix : Int × tp_M → tp_O := fun r => (some (.inl r.1), tp_NC, tp_st r.2)
theorem d_X11_mix_0 : decode prog_13_method_26_code 0 = .ok (.iload_n 1, 1) := by decide +kernel
theorem d_X11_mix_1 : decode prog_13_method_26_code 1 = .ok (.invokestatic 231, 3) := by decide +kernel
theorem d_X11_mix_4 : decode prog_13_method_26_code 4 = .ok (.ifCond .eq 18, 3) := by decide +kernel
theorem d_X11_mix_7 : decode prog_13_method_26_code 7 = .ok (.iload_n 3, 1) := by decide +kernel
theorem d_X11_mix_8 : decode prog_13_method_26_code 8 = .ok (.invokestatic 231, 3) := by decide +kernel
theorem d_X11_mix_11 : decode prog_13_method_26_code 11 = .ok (.ifCond .eq 11, 3) := by decide +kernel
theorem d_X11_mix_14 : decode prog_13_method_26_code 14 = .ok (.iload 5, 2) := by decide +kernel
theorem d_X11_mix_16 : decode prog_13_method_26_code 16 = .ok (.invokestatic 231, 3) := by decide +kernel
theorem d_X11_mix_19 : decode prog_13_method_26_code 19 = .ok (.ifCond .ne 5, 3) := by decide +kernel
theorem d_X11_mix_22 : decode prog_13_method_26_code 22 = .ok (.iconst (-1), 1) := by decide +kernel
theorem d_X11_mix_23 : decode prog_13_method_26_code 23 = .ok (.ireturn, 1) := by decide +kernel
theorem d_X11_mix_24 : decode prog_13_method_26_code 24 = .ok (.iconst 0, 1) := by decide +kernel
theorem d_X11_mix_25 : decode prog_13_method_26_code 25 = .ok (.istore 6, 2) := by decide +kernel
theorem d_X11_mix_27 : decode prog_13_method_26_code 27 = .ok (.iload 6, 2) := by decide +kernel
theorem d_X11_mix_29 : decode prog_13_method_26_code 29 = .ok (.bipush 9, 2) := by decide +kernel
theorem d_X11_mix_31 : decode prog_13_method_26_code 31 = .ok (.if_icmp .ge 40, 3) := by decide +kernel
theorem d_X11_mix_34 : decode prog_13_method_26_code 34 = .ok (.aload_n 0, 1) := by decide +kernel
theorem d_X11_mix_35 : decode prog_13_method_26_code 35 = .ok (.getfield 16, 3) := by decide +kernel
theorem d_X11_mix_38 : decode prog_13_method_26_code 38 = .ok (.iload 6, 2) := by decide +kernel
theorem d_X11_mix_40 : decode prog_13_method_26_code 40 = .ok (.iload_n 2, 1) := by decide +kernel
theorem d_X11_mix_41 : decode prog_13_method_26_code 41 = .ok (.i2l, 1) := by decide +kernel
theorem d_X11_mix_42 : decode prog_13_method_26_code 42 = .ok (.aload_n 0, 1) := by decide +kernel
theorem d_X11_mix_43 : decode prog_13_method_26_code 43 = .ok (.iload_n 1, 1) := by decide +kernel
theorem d_X11_mix_44 : decode prog_13_method_26_code 44 = .ok (.iload 6, 2) := by decide +kernel
theorem d_X11_mix_46 : decode prog_13_method_26_code 46 = .ok (.invokevirtual 183, 3) := by decide +kernel
theorem d_X11_mix_49 : decode prog_13_method_26_code 49 = .ok (.i2l, 1) := by decide +kernel
theorem d_X11_mix_50 : decode prog_13_method_26_code 50 = .ok (.lmul, 1) := by decide +kernel
theorem d_X11_mix_51 : decode prog_13_method_26_code 51 = .ok (.iload 4, 2) := by decide +kernel
theorem d_X11_mix_53 : decode prog_13_method_26_code 53 = .ok (.i2l, 1) := by decide +kernel
theorem d_X11_mix_54 : decode prog_13_method_26_code 54 = .ok (.aload_n 0, 1) := by decide +kernel
theorem d_X11_mix_55 : decode prog_13_method_26_code 55 = .ok (.iload_n 3, 1) := by decide +kernel
theorem d_X11_mix_56 : decode prog_13_method_26_code 56 = .ok (.iload 6, 2) := by decide +kernel
theorem d_X11_mix_58 : decode prog_13_method_26_code 58 = .ok (.invokevirtual 183, 3) := by decide +kernel
theorem d_X11_mix_61 : decode prog_13_method_26_code 61 = .ok (.i2l, 1) := by decide +kernel
theorem d_X11_mix_62 : decode prog_13_method_26_code 62 = .ok (.lmul, 1) := by decide +kernel
theorem d_X11_mix_63 : decode prog_13_method_26_code 63 = .ok (.ladd, 1) := by decide +kernel
theorem d_X11_mix_64 : decode prog_13_method_26_code 64 = .ok (.lastore, 1) := by decide +kernel
theorem d_X11_mix_65 : decode prog_13_method_26_code 65 = .ok (.iinc 6 1, 3) := by decide +kernel
theorem d_X11_mix_68 : decode prog_13_method_26_code 68 = .ok (.goto (-41), 3) := by decide +kernel
theorem d_X11_mix_71 : decode prog_13_method_26_code 71 = .ok (.aload_n 0, 1) := by decide +kernel
theorem d_X11_mix_72 : decode prog_13_method_26_code 72 = .ok (.iload 5, 2) := by decide +kernel
theorem d_X11_mix_74 : decode prog_13_method_26_code 74 = .ok (.invokevirtual 237, 3) := by decide +kernel
theorem d_X11_mix_77 : decode prog_13_method_26_code 77 = .ok (.ifCond .eq 7, 3) := by decide +kernel
theorem d_X11_mix_80 : decode prog_13_method_26_code 80 = .ok (.iconst 1, 1) := by decide +kernel
theorem d_X11_mix_81 : decode prog_13_method_26_code 81 = .ok (.goto 5, 3) := by decide +kernel
theorem d_X11_mix_84 : decode prog_13_method_26_code 84 = .ok (.bipush (-3), 2) := by decide +kernel
theorem d_X11_mix_86 : decode prog_13_method_26_code 86 = .ok (.ireturn, 1) := by decide +kernel
def f_X11_mix_27B (x1 : Int) (x2 : Int) (x3 : Int) (x4 : Int) (x5 : Int) (rec_27 : Int → tp_M → Option (Int × tp_M)) (x6 : Int) (M0 : tp_M) : Option (Int × tp_M) :=
  if 9 ≤ x6 then
    (f_X11_takesRead x5 M0).bind fun r11 =>
    if r11.1 = 0 then
      some ((-3), r11.2)
    else
      some (1, r11.2)
  else
    (f_X11_coefficient x1 x6 M0).bind fun r14 =>
    (f_X11_coefficient x3 x6 M0).bind fun r16 =>
    if 0 ≤ x6 ∧ x6 < 9 then
      tp_mp (tp_up M0 486 x6 (tp_wl ((tp_wl (x2 * r14)) + (tp_wl (x4 * r16))))) fun M18 =>
      tp_lt (tp_w (x6 + 1)) fun y19 =>
      rec_27 y19 M18 else none
set_option maxHeartbeats 4000000 in
set_option maxRecDepth 100000 in
theorem T_X11_mix_27B (G : tp_G) (x1 : Int) (x2 : Int) (x3 : Int) (x4 : Int) (x5 : Int) (rec_27 : Int → tp_M → Option (Int × tp_M)) (hrec_27 : ∀ (x6' : Int) (M' : tp_M), tp_J i_X11_mix (tp_rm 2) G 0 0 o_X11_mix tp_NC (tp_st M') 0 0 [some (.inr (.inr 483)), some (.inl x1), some (.inl x2), some (.inl x3), some (.inl x4), some (.inl x5), some (.inl (x6'))] 27 [] (rec_27 x6' M')) (x6 : Int) (M0 : tp_M) : tp_J i_X11_mix (tp_rm 2) G 0 0 o_X11_mix tp_NC (tp_st M0) 0 0 [some (.inr (.inr 483)), some (.inl x1), some (.inl x2), some (.inl x3), some (.inl x4), some (.inl x5), some (.inl x6)] 27 [] (f_X11_mix_27B x1 x2 x3 x4 x5 rec_27 x6 M0) := by
  unfold f_X11_mix_27B
  refine j_iload d_X11_mix_27 rfl ?_
  refine j_bipush ⟨by decide, by decide⟩ (by decide +kernel) d_X11_mix_29 ?_
  refine j_icmp_ge (tgt := 71) d_X11_mix_31 (by decide) (fun h10 => ?_) (fun h10 => ?_)
  · refine j_aload_n rfl d_X11_mix_71 rfl ?_
    refine j_iload d_X11_mix_72 rfl ?_
    refine j_bind (fun r11 h12 => ?_)
    refine j_callV (y := y_X11_takesRead) (I' := i_X11_takesRead) (avs := [.inl x5]) (c := 483) (st := []) (c_X11_takesRead G x5 M0 r11 h12) cs_Model_237 wd_1280 wd_1282 ws_43 tg_483 rfl rfl rfl (Nat.le_of_ble_eq_true rfl) ⟨rfl, rfl⟩ ⟨by decide, by decide⟩ ⟨by decide, by decide⟩ d_X11_mix_74 ?_
    refine j_if_eq (tgt := 84) d_X11_mix_77 (by decide) (fun h13 => ?_) (fun h13 => ?_)
    · refine j_bipush ⟨by decide, by decide⟩ (by decide +kernel) d_X11_mix_84 ?_
      exact j_iret d_X11_mix_86 rfl rfl ⟨rfl, rfl⟩
    · refine j_iconst ⟨by decide, by decide⟩ d_X11_mix_80 ?_
      refine j_goto (tgt := 86) d_X11_mix_81 (by decide) ?_
      exact j_iret d_X11_mix_86 rfl rfl ⟨rfl, rfl⟩
  · refine j_aload_n rfl d_X11_mix_34 rfl ?_
    refine j_getr fl_Model_16 tg_483 rv_483_7 d_X11_mix_35 ?_
    refine j_iload d_X11_mix_38 rfl ?_
    refine j_iload_n rfl d_X11_mix_40 rfl ?_
    refine j_i2l d_X11_mix_41 ?_
    refine j_aload_n rfl d_X11_mix_42 rfl ?_
    refine j_iload_n rfl d_X11_mix_43 rfl ?_
    refine j_iload d_X11_mix_44 rfl ?_
    refine j_bind (fun r14 h15 => ?_)
    refine j_callV (y := y_X11_coefficient) (I' := i_X11_coefficient) (avs := [.inl x1, .inl x6]) (c := 483) (st := [.inr (.inl x2), .inl x6, .inr (.inr 486)]) (c_X11_coefficient G x1 x6 M0 r14 h15) cs_Model_183 wd_1294 wd_1296 ws_46 tg_483 rfl rfl rfl (Nat.le_of_ble_eq_true rfl) ⟨rfl, rfl⟩ ⟨by decide, by decide⟩ ⟨by decide, by decide⟩ d_X11_mix_46 ?_
    refine j_i2l d_X11_mix_49 ?_
    refine j_lmul d_X11_mix_50 ?_
    refine j_iload d_X11_mix_51 rfl ?_
    refine j_i2l d_X11_mix_53 ?_
    refine j_aload_n rfl d_X11_mix_54 rfl ?_
    refine j_iload_n rfl d_X11_mix_55 rfl ?_
    refine j_iload d_X11_mix_56 rfl ?_
    refine j_bind (fun r16 h17 => ?_)
    refine j_callV (y := y_X11_coefficient) (I' := i_X11_coefficient) (avs := [.inl x3, .inl x6]) (c := 483) (st := [.inr (.inl x4), .inr (.inl (tp_wl (x2 * r14))), .inl x6, .inr (.inr 486)]) (c_X11_coefficient G x3 x6 M0 r16 h17) cs_Model_183 wd_1294 wd_1296 ws_46 tg_483 rfl rfl rfl (Nat.le_of_ble_eq_true rfl) ⟨rfl, rfl⟩ ⟨by decide, by decide⟩ ⟨by decide, by decide⟩ d_X11_mix_58 ?_
    refine j_i2l d_X11_mix_61 ?_
    refine j_lmul d_X11_mix_62 ?_
    refine j_ladd d_X11_mix_63 ?_
    refine j_last tg_486 al_486 d_X11_mix_64 (fun M18 hM18 => ?_)
    refine j_iincN (lv' := fun y19 => [some (.inr (.inr 483)), some (.inl x1), some (.inl x2), some (.inl x3), some (.inl x4), some (.inl x5), some (.inl y19)]) d_X11_mix_65 rfl (Nat.le_of_ble_eq_true rfl) (fun _ => rfl) (fun y19 hy19 => ?_)
    refine j_goto (tgt := 27) d_X11_mix_68 (by decide) ?_
    exact j_wk [true, true, true, true, true, true, true] rfl rfl (hrec_27 y19 M18)
def f_X11_mix_27 (x1 : Int) (x2 : Int) (x3 : Int) (x4 : Int) (x5 : Int) (x6 : Int) (M0 : tp_M) : Option (Int × tp_M) := tp_lp (σ := Int × tp_M) (fun rec_ u => f_X11_mix_27B x1 x2 x3 x4 x5 (fun x6' M0' => rec_ (x6', M0')) u.1 u.2) tp_N (x6, M0)
set_option maxHeartbeats 4000000 in
set_option maxRecDepth 100000 in
theorem T_X11_mix_27 (G : tp_G) (x1 : Int) (x2 : Int) (x3 : Int) (x4 : Int) (x5 : Int) (x6 : Int) (M0 : tp_M) : tp_J i_X11_mix (tp_rm 2) G 0 0 o_X11_mix tp_NC (tp_st M0) 0 0 [some (.inr (.inr 483)), some (.inl x1), some (.inl x2), some (.inl x3), some (.inl x4), some (.inl x5), some (.inl x6)] 27 [] (f_X11_mix_27 x1 x2 x3 x4 x5 x6 M0) := by
  unfold f_X11_mix_27
  exact j_lp (σ := Int × tp_M) (n' := fun _ => tp_NC) (g' := fun u => tp_st u.2) (k' := fun _ => 0) (q' := fun _ => 0) (lv' := fun u => [some (.inr (.inr 483)), some (.inl x1), some (.inl x2), some (.inl x3), some (.inl x4), some (.inl x5), some (.inl u.1)]) (fun rec_ hrec u => T_X11_mix_27B G x1 x2 x3 x4 x5 (fun x6' M0' => rec_ (x6', M0')) (fun x6' M0' => hrec (x6', M0')) u.1 u.2) tp_N (x6, M0)
def f_X11_mix (a0 : Int) (a1 : Int) (a2 : Int) (a3 : Int) (a4 : Int) (M0 : tp_M) : Option (Int × tp_M) :=
  (f_X11_isSlot a0 M0).bind fun r1 =>
  if r1 = 0 then
    some ((-1), M0)
  else
    (f_X11_isSlot a2 M0).bind fun r4 =>
    if r4 = 0 then
      some ((-1), M0)
    else
      (f_X11_isSlot a4 M0).bind fun r7 =>
      if ¬ r7 = 0 then
        f_X11_mix_27 a0 a1 a2 a3 a4 0 M0
      else
        some ((-1), M0)
set_option maxHeartbeats 4000000 in
set_option maxRecDepth 100000 in
theorem T_X11_mix (G : tp_G) (a0 : Int) (a1 : Int) (a2 : Int) (a3 : Int) (a4 : Int) (M0 : tp_M) : tp_J i_X11_mix (tp_rm 2) G 0 0 o_X11_mix tp_NC (tp_st M0) 0 0 [some (.inr (.inr 483)), some (.inl a0), some (.inl a1), some (.inl a2), some (.inl a3), some (.inl a4), none] 0 [] (f_X11_mix a0 a1 a2 a3 a4 M0) := by
  unfold f_X11_mix
  refine j_iload_n rfl d_X11_mix_0 rfl ?_
  refine j_bind (fun r1 h2 => ?_)
  refine j_callS (y := y_X11_isSlot) (I' := i_X11_isSlot) (avs := [.inl a0]) (st := []) (c_X11_isSlot G a0 M0 r1 h2) cs_Model_231 wd_1250 wd_1251 rfl rfl (Nat.le_of_ble_eq_true rfl) ⟨rfl, rfl⟩ ⟨by decide, by decide⟩ ⟨by decide, by decide⟩ d_X11_mix_1 ?_
  refine j_if_eq (tgt := 22) d_X11_mix_4 (by decide) (fun h3 => ?_) (fun h3 => ?_)
  · refine j_iconst ⟨by decide, by decide⟩ d_X11_mix_22 ?_
    exact j_iret d_X11_mix_23 rfl rfl ⟨rfl, rfl⟩
  · refine j_iload_n rfl d_X11_mix_7 rfl ?_
    refine j_bind (fun r4 h5 => ?_)
    refine j_callS (y := y_X11_isSlot) (I' := i_X11_isSlot) (avs := [.inl a2]) (st := []) (c_X11_isSlot G a2 M0 r4 h5) cs_Model_231 wd_1250 wd_1251 rfl rfl (Nat.le_of_ble_eq_true rfl) ⟨rfl, rfl⟩ ⟨by decide, by decide⟩ ⟨by decide, by decide⟩ d_X11_mix_8 ?_
    refine j_if_eq (tgt := 22) d_X11_mix_11 (by decide) (fun h6 => ?_) (fun h6 => ?_)
    · refine j_iconst ⟨by decide, by decide⟩ d_X11_mix_22 ?_
      exact j_iret d_X11_mix_23 rfl rfl ⟨rfl, rfl⟩
    · refine j_iload d_X11_mix_14 rfl ?_
      refine j_bind (fun r7 h8 => ?_)
      refine j_callS (y := y_X11_isSlot) (I' := i_X11_isSlot) (avs := [.inl a4]) (st := []) (c_X11_isSlot G a4 M0 r7 h8) cs_Model_231 wd_1250 wd_1251 rfl rfl (Nat.le_of_ble_eq_true rfl) ⟨rfl, rfl⟩ ⟨by decide, by decide⟩ ⟨by decide, by decide⟩ d_X11_mix_16 ?_
      refine j_if_ne (tgt := 24) d_X11_mix_19 (by decide) (fun h9 => ?_) (fun h9 => ?_)
      · refine j_iconst ⟨by decide, by decide⟩ d_X11_mix_24 ?_
        refine j_istore (lv' := [some (.inr (.inr 483)), some (.inl a0), some (.inl a1), some (.inl a2), some (.inl a3), some (.inl a4), some (.inl 0)]) d_X11_mix_25 (Nat.le_of_ble_eq_true rfl) rfl ?_
        exact j_wk [true, true, true, true, true, true, true] rfl rfl (T_X11_mix_27 G a0 a1 a2 a3 a4 0 M0)
      · refine j_iconst ⟨by decide, by decide⟩ d_X11_mix_22 ?_
        exact j_iret d_X11_mix_23 rfl rfl ⟨rfl, rfl⟩
set_option maxHeartbeats 4000000 in
set_option maxRecDepth 100000 in
theorem c_X11_mix (G : tp_G) (a0 : Int) (a1 : Int) (a2 : Int) (a3 : Int) (a4 : Int) (M0 : tp_M) (r : Int × tp_M) (h : f_X11_mix a0 a1 a2 a3 a4 M0 = some r) (l : Launch) : Met l y_X11_mix (tp_ws y_X11_mix i_X11_mix) (tp_rm 2) (tp_Pc G [.inr (.inr 483), .inl a0, .inl a1, .inl a2, .inl a3, .inl a4] tp_NC (tp_st M0)) (tp_Q G (o_X11_mix r)) 0 0 (tp_A G) :=
  tp_met (I := i_X11_mix) (y := y_X11_mix) (by decide +kernel) (Eq.refl "TypesAtPrimeModel") (Eq.refl "mix") (lv := [some (.inr (.inr 483)), some (.inl a0), some (.inl a1), some (.inl a2), some (.inl a3), some (.inl a4), none]) rfl (Nat.le_of_ble_eq_true rfl) (T_X11_mix G a0 a1 a2 a3 a4 M0) h l
