theorem wd_1072 : (.fieldLink "TypesAtPrimeModel" 107 "TypesAtPrimeModel" "leafKind" "[I" : Cond) ∈ lw_tbl := List.mem_append_right _ (List.mem_of_getElem? (i := 1072) (by decide +kernel))
theorem fl_Model_107 : tp_F "TypesAtPrimeModel" 107 11 44 2 := ⟨_, _, _, rfl, by decide, rfl, wd_1072, rfl, by decide⟩
theorem tg_516 : tp_tg 516 = 21 := by decide +kernel
theorem al_516 : tp_al 516 = 20 := by decide +kernel
theorem rv_483_44 : tp_rv 483 44 = 516 := by decide +kernel
theorem wd_1051 : (.fieldLink "TypesAtPrimeModel" 349 "TypesAtPrimeModel" "leaves" "I" : Cond) ∈ lw_tbl := List.mem_append_right _ (List.mem_of_getElem? (i := 1051) (by decide +kernel))
theorem fl_Model_349 : tp_F "TypesAtPrimeModel" 349 11 23 0 := ⟨_, _, _, rfl, by decide, rfl, wd_1051, rfl, by decide⟩
theorem wd_1073 : (.fieldLink "TypesAtPrimeModel" 110 "TypesAtPrimeModel" "leafRamified" "[I" : Cond) ∈ lw_tbl := List.mem_append_right _ (List.mem_of_getElem? (i := 1073) (by decide +kernel))
theorem fl_Model_110 : tp_F "TypesAtPrimeModel" 110 11 45 2 := ⟨_, _, _, rfl, by decide, rfl, wd_1073, rfl, by decide⟩
theorem tg_517 : tp_tg 517 = 21 := by decide +kernel
theorem al_517 : tp_al 517 = 20 := by decide +kernel
theorem rv_483_45 : tp_rv 483 45 = 517 := by decide +kernel
theorem wd_1074 : (.fieldLink "TypesAtPrimeModel" 113 "TypesAtPrimeModel" "leafResidue" "[I" : Cond) ∈ lw_tbl := List.mem_append_right _ (List.mem_of_getElem? (i := 1074) (by decide +kernel))
theorem fl_Model_113 : tp_F "TypesAtPrimeModel" 113 11 46 2 := ⟨_, _, _, rfl, by decide, rfl, wd_1074, rfl, by decide⟩
theorem tg_518 : tp_tg 518 = 21 := by decide +kernel
theorem al_518 : tp_al 518 = 20 := by decide +kernel
theorem rv_483_46 : tp_rv 483 46 = 518 := by decide +kernel
theorem wd_1075 : (.fieldLink "TypesAtPrimeModel" 116 "TypesAtPrimeModel" "leafDegree" "[I" : Cond) ∈ lw_tbl := List.mem_append_right _ (List.mem_of_getElem? (i := 1075) (by decide +kernel))
theorem fl_Model_116 : tp_F "TypesAtPrimeModel" 116 11 47 2 := ⟨_, _, _, rfl, by decide, rfl, wd_1075, rfl, by decide⟩
theorem tg_519 : tp_tg 519 = 21 := by decide +kernel
theorem al_519 : tp_al 519 = 20 := by decide +kernel
theorem rv_483_47 : tp_rv 483 47 = 519 := by decide +kernel
theorem wd_1076 : (.fieldLink "TypesAtPrimeModel" 119 "TypesAtPrimeModel" "leafKnot" "[I" : Cond) ∈ lw_tbl := List.mem_append_right _ (List.mem_of_getElem? (i := 1076) (by decide +kernel))
theorem fl_Model_119 : tp_F "TypesAtPrimeModel" 119 11 48 2 := ⟨_, _, _, rfl, by decide, rfl, wd_1076, rfl, by decide⟩
theorem tg_520 : tp_tg 520 = 21 := by decide +kernel
theorem al_520 : tp_al 520 = 20 := by decide +kernel
theorem rv_483_48 : tp_rv 483 48 = 520 := by decide +kernel
theorem pf_11_23 (v : Int) : ∀ (C : String) (T : u_T) (N : Nat), vwCl[11]? = some (C, T, N) → (T 23).2.2.2 = false ∧ ∀ G : tp_G, ∃ ty, parseFieldDescriptor (T 23).2.2.1 = some ty ∧ narrow ty (tp_enc G (tp_zv 0 v)) = tp_enc G (tp_zv 0 v) ∧ fits ty (tp_enc G (tp_zv 0 v)) = true := by
  intro C T N h
  cases h
  exact ⟨rfl, fun G => ⟨_, tyX11_ok 23 (by decide), rfl, rfl⟩⟩
def y_X11_addsLeaf : MethodName := ⟨"TypesAtPrimeModel", "addsLeaf", "(IIIII)V"⟩
abbrev i_X11_addsLeaf : tp_I := (prog_13_method_55_code, "TypesAtPrimeModel", none, 6, "addsLeaf")
abbrev o_X11_addsLeaf : tp_M → tp_O := fun r => (none, tp_NC, tp_st r)
theorem d_X11_addsLeaf_0 : decode prog_13_method_55_code 0 = .ok (.aload_n 0, 1) := by decide +kernel
theorem d_X11_addsLeaf_1 : decode prog_13_method_55_code 1 = .ok (.getfield 107, 3) := by decide +kernel
theorem d_X11_addsLeaf_4 : decode prog_13_method_55_code 4 = .ok (.aload_n 0, 1) := by decide +kernel
theorem d_X11_addsLeaf_5 : decode prog_13_method_55_code 5 = .ok (.getfield 349, 3) := by decide +kernel
theorem d_X11_addsLeaf_8 : decode prog_13_method_55_code 8 = .ok (.iload_n 1, 1) := by decide +kernel
theorem d_X11_addsLeaf_9 : decode prog_13_method_55_code 9 = .ok (.iastore, 1) := by decide +kernel
theorem d_X11_addsLeaf_10 : decode prog_13_method_55_code 10 = .ok (.aload_n 0, 1) := by decide +kernel
theorem d_X11_addsLeaf_11 : decode prog_13_method_55_code 11 = .ok (.getfield 110, 3) := by decide +kernel
theorem d_X11_addsLeaf_14 : decode prog_13_method_55_code 14 = .ok (.aload_n 0, 1) := by decide +kernel
theorem d_X11_addsLeaf_15 : decode prog_13_method_55_code 15 = .ok (.getfield 349, 3) := by decide +kernel
theorem d_X11_addsLeaf_18 : decode prog_13_method_55_code 18 = .ok (.iload_n 2, 1) := by decide +kernel
theorem d_X11_addsLeaf_19 : decode prog_13_method_55_code 19 = .ok (.iastore, 1) := by decide +kernel
theorem d_X11_addsLeaf_20 : decode prog_13_method_55_code 20 = .ok (.aload_n 0, 1) := by decide +kernel
theorem d_X11_addsLeaf_21 : decode prog_13_method_55_code 21 = .ok (.getfield 113, 3) := by decide +kernel
theorem d_X11_addsLeaf_24 : decode prog_13_method_55_code 24 = .ok (.aload_n 0, 1) := by decide +kernel
theorem d_X11_addsLeaf_25 : decode prog_13_method_55_code 25 = .ok (.getfield 349, 3) := by decide +kernel
theorem d_X11_addsLeaf_28 : decode prog_13_method_55_code 28 = .ok (.iload_n 3, 1) := by decide +kernel
theorem d_X11_addsLeaf_29 : decode prog_13_method_55_code 29 = .ok (.iastore, 1) := by decide +kernel
theorem d_X11_addsLeaf_30 : decode prog_13_method_55_code 30 = .ok (.aload_n 0, 1) := by decide +kernel
theorem d_X11_addsLeaf_31 : decode prog_13_method_55_code 31 = .ok (.getfield 116, 3) := by decide +kernel
theorem d_X11_addsLeaf_34 : decode prog_13_method_55_code 34 = .ok (.aload_n 0, 1) := by decide +kernel
theorem d_X11_addsLeaf_35 : decode prog_13_method_55_code 35 = .ok (.getfield 349, 3) := by decide +kernel
theorem d_X11_addsLeaf_38 : decode prog_13_method_55_code 38 = .ok (.iload 4, 2) := by decide +kernel
theorem d_X11_addsLeaf_40 : decode prog_13_method_55_code 40 = .ok (.iastore, 1) := by decide +kernel
theorem d_X11_addsLeaf_41 : decode prog_13_method_55_code 41 = .ok (.aload_n 0, 1) := by decide +kernel
theorem d_X11_addsLeaf_42 : decode prog_13_method_55_code 42 = .ok (.getfield 119, 3) := by decide +kernel
theorem d_X11_addsLeaf_45 : decode prog_13_method_55_code 45 = .ok (.aload_n 0, 1) := by decide +kernel
theorem d_X11_addsLeaf_46 : decode prog_13_method_55_code 46 = .ok (.getfield 349, 3) := by decide +kernel
theorem d_X11_addsLeaf_49 : decode prog_13_method_55_code 49 = .ok (.iload 5, 2) := by decide +kernel
theorem d_X11_addsLeaf_51 : decode prog_13_method_55_code 51 = .ok (.iastore, 1) := by decide +kernel
theorem d_X11_addsLeaf_52 : decode prog_13_method_55_code 52 = .ok (.aload_n 0, 1) := by decide +kernel
theorem d_X11_addsLeaf_53 : decode prog_13_method_55_code 53 = .ok (.dup, 1) := by decide +kernel
theorem d_X11_addsLeaf_54 : decode prog_13_method_55_code 54 = .ok (.getfield 349, 3) := by decide +kernel
theorem d_X11_addsLeaf_57 : decode prog_13_method_55_code 57 = .ok (.iconst 1, 1) := by decide +kernel
theorem d_X11_addsLeaf_58 : decode prog_13_method_55_code 58 = .ok (.iadd, 1) := by decide +kernel
theorem d_X11_addsLeaf_59 : decode prog_13_method_55_code 59 = .ok (.putfield 349, 3) := by decide +kernel
theorem d_X11_addsLeaf_62 : decode prog_13_method_55_code 62 = .ok (.return_, 1) := by decide +kernel
def f_X11_addsLeaf (a0 : Int) (a1 : Int) (a2 : Int) (a3 : Int) (a4 : Int) (M0 : tp_M) : Option (tp_M) :=
  if 0 ≤ (M0 483 23) ∧ (M0 483 23) < 20 then
    tp_mp (tp_up M0 516 (M0 483 23) a0) fun M1 =>
    if 0 ≤ (M1 483 23) ∧ (M1 483 23) < 20 then
      tp_mp (tp_up M1 517 (M1 483 23) a1) fun M2 =>
      if 0 ≤ (M2 483 23) ∧ (M2 483 23) < 20 then
        tp_mp (tp_up M2 518 (M2 483 23) a2) fun M3 =>
        if 0 ≤ (M3 483 23) ∧ (M3 483 23) < 20 then
          tp_mp (tp_up M3 519 (M3 483 23) a3) fun M4 =>
          if 0 ≤ (M4 483 23) ∧ (M4 483 23) < 20 then
            tp_mp (tp_up M4 520 (M4 483 23) a4) fun M5 =>
            tp_mp (tp_up M5 483 23 (tp_w ((M5 483 23) + 1))) fun M6 =>
            some M6 else none else none else none else none else none
set_option maxHeartbeats 4000000 in
set_option maxRecDepth 100000 in
theorem T_X11_addsLeaf (G : tp_G) (a0 : Int) (a1 : Int) (a2 : Int) (a3 : Int) (a4 : Int) (M0 : tp_M) : tp_J i_X11_addsLeaf (tp_rm 0) G 0 0 o_X11_addsLeaf tp_NC (tp_st M0) 0 0 [some (.inr (.inr 483)), some (.inl a0), some (.inl a1), some (.inl a2), some (.inl a3), some (.inl a4)] 0 [] (f_X11_addsLeaf a0 a1 a2 a3 a4 M0) := by
  unfold f_X11_addsLeaf
  refine j_aload_n rfl d_X11_addsLeaf_0 rfl ?_
  refine j_getr fl_Model_107 tg_483 rv_483_44 d_X11_addsLeaf_1 ?_
  refine j_aload_n rfl d_X11_addsLeaf_4 rfl ?_
  refine j_geti fl_Model_349 tg_483 d_X11_addsLeaf_5 ?_
  refine j_iload_n rfl d_X11_addsLeaf_8 rfl ?_
  refine j_iast tg_516 al_516 d_X11_addsLeaf_9 (fun M1 hM1 => ?_)
  refine j_aload_n rfl d_X11_addsLeaf_10 rfl ?_
  refine j_getr fl_Model_110 tg_483 rv_483_45 d_X11_addsLeaf_11 ?_
  refine j_aload_n rfl d_X11_addsLeaf_14 rfl ?_
  refine j_geti fl_Model_349 tg_483 d_X11_addsLeaf_15 ?_
  refine j_iload_n rfl d_X11_addsLeaf_18 rfl ?_
  refine j_iast tg_517 al_517 d_X11_addsLeaf_19 (fun M2 hM2 => ?_)
  refine j_aload_n rfl d_X11_addsLeaf_20 rfl ?_
  refine j_getr fl_Model_113 tg_483 rv_483_46 d_X11_addsLeaf_21 ?_
  refine j_aload_n rfl d_X11_addsLeaf_24 rfl ?_
  refine j_geti fl_Model_349 tg_483 d_X11_addsLeaf_25 ?_
  refine j_iload_n rfl d_X11_addsLeaf_28 rfl ?_
  refine j_iast tg_518 al_518 d_X11_addsLeaf_29 (fun M3 hM3 => ?_)
  refine j_aload_n rfl d_X11_addsLeaf_30 rfl ?_
  refine j_getr fl_Model_116 tg_483 rv_483_47 d_X11_addsLeaf_31 ?_
  refine j_aload_n rfl d_X11_addsLeaf_34 rfl ?_
  refine j_geti fl_Model_349 tg_483 d_X11_addsLeaf_35 ?_
  refine j_iload d_X11_addsLeaf_38 rfl ?_
  refine j_iast tg_519 al_519 d_X11_addsLeaf_40 (fun M4 hM4 => ?_)
  refine j_aload_n rfl d_X11_addsLeaf_41 rfl ?_
  refine j_getr fl_Model_119 tg_483 rv_483_48 d_X11_addsLeaf_42 ?_
  refine j_aload_n rfl d_X11_addsLeaf_45 rfl ?_
  refine j_geti fl_Model_349 tg_483 d_X11_addsLeaf_46 ?_
  refine j_iload d_X11_addsLeaf_49 rfl ?_
  refine j_iast tg_520 al_520 d_X11_addsLeaf_51 (fun M5 hM5 => ?_)
  refine j_aload_n rfl d_X11_addsLeaf_52 rfl ?_
  refine j_dup d_X11_addsLeaf_53 (fun G => tp_cat G _) ?_
  refine j_geti fl_Model_349 tg_483 d_X11_addsLeaf_54 ?_
  refine j_iconst ⟨by decide, by decide⟩ d_X11_addsLeaf_57 ?_
  refine j_iadd d_X11_addsLeaf_58 ?_
  refine j_put (z := 0) (v := (tp_w ((M5 483 23) + 1))) fl_Model_349 (by decide) tg_483 (pf_11_23 _) pt_11 d_X11_addsLeaf_59 (fun M6 hM6 => ?_)
  exact j_vret d_X11_addsLeaf_62 rfl rfl ⟨rfl, rfl⟩
set_option maxHeartbeats 4000000 in
set_option maxRecDepth 100000 in
theorem c_X11_addsLeaf (G : tp_G) (a0 : Int) (a1 : Int) (a2 : Int) (a3 : Int) (a4 : Int) (M0 : tp_M) (r : tp_M) (h : f_X11_addsLeaf a0 a1 a2 a3 a4 M0 = some r) (l : Launch) : Met l y_X11_addsLeaf (tp_ws y_X11_addsLeaf i_X11_addsLeaf) (tp_rm 0) (tp_Pc G [.inr (.inr 483), .inl a0, .inl a1, .inl a2, .inl a3, .inl a4] tp_NC (tp_st M0)) (tp_Q G (o_X11_addsLeaf r)) 0 0 (tp_A G) :=
  tp_met (I := i_X11_addsLeaf) (y := y_X11_addsLeaf) (by decide +kernel) (Eq.refl "TypesAtPrimeModel") (Eq.refl "addsLeaf") (lv := [some (.inr (.inr 483)), some (.inl a0), some (.inl a1), some (.inl a2), some (.inl a3), some (.inl a4)]) rfl (Nat.le_of_ble_eq_true rfl) (T_X11_addsLeaf G a0 a1 a2 a3 a4 M0) h l
theorem wd_1419 : (.code ⟨"TypesAtPrimeModel", "takesKnot", "(I)V"⟩ prog_13_method_40_code 4 (none : Option Jvm.ClassFile.FieldType) : Cond) ∈ lw_tbl := List.mem_append_right _ (List.mem_of_getElem? (i := 1419) (by decide +kernel))
theorem cs_Model_352 : tp_CS "TypesAtPrimeModel" 352 y_X11_takesKnot i_X11_takesKnot 1 := ⟨wd_1419, wd_12, by decide, by decide, by decide +kernel⟩
theorem wd_1416 : (.methodLink "TypesAtPrimeModel" 352 ⟨"TypesAtPrimeModel", "takesKnot", "(I)V"⟩ : Cond) ∈ lw_tbl := List.mem_append_right _ (List.mem_of_getElem? (i := 1416) (by decide +kernel))
theorem wd_1418 : (.instanceMethod ⟨"TypesAtPrimeModel", "takesKnot", "(I)V"⟩ : Cond) ∈ lw_tbl := List.mem_append_right _ (List.mem_of_getElem? (i := 1418) (by decide +kernel))
theorem ws_65 : (.selects "TypesAtPrimeModel" ⟨"TypesAtPrimeModel", "takesKnot", "(I)V"⟩ ⟨"TypesAtPrimeModel", "takesKnot", "(I)V"⟩ : Cond) ∈ lw_tbl := List.mem_append_left _ (List.mem_of_getElem? (i := 65) (by decide +kernel))
theorem wd_1423 : (.code ⟨"TypesAtPrimeModel", "laysPoints", "(I)V"⟩ prog_13_method_48_code 5 (none : Option Jvm.ClassFile.FieldType) : Cond) ∈ lw_tbl := List.mem_append_right _ (List.mem_of_getElem? (i := 1423) (by decide +kernel))
theorem cs_Model_355 : tp_CS "TypesAtPrimeModel" 355 y_X11_laysPoints i_X11_laysPoints 1 := ⟨wd_1423, wd_12, by decide, by decide, by decide +kernel⟩
theorem wd_1420 : (.methodLink "TypesAtPrimeModel" 355 ⟨"TypesAtPrimeModel", "laysPoints", "(I)V"⟩ : Cond) ∈ lw_tbl := List.mem_append_right _ (List.mem_of_getElem? (i := 1420) (by decide +kernel))
theorem wd_1422 : (.instanceMethod ⟨"TypesAtPrimeModel", "laysPoints", "(I)V"⟩ : Cond) ∈ lw_tbl := List.mem_append_right _ (List.mem_of_getElem? (i := 1422) (by decide +kernel))
theorem ws_66 : (.selects "TypesAtPrimeModel" ⟨"TypesAtPrimeModel", "laysPoints", "(I)V"⟩ ⟨"TypesAtPrimeModel", "laysPoints", "(I)V"⟩ : Cond) ∈ lw_tbl := List.mem_append_left _ (List.mem_of_getElem? (i := 66) (by decide +kernel))
theorem wd_1447 : (.code ⟨"TypesAtPrimeModel", "laysSides", "(I)V"⟩ prog_13_method_52_code 11 (none : Option Jvm.ClassFile.FieldType) : Cond) ∈ lw_tbl := List.mem_append_right _ (List.mem_of_getElem? (i := 1447) (by decide +kernel))
theorem cs_Model_362 : tp_CS "TypesAtPrimeModel" 362 y_X11_laysSides i_X11_laysSides 1 := ⟨wd_1447, wd_12, by decide, by decide, by decide +kernel⟩
theorem wd_1444 : (.methodLink "TypesAtPrimeModel" 362 ⟨"TypesAtPrimeModel", "laysSides", "(I)V"⟩ : Cond) ∈ lw_tbl := List.mem_append_right _ (List.mem_of_getElem? (i := 1444) (by decide +kernel))
theorem wd_1446 : (.instanceMethod ⟨"TypesAtPrimeModel", "laysSides", "(I)V"⟩ : Cond) ∈ lw_tbl := List.mem_append_right _ (List.mem_of_getElem? (i := 1446) (by decide +kernel))
theorem ws_72 : (.selects "TypesAtPrimeModel" ⟨"TypesAtPrimeModel", "laysSides", "(I)V"⟩ ⟨"TypesAtPrimeModel", "laysSides", "(I)V"⟩ : Cond) ∈ lw_tbl := List.mem_append_left _ (List.mem_of_getElem? (i := 72) (by decide +kernel))
theorem wd_1399 : (.code ⟨"TypesAtPrimeModel", "addsLeaf", "(IIIII)V"⟩ prog_13_method_55_code 6 (none : Option Jvm.ClassFile.FieldType) : Cond) ∈ lw_tbl := List.mem_append_right _ (List.mem_of_getElem? (i := 1399) (by decide +kernel))
theorem cs_Model_358 : tp_CS "TypesAtPrimeModel" 358 y_X11_addsLeaf i_X11_addsLeaf 5 := ⟨wd_1399, wd_12, by decide, by decide, by decide +kernel⟩
theorem wd_1396 : (.methodLink "TypesAtPrimeModel" 358 ⟨"TypesAtPrimeModel", "addsLeaf", "(IIIII)V"⟩ : Cond) ∈ lw_tbl := List.mem_append_right _ (List.mem_of_getElem? (i := 1396) (by decide +kernel))
theorem wd_1398 : (.instanceMethod ⟨"TypesAtPrimeModel", "addsLeaf", "(IIIII)V"⟩ : Cond) ∈ lw_tbl := List.mem_append_right _ (List.mem_of_getElem? (i := 1398) (by decide +kernel))
theorem ws_60 : (.selects "TypesAtPrimeModel" ⟨"TypesAtPrimeModel", "addsLeaf", "(IIIII)V"⟩ ⟨"TypesAtPrimeModel", "addsLeaf", "(IIIII)V"⟩ : Cond) ∈ lw_tbl := List.mem_append_left _ (List.mem_of_getElem? (i := 60) (by decide +kernel))
def y_X11_laysKnot : MethodName := ⟨"TypesAtPrimeModel", "laysKnot", "(I)V"⟩
abbrev i_X11_laysKnot : tp_I := (prog_13_method_56_code, "TypesAtPrimeModel", none, 4, "laysKnot")
abbrev o_X11_laysKnot : tp_M → tp_O := fun r => (none, tp_NC, tp_st r)
theorem d_X11_laysKnot_0 : decode prog_13_method_56_code 0 = .ok (.aload_n 0, 1) := by decide +kernel
theorem d_X11_laysKnot_1 : decode prog_13_method_56_code 1 = .ok (.iload_n 1, 1) := by decide +kernel
theorem d_X11_laysKnot_2 : decode prog_13_method_56_code 2 = .ok (.invokevirtual 352, 3) := by decide +kernel
theorem d_X11_laysKnot_5 : decode prog_13_method_56_code 5 = .ok (.aload_n 0, 1) := by decide +kernel
theorem d_X11_laysKnot_6 : decode prog_13_method_56_code 6 = .ok (.iload_n 1, 1) := by decide +kernel
theorem d_X11_laysKnot_7 : decode prog_13_method_56_code 7 = .ok (.invokevirtual 355, 3) := by decide +kernel
theorem d_X11_laysKnot_10 : decode prog_13_method_56_code 10 = .ok (.aload_n 0, 1) := by decide +kernel
theorem d_X11_laysKnot_11 : decode prog_13_method_56_code 11 = .ok (.getfield 125, 3) := by decide +kernel
theorem d_X11_laysKnot_14 : decode prog_13_method_56_code 14 = .ok (.aload_n 0, 1) := by decide +kernel
theorem d_X11_laysKnot_15 : decode prog_13_method_56_code 15 = .ok (.getfield 300, 3) := by decide +kernel
theorem d_X11_laysKnot_18 : decode prog_13_method_56_code 18 = .ok (.iaload, 1) := by decide +kernel
theorem d_X11_laysKnot_19 : decode prog_13_method_56_code 19 = .ok (.istore_n 2, 1) := by decide +kernel
theorem d_X11_laysKnot_20 : decode prog_13_method_56_code 20 = .ok (.aload_n 0, 1) := by decide +kernel
theorem d_X11_laysKnot_21 : decode prog_13_method_56_code 21 = .ok (.getfield 62, 3) := by decide +kernel
theorem d_X11_laysKnot_24 : decode prog_13_method_56_code 24 = .ok (.iload_n 1, 1) := by decide +kernel
theorem d_X11_laysKnot_25 : decode prog_13_method_56_code 25 = .ok (.iaload, 1) := by decide +kernel
theorem d_X11_laysKnot_26 : decode prog_13_method_56_code 26 = .ok (.istore_n 3, 1) := by decide +kernel
theorem d_X11_laysKnot_27 : decode prog_13_method_56_code 27 = .ok (.iload_n 3, 1) := by decide +kernel
theorem d_X11_laysKnot_28 : decode prog_13_method_56_code 28 = .ok (.iconst 1, 1) := by decide +kernel
theorem d_X11_laysKnot_29 : decode prog_13_method_56_code 29 = .ok (.if_icmp .le 17, 3) := by decide +kernel
theorem d_X11_laysKnot_32 : decode prog_13_method_56_code 32 = .ok (.aload_n 0, 1) := by decide +kernel
theorem d_X11_laysKnot_33 : decode prog_13_method_56_code 33 = .ok (.iconst 4, 1) := by decide +kernel
theorem d_X11_laysKnot_34 : decode prog_13_method_56_code 34 = .ok (.iconst 0, 1) := by decide +kernel
theorem d_X11_laysKnot_35 : decode prog_13_method_56_code 35 = .ok (.iconst 0, 1) := by decide +kernel
theorem d_X11_laysKnot_36 : decode prog_13_method_56_code 36 = .ok (.iload_n 3, 1) := by decide +kernel
theorem d_X11_laysKnot_37 : decode prog_13_method_56_code 37 = .ok (.iload_n 2, 1) := by decide +kernel
theorem d_X11_laysKnot_38 : decode prog_13_method_56_code 38 = .ok (.imul, 1) := by decide +kernel
theorem d_X11_laysKnot_39 : decode prog_13_method_56_code 39 = .ok (.iload_n 1, 1) := by decide +kernel
theorem d_X11_laysKnot_40 : decode prog_13_method_56_code 40 = .ok (.invokevirtual 358, 3) := by decide +kernel
theorem d_X11_laysKnot_43 : decode prog_13_method_56_code 43 = .ok (.goto 17, 3) := by decide +kernel
theorem d_X11_laysKnot_46 : decode prog_13_method_56_code 46 = .ok (.iload_n 3, 1) := by decide +kernel
theorem d_X11_laysKnot_47 : decode prog_13_method_56_code 47 = .ok (.iconst 1, 1) := by decide +kernel
theorem d_X11_laysKnot_48 : decode prog_13_method_56_code 48 = .ok (.if_icmp .ne 12, 3) := by decide +kernel
theorem d_X11_laysKnot_51 : decode prog_13_method_56_code 51 = .ok (.aload_n 0, 1) := by decide +kernel
theorem d_X11_laysKnot_52 : decode prog_13_method_56_code 52 = .ok (.iconst 1, 1) := by decide +kernel
theorem d_X11_laysKnot_53 : decode prog_13_method_56_code 53 = .ok (.iload_n 2, 1) := by decide +kernel
theorem d_X11_laysKnot_54 : decode prog_13_method_56_code 54 = .ok (.iconst 1, 1) := by decide +kernel
theorem d_X11_laysKnot_55 : decode prog_13_method_56_code 55 = .ok (.iload_n 2, 1) := by decide +kernel
theorem d_X11_laysKnot_56 : decode prog_13_method_56_code 56 = .ok (.iload_n 1, 1) := by decide +kernel
theorem d_X11_laysKnot_57 : decode prog_13_method_56_code 57 = .ok (.invokevirtual 358, 3) := by decide +kernel
theorem d_X11_laysKnot_60 : decode prog_13_method_56_code 60 = .ok (.aload_n 0, 1) := by decide +kernel
theorem d_X11_laysKnot_61 : decode prog_13_method_56_code 61 = .ok (.iload_n 1, 1) := by decide +kernel
theorem d_X11_laysKnot_62 : decode prog_13_method_56_code 62 = .ok (.invokevirtual 362, 3) := by decide +kernel
theorem d_X11_laysKnot_65 : decode prog_13_method_56_code 65 = .ok (.return_, 1) := by decide +kernel
def f_X11_laysKnot_60 (x1 : Int) (M0 : tp_M) : Option (tp_M) :=
  (f_X11_laysSides x1 M0).bind fun r9 =>
  some r9
set_option maxHeartbeats 4000000 in
set_option maxRecDepth 100000 in
theorem T_X11_laysKnot_60 (G : tp_G) (x1 : Int) (M0 : tp_M) : tp_J i_X11_laysKnot (tp_rm 6) G 0 0 o_X11_laysKnot tp_NC (tp_st M0) 0 0 [some (.inr (.inr 483)), some (.inl x1), none, none] 60 [] (f_X11_laysKnot_60 x1 M0) := by
  unfold f_X11_laysKnot_60
  refine j_aload_n rfl d_X11_laysKnot_60 rfl ?_
  refine j_iload_n rfl d_X11_laysKnot_61 rfl ?_
  refine j_bind (fun r9 h10 => ?_)
  refine j_callV (y := y_X11_laysSides) (I' := i_X11_laysSides) (avs := [.inl x1]) (c := 483) (st := []) (c_X11_laysSides G x1 M0 r9 h10) cs_Model_362 wd_1444 wd_1446 ws_72 tg_483 rfl rfl rfl (Nat.le_of_ble_eq_true rfl) ⟨rfl, rfl⟩ ⟨by decide, by decide⟩ ⟨by decide, by decide⟩ d_X11_laysKnot_62 ?_
  exact j_vret d_X11_laysKnot_65 rfl rfl ⟨rfl, rfl⟩
def f_X11_laysKnot (a0 : Int) (M0 : tp_M) : Option (tp_M) :=
  (f_X11_takesKnot a0 M0).bind fun r1 =>
  (f_X11_laysPoints a0 r1).bind fun r3 =>
  if 0 ≤ (r3 483 49) ∧ (r3 483 49) < 8 then
    tp_lt ((r3 522 (r3 483 49))) fun y5 =>
    if 0 ≤ a0 ∧ a0 < 40 then
      tp_lt ((r3 501 a0)) fun y6 =>
      if y6 ≤ 1 then
        if ¬ y6 = 1 then
          f_X11_laysKnot_60 a0 r3
        else
          (f_X11_addsLeaf 1 y5 1 y5 a0 r3).bind fun r11 =>
          f_X11_laysKnot_60 a0 r11
      else
        (f_X11_addsLeaf 4 0 0 (tp_w (y6 * y5)) a0 r3).bind fun r13 =>
        f_X11_laysKnot_60 a0 r13 else none else none
set_option maxHeartbeats 4000000 in
set_option maxRecDepth 100000 in
theorem T_X11_laysKnot (G : tp_G) (a0 : Int) (M0 : tp_M) : tp_J i_X11_laysKnot (tp_rm 6) G 0 0 o_X11_laysKnot tp_NC (tp_st M0) 0 0 [some (.inr (.inr 483)), some (.inl a0), none, none] 0 [] (f_X11_laysKnot a0 M0) := by
  unfold f_X11_laysKnot
  refine j_aload_n rfl d_X11_laysKnot_0 rfl ?_
  refine j_iload_n rfl d_X11_laysKnot_1 rfl ?_
  refine j_bind (fun r1 h2 => ?_)
  refine j_callV (y := y_X11_takesKnot) (I' := i_X11_takesKnot) (avs := [.inl a0]) (c := 483) (st := []) (c_X11_takesKnot G a0 M0 r1 h2) cs_Model_352 wd_1416 wd_1418 ws_65 tg_483 rfl rfl rfl (Nat.le_of_ble_eq_true rfl) ⟨rfl, rfl⟩ ⟨by decide, by decide⟩ ⟨by decide, by decide⟩ d_X11_laysKnot_2 ?_
  refine j_aload_n rfl d_X11_laysKnot_5 rfl ?_
  refine j_iload_n rfl d_X11_laysKnot_6 rfl ?_
  refine j_bind (fun r3 h4 => ?_)
  refine j_callV (y := y_X11_laysPoints) (I' := i_X11_laysPoints) (avs := [.inl a0]) (c := 483) (st := []) (c_X11_laysPoints G a0 r1 r3 h4) cs_Model_355 wd_1420 wd_1422 ws_66 tg_483 rfl rfl rfl (Nat.le_of_ble_eq_true rfl) ⟨rfl, rfl⟩ ⟨by decide, by decide⟩ ⟨by decide, by decide⟩ d_X11_laysKnot_7 ?_
  refine j_aload_n rfl d_X11_laysKnot_10 rfl ?_
  refine j_getr fl_Model_125 tg_483 rv_483_51 d_X11_laysKnot_11 ?_
  refine j_aload_n rfl d_X11_laysKnot_14 rfl ?_
  refine j_geti fl_Model_300 tg_483 d_X11_laysKnot_15 ?_
  refine j_iald tg_522 al_522 d_X11_laysKnot_18 ?_
  refine j_nmI (fun y5 hy5 => ?_)
  refine j_istore_n (lv' := [some (.inr (.inr 483)), some (.inl a0), some (.inl y5), none]) rfl d_X11_laysKnot_19 (Nat.le_of_ble_eq_true rfl) rfl ?_
  refine j_aload_n rfl d_X11_laysKnot_20 rfl ?_
  refine j_getr fl_Model_62 tg_483 rv_483_29 d_X11_laysKnot_21 ?_
  refine j_iload_n rfl d_X11_laysKnot_24 rfl ?_
  refine j_iald tg_501 al_501 d_X11_laysKnot_25 ?_
  refine j_nmI (fun y6 hy6 => ?_)
  refine j_istore_n (lv' := [some (.inr (.inr 483)), some (.inl a0), some (.inl y5), some (.inl y6)]) rfl d_X11_laysKnot_26 (Nat.le_of_ble_eq_true rfl) rfl ?_
  refine j_iload_n rfl d_X11_laysKnot_27 rfl ?_
  refine j_iconst ⟨by decide, by decide⟩ d_X11_laysKnot_28 ?_
  refine j_icmp_le (tgt := 46) d_X11_laysKnot_29 (by decide) (fun h7 => ?_) (fun h7 => ?_)
  · refine j_iload_n rfl d_X11_laysKnot_46 rfl ?_
    refine j_iconst ⟨by decide, by decide⟩ d_X11_laysKnot_47 ?_
    refine j_icmp_ne (tgt := 60) d_X11_laysKnot_48 (by decide) (fun h8 => ?_) (fun h8 => ?_)
    · exact j_wk [true, true, false, false] rfl rfl (T_X11_laysKnot_60 G a0 r3)
    · refine j_aload_n rfl d_X11_laysKnot_51 rfl ?_
      refine j_iconst ⟨by decide, by decide⟩ d_X11_laysKnot_52 ?_
      refine j_iload_n rfl d_X11_laysKnot_53 rfl ?_
      refine j_iconst ⟨by decide, by decide⟩ d_X11_laysKnot_54 ?_
      refine j_iload_n rfl d_X11_laysKnot_55 rfl ?_
      refine j_iload_n rfl d_X11_laysKnot_56 rfl ?_
      refine j_bind (fun r11 h12 => ?_)
      refine j_callV (y := y_X11_addsLeaf) (I' := i_X11_addsLeaf) (avs := [.inl 1, .inl y5, .inl 1, .inl y5, .inl a0]) (c := 483) (st := []) (c_X11_addsLeaf G 1 y5 1 y5 a0 r3 r11 h12) cs_Model_358 wd_1396 wd_1398 ws_60 tg_483 rfl rfl rfl (Nat.le_of_ble_eq_true rfl) ⟨rfl, rfl⟩ ⟨by decide, by decide⟩ ⟨by decide, by decide⟩ d_X11_laysKnot_57 ?_
      exact j_wk [true, true, false, false] rfl rfl (T_X11_laysKnot_60 G a0 r11)
  · refine j_aload_n rfl d_X11_laysKnot_32 rfl ?_
    refine j_iconst ⟨by decide, by decide⟩ d_X11_laysKnot_33 ?_
    refine j_iconst ⟨by decide, by decide⟩ d_X11_laysKnot_34 ?_
    refine j_iconst ⟨by decide, by decide⟩ d_X11_laysKnot_35 ?_
    refine j_iload_n rfl d_X11_laysKnot_36 rfl ?_
    refine j_iload_n rfl d_X11_laysKnot_37 rfl ?_
    refine j_imul d_X11_laysKnot_38 ?_
    refine j_iload_n rfl d_X11_laysKnot_39 rfl ?_
    refine j_bind (fun r13 h14 => ?_)
    refine j_callV (y := y_X11_addsLeaf) (I' := i_X11_addsLeaf) (avs := [.inl 4, .inl 0, .inl 0, .inl (tp_w (y6 * y5)), .inl a0]) (c := 483) (st := []) (c_X11_addsLeaf G 4 0 0 (tp_w (y6 * y5)) a0 r3 r13 h14) cs_Model_358 wd_1396 wd_1398 ws_60 tg_483 rfl rfl rfl (Nat.le_of_ble_eq_true rfl) ⟨rfl, rfl⟩ ⟨by decide, by decide⟩ ⟨by decide, by decide⟩ d_X11_laysKnot_40 ?_
    refine j_goto (tgt := 60) d_X11_laysKnot_43 (by decide) ?_
    exact j_wk [true, true, false, false] rfl rfl (T_X11_laysKnot_60 G a0 r13)
set_option maxHeartbeats 4000000 in
set_option maxRecDepth 100000 in
theorem c_X11_laysKnot (G : tp_G) (a0 : Int) (M0 : tp_M) (r : tp_M) (h : f_X11_laysKnot a0 M0 = some r) (l : Launch) : Met l y_X11_laysKnot (tp_ws y_X11_laysKnot i_X11_laysKnot) (tp_rm 6) (tp_Pc G [.inr (.inr 483), .inl a0] tp_NC (tp_st M0)) (tp_Q G (o_X11_laysKnot r)) 0 0 (tp_A G) :=
  tp_met (I := i_X11_laysKnot) (y := y_X11_laysKnot) (by decide +kernel) (Eq.refl "TypesAtPrimeModel") (Eq.refl "laysKnot") (lv := [some (.inr (.inr 483)), some (.inl a0), none, none]) rfl (Nat.le_of_ble_eq_true rfl) (T_X11_laysKnot G a0 M0) h l
theorem wd_1085 : (.fieldLink "TypesAtPrimeModel" 140 "TypesAtPrimeModel" "product" "[J" : Cond) ∈ lw_tbl := List.mem_append_right _ (List.mem_of_getElem? (i := 1085) (by decide +kernel))
theorem fl_Model_140 : tp_F "TypesAtPrimeModel" 140 11 57 2 := ⟨_, _, _, rfl, by decide, rfl, wd_1085, rfl, by decide⟩
theorem tg_527 : tp_tg 527 = 22 := by decide +kernel
theorem al_527 : tp_al 527 = 9 := by decide +kernel
theorem rv_483_57 : tp_rv 483 57 = 527 := by decide +kernel
def y_X11_multiplies : MethodName := ⟨"TypesAtPrimeModel", "multiplies", "(I)V"⟩
abbrev i_X11_multiplies : tp_I := (prog_13_method_57_code, "TypesAtPrimeModel", none, 6, "multiplies")
abbrev o_X11_multiplies : tp_M → tp_O := fun r => (none, tp_NC, tp_st r)
theorem d_X11_multiplies_0 : decode prog_13_method_57_code 0 = .ok (.bipush 8, 2) := by decide +kernel
theorem d_X11_multiplies_2 : decode prog_13_method_57_code 2 = .ok (.istore_n 2, 1) := by decide +kernel
theorem d_X11_multiplies_3 : decode prog_13_method_57_code 3 = .ok (.iload_n 2, 1) := by decide +kernel
theorem d_X11_multiplies_4 : decode prog_13_method_57_code 4 = .ok (.ifCond .lt 59, 3) := by decide +kernel
theorem d_X11_multiplies_7 : decode prog_13_method_57_code 7 = .ok (.lconst 0, 1) := by decide +kernel
theorem d_X11_multiplies_8 : decode prog_13_method_57_code 8 = .ok (.lstore_n 3, 1) := by decide +kernel
theorem d_X11_multiplies_9 : decode prog_13_method_57_code 9 = .ok (.iconst 0, 1) := by decide +kernel
theorem d_X11_multiplies_10 : decode prog_13_method_57_code 10 = .ok (.istore 5, 2) := by decide +kernel
theorem d_X11_multiplies_12 : decode prog_13_method_57_code 12 = .ok (.iload 5, 2) := by decide +kernel
theorem d_X11_multiplies_14 : decode prog_13_method_57_code 14 = .ok (.iload_n 2, 1) := by decide +kernel
theorem d_X11_multiplies_15 : decode prog_13_method_57_code 15 = .ok (.if_icmp .gt 35, 3) := by decide +kernel
theorem d_X11_multiplies_18 : decode prog_13_method_57_code 18 = .ok (.aload_n 0, 1) := by decide +kernel
theorem d_X11_multiplies_19 : decode prog_13_method_57_code 19 = .ok (.lload_n 3, 1) := by decide +kernel
theorem d_X11_multiplies_20 : decode prog_13_method_57_code 20 = .ok (.aload_n 0, 1) := by decide +kernel
theorem d_X11_multiplies_21 : decode prog_13_method_57_code 21 = .ok (.getfield 140, 3) := by decide +kernel
theorem d_X11_multiplies_24 : decode prog_13_method_57_code 24 = .ok (.iload 5, 2) := by decide +kernel
theorem d_X11_multiplies_26 : decode prog_13_method_57_code 26 = .ok (.laload, 1) := by decide +kernel
theorem d_X11_multiplies_27 : decode prog_13_method_57_code 27 = .ok (.aload_n 0, 1) := by decide +kernel
theorem d_X11_multiplies_28 : decode prog_13_method_57_code 28 = .ok (.getfield 23, 3) := by decide +kernel
theorem d_X11_multiplies_31 : decode prog_13_method_57_code 31 = .ok (.iload_n 1, 1) := by decide +kernel
theorem d_X11_multiplies_32 : decode prog_13_method_57_code 32 = .ok (.iload_n 2, 1) := by decide +kernel
theorem d_X11_multiplies_33 : decode prog_13_method_57_code 33 = .ok (.iadd, 1) := by decide +kernel
theorem d_X11_multiplies_34 : decode prog_13_method_57_code 34 = .ok (.iload 5, 2) := by decide +kernel
theorem d_X11_multiplies_36 : decode prog_13_method_57_code 36 = .ok (.isub, 1) := by decide +kernel
theorem d_X11_multiplies_37 : decode prog_13_method_57_code 37 = .ok (.laload, 1) := by decide +kernel
theorem d_X11_multiplies_38 : decode prog_13_method_57_code 38 = .ok (.lmul, 1) := by decide +kernel
theorem d_X11_multiplies_39 : decode prog_13_method_57_code 39 = .ok (.ladd, 1) := by decide +kernel
theorem d_X11_multiplies_40 : decode prog_13_method_57_code 40 = .ok (.invokevirtual 257, 3) := by decide +kernel
theorem d_X11_multiplies_43 : decode prog_13_method_57_code 43 = .ok (.lstore_n 3, 1) := by decide +kernel
theorem d_X11_multiplies_44 : decode prog_13_method_57_code 44 = .ok (.iinc 5 1, 3) := by decide +kernel
theorem d_X11_multiplies_47 : decode prog_13_method_57_code 47 = .ok (.goto (-35), 3) := by decide +kernel
theorem d_X11_multiplies_50 : decode prog_13_method_57_code 50 = .ok (.aload_n 0, 1) := by decide +kernel
theorem d_X11_multiplies_51 : decode prog_13_method_57_code 51 = .ok (.getfield 140, 3) := by decide +kernel
theorem d_X11_multiplies_54 : decode prog_13_method_57_code 54 = .ok (.iload_n 2, 1) := by decide +kernel
theorem d_X11_multiplies_55 : decode prog_13_method_57_code 55 = .ok (.lload_n 3, 1) := by decide +kernel
theorem d_X11_multiplies_56 : decode prog_13_method_57_code 56 = .ok (.lastore, 1) := by decide +kernel
theorem d_X11_multiplies_57 : decode prog_13_method_57_code 57 = .ok (.iinc 2 (-1), 3) := by decide +kernel
theorem d_X11_multiplies_60 : decode prog_13_method_57_code 60 = .ok (.goto (-57), 3) := by decide +kernel
theorem d_X11_multiplies_63 : decode prog_13_method_57_code 63 = .ok (.return_, 1) := by decide +kernel
def f_X11_multiplies_12B (rec_3 : Int → tp_M → Option (tp_M)) (x1 : Int) (x2 : Int) (M0 : tp_M) (rec_12 : Int → Int → Option (tp_M)) (x3 : Int) (x5 : Int) : Option (tp_M) :=
  if x2 < x5 then
    if 0 ≤ x2 ∧ x2 < 9 then
      tp_mp (tp_up M0 527 x2 x3) fun M3 =>
      tp_lt (tp_w (x2 + (-1))) fun y4 =>
      rec_3 y4 M3 else none
  else
    if 0 ≤ x5 ∧ x5 < 9 then
      if 0 ≤ (tp_w ((tp_w (x1 + x2)) - x5)) ∧ (tp_w ((tp_w (x1 + x2)) - x5)) < 369 then
        (f_X11_number (tp_wl (x3 + (tp_wl ((M0 527 x5) * (M0 488 (tp_w ((tp_w (x1 + x2)) - x5))))))) M0).bind fun r5 =>
        tp_lt (tp_w (x5 + 1)) fun y7 =>
        rec_12 r5 y7 else none else none
set_option maxHeartbeats 4000000 in
set_option maxRecDepth 100000 in
theorem T_X11_multiplies_12B (G : tp_G) (rec_3 : Int → tp_M → Option (tp_M)) (x1 : Int) (x2 : Int) (M0 : tp_M) (hrec_3 : ∀ (x2' : Int) (M' : tp_M), tp_J i_X11_multiplies (tp_rm 1) G 0 0 o_X11_multiplies tp_NC (tp_st M') 0 0 [some (.inr (.inr 483)), some (.inl x1), some (.inl (x2')), none, none, none] 3 [] (rec_3 x2' M')) (rec_12 : Int → Int → Option (tp_M)) (hrec_12 : ∀ (x3' x5' : Int), tp_J i_X11_multiplies (tp_rm 1) G 0 0 o_X11_multiplies tp_NC (tp_st M0) 0 0 [some (.inr (.inr 483)), some (.inl x1), some (.inl x2), some (.inr (.inl (x3'))), none, some (.inl (x5'))] 12 [] (rec_12 x3' x5')) (x3 : Int) (x5 : Int) : tp_J i_X11_multiplies (tp_rm 1) G 0 0 o_X11_multiplies tp_NC (tp_st M0) 0 0 [some (.inr (.inr 483)), some (.inl x1), some (.inl x2), some (.inr (.inl x3)), none, some (.inl x5)] 12 [] (f_X11_multiplies_12B rec_3 x1 x2 M0 rec_12 x3 x5) := by
  unfold f_X11_multiplies_12B
  refine j_iload d_X11_multiplies_12 rfl ?_
  refine j_iload_n rfl d_X11_multiplies_14 rfl ?_
  refine j_icmp_gt (tgt := 50) d_X11_multiplies_15 (by decide) (fun h2 => ?_) (fun h2 => ?_)
  · refine j_aload_n rfl d_X11_multiplies_50 rfl ?_
    refine j_getr fl_Model_140 tg_483 rv_483_57 d_X11_multiplies_51 ?_
    refine j_iload_n rfl d_X11_multiplies_54 rfl ?_
    refine j_lload_n rfl d_X11_multiplies_55 rfl ?_
    refine j_last tg_527 al_527 d_X11_multiplies_56 (fun M3 hM3 => ?_)
    refine j_iincN (lv' := fun y4 => [some (.inr (.inr 483)), some (.inl x1), some (.inl y4), some (.inr (.inl x3)), none, some (.inl x5)]) d_X11_multiplies_57 rfl (Nat.le_of_ble_eq_true rfl) (fun _ => rfl) (fun y4 hy4 => ?_)
    refine j_goto (tgt := 3) d_X11_multiplies_60 (by decide) ?_
    exact j_wk [true, true, true, false, false, false] rfl rfl (hrec_3 y4 M3)
  · refine j_aload_n rfl d_X11_multiplies_18 rfl ?_
    refine j_lload_n rfl d_X11_multiplies_19 rfl ?_
    refine j_aload_n rfl d_X11_multiplies_20 rfl ?_
    refine j_getr fl_Model_140 tg_483 rv_483_57 d_X11_multiplies_21 ?_
    refine j_iload d_X11_multiplies_24 rfl ?_
    refine j_lald tg_527 al_527 d_X11_multiplies_26 ?_
    refine j_aload_n rfl d_X11_multiplies_27 rfl ?_
    refine j_getr fl_Model_23 tg_483 rv_483_9 d_X11_multiplies_28 ?_
    refine j_iload_n rfl d_X11_multiplies_31 rfl ?_
    refine j_iload_n rfl d_X11_multiplies_32 rfl ?_
    refine j_iadd d_X11_multiplies_33 ?_
    refine j_iload d_X11_multiplies_34 rfl ?_
    refine j_isub d_X11_multiplies_36 ?_
    refine j_lald tg_488 al_488 d_X11_multiplies_37 ?_
    refine j_lmul d_X11_multiplies_38 ?_
    refine j_ladd d_X11_multiplies_39 ?_
    refine j_bind (fun r5 h6 => ?_)
    refine j_callV (y := y_X11_number) (I' := i_X11_number) (avs := [.inr (.inl (tp_wl (x3 + (tp_wl ((M0 527 x5) * (M0 488 (tp_w ((tp_w (x1 + x2)) - x5))))))))]) (c := 483) (st := []) (c_X11_number G (tp_wl (x3 + (tp_wl ((M0 527 x5) * (M0 488 (tp_w ((tp_w (x1 + x2)) - x5))))))) M0 r5 h6) cs_Model_257 wd_1338 wd_1340 ws_48 tg_483 rfl rfl rfl (Nat.le_of_ble_eq_true rfl) ⟨rfl, rfl⟩ ⟨by decide, by decide⟩ ⟨by decide, by decide⟩ d_X11_multiplies_40 ?_
    refine j_lstore_n (lv' := [some (.inr (.inr 483)), some (.inl x1), some (.inl x2), some (.inr (.inl r5)), none, some (.inl x5)]) rfl d_X11_multiplies_43 (Nat.le_of_ble_eq_true rfl) rfl ?_
    refine j_iincN (lv' := fun y7 => [some (.inr (.inr 483)), some (.inl x1), some (.inl x2), some (.inr (.inl r5)), none, some (.inl y7)]) d_X11_multiplies_44 rfl (Nat.le_of_ble_eq_true rfl) (fun _ => rfl) (fun y7 hy7 => ?_)
    refine j_goto (tgt := 12) d_X11_multiplies_47 (by decide) ?_
    exact j_wk [true, true, true, true, false, true] rfl rfl (hrec_12 r5 y7)
def f_X11_multiplies_12 (rec_3 : Int → tp_M → Option (tp_M)) (x1 : Int) (x2 : Int) (x3 : Int) (x5 : Int) (M0 : tp_M) : Option (tp_M) := tp_lp (σ := Int × Int) (fun rec_ u => f_X11_multiplies_12B rec_3 x1 x2 M0 (fun x3' x5' => rec_ (x3', x5')) u.1 u.2) tp_N (x3, x5)
set_option maxHeartbeats 4000000 in
set_option maxRecDepth 100000 in
theorem T_X11_multiplies_12 (G : tp_G) (rec_3 : Int → tp_M → Option (tp_M)) (x1 : Int) (x2 : Int) (x3 : Int) (x5 : Int) (M0 : tp_M) (hrec_3 : ∀ (x2' : Int) (M' : tp_M), tp_J i_X11_multiplies (tp_rm 1) G 0 0 o_X11_multiplies tp_NC (tp_st M') 0 0 [some (.inr (.inr 483)), some (.inl x1), some (.inl (x2')), none, none, none] 3 [] (rec_3 x2' M')) : tp_J i_X11_multiplies (tp_rm 1) G 0 0 o_X11_multiplies tp_NC (tp_st M0) 0 0 [some (.inr (.inr 483)), some (.inl x1), some (.inl x2), some (.inr (.inl x3)), none, some (.inl x5)] 12 [] (f_X11_multiplies_12 rec_3 x1 x2 x3 x5 M0) := by
  unfold f_X11_multiplies_12
  exact j_lp (σ := Int × Int) (n' := fun _ => tp_NC) (g' := fun u => tp_st M0) (k' := fun _ => 0) (q' := fun _ => 0) (lv' := fun u => [some (.inr (.inr 483)), some (.inl x1), some (.inl x2), some (.inr (.inl u.1)), none, some (.inl u.2)]) (fun rec_ hrec u => T_X11_multiplies_12B G rec_3 x1 x2 M0 hrec_3 (fun x3' x5' => rec_ (x3', x5')) (fun x3' x5' => hrec (x3', x5')) u.1 u.2) tp_N (x3, x5)
def f_X11_multiplies_3B (x1 : Int) (rec_3 : Int → tp_M → Option (tp_M)) (x2 : Int) (M0 : tp_M) : Option (tp_M) :=
  if x2 < 0 then
    some M0
  else
    f_X11_multiplies_12 rec_3 x1 x2 0 0 M0
set_option maxHeartbeats 4000000 in
set_option maxRecDepth 100000 in
theorem T_X11_multiplies_3B (G : tp_G) (x1 : Int) (rec_3 : Int → tp_M → Option (tp_M)) (hrec_3 : ∀ (x2' : Int) (M' : tp_M), tp_J i_X11_multiplies (tp_rm 1) G 0 0 o_X11_multiplies tp_NC (tp_st M') 0 0 [some (.inr (.inr 483)), some (.inl x1), some (.inl (x2')), none, none, none] 3 [] (rec_3 x2' M')) (x2 : Int) (M0 : tp_M) : tp_J i_X11_multiplies (tp_rm 1) G 0 0 o_X11_multiplies tp_NC (tp_st M0) 0 0 [some (.inr (.inr 483)), some (.inl x1), some (.inl x2), none, none, none] 3 [] (f_X11_multiplies_3B x1 rec_3 x2 M0) := by
  unfold f_X11_multiplies_3B
  refine j_iload_n rfl d_X11_multiplies_3 rfl ?_
  refine j_if_lt (tgt := 63) d_X11_multiplies_4 (by decide) (fun h1 => ?_) (fun h1 => ?_)
  · exact j_vret d_X11_multiplies_63 rfl rfl ⟨rfl, rfl⟩
  · refine j_lconst (x := 0) ⟨by decide, by decide⟩ (by decide +kernel) d_X11_multiplies_7 ?_
    refine j_lstore_n (lv' := [some (.inr (.inr 483)), some (.inl x1), some (.inl x2), some (.inr (.inl 0)), none, none]) rfl d_X11_multiplies_8 (Nat.le_of_ble_eq_true rfl) rfl ?_
    refine j_iconst ⟨by decide, by decide⟩ d_X11_multiplies_9 ?_
    refine j_istore (lv' := [some (.inr (.inr 483)), some (.inl x1), some (.inl x2), some (.inr (.inl 0)), none, some (.inl 0)]) d_X11_multiplies_10 (Nat.le_of_ble_eq_true rfl) rfl ?_
    exact j_wk [true, true, true, true, false, true] rfl rfl (T_X11_multiplies_12 G rec_3 x1 x2 0 0 M0 hrec_3)
def f_X11_multiplies_3 (x1 : Int) (x2 : Int) (M0 : tp_M) : Option (tp_M) := tp_lp (σ := Int × tp_M) (fun rec_ u => f_X11_multiplies_3B x1 (fun x2' M0' => rec_ (x2', M0')) u.1 u.2) tp_N (x2, M0)
set_option maxHeartbeats 4000000 in
set_option maxRecDepth 100000 in
theorem T_X11_multiplies_3 (G : tp_G) (x1 : Int) (x2 : Int) (M0 : tp_M) : tp_J i_X11_multiplies (tp_rm 1) G 0 0 o_X11_multiplies tp_NC (tp_st M0) 0 0 [some (.inr (.inr 483)), some (.inl x1), some (.inl x2), none, none, none] 3 [] (f_X11_multiplies_3 x1 x2 M0) := by
  unfold f_X11_multiplies_3
  exact j_lp (σ := Int × tp_M) (n' := fun _ => tp_NC) (g' := fun u => tp_st u.2) (k' := fun _ => 0) (q' := fun _ => 0) (lv' := fun u => [some (.inr (.inr 483)), some (.inl x1), some (.inl u.1), none, none, none]) (fun rec_ hrec u => T_X11_multiplies_3B G x1 (fun x2' M0' => rec_ (x2', M0')) (fun x2' M0' => hrec (x2', M0')) u.1 u.2) tp_N (x2, M0)
def f_X11_multiplies (a0 : Int) (M0 : tp_M) : Option (tp_M) :=
  f_X11_multiplies_3 a0 8 M0
set_option maxHeartbeats 4000000 in
set_option maxRecDepth 100000 in
theorem T_X11_multiplies (G : tp_G) (a0 : Int) (M0 : tp_M) : tp_J i_X11_multiplies (tp_rm 1) G 0 0 o_X11_multiplies tp_NC (tp_st M0) 0 0 [some (.inr (.inr 483)), some (.inl a0), none, none, none, none] 0 [] (f_X11_multiplies a0 M0) := by
  unfold f_X11_multiplies
  refine j_bipush ⟨by decide, by decide⟩ (by decide +kernel) d_X11_multiplies_0 ?_
  refine j_istore_n (lv' := [some (.inr (.inr 483)), some (.inl a0), some (.inl 8), none, none, none]) rfl d_X11_multiplies_2 (Nat.le_of_ble_eq_true rfl) rfl ?_
  exact j_wk [true, true, true, false, false, false] rfl rfl (T_X11_multiplies_3 G a0 8 M0)
set_option maxHeartbeats 4000000 in
set_option maxRecDepth 100000 in
theorem c_X11_multiplies (G : tp_G) (a0 : Int) (M0 : tp_M) (r : tp_M) (h : f_X11_multiplies a0 M0 = some r) (l : Launch) : Met l y_X11_multiplies (tp_ws y_X11_multiplies i_X11_multiplies) (tp_rm 1) (tp_Pc G [.inr (.inr 483), .inl a0] tp_NC (tp_st M0)) (tp_Q G (o_X11_multiplies r)) 0 0 (tp_A G) :=
  tp_met (I := i_X11_multiplies) (y := y_X11_multiplies) (by decide +kernel) (Eq.refl "TypesAtPrimeModel") (Eq.refl "multiplies") (lv := [some (.inr (.inr 483)), some (.inl a0), none, none, none, none]) rfl (Nat.le_of_ble_eq_true rfl) (T_X11_multiplies G a0 M0) h l
def y_X11_begins : MethodName := ⟨"TypesAtPrimeModel", "begins", "(J)V"⟩
abbrev i_X11_begins : tp_I := (prog_13_method_58_code, "TypesAtPrimeModel", none, 4, "begins")
abbrev o_X11_begins : tp_M → tp_O := fun r => (none, tp_NC, tp_st r)
theorem d_X11_begins_0 : decode prog_13_method_58_code 0 = .ok (.iconst 0, 1) := by decide +kernel
theorem d_X11_begins_1 : decode prog_13_method_58_code 1 = .ok (.istore_n 3, 1) := by decide +kernel
theorem d_X11_begins_2 : decode prog_13_method_58_code 2 = .ok (.iload_n 3, 1) := by decide +kernel
theorem d_X11_begins_3 : decode prog_13_method_58_code 3 = .ok (.bipush 9, 2) := by decide +kernel
theorem d_X11_begins_5 : decode prog_13_method_58_code 5 = .ok (.if_icmp .ge 28, 3) := by decide +kernel
theorem d_X11_begins_8 : decode prog_13_method_58_code 8 = .ok (.aload_n 0, 1) := by decide +kernel
theorem d_X11_begins_9 : decode prog_13_method_58_code 9 = .ok (.getfield 140, 3) := by decide +kernel
theorem d_X11_begins_12 : decode prog_13_method_58_code 12 = .ok (.iload_n 3, 1) := by decide +kernel
theorem d_X11_begins_13 : decode prog_13_method_58_code 13 = .ok (.iload_n 3, 1) := by decide +kernel
theorem d_X11_begins_14 : decode prog_13_method_58_code 14 = .ok (.ifCond .ne 11, 3) := by decide +kernel
theorem d_X11_begins_17 : decode prog_13_method_58_code 17 = .ok (.aload_n 0, 1) := by decide +kernel
theorem d_X11_begins_18 : decode prog_13_method_58_code 18 = .ok (.lload_n 1, 1) := by decide +kernel
theorem d_X11_begins_19 : decode prog_13_method_58_code 19 = .ok (.invokevirtual 257, 3) := by decide +kernel
theorem d_X11_begins_22 : decode prog_13_method_58_code 22 = .ok (.goto 4, 3) := by decide +kernel
theorem d_X11_begins_25 : decode prog_13_method_58_code 25 = .ok (.lconst 0, 1) := by decide +kernel
theorem d_X11_begins_26 : decode prog_13_method_58_code 26 = .ok (.lastore, 1) := by decide +kernel
theorem d_X11_begins_27 : decode prog_13_method_58_code 27 = .ok (.iinc 3 1, 3) := by decide +kernel
theorem d_X11_begins_30 : decode prog_13_method_58_code 30 = .ok (.goto (-28), 3) := by decide +kernel
theorem d_X11_begins_33 : decode prog_13_method_58_code 33 = .ok (.return_, 1) := by decide +kernel
def f_X11_begins_26 (rec_2 : Int → tp_M → Option (tp_M)) (x1 : Int) (x3 : Int) (s0 : Int) (s1 : Int) (M0 : tp_M) : Option (tp_M) :=
  if 0 ≤ s1 ∧ s1 < 9 then
    tp_mp (tp_up M0 527 s1 s0) fun M3 =>
    tp_lt (tp_w (x3 + 1)) fun y4 =>
    rec_2 y4 M3 else none
set_option maxHeartbeats 4000000 in
set_option maxRecDepth 100000 in
theorem T_X11_begins_26 (G : tp_G) (rec_2 : Int → tp_M → Option (tp_M)) (x1 : Int) (x3 : Int) (s0 : Int) (s1 : Int) (M0 : tp_M) (hrec_2 : ∀ (x3' : Int) (M' : tp_M), tp_J i_X11_begins (tp_rm 1) G 0 0 o_X11_begins tp_NC (tp_st M') 0 0 [some (.inr (.inr 483)), some (.inr (.inl x1)), none, some (.inl (x3'))] 2 [] (rec_2 x3' M')) : tp_J i_X11_begins (tp_rm 1) G 0 0 o_X11_begins tp_NC (tp_st M0) 0 0 [some (.inr (.inr 483)), some (.inr (.inl x1)), none, some (.inl x3)] 26 [.inr (.inl s0), .inl s1, .inr (.inr 527)] (f_X11_begins_26 rec_2 x1 x3 s0 s1 M0) := by
  unfold f_X11_begins_26
  refine j_last tg_527 al_527 d_X11_begins_26 (fun M3 hM3 => ?_)
  refine j_iincN (lv' := fun y4 => [some (.inr (.inr 483)), some (.inr (.inl x1)), none, some (.inl y4)]) d_X11_begins_27 rfl (Nat.le_of_ble_eq_true rfl) (fun _ => rfl) (fun y4 hy4 => ?_)
  refine j_goto (tgt := 2) d_X11_begins_30 (by decide) ?_
  exact j_wk [true, true, false, true] rfl rfl (hrec_2 y4 M3)
def f_X11_begins_2B (x1 : Int) (rec_2 : Int → tp_M → Option (tp_M)) (x3 : Int) (M0 : tp_M) : Option (tp_M) :=
  if 9 ≤ x3 then
    some M0
  else
    if ¬ x3 = 0 then
      f_X11_begins_26 rec_2 x1 x3 0 x3 M0
    else
      (f_X11_number x1 M0).bind fun r5 =>
      f_X11_begins_26 rec_2 x1 x3 r5 x3 M0
set_option maxHeartbeats 4000000 in
set_option maxRecDepth 100000 in
theorem T_X11_begins_2B (G : tp_G) (x1 : Int) (rec_2 : Int → tp_M → Option (tp_M)) (hrec_2 : ∀ (x3' : Int) (M' : tp_M), tp_J i_X11_begins (tp_rm 1) G 0 0 o_X11_begins tp_NC (tp_st M') 0 0 [some (.inr (.inr 483)), some (.inr (.inl x1)), none, some (.inl (x3'))] 2 [] (rec_2 x3' M')) (x3 : Int) (M0 : tp_M) : tp_J i_X11_begins (tp_rm 1) G 0 0 o_X11_begins tp_NC (tp_st M0) 0 0 [some (.inr (.inr 483)), some (.inr (.inl x1)), none, some (.inl x3)] 2 [] (f_X11_begins_2B x1 rec_2 x3 M0) := by
  unfold f_X11_begins_2B
  refine j_iload_n rfl d_X11_begins_2 rfl ?_
  refine j_bipush ⟨by decide, by decide⟩ (by decide +kernel) d_X11_begins_3 ?_
  refine j_icmp_ge (tgt := 33) d_X11_begins_5 (by decide) (fun h1 => ?_) (fun h1 => ?_)
  · exact j_vret d_X11_begins_33 rfl rfl ⟨rfl, rfl⟩
  · refine j_aload_n rfl d_X11_begins_8 rfl ?_
    refine j_getr fl_Model_140 tg_483 rv_483_57 d_X11_begins_9 ?_
    refine j_iload_n rfl d_X11_begins_12 rfl ?_
    refine j_iload_n rfl d_X11_begins_13 rfl ?_
    refine j_if_ne (tgt := 25) d_X11_begins_14 (by decide) (fun h2 => ?_) (fun h2 => ?_)
    · refine j_lconst (x := 0) ⟨by decide, by decide⟩ (by decide +kernel) d_X11_begins_25 ?_
      exact j_wk [true, true, false, true] rfl rfl (T_X11_begins_26 G rec_2 x1 x3 0 x3 M0 hrec_2)
    · refine j_aload_n rfl d_X11_begins_17 rfl ?_
      refine j_lload_n rfl d_X11_begins_18 rfl ?_
      refine j_bind (fun r5 h6 => ?_)
      refine j_callV (y := y_X11_number) (I' := i_X11_number) (avs := [.inr (.inl x1)]) (c := 483) (st := [.inl x3, .inr (.inr 527)]) (c_X11_number G x1 M0 r5 h6) cs_Model_257 wd_1338 wd_1340 ws_48 tg_483 rfl rfl rfl (Nat.le_of_ble_eq_true rfl) ⟨rfl, rfl⟩ ⟨by decide, by decide⟩ ⟨by decide, by decide⟩ d_X11_begins_19 ?_
      refine j_goto (tgt := 26) d_X11_begins_22 (by decide) ?_
      exact j_wk [true, true, false, true] rfl rfl (T_X11_begins_26 G rec_2 x1 x3 r5 x3 M0 hrec_2)
def f_X11_begins_2 (x1 : Int) (x3 : Int) (M0 : tp_M) : Option (tp_M) := tp_lp (σ := Int × tp_M) (fun rec_ u => f_X11_begins_2B x1 (fun x3' M0' => rec_ (x3', M0')) u.1 u.2) tp_N (x3, M0)
set_option maxHeartbeats 4000000 in
set_option maxRecDepth 100000 in
theorem T_X11_begins_2 (G : tp_G) (x1 : Int) (x3 : Int) (M0 : tp_M) : tp_J i_X11_begins (tp_rm 1) G 0 0 o_X11_begins tp_NC (tp_st M0) 0 0 [some (.inr (.inr 483)), some (.inr (.inl x1)), none, some (.inl x3)] 2 [] (f_X11_begins_2 x1 x3 M0) := by
  unfold f_X11_begins_2
  exact j_lp (σ := Int × tp_M) (n' := fun _ => tp_NC) (g' := fun u => tp_st u.2) (k' := fun _ => 0) (q' := fun _ => 0) (lv' := fun u => [some (.inr (.inr 483)), some (.inr (.inl x1)), none, some (.inl u.1)]) (fun rec_ hrec u => T_X11_begins_2B G x1 (fun x3' M0' => rec_ (x3', M0')) (fun x3' M0' => hrec (x3', M0')) u.1 u.2) tp_N (x3, M0)
def f_X11_begins (a0 : Int) (M0 : tp_M) : Option (tp_M) :=
  f_X11_begins_2 a0 0 M0
set_option maxHeartbeats 4000000 in
set_option maxRecDepth 100000 in
theorem T_X11_begins (G : tp_G) (a0 : Int) (M0 : tp_M) : tp_J i_X11_begins (tp_rm 1) G 0 0 o_X11_begins tp_NC (tp_st M0) 0 0 [some (.inr (.inr 483)), some (.inr (.inl a0)), none, none] 0 [] (f_X11_begins a0 M0) := by
  unfold f_X11_begins
  refine j_iconst ⟨by decide, by decide⟩ d_X11_begins_0 ?_
  refine j_istore_n (lv' := [some (.inr (.inr 483)), some (.inr (.inl a0)), none, some (.inl 0)]) rfl d_X11_begins_1 (Nat.le_of_ble_eq_true rfl) rfl ?_
  exact j_wk [true, true, false, true] rfl rfl (T_X11_begins_2 G a0 0 M0)
set_option maxHeartbeats 4000000 in
set_option maxRecDepth 100000 in
theorem c_X11_begins (G : tp_G) (a0 : Int) (M0 : tp_M) (r : tp_M) (h : f_X11_begins a0 M0 = some r) (l : Launch) : Met l y_X11_begins (tp_ws y_X11_begins i_X11_begins) (tp_rm 1) (tp_Pc G [.inr (.inr 483), .inr (.inl a0)] tp_NC (tp_st M0)) (tp_Q G (o_X11_begins r)) 0 0 (tp_A G) :=
  tp_met (I := i_X11_begins) (y := y_X11_begins) (by decide +kernel) (Eq.refl "TypesAtPrimeModel") (Eq.refl "begins") (lv := [some (.inr (.inr 483)), some (.inr (.inl a0)), none, none]) rfl (Nat.le_of_ble_eq_true rfl) (T_X11_begins G a0 M0) h l
theorem wd_1486 : (.code ⟨"TypesAtPrimeModel", "begins", "(J)V"⟩ prog_13_method_58_code 4 (none : Option Jvm.ClassFile.FieldType) : Cond) ∈ lw_tbl := List.mem_append_right _ (List.mem_of_getElem? (i := 1486) (by decide +kernel))
theorem cs_Model_365 : tp_CS "TypesAtPrimeModel" 365 y_X11_begins i_X11_begins 1 := ⟨wd_1486, wd_12, by decide, by decide, by decide +kernel⟩
theorem wd_1483 : (.methodLink "TypesAtPrimeModel" 365 ⟨"TypesAtPrimeModel", "begins", "(J)V"⟩ : Cond) ∈ lw_tbl := List.mem_append_right _ (List.mem_of_getElem? (i := 1483) (by decide +kernel))
theorem wd_1485 : (.instanceMethod ⟨"TypesAtPrimeModel", "begins", "(J)V"⟩ : Cond) ∈ lw_tbl := List.mem_append_right _ (List.mem_of_getElem? (i := 1485) (by decide +kernel))
theorem ws_81 : (.selects "TypesAtPrimeModel" ⟨"TypesAtPrimeModel", "begins", "(J)V"⟩ ⟨"TypesAtPrimeModel", "begins", "(J)V"⟩ : Cond) ∈ lw_tbl := List.mem_append_left _ (List.mem_of_getElem? (i := 81) (by decide +kernel))
theorem wd_1490 : (.code ⟨"TypesAtPrimeModel", "multiplies", "(I)V"⟩ prog_13_method_57_code 6 (none : Option Jvm.ClassFile.FieldType) : Cond) ∈ lw_tbl := List.mem_append_right _ (List.mem_of_getElem? (i := 1490) (by decide +kernel))
theorem cs_Model_369 : tp_CS "TypesAtPrimeModel" 369 y_X11_multiplies i_X11_multiplies 1 := ⟨wd_1490, wd_12, by decide, by decide, by decide +kernel⟩
theorem wd_1487 : (.methodLink "TypesAtPrimeModel" 369 ⟨"TypesAtPrimeModel", "multiplies", "(I)V"⟩ : Cond) ∈ lw_tbl := List.mem_append_right _ (List.mem_of_getElem? (i := 1487) (by decide +kernel))
theorem wd_1489 : (.instanceMethod ⟨"TypesAtPrimeModel", "multiplies", "(I)V"⟩ : Cond) ∈ lw_tbl := List.mem_append_right _ (List.mem_of_getElem? (i := 1489) (by decide +kernel))
theorem ws_82 : (.selects "TypesAtPrimeModel" ⟨"TypesAtPrimeModel", "multiplies", "(I)V"⟩ ⟨"TypesAtPrimeModel", "multiplies", "(I)V"⟩ : Cond) ∈ lw_tbl := List.mem_append_left _ (List.mem_of_getElem? (i := 82) (by decide +kernel))
def y_X11_laysKey : MethodName := ⟨"TypesAtPrimeModel", "laysKey", "(IIII)V"⟩
abbrev i_X11_laysKey : tp_I := (prog_13_method_59_code, "TypesAtPrimeModel", none, 7, "laysKey")
abbrev o_X11_laysKey : tp_M → tp_O := fun r => (none, tp_NC, tp_st r)
theorem d_X11_laysKey_0 : decode prog_13_method_59_code 0 = .ok (.aload_n 0, 1) := by decide +kernel
theorem d_X11_laysKey_1 : decode prog_13_method_59_code 1 = .ok (.lconst 1, 1) := by decide +kernel
theorem d_X11_laysKey_2 : decode prog_13_method_59_code 2 = .ok (.invokevirtual 365, 3) := by decide +kernel
theorem d_X11_laysKey_5 : decode prog_13_method_59_code 5 = .ok (.iconst 0, 1) := by decide +kernel
theorem d_X11_laysKey_6 : decode prog_13_method_59_code 6 = .ok (.istore 5, 2) := by decide +kernel
theorem d_X11_laysKey_8 : decode prog_13_method_59_code 8 = .ok (.iload 5, 2) := by decide +kernel
theorem d_X11_laysKey_10 : decode prog_13_method_59_code 10 = .ok (.aload_n 0, 1) := by decide +kernel
theorem d_X11_laysKey_11 : decode prog_13_method_59_code 11 = .ok (.getfield 92, 3) := by decide +kernel
theorem d_X11_laysKey_14 : decode prog_13_method_59_code 14 = .ok (.iload_n 3, 1) := by decide +kernel
theorem d_X11_laysKey_15 : decode prog_13_method_59_code 15 = .ok (.iaload, 1) := by decide +kernel
theorem d_X11_laysKey_16 : decode prog_13_method_59_code 16 = .ok (.if_icmp .ge 17, 3) := by decide +kernel
theorem d_X11_laysKey_19 : decode prog_13_method_59_code 19 = .ok (.aload_n 0, 1) := by decide +kernel
theorem d_X11_laysKey_20 : decode prog_13_method_59_code 20 = .ok (.bipush 9, 2) := by decide +kernel
theorem d_X11_laysKey_22 : decode prog_13_method_59_code 22 = .ok (.iload_n 2, 1) := by decide +kernel
theorem d_X11_laysKey_23 : decode prog_13_method_59_code 23 = .ok (.imul, 1) := by decide +kernel
theorem d_X11_laysKey_24 : decode prog_13_method_59_code 24 = .ok (.invokevirtual 369, 3) := by decide +kernel
theorem d_X11_laysKey_27 : decode prog_13_method_59_code 27 = .ok (.iinc 5 1, 3) := by decide +kernel
theorem d_X11_laysKey_30 : decode prog_13_method_59_code 30 = .ok (.goto (-22), 3) := by decide +kernel
theorem d_X11_laysKey_33 : decode prog_13_method_59_code 33 = .ok (.iconst 0, 1) := by decide +kernel
theorem d_X11_laysKey_34 : decode prog_13_method_59_code 34 = .ok (.istore 5, 2) := by decide +kernel
theorem d_X11_laysKey_36 : decode prog_13_method_59_code 36 = .ok (.iload 5, 2) := by decide +kernel
theorem d_X11_laysKey_38 : decode prog_13_method_59_code 38 = .ok (.bipush 9, 2) := by decide +kernel
theorem d_X11_laysKey_40 : decode prog_13_method_59_code 40 = .ok (.if_icmp .ge 28, 3) := by decide +kernel
theorem d_X11_laysKey_43 : decode prog_13_method_59_code 43 = .ok (.aload_n 0, 1) := by decide +kernel
theorem d_X11_laysKey_44 : decode prog_13_method_59_code 44 = .ok (.getfield 23, 3) := by decide +kernel
theorem d_X11_laysKey_47 : decode prog_13_method_59_code 47 = .ok (.bipush 9, 2) := by decide +kernel
theorem d_X11_laysKey_49 : decode prog_13_method_59_code 49 = .ok (.iload_n 1, 1) := by decide +kernel
theorem d_X11_laysKey_50 : decode prog_13_method_59_code 50 = .ok (.imul, 1) := by decide +kernel
theorem d_X11_laysKey_51 : decode prog_13_method_59_code 51 = .ok (.iload 5, 2) := by decide +kernel
theorem d_X11_laysKey_53 : decode prog_13_method_59_code 53 = .ok (.iadd, 1) := by decide +kernel
theorem d_X11_laysKey_54 : decode prog_13_method_59_code 54 = .ok (.aload_n 0, 1) := by decide +kernel
theorem d_X11_laysKey_55 : decode prog_13_method_59_code 55 = .ok (.getfield 140, 3) := by decide +kernel
theorem d_X11_laysKey_58 : decode prog_13_method_59_code 58 = .ok (.iload 5, 2) := by decide +kernel
theorem d_X11_laysKey_60 : decode prog_13_method_59_code 60 = .ok (.laload, 1) := by decide +kernel
theorem d_X11_laysKey_61 : decode prog_13_method_59_code 61 = .ok (.lastore, 1) := by decide +kernel
theorem d_X11_laysKey_62 : decode prog_13_method_59_code 62 = .ok (.iinc 5 1, 3) := by decide +kernel
theorem d_X11_laysKey_65 : decode prog_13_method_59_code 65 = .ok (.goto (-29), 3) := by decide +kernel
theorem d_X11_laysKey_68 : decode prog_13_method_59_code 68 = .ok (.aload_n 0, 1) := by decide +kernel
theorem d_X11_laysKey_69 : decode prog_13_method_59_code 69 = .ok (.iload 4, 2) := by decide +kernel
theorem d_X11_laysKey_71 : decode prog_13_method_59_code 71 = .ok (.i2l, 1) := by decide +kernel
theorem d_X11_laysKey_72 : decode prog_13_method_59_code 72 = .ok (.invokevirtual 365, 3) := by decide +kernel
theorem d_X11_laysKey_75 : decode prog_13_method_59_code 75 = .ok (.iconst 0, 1) := by decide +kernel
theorem d_X11_laysKey_76 : decode prog_13_method_59_code 76 = .ok (.istore 5, 2) := by decide +kernel
theorem d_X11_laysKey_78 : decode prog_13_method_59_code 78 = .ok (.iload 5, 2) := by decide +kernel
theorem d_X11_laysKey_80 : decode prog_13_method_59_code 80 = .ok (.aload_n 0, 1) := by decide +kernel
theorem d_X11_laysKey_81 : decode prog_13_method_59_code 81 = .ok (.getfield 101, 3) := by decide +kernel
theorem d_X11_laysKey_84 : decode prog_13_method_59_code 84 = .ok (.bipush 7, 2) := by decide +kernel
theorem d_X11_laysKey_86 : decode prog_13_method_59_code 86 = .ok (.iload_n 3, 1) := by decide +kernel
theorem d_X11_laysKey_87 : decode prog_13_method_59_code 87 = .ok (.imul, 1) := by decide +kernel
theorem d_X11_laysKey_88 : decode prog_13_method_59_code 88 = .ok (.iaload, 1) := by decide +kernel
theorem d_X11_laysKey_89 : decode prog_13_method_59_code 89 = .ok (.if_icmp .ge 49, 3) := by decide +kernel
theorem d_X11_laysKey_92 : decode prog_13_method_59_code 92 = .ok (.iconst 0, 1) := by decide +kernel
theorem d_X11_laysKey_93 : decode prog_13_method_59_code 93 = .ok (.istore 6, 2) := by decide +kernel
theorem d_X11_laysKey_95 : decode prog_13_method_59_code 95 = .ok (.iload 6, 2) := by decide +kernel
theorem d_X11_laysKey_97 : decode prog_13_method_59_code 97 = .ok (.bipush 9, 2) := by decide +kernel
theorem d_X11_laysKey_99 : decode prog_13_method_59_code 99 = .ok (.if_icmp .ge 33, 3) := by decide +kernel
theorem d_X11_laysKey_102 : decode prog_13_method_59_code 102 = .ok (.aload_n 0, 1) := by decide +kernel
theorem d_X11_laysKey_103 : decode prog_13_method_59_code 103 = .ok (.getfield 140, 3) := by decide +kernel
theorem d_X11_laysKey_106 : decode prog_13_method_59_code 106 = .ok (.iload 6, 2) := by decide +kernel
theorem d_X11_laysKey_108 : decode prog_13_method_59_code 108 = .ok (.aload_n 0, 1) := by decide +kernel
theorem d_X11_laysKey_109 : decode prog_13_method_59_code 109 = .ok (.aload_n 0, 1) := by decide +kernel
theorem d_X11_laysKey_110 : decode prog_13_method_59_code 110 = .ok (.getfield 140, 3) := by decide +kernel
theorem d_X11_laysKey_113 : decode prog_13_method_59_code 113 = .ok (.iload 6, 2) := by decide +kernel
theorem d_X11_laysKey_115 : decode prog_13_method_59_code 115 = .ok (.laload, 1) := by decide +kernel
theorem d_X11_laysKey_116 : decode prog_13_method_59_code 116 = .ok (.aload_n 0, 1) := by decide +kernel
theorem d_X11_laysKey_117 : decode prog_13_method_59_code 117 = .ok (.getfield 168, 3) := by decide +kernel
theorem d_X11_laysKey_120 : decode prog_13_method_59_code 120 = .ok (.i2l, 1) := by decide +kernel
theorem d_X11_laysKey_121 : decode prog_13_method_59_code 121 = .ok (.lmul, 1) := by decide +kernel
theorem d_X11_laysKey_122 : decode prog_13_method_59_code 122 = .ok (.invokevirtual 257, 3) := by decide +kernel
theorem d_X11_laysKey_125 : decode prog_13_method_59_code 125 = .ok (.lastore, 1) := by decide +kernel
theorem d_X11_laysKey_126 : decode prog_13_method_59_code 126 = .ok (.iinc 6 1, 3) := by decide +kernel
theorem d_X11_laysKey_129 : decode prog_13_method_59_code 129 = .ok (.goto (-34), 3) := by decide +kernel
theorem d_X11_laysKey_132 : decode prog_13_method_59_code 132 = .ok (.iinc 5 1, 3) := by decide +kernel
theorem d_X11_laysKey_135 : decode prog_13_method_59_code 135 = .ok (.goto (-57), 3) := by decide +kernel
theorem d_X11_laysKey_138 : decode prog_13_method_59_code 138 = .ok (.iconst 1, 1) := by decide +kernel
theorem d_X11_laysKey_139 : decode prog_13_method_59_code 139 = .ok (.istore 5, 2) := by decide +kernel
theorem d_X11_laysKey_141 : decode prog_13_method_59_code 141 = .ok (.iload 5, 2) := by decide +kernel
theorem d_X11_laysKey_143 : decode prog_13_method_59_code 143 = .ok (.aload_n 0, 1) := by decide +kernel
theorem d_X11_laysKey_144 : decode prog_13_method_59_code 144 = .ok (.getfield 300, 3) := by decide +kernel
theorem d_X11_laysKey_147 : decode prog_13_method_59_code 147 = .ok (.if_icmp .ge 49, 3) := by decide +kernel
theorem d_X11_laysKey_150 : decode prog_13_method_59_code 150 = .ok (.iconst 0, 1) := by decide +kernel
theorem d_X11_laysKey_151 : decode prog_13_method_59_code 151 = .ok (.istore 6, 2) := by decide +kernel
theorem d_X11_laysKey_153 : decode prog_13_method_59_code 153 = .ok (.iload 6, 2) := by decide +kernel
theorem d_X11_laysKey_155 : decode prog_13_method_59_code 155 = .ok (.aload_n 0, 1) := by decide +kernel
theorem d_X11_laysKey_156 : decode prog_13_method_59_code 156 = .ok (.getfield 101, 3) := by decide +kernel
theorem d_X11_laysKey_159 : decode prog_13_method_59_code 159 = .ok (.bipush 7, 2) := by decide +kernel
theorem d_X11_laysKey_161 : decode prog_13_method_59_code 161 = .ok (.iload_n 3, 1) := by decide +kernel
theorem d_X11_laysKey_162 : decode prog_13_method_59_code 162 = .ok (.imul, 1) := by decide +kernel
theorem d_X11_laysKey_163 : decode prog_13_method_59_code 163 = .ok (.iload 5, 2) := by decide +kernel
theorem d_X11_laysKey_165 : decode prog_13_method_59_code 165 = .ok (.iadd, 1) := by decide +kernel
theorem d_X11_laysKey_166 : decode prog_13_method_59_code 166 = .ok (.iaload, 1) := by decide +kernel
theorem d_X11_laysKey_167 : decode prog_13_method_59_code 167 = .ok (.if_icmp .ge 23, 3) := by decide +kernel
theorem d_X11_laysKey_170 : decode prog_13_method_59_code 170 = .ok (.aload_n 0, 1) := by decide +kernel
theorem d_X11_laysKey_171 : decode prog_13_method_59_code 171 = .ok (.bipush 9, 2) := by decide +kernel
theorem d_X11_laysKey_173 : decode prog_13_method_59_code 173 = .ok (.aload_n 0, 1) := by decide +kernel
theorem d_X11_laysKey_174 : decode prog_13_method_59_code 174 = .ok (.getfield 131, 3) := by decide +kernel
theorem d_X11_laysKey_177 : decode prog_13_method_59_code 177 = .ok (.iload 5, 2) := by decide +kernel
theorem d_X11_laysKey_179 : decode prog_13_method_59_code 179 = .ok (.iaload, 1) := by decide +kernel
theorem d_X11_laysKey_180 : decode prog_13_method_59_code 180 = .ok (.imul, 1) := by decide +kernel
theorem d_X11_laysKey_181 : decode prog_13_method_59_code 181 = .ok (.invokevirtual 369, 3) := by decide +kernel
theorem d_X11_laysKey_184 : decode prog_13_method_59_code 184 = .ok (.iinc 6 1, 3) := by decide +kernel
theorem d_X11_laysKey_187 : decode prog_13_method_59_code 187 = .ok (.goto (-34), 3) := by decide +kernel
theorem d_X11_laysKey_190 : decode prog_13_method_59_code 190 = .ok (.iinc 5 1, 3) := by decide +kernel
theorem d_X11_laysKey_193 : decode prog_13_method_59_code 193 = .ok (.goto (-52), 3) := by decide +kernel
theorem d_X11_laysKey_196 : decode prog_13_method_59_code 196 = .ok (.iconst 0, 1) := by decide +kernel
theorem d_X11_laysKey_197 : decode prog_13_method_59_code 197 = .ok (.istore 5, 2) := by decide +kernel
theorem d_X11_laysKey_199 : decode prog_13_method_59_code 199 = .ok (.iload 5, 2) := by decide +kernel
theorem d_X11_laysKey_201 : decode prog_13_method_59_code 201 = .ok (.bipush 9, 2) := by decide +kernel
theorem d_X11_laysKey_203 : decode prog_13_method_59_code 203 = .ok (.if_icmp .ge 45, 3) := by decide +kernel
theorem d_X11_laysKey_206 : decode prog_13_method_59_code 206 = .ok (.aload_n 0, 1) := by decide +kernel
theorem d_X11_laysKey_207 : decode prog_13_method_59_code 207 = .ok (.getfield 23, 3) := by decide +kernel
theorem d_X11_laysKey_210 : decode prog_13_method_59_code 210 = .ok (.bipush 9, 2) := by decide +kernel
theorem d_X11_laysKey_212 : decode prog_13_method_59_code 212 = .ok (.iload_n 1, 1) := by decide +kernel
theorem d_X11_laysKey_213 : decode prog_13_method_59_code 213 = .ok (.imul, 1) := by decide +kernel
theorem d_X11_laysKey_214 : decode prog_13_method_59_code 214 = .ok (.iload 5, 2) := by decide +kernel
theorem d_X11_laysKey_216 : decode prog_13_method_59_code 216 = .ok (.iadd, 1) := by decide +kernel
theorem d_X11_laysKey_217 : decode prog_13_method_59_code 217 = .ok (.aload_n 0, 1) := by decide +kernel
theorem d_X11_laysKey_218 : decode prog_13_method_59_code 218 = .ok (.aload_n 0, 1) := by decide +kernel
theorem d_X11_laysKey_219 : decode prog_13_method_59_code 219 = .ok (.getfield 23, 3) := by decide +kernel
theorem d_X11_laysKey_222 : decode prog_13_method_59_code 222 = .ok (.bipush 9, 2) := by decide +kernel
theorem d_X11_laysKey_224 : decode prog_13_method_59_code 224 = .ok (.iload_n 1, 1) := by decide +kernel
theorem d_X11_laysKey_225 : decode prog_13_method_59_code 225 = .ok (.imul, 1) := by decide +kernel
theorem d_X11_laysKey_226 : decode prog_13_method_59_code 226 = .ok (.iload 5, 2) := by decide +kernel
theorem d_X11_laysKey_228 : decode prog_13_method_59_code 228 = .ok (.iadd, 1) := by decide +kernel
theorem d_X11_laysKey_229 : decode prog_13_method_59_code 229 = .ok (.laload, 1) := by decide +kernel
theorem d_X11_laysKey_230 : decode prog_13_method_59_code 230 = .ok (.aload_n 0, 1) := by decide +kernel
theorem d_X11_laysKey_231 : decode prog_13_method_59_code 231 = .ok (.getfield 140, 3) := by decide +kernel
theorem d_X11_laysKey_234 : decode prog_13_method_59_code 234 = .ok (.iload 5, 2) := by decide +kernel
theorem d_X11_laysKey_236 : decode prog_13_method_59_code 236 = .ok (.laload, 1) := by decide +kernel
theorem d_X11_laysKey_237 : decode prog_13_method_59_code 237 = .ok (.lsub, 1) := by decide +kernel
theorem d_X11_laysKey_238 : decode prog_13_method_59_code 238 = .ok (.invokevirtual 257, 3) := by decide +kernel
theorem d_X11_laysKey_241 : decode prog_13_method_59_code 241 = .ok (.lastore, 1) := by decide +kernel
theorem d_X11_laysKey_242 : decode prog_13_method_59_code 242 = .ok (.iinc 5 1, 3) := by decide +kernel
theorem d_X11_laysKey_245 : decode prog_13_method_59_code 245 = .ok (.goto (-46), 3) := by decide +kernel
theorem d_X11_laysKey_248 : decode prog_13_method_59_code 248 = .ok (.return_, 1) := by decide +kernel
def f_X11_laysKey_199B (x1 : Int) (rec_199 : Int → tp_M → Option (tp_M)) (x5 : Int) (M0 : tp_M) : Option (tp_M) :=
  if 9 ≤ x5 then
    some M0
  else
    if 0 ≤ (tp_w ((tp_w (9 * x1)) + x5)) ∧ (tp_w ((tp_w (9 * x1)) + x5)) < 369 then
      if 0 ≤ x5 ∧ x5 < 9 then
        (f_X11_number (tp_wl ((M0 488 (tp_w ((tp_w (9 * x1)) + x5))) - (M0 527 x5))) M0).bind fun r10 =>
        if 0 ≤ (tp_w ((tp_w (9 * x1)) + x5)) ∧ (tp_w ((tp_w (9 * x1)) + x5)) < 369 then
          tp_mp (tp_up M0 488 (tp_w ((tp_w (9 * x1)) + x5)) r10) fun M12 =>
          tp_lt (tp_w (x5 + 1)) fun y13 =>
          rec_199 y13 M12 else none else none else none
set_option maxHeartbeats 4000000 in
set_option maxRecDepth 100000 in
theorem T_X11_laysKey_199B (G : tp_G) (x1 : Int) (rec_199 : Int → tp_M → Option (tp_M)) (hrec_199 : ∀ (x5' : Int) (M' : tp_M), tp_J i_X11_laysKey (tp_rm 2) G 0 0 o_X11_laysKey tp_NC (tp_st M') 0 0 [some (.inr (.inr 483)), some (.inl x1), none, none, none, some (.inl (x5')), none] 199 [] (rec_199 x5' M')) (x5 : Int) (M0 : tp_M) : tp_J i_X11_laysKey (tp_rm 2) G 0 0 o_X11_laysKey tp_NC (tp_st M0) 0 0 [some (.inr (.inr 483)), some (.inl x1), none, none, none, some (.inl x5), none] 199 [] (f_X11_laysKey_199B x1 rec_199 x5 M0) := by
  unfold f_X11_laysKey_199B
  refine j_iload d_X11_laysKey_199 rfl ?_
  refine j_bipush ⟨by decide, by decide⟩ (by decide +kernel) d_X11_laysKey_201 ?_
  refine j_icmp_ge (tgt := 248) d_X11_laysKey_203 (by decide) (fun h9 => ?_) (fun h9 => ?_)
  · exact j_vret d_X11_laysKey_248 rfl rfl ⟨rfl, rfl⟩
  · refine j_aload_n rfl d_X11_laysKey_206 rfl ?_
    refine j_getr fl_Model_23 tg_483 rv_483_9 d_X11_laysKey_207 ?_
    refine j_bipush ⟨by decide, by decide⟩ (by decide +kernel) d_X11_laysKey_210 ?_
    refine j_iload_n rfl d_X11_laysKey_212 rfl ?_
    refine j_imul d_X11_laysKey_213 ?_
    refine j_iload d_X11_laysKey_214 rfl ?_
    refine j_iadd d_X11_laysKey_216 ?_
    refine j_aload_n rfl d_X11_laysKey_217 rfl ?_
    refine j_aload_n rfl d_X11_laysKey_218 rfl ?_
    refine j_getr fl_Model_23 tg_483 rv_483_9 d_X11_laysKey_219 ?_
    refine j_bipush ⟨by decide, by decide⟩ (by decide +kernel) d_X11_laysKey_222 ?_
    refine j_iload_n rfl d_X11_laysKey_224 rfl ?_
    refine j_imul d_X11_laysKey_225 ?_
    refine j_iload d_X11_laysKey_226 rfl ?_
    refine j_iadd d_X11_laysKey_228 ?_
    refine j_lald tg_488 al_488 d_X11_laysKey_229 ?_
    refine j_aload_n rfl d_X11_laysKey_230 rfl ?_
    refine j_getr fl_Model_140 tg_483 rv_483_57 d_X11_laysKey_231 ?_
    refine j_iload d_X11_laysKey_234 rfl ?_
    refine j_lald tg_527 al_527 d_X11_laysKey_236 ?_
    refine j_lsub d_X11_laysKey_237 ?_
    refine j_bind (fun r10 h11 => ?_)
    refine j_callV (y := y_X11_number) (I' := i_X11_number) (avs := [.inr (.inl (tp_wl ((M0 488 (tp_w ((tp_w (9 * x1)) + x5))) - (M0 527 x5))))]) (c := 483) (st := [.inl (tp_w ((tp_w (9 * x1)) + x5)), .inr (.inr 488)]) (c_X11_number G (tp_wl ((M0 488 (tp_w ((tp_w (9 * x1)) + x5))) - (M0 527 x5))) M0 r10 h11) cs_Model_257 wd_1338 wd_1340 ws_48 tg_483 rfl rfl rfl (Nat.le_of_ble_eq_true rfl) ⟨rfl, rfl⟩ ⟨by decide, by decide⟩ ⟨by decide, by decide⟩ d_X11_laysKey_238 ?_
    refine j_last tg_488 al_488 d_X11_laysKey_241 (fun M12 hM12 => ?_)
    refine j_iincN (lv' := fun y13 => [some (.inr (.inr 483)), some (.inl x1), none, none, none, some (.inl y13), none]) d_X11_laysKey_242 rfl (Nat.le_of_ble_eq_true rfl) (fun _ => rfl) (fun y13 hy13 => ?_)
    refine j_goto (tgt := 199) d_X11_laysKey_245 (by decide) ?_
    exact j_wk [true, true, false, false, false, true, false] rfl rfl (hrec_199 y13 M12)
def f_X11_laysKey_199 (x1 : Int) (x5 : Int) (M0 : tp_M) : Option (tp_M) := tp_lp (σ := Int × tp_M) (fun rec_ u => f_X11_laysKey_199B x1 (fun x5' M0' => rec_ (x5', M0')) u.1 u.2) tp_N (x5, M0)
set_option maxHeartbeats 4000000 in
set_option maxRecDepth 100000 in
theorem T_X11_laysKey_199 (G : tp_G) (x1 : Int) (x5 : Int) (M0 : tp_M) : tp_J i_X11_laysKey (tp_rm 2) G 0 0 o_X11_laysKey tp_NC (tp_st M0) 0 0 [some (.inr (.inr 483)), some (.inl x1), none, none, none, some (.inl x5), none] 199 [] (f_X11_laysKey_199 x1 x5 M0) := by
  unfold f_X11_laysKey_199
  exact j_lp (σ := Int × tp_M) (n' := fun _ => tp_NC) (g' := fun u => tp_st u.2) (k' := fun _ => 0) (q' := fun _ => 0) (lv' := fun u => [some (.inr (.inr 483)), some (.inl x1), none, none, none, some (.inl u.1), none]) (fun rec_ hrec u => T_X11_laysKey_199B G x1 (fun x5' M0' => rec_ (x5', M0')) (fun x5' M0' => hrec (x5', M0')) u.1 u.2) tp_N (x5, M0)
def f_X11_laysKey_153B (rec_141 : Int → tp_M → Option (tp_M)) (x1 : Int) (x3 : Int) (x5 : Int) (rec_153 : Int → tp_M → Option (tp_M)) (x6 : Int) (M0 : tp_M) : Option (tp_M) :=
  if 0 ≤ (tp_w ((tp_w (7 * x3)) + x5)) ∧ (tp_w ((tp_w (7 * x3)) + x5)) < 448 then
    if (M0 514 (tp_w ((tp_w (7 * x3)) + x5))) ≤ x6 then
      tp_lt (tp_w (x5 + 1)) fun y15 =>
      rec_141 y15 M0
    else
      if 0 ≤ x5 ∧ x5 < 8 then
        (f_X11_multiplies (tp_w (9 * (M0 524 x5))) M0).bind fun r16 =>
        tp_lt (tp_w (x6 + 1)) fun y18 =>
        rec_153 y18 r16 else none else none
set_option maxHeartbeats 4000000 in
set_option maxRecDepth 100000 in
theorem T_X11_laysKey_153B (G : tp_G) (rec_141 : Int → tp_M → Option (tp_M)) (x1 : Int) (x3 : Int) (x5 : Int) (hrec_141 : ∀ (x5' : Int) (M' : tp_M), tp_J i_X11_laysKey (tp_rm 2) G 0 0 o_X11_laysKey tp_NC (tp_st M') 0 0 [some (.inr (.inr 483)), some (.inl x1), none, some (.inl x3), none, some (.inl (x5')), none] 141 [] (rec_141 x5' M')) (rec_153 : Int → tp_M → Option (tp_M)) (hrec_153 : ∀ (x6' : Int) (M' : tp_M), tp_J i_X11_laysKey (tp_rm 2) G 0 0 o_X11_laysKey tp_NC (tp_st M') 0 0 [some (.inr (.inr 483)), some (.inl x1), none, some (.inl x3), none, some (.inl x5), some (.inl (x6'))] 153 [] (rec_153 x6' M')) (x6 : Int) (M0 : tp_M) : tp_J i_X11_laysKey (tp_rm 2) G 0 0 o_X11_laysKey tp_NC (tp_st M0) 0 0 [some (.inr (.inr 483)), some (.inl x1), none, some (.inl x3), none, some (.inl x5), some (.inl x6)] 153 [] (f_X11_laysKey_153B rec_141 x1 x3 x5 rec_153 x6 M0) := by
  unfold f_X11_laysKey_153B
  refine j_iload d_X11_laysKey_153 rfl ?_
  refine j_aload_n rfl d_X11_laysKey_155 rfl ?_
  refine j_getr fl_Model_101 tg_483 rv_483_42 d_X11_laysKey_156 ?_
  refine j_bipush ⟨by decide, by decide⟩ (by decide +kernel) d_X11_laysKey_159 ?_
  refine j_iload_n rfl d_X11_laysKey_161 rfl ?_
  refine j_imul d_X11_laysKey_162 ?_
  refine j_iload d_X11_laysKey_163 rfl ?_
  refine j_iadd d_X11_laysKey_165 ?_
  refine j_iald tg_514 al_514 d_X11_laysKey_166 ?_
  refine j_icmp_ge (tgt := 190) d_X11_laysKey_167 (by decide) (fun h14 => ?_) (fun h14 => ?_)
  · refine j_iincN (lv' := fun y15 => [some (.inr (.inr 483)), some (.inl x1), none, some (.inl x3), none, some (.inl y15), some (.inl x6)]) d_X11_laysKey_190 rfl (Nat.le_of_ble_eq_true rfl) (fun _ => rfl) (fun y15 hy15 => ?_)
    refine j_goto (tgt := 141) d_X11_laysKey_193 (by decide) ?_
    exact j_wk [true, true, false, true, false, true, false] rfl rfl (hrec_141 y15 M0)
  · refine j_aload_n rfl d_X11_laysKey_170 rfl ?_
    refine j_bipush ⟨by decide, by decide⟩ (by decide +kernel) d_X11_laysKey_171 ?_
    refine j_aload_n rfl d_X11_laysKey_173 rfl ?_
    refine j_getr fl_Model_131 tg_483 rv_483_53 d_X11_laysKey_174 ?_
    refine j_iload d_X11_laysKey_177 rfl ?_
    refine j_iald tg_524 al_524 d_X11_laysKey_179 ?_
    refine j_imul d_X11_laysKey_180 ?_
    refine j_bind (fun r16 h17 => ?_)
    refine j_callV (y := y_X11_multiplies) (I' := i_X11_multiplies) (avs := [.inl (tp_w (9 * (M0 524 x5)))]) (c := 483) (st := []) (c_X11_multiplies G (tp_w (9 * (M0 524 x5))) M0 r16 h17) cs_Model_369 wd_1487 wd_1489 ws_82 tg_483 rfl rfl rfl (Nat.le_of_ble_eq_true rfl) ⟨rfl, rfl⟩ ⟨by decide, by decide⟩ ⟨by decide, by decide⟩ d_X11_laysKey_181 ?_
    refine j_iincN (lv' := fun y18 => [some (.inr (.inr 483)), some (.inl x1), none, some (.inl x3), none, some (.inl x5), some (.inl y18)]) d_X11_laysKey_184 rfl (Nat.le_of_ble_eq_true rfl) (fun _ => rfl) (fun y18 hy18 => ?_)
    refine j_goto (tgt := 153) d_X11_laysKey_187 (by decide) ?_
    exact j_wk [true, true, false, true, false, true, true] rfl rfl (hrec_153 y18 r16)
def f_X11_laysKey_153 (rec_141 : Int → tp_M → Option (tp_M)) (x1 : Int) (x3 : Int) (x5 : Int) (x6 : Int) (M0 : tp_M) : Option (tp_M) := tp_lp (σ := Int × tp_M) (fun rec_ u => f_X11_laysKey_153B rec_141 x1 x3 x5 (fun x6' M0' => rec_ (x6', M0')) u.1 u.2) tp_N (x6, M0)
set_option maxHeartbeats 4000000 in
set_option maxRecDepth 100000 in
theorem T_X11_laysKey_153 (G : tp_G) (rec_141 : Int → tp_M → Option (tp_M)) (x1 : Int) (x3 : Int) (x5 : Int) (x6 : Int) (M0 : tp_M) (hrec_141 : ∀ (x5' : Int) (M' : tp_M), tp_J i_X11_laysKey (tp_rm 2) G 0 0 o_X11_laysKey tp_NC (tp_st M') 0 0 [some (.inr (.inr 483)), some (.inl x1), none, some (.inl x3), none, some (.inl (x5')), none] 141 [] (rec_141 x5' M')) : tp_J i_X11_laysKey (tp_rm 2) G 0 0 o_X11_laysKey tp_NC (tp_st M0) 0 0 [some (.inr (.inr 483)), some (.inl x1), none, some (.inl x3), none, some (.inl x5), some (.inl x6)] 153 [] (f_X11_laysKey_153 rec_141 x1 x3 x5 x6 M0) := by
  unfold f_X11_laysKey_153
  exact j_lp (σ := Int × tp_M) (n' := fun _ => tp_NC) (g' := fun u => tp_st u.2) (k' := fun _ => 0) (q' := fun _ => 0) (lv' := fun u => [some (.inr (.inr 483)), some (.inl x1), none, some (.inl x3), none, some (.inl x5), some (.inl u.1)]) (fun rec_ hrec u => T_X11_laysKey_153B G rec_141 x1 x3 x5 hrec_141 (fun x6' M0' => rec_ (x6', M0')) (fun x6' M0' => hrec (x6', M0')) u.1 u.2) tp_N (x6, M0)
def f_X11_laysKey_141B (x1 : Int) (x3 : Int) (rec_141 : Int → tp_M → Option (tp_M)) (x5 : Int) (M0 : tp_M) : Option (tp_M) :=
  if (M0 483 49) ≤ x5 then
    f_X11_laysKey_199 x1 0 M0
  else
    f_X11_laysKey_153 rec_141 x1 x3 x5 0 M0
set_option maxHeartbeats 4000000 in
set_option maxRecDepth 100000 in
theorem T_X11_laysKey_141B (G : tp_G) (x1 : Int) (x3 : Int) (rec_141 : Int → tp_M → Option (tp_M)) (hrec_141 : ∀ (x5' : Int) (M' : tp_M), tp_J i_X11_laysKey (tp_rm 2) G 0 0 o_X11_laysKey tp_NC (tp_st M') 0 0 [some (.inr (.inr 483)), some (.inl x1), none, some (.inl x3), none, some (.inl (x5')), none] 141 [] (rec_141 x5' M')) (x5 : Int) (M0 : tp_M) : tp_J i_X11_laysKey (tp_rm 2) G 0 0 o_X11_laysKey tp_NC (tp_st M0) 0 0 [some (.inr (.inr 483)), some (.inl x1), none, some (.inl x3), none, some (.inl x5), none] 141 [] (f_X11_laysKey_141B x1 x3 rec_141 x5 M0) := by
  unfold f_X11_laysKey_141B
  refine j_iload d_X11_laysKey_141 rfl ?_
  refine j_aload_n rfl d_X11_laysKey_143 rfl ?_
  refine j_geti fl_Model_300 tg_483 d_X11_laysKey_144 ?_
  refine j_icmp_ge (tgt := 196) d_X11_laysKey_147 (by decide) (fun h8 => ?_) (fun h8 => ?_)
  · refine j_iconst ⟨by decide, by decide⟩ d_X11_laysKey_196 ?_
    refine j_istore (lv' := [some (.inr (.inr 483)), some (.inl x1), none, some (.inl x3), none, some (.inl 0), none]) d_X11_laysKey_197 (Nat.le_of_ble_eq_true rfl) rfl ?_
    exact j_wk [true, true, false, false, false, true, false] rfl rfl (T_X11_laysKey_199 G x1 0 M0)
  · refine j_iconst ⟨by decide, by decide⟩ d_X11_laysKey_150 ?_
    refine j_istore (lv' := [some (.inr (.inr 483)), some (.inl x1), none, some (.inl x3), none, some (.inl x5), some (.inl 0)]) d_X11_laysKey_151 (Nat.le_of_ble_eq_true rfl) rfl ?_
    exact j_wk [true, true, false, true, false, true, true] rfl rfl (T_X11_laysKey_153 G rec_141 x1 x3 x5 0 M0 hrec_141)
def f_X11_laysKey_141 (x1 : Int) (x3 : Int) (x5 : Int) (M0 : tp_M) : Option (tp_M) := tp_lp (σ := Int × tp_M) (fun rec_ u => f_X11_laysKey_141B x1 x3 (fun x5' M0' => rec_ (x5', M0')) u.1 u.2) tp_N (x5, M0)
set_option maxHeartbeats 4000000 in
set_option maxRecDepth 100000 in
theorem T_X11_laysKey_141 (G : tp_G) (x1 : Int) (x3 : Int) (x5 : Int) (M0 : tp_M) : tp_J i_X11_laysKey (tp_rm 2) G 0 0 o_X11_laysKey tp_NC (tp_st M0) 0 0 [some (.inr (.inr 483)), some (.inl x1), none, some (.inl x3), none, some (.inl x5), none] 141 [] (f_X11_laysKey_141 x1 x3 x5 M0) := by
  unfold f_X11_laysKey_141
  exact j_lp (σ := Int × tp_M) (n' := fun _ => tp_NC) (g' := fun u => tp_st u.2) (k' := fun _ => 0) (q' := fun _ => 0) (lv' := fun u => [some (.inr (.inr 483)), some (.inl x1), none, some (.inl x3), none, some (.inl u.1), none]) (fun rec_ hrec u => T_X11_laysKey_141B G x1 x3 (fun x5' M0' => rec_ (x5', M0')) (fun x5' M0' => hrec (x5', M0')) u.1 u.2) tp_N (x5, M0)
def f_X11_laysKey_95B (rec_78 : Int → tp_M → Option (tp_M)) (x1 : Int) (x3 : Int) (x5 : Int) (rec_95 : Int → tp_M → Option (tp_M)) (x6 : Int) (M0 : tp_M) : Option (tp_M) :=
  if 9 ≤ x6 then
    tp_lt (tp_w (x5 + 1)) fun y20 =>
    rec_78 y20 M0
  else
    if 0 ≤ x6 ∧ x6 < 9 then
      (f_X11_number (tp_wl ((M0 527 x6) * (M0 483 0))) M0).bind fun r21 =>
      if 0 ≤ x6 ∧ x6 < 9 then
        tp_mp (tp_up M0 527 x6 r21) fun M23 =>
        tp_lt (tp_w (x6 + 1)) fun y24 =>
        rec_95 y24 M23 else none else none
set_option maxHeartbeats 4000000 in
set_option maxRecDepth 100000 in
theorem T_X11_laysKey_95B (G : tp_G) (rec_78 : Int → tp_M → Option (tp_M)) (x1 : Int) (x3 : Int) (x5 : Int) (hrec_78 : ∀ (x5' : Int) (M' : tp_M), tp_J i_X11_laysKey (tp_rm 2) G 0 0 o_X11_laysKey tp_NC (tp_st M') 0 0 [some (.inr (.inr 483)), some (.inl x1), none, some (.inl x3), none, some (.inl (x5')), none] 78 [] (rec_78 x5' M')) (rec_95 : Int → tp_M → Option (tp_M)) (hrec_95 : ∀ (x6' : Int) (M' : tp_M), tp_J i_X11_laysKey (tp_rm 2) G 0 0 o_X11_laysKey tp_NC (tp_st M') 0 0 [some (.inr (.inr 483)), some (.inl x1), none, some (.inl x3), none, some (.inl x5), some (.inl (x6'))] 95 [] (rec_95 x6' M')) (x6 : Int) (M0 : tp_M) : tp_J i_X11_laysKey (tp_rm 2) G 0 0 o_X11_laysKey tp_NC (tp_st M0) 0 0 [some (.inr (.inr 483)), some (.inl x1), none, some (.inl x3), none, some (.inl x5), some (.inl x6)] 95 [] (f_X11_laysKey_95B rec_78 x1 x3 x5 rec_95 x6 M0) := by
  unfold f_X11_laysKey_95B
  refine j_iload d_X11_laysKey_95 rfl ?_
  refine j_bipush ⟨by decide, by decide⟩ (by decide +kernel) d_X11_laysKey_97 ?_
  refine j_icmp_ge (tgt := 132) d_X11_laysKey_99 (by decide) (fun h19 => ?_) (fun h19 => ?_)
  · refine j_iincN (lv' := fun y20 => [some (.inr (.inr 483)), some (.inl x1), none, some (.inl x3), none, some (.inl y20), some (.inl x6)]) d_X11_laysKey_132 rfl (Nat.le_of_ble_eq_true rfl) (fun _ => rfl) (fun y20 hy20 => ?_)
    refine j_goto (tgt := 78) d_X11_laysKey_135 (by decide) ?_
    exact j_wk [true, true, false, true, false, true, false] rfl rfl (hrec_78 y20 M0)
  · refine j_aload_n rfl d_X11_laysKey_102 rfl ?_
    refine j_getr fl_Model_140 tg_483 rv_483_57 d_X11_laysKey_103 ?_
    refine j_iload d_X11_laysKey_106 rfl ?_
    refine j_aload_n rfl d_X11_laysKey_108 rfl ?_
    refine j_aload_n rfl d_X11_laysKey_109 rfl ?_
    refine j_getr fl_Model_140 tg_483 rv_483_57 d_X11_laysKey_110 ?_
    refine j_iload d_X11_laysKey_113 rfl ?_
    refine j_lald tg_527 al_527 d_X11_laysKey_115 ?_
    refine j_aload_n rfl d_X11_laysKey_116 rfl ?_
    refine j_geti fl_Model_168 tg_483 d_X11_laysKey_117 ?_
    refine j_i2l d_X11_laysKey_120 ?_
    refine j_lmul d_X11_laysKey_121 ?_
    refine j_bind (fun r21 h22 => ?_)
    refine j_callV (y := y_X11_number) (I' := i_X11_number) (avs := [.inr (.inl (tp_wl ((M0 527 x6) * (M0 483 0))))]) (c := 483) (st := [.inl x6, .inr (.inr 527)]) (c_X11_number G (tp_wl ((M0 527 x6) * (M0 483 0))) M0 r21 h22) cs_Model_257 wd_1338 wd_1340 ws_48 tg_483 rfl rfl rfl (Nat.le_of_ble_eq_true rfl) ⟨rfl, rfl⟩ ⟨by decide, by decide⟩ ⟨by decide, by decide⟩ d_X11_laysKey_122 ?_
    refine j_last tg_527 al_527 d_X11_laysKey_125 (fun M23 hM23 => ?_)
    refine j_iincN (lv' := fun y24 => [some (.inr (.inr 483)), some (.inl x1), none, some (.inl x3), none, some (.inl x5), some (.inl y24)]) d_X11_laysKey_126 rfl (Nat.le_of_ble_eq_true rfl) (fun _ => rfl) (fun y24 hy24 => ?_)
    refine j_goto (tgt := 95) d_X11_laysKey_129 (by decide) ?_
    exact j_wk [true, true, false, true, false, true, true] rfl rfl (hrec_95 y24 M23)
def f_X11_laysKey_95 (rec_78 : Int → tp_M → Option (tp_M)) (x1 : Int) (x3 : Int) (x5 : Int) (x6 : Int) (M0 : tp_M) : Option (tp_M) := tp_lp (σ := Int × tp_M) (fun rec_ u => f_X11_laysKey_95B rec_78 x1 x3 x5 (fun x6' M0' => rec_ (x6', M0')) u.1 u.2) tp_N (x6, M0)
set_option maxHeartbeats 4000000 in
set_option maxRecDepth 100000 in
theorem T_X11_laysKey_95 (G : tp_G) (rec_78 : Int → tp_M → Option (tp_M)) (x1 : Int) (x3 : Int) (x5 : Int) (x6 : Int) (M0 : tp_M) (hrec_78 : ∀ (x5' : Int) (M' : tp_M), tp_J i_X11_laysKey (tp_rm 2) G 0 0 o_X11_laysKey tp_NC (tp_st M') 0 0 [some (.inr (.inr 483)), some (.inl x1), none, some (.inl x3), none, some (.inl (x5')), none] 78 [] (rec_78 x5' M')) : tp_J i_X11_laysKey (tp_rm 2) G 0 0 o_X11_laysKey tp_NC (tp_st M0) 0 0 [some (.inr (.inr 483)), some (.inl x1), none, some (.inl x3), none, some (.inl x5), some (.inl x6)] 95 [] (f_X11_laysKey_95 rec_78 x1 x3 x5 x6 M0) := by
  unfold f_X11_laysKey_95
  exact j_lp (σ := Int × tp_M) (n' := fun _ => tp_NC) (g' := fun u => tp_st u.2) (k' := fun _ => 0) (q' := fun _ => 0) (lv' := fun u => [some (.inr (.inr 483)), some (.inl x1), none, some (.inl x3), none, some (.inl x5), some (.inl u.1)]) (fun rec_ hrec u => T_X11_laysKey_95B G rec_78 x1 x3 x5 hrec_78 (fun x6' M0' => rec_ (x6', M0')) (fun x6' M0' => hrec (x6', M0')) u.1 u.2) tp_N (x6, M0)
def f_X11_laysKey_78B (x1 : Int) (x3 : Int) (rec_78 : Int → tp_M → Option (tp_M)) (x5 : Int) (M0 : tp_M) : Option (tp_M) :=
  if 0 ≤ (tp_w (7 * x3)) ∧ (tp_w (7 * x3)) < 448 then
    if (M0 514 (tp_w (7 * x3))) ≤ x5 then
      f_X11_laysKey_141 x1 x3 1 M0
    else
      f_X11_laysKey_95 rec_78 x1 x3 x5 0 M0 else none
set_option maxHeartbeats 4000000 in
set_option maxRecDepth 100000 in
theorem T_X11_laysKey_78B (G : tp_G) (x1 : Int) (x3 : Int) (rec_78 : Int → tp_M → Option (tp_M)) (hrec_78 : ∀ (x5' : Int) (M' : tp_M), tp_J i_X11_laysKey (tp_rm 2) G 0 0 o_X11_laysKey tp_NC (tp_st M') 0 0 [some (.inr (.inr 483)), some (.inl x1), none, some (.inl x3), none, some (.inl (x5')), none] 78 [] (rec_78 x5' M')) (x5 : Int) (M0 : tp_M) : tp_J i_X11_laysKey (tp_rm 2) G 0 0 o_X11_laysKey tp_NC (tp_st M0) 0 0 [some (.inr (.inr 483)), some (.inl x1), none, some (.inl x3), none, some (.inl x5), none] 78 [] (f_X11_laysKey_78B x1 x3 rec_78 x5 M0) := by
  unfold f_X11_laysKey_78B
  refine j_iload d_X11_laysKey_78 rfl ?_
  refine j_aload_n rfl d_X11_laysKey_80 rfl ?_
  refine j_getr fl_Model_101 tg_483 rv_483_42 d_X11_laysKey_81 ?_
  refine j_bipush ⟨by decide, by decide⟩ (by decide +kernel) d_X11_laysKey_84 ?_
  refine j_iload_n rfl d_X11_laysKey_86 rfl ?_
  refine j_imul d_X11_laysKey_87 ?_
  refine j_iald tg_514 al_514 d_X11_laysKey_88 ?_
  refine j_icmp_ge (tgt := 138) d_X11_laysKey_89 (by decide) (fun h7 => ?_) (fun h7 => ?_)
  · refine j_iconst ⟨by decide, by decide⟩ d_X11_laysKey_138 ?_
    refine j_istore (lv' := [some (.inr (.inr 483)), some (.inl x1), none, some (.inl x3), none, some (.inl 1), none]) d_X11_laysKey_139 (Nat.le_of_ble_eq_true rfl) rfl ?_
    exact j_wk [true, true, false, true, false, true, false] rfl rfl (T_X11_laysKey_141 G x1 x3 1 M0)
  · refine j_iconst ⟨by decide, by decide⟩ d_X11_laysKey_92 ?_
    refine j_istore (lv' := [some (.inr (.inr 483)), some (.inl x1), none, some (.inl x3), none, some (.inl x5), some (.inl 0)]) d_X11_laysKey_93 (Nat.le_of_ble_eq_true rfl) rfl ?_
    exact j_wk [true, true, false, true, false, true, true] rfl rfl (T_X11_laysKey_95 G rec_78 x1 x3 x5 0 M0 hrec_78)
def f_X11_laysKey_78 (x1 : Int) (x3 : Int) (x5 : Int) (M0 : tp_M) : Option (tp_M) := tp_lp (σ := Int × tp_M) (fun rec_ u => f_X11_laysKey_78B x1 x3 (fun x5' M0' => rec_ (x5', M0')) u.1 u.2) tp_N (x5, M0)
set_option maxHeartbeats 4000000 in
set_option maxRecDepth 100000 in
theorem T_X11_laysKey_78 (G : tp_G) (x1 : Int) (x3 : Int) (x5 : Int) (M0 : tp_M) : tp_J i_X11_laysKey (tp_rm 2) G 0 0 o_X11_laysKey tp_NC (tp_st M0) 0 0 [some (.inr (.inr 483)), some (.inl x1), none, some (.inl x3), none, some (.inl x5), none] 78 [] (f_X11_laysKey_78 x1 x3 x5 M0) := by
  unfold f_X11_laysKey_78
  exact j_lp (σ := Int × tp_M) (n' := fun _ => tp_NC) (g' := fun u => tp_st u.2) (k' := fun _ => 0) (q' := fun _ => 0) (lv' := fun u => [some (.inr (.inr 483)), some (.inl x1), none, some (.inl x3), none, some (.inl u.1), none]) (fun rec_ hrec u => T_X11_laysKey_78B G x1 x3 (fun x5' M0' => rec_ (x5', M0')) (fun x5' M0' => hrec (x5', M0')) u.1 u.2) tp_N (x5, M0)
def f_X11_laysKey_36B (x1 : Int) (x3 : Int) (x4 : Int) (rec_36 : Int → tp_M → Option (tp_M)) (x5 : Int) (M0 : tp_M) : Option (tp_M) :=
  if 9 ≤ x5 then
    (f_X11_begins x4 M0).bind fun r5 =>
    f_X11_laysKey_78 x1 x3 0 r5
  else
    if 0 ≤ x5 ∧ x5 < 9 then
      if 0 ≤ (tp_w ((tp_w (9 * x1)) + x5)) ∧ (tp_w ((tp_w (9 * x1)) + x5)) < 369 then
        tp_mp (tp_up M0 488 (tp_w ((tp_w (9 * x1)) + x5)) (M0 527 x5)) fun M25 =>
        tp_lt (tp_w (x5 + 1)) fun y26 =>
        rec_36 y26 M25 else none else none
set_option maxHeartbeats 4000000 in
set_option maxRecDepth 100000 in
theorem T_X11_laysKey_36B (G : tp_G) (x1 : Int) (x3 : Int) (x4 : Int) (rec_36 : Int → tp_M → Option (tp_M)) (hrec_36 : ∀ (x5' : Int) (M' : tp_M), tp_J i_X11_laysKey (tp_rm 2) G 0 0 o_X11_laysKey tp_NC (tp_st M') 0 0 [some (.inr (.inr 483)), some (.inl x1), none, some (.inl x3), some (.inl x4), some (.inl (x5')), none] 36 [] (rec_36 x5' M')) (x5 : Int) (M0 : tp_M) : tp_J i_X11_laysKey (tp_rm 2) G 0 0 o_X11_laysKey tp_NC (tp_st M0) 0 0 [some (.inr (.inr 483)), some (.inl x1), none, some (.inl x3), some (.inl x4), some (.inl x5), none] 36 [] (f_X11_laysKey_36B x1 x3 x4 rec_36 x5 M0) := by
  unfold f_X11_laysKey_36B
  refine j_iload d_X11_laysKey_36 rfl ?_
  refine j_bipush ⟨by decide, by decide⟩ (by decide +kernel) d_X11_laysKey_38 ?_
  refine j_icmp_ge (tgt := 68) d_X11_laysKey_40 (by decide) (fun h4 => ?_) (fun h4 => ?_)
  · refine j_aload_n rfl d_X11_laysKey_68 rfl ?_
    refine j_iload d_X11_laysKey_69 rfl ?_
    refine j_i2l d_X11_laysKey_71 ?_
    refine j_bind (fun r5 h6 => ?_)
    refine j_callV (y := y_X11_begins) (I' := i_X11_begins) (avs := [.inr (.inl x4)]) (c := 483) (st := []) (c_X11_begins G x4 M0 r5 h6) cs_Model_365 wd_1483 wd_1485 ws_81 tg_483 rfl rfl rfl (Nat.le_of_ble_eq_true rfl) ⟨rfl, rfl⟩ ⟨by decide, by decide⟩ ⟨by decide, by decide⟩ d_X11_laysKey_72 ?_
    refine j_iconst ⟨by decide, by decide⟩ d_X11_laysKey_75 ?_
    refine j_istore (lv' := [some (.inr (.inr 483)), some (.inl x1), none, some (.inl x3), some (.inl x4), some (.inl 0), none]) d_X11_laysKey_76 (Nat.le_of_ble_eq_true rfl) rfl ?_
    exact j_wk [true, true, false, true, false, true, false] rfl rfl (T_X11_laysKey_78 G x1 x3 0 r5)
  · refine j_aload_n rfl d_X11_laysKey_43 rfl ?_
    refine j_getr fl_Model_23 tg_483 rv_483_9 d_X11_laysKey_44 ?_
    refine j_bipush ⟨by decide, by decide⟩ (by decide +kernel) d_X11_laysKey_47 ?_
    refine j_iload_n rfl d_X11_laysKey_49 rfl ?_
    refine j_imul d_X11_laysKey_50 ?_
    refine j_iload d_X11_laysKey_51 rfl ?_
    refine j_iadd d_X11_laysKey_53 ?_
    refine j_aload_n rfl d_X11_laysKey_54 rfl ?_
    refine j_getr fl_Model_140 tg_483 rv_483_57 d_X11_laysKey_55 ?_
    refine j_iload d_X11_laysKey_58 rfl ?_
    refine j_lald tg_527 al_527 d_X11_laysKey_60 ?_
    refine j_last tg_488 al_488 d_X11_laysKey_61 (fun M25 hM25 => ?_)
    refine j_iincN (lv' := fun y26 => [some (.inr (.inr 483)), some (.inl x1), none, some (.inl x3), some (.inl x4), some (.inl y26), none]) d_X11_laysKey_62 rfl (Nat.le_of_ble_eq_true rfl) (fun _ => rfl) (fun y26 hy26 => ?_)
    refine j_goto (tgt := 36) d_X11_laysKey_65 (by decide) ?_
    exact j_wk [true, true, false, true, true, true, false] rfl rfl (hrec_36 y26 M25)
def f_X11_laysKey_36 (x1 : Int) (x3 : Int) (x4 : Int) (x5 : Int) (M0 : tp_M) : Option (tp_M) := tp_lp (σ := Int × tp_M) (fun rec_ u => f_X11_laysKey_36B x1 x3 x4 (fun x5' M0' => rec_ (x5', M0')) u.1 u.2) tp_N (x5, M0)
set_option maxHeartbeats 4000000 in
set_option maxRecDepth 100000 in
theorem T_X11_laysKey_36 (G : tp_G) (x1 : Int) (x3 : Int) (x4 : Int) (x5 : Int) (M0 : tp_M) : tp_J i_X11_laysKey (tp_rm 2) G 0 0 o_X11_laysKey tp_NC (tp_st M0) 0 0 [some (.inr (.inr 483)), some (.inl x1), none, some (.inl x3), some (.inl x4), some (.inl x5), none] 36 [] (f_X11_laysKey_36 x1 x3 x4 x5 M0) := by
  unfold f_X11_laysKey_36
  exact j_lp (σ := Int × tp_M) (n' := fun _ => tp_NC) (g' := fun u => tp_st u.2) (k' := fun _ => 0) (q' := fun _ => 0) (lv' := fun u => [some (.inr (.inr 483)), some (.inl x1), none, some (.inl x3), some (.inl x4), some (.inl u.1), none]) (fun rec_ hrec u => T_X11_laysKey_36B G x1 x3 x4 (fun x5' M0' => rec_ (x5', M0')) (fun x5' M0' => hrec (x5', M0')) u.1 u.2) tp_N (x5, M0)
def f_X11_laysKey_8B (x1 : Int) (x2 : Int) (x3 : Int) (x4 : Int) (rec_8 : Int → tp_M → Option (tp_M)) (x5 : Int) (M0 : tp_M) : Option (tp_M) :=
  if 0 ≤ x3 ∧ x3 < 64 then
    if (M0 511 x3) ≤ x5 then
      f_X11_laysKey_36 x1 x3 x4 0 M0
    else
      (f_X11_multiplies (tp_w (9 * x2)) M0).bind fun r27 =>
      tp_lt (tp_w (x5 + 1)) fun y29 =>
      rec_8 y29 r27 else none
set_option maxHeartbeats 4000000 in
set_option maxRecDepth 100000 in
theorem T_X11_laysKey_8B (G : tp_G) (x1 : Int) (x2 : Int) (x3 : Int) (x4 : Int) (rec_8 : Int → tp_M → Option (tp_M)) (hrec_8 : ∀ (x5' : Int) (M' : tp_M), tp_J i_X11_laysKey (tp_rm 2) G 0 0 o_X11_laysKey tp_NC (tp_st M') 0 0 [some (.inr (.inr 483)), some (.inl x1), some (.inl x2), some (.inl x3), some (.inl x4), some (.inl (x5')), none] 8 [] (rec_8 x5' M')) (x5 : Int) (M0 : tp_M) : tp_J i_X11_laysKey (tp_rm 2) G 0 0 o_X11_laysKey tp_NC (tp_st M0) 0 0 [some (.inr (.inr 483)), some (.inl x1), some (.inl x2), some (.inl x3), some (.inl x4), some (.inl x5), none] 8 [] (f_X11_laysKey_8B x1 x2 x3 x4 rec_8 x5 M0) := by
  unfold f_X11_laysKey_8B
  refine j_iload d_X11_laysKey_8 rfl ?_
  refine j_aload_n rfl d_X11_laysKey_10 rfl ?_
  refine j_getr fl_Model_92 tg_483 rv_483_39 d_X11_laysKey_11 ?_
  refine j_iload_n rfl d_X11_laysKey_14 rfl ?_
  refine j_iald tg_511 al_511 d_X11_laysKey_15 ?_
  refine j_icmp_ge (tgt := 33) d_X11_laysKey_16 (by decide) (fun h3 => ?_) (fun h3 => ?_)
  · refine j_iconst ⟨by decide, by decide⟩ d_X11_laysKey_33 ?_
    refine j_istore (lv' := [some (.inr (.inr 483)), some (.inl x1), some (.inl x2), some (.inl x3), some (.inl x4), some (.inl 0), none]) d_X11_laysKey_34 (Nat.le_of_ble_eq_true rfl) rfl ?_
    exact j_wk [true, true, false, true, true, true, false] rfl rfl (T_X11_laysKey_36 G x1 x3 x4 0 M0)
  · refine j_aload_n rfl d_X11_laysKey_19 rfl ?_
    refine j_bipush ⟨by decide, by decide⟩ (by decide +kernel) d_X11_laysKey_20 ?_
    refine j_iload_n rfl d_X11_laysKey_22 rfl ?_
    refine j_imul d_X11_laysKey_23 ?_
    refine j_bind (fun r27 h28 => ?_)
    refine j_callV (y := y_X11_multiplies) (I' := i_X11_multiplies) (avs := [.inl (tp_w (9 * x2))]) (c := 483) (st := []) (c_X11_multiplies G (tp_w (9 * x2)) M0 r27 h28) cs_Model_369 wd_1487 wd_1489 ws_82 tg_483 rfl rfl rfl (Nat.le_of_ble_eq_true rfl) ⟨rfl, rfl⟩ ⟨by decide, by decide⟩ ⟨by decide, by decide⟩ d_X11_laysKey_24 ?_
    refine j_iincN (lv' := fun y29 => [some (.inr (.inr 483)), some (.inl x1), some (.inl x2), some (.inl x3), some (.inl x4), some (.inl y29), none]) d_X11_laysKey_27 rfl (Nat.le_of_ble_eq_true rfl) (fun _ => rfl) (fun y29 hy29 => ?_)
    refine j_goto (tgt := 8) d_X11_laysKey_30 (by decide) ?_
    exact j_wk [true, true, true, true, true, true, false] rfl rfl (hrec_8 y29 r27)
def f_X11_laysKey_8 (x1 : Int) (x2 : Int) (x3 : Int) (x4 : Int) (x5 : Int) (M0 : tp_M) : Option (tp_M) := tp_lp (σ := Int × tp_M) (fun rec_ u => f_X11_laysKey_8B x1 x2 x3 x4 (fun x5' M0' => rec_ (x5', M0')) u.1 u.2) tp_N (x5, M0)
set_option maxHeartbeats 4000000 in
set_option maxRecDepth 100000 in
theorem T_X11_laysKey_8 (G : tp_G) (x1 : Int) (x2 : Int) (x3 : Int) (x4 : Int) (x5 : Int) (M0 : tp_M) : tp_J i_X11_laysKey (tp_rm 2) G 0 0 o_X11_laysKey tp_NC (tp_st M0) 0 0 [some (.inr (.inr 483)), some (.inl x1), some (.inl x2), some (.inl x3), some (.inl x4), some (.inl x5), none] 8 [] (f_X11_laysKey_8 x1 x2 x3 x4 x5 M0) := by
  unfold f_X11_laysKey_8
  exact j_lp (σ := Int × tp_M) (n' := fun _ => tp_NC) (g' := fun u => tp_st u.2) (k' := fun _ => 0) (q' := fun _ => 0) (lv' := fun u => [some (.inr (.inr 483)), some (.inl x1), some (.inl x2), some (.inl x3), some (.inl x4), some (.inl u.1), none]) (fun rec_ hrec u => T_X11_laysKey_8B G x1 x2 x3 x4 (fun x5' M0' => rec_ (x5', M0')) (fun x5' M0' => hrec (x5', M0')) u.1 u.2) tp_N (x5, M0)
def f_X11_laysKey (a0 : Int) (a1 : Int) (a2 : Int) (a3 : Int) (M0 : tp_M) : Option (tp_M) :=
  (f_X11_begins 1 M0).bind fun r1 =>
  f_X11_laysKey_8 a0 a1 a2 a3 0 r1
set_option maxHeartbeats 4000000 in
set_option maxRecDepth 100000 in
theorem T_X11_laysKey (G : tp_G) (a0 : Int) (a1 : Int) (a2 : Int) (a3 : Int) (M0 : tp_M) : tp_J i_X11_laysKey (tp_rm 2) G 0 0 o_X11_laysKey tp_NC (tp_st M0) 0 0 [some (.inr (.inr 483)), some (.inl a0), some (.inl a1), some (.inl a2), some (.inl a3), none, none] 0 [] (f_X11_laysKey a0 a1 a2 a3 M0) := by
  unfold f_X11_laysKey
  refine j_aload_n rfl d_X11_laysKey_0 rfl ?_
  refine j_lconst (x := 1) ⟨by decide, by decide⟩ (by decide +kernel) d_X11_laysKey_1 ?_
  refine j_bind (fun r1 h2 => ?_)
  refine j_callV (y := y_X11_begins) (I' := i_X11_begins) (avs := [.inr (.inl 1)]) (c := 483) (st := []) (c_X11_begins G 1 M0 r1 h2) cs_Model_365 wd_1483 wd_1485 ws_81 tg_483 rfl rfl rfl (Nat.le_of_ble_eq_true rfl) ⟨rfl, rfl⟩ ⟨by decide, by decide⟩ ⟨by decide, by decide⟩ d_X11_laysKey_2 ?_
  refine j_iconst ⟨by decide, by decide⟩ d_X11_laysKey_5 ?_
  refine j_istore (lv' := [some (.inr (.inr 483)), some (.inl a0), some (.inl a1), some (.inl a2), some (.inl a3), some (.inl 0), none]) d_X11_laysKey_6 (Nat.le_of_ble_eq_true rfl) rfl ?_
  exact j_wk [true, true, true, true, true, true, false] rfl rfl (T_X11_laysKey_8 G a0 a1 a2 a3 0 r1)
set_option maxHeartbeats 4000000 in
set_option maxRecDepth 100000 in
theorem c_X11_laysKey (G : tp_G) (a0 : Int) (a1 : Int) (a2 : Int) (a3 : Int) (M0 : tp_M) (r : tp_M) (h : f_X11_laysKey a0 a1 a2 a3 M0 = some r) (l : Launch) : Met l y_X11_laysKey (tp_ws y_X11_laysKey i_X11_laysKey) (tp_rm 2) (tp_Pc G [.inr (.inr 483), .inl a0, .inl a1, .inl a2, .inl a3] tp_NC (tp_st M0)) (tp_Q G (o_X11_laysKey r)) 0 0 (tp_A G) :=
  tp_met (I := i_X11_laysKey) (y := y_X11_laysKey) (by decide +kernel) (Eq.refl "TypesAtPrimeModel") (Eq.refl "laysKey") (lv := [some (.inr (.inr 483)), some (.inl a0), some (.inl a1), some (.inl a2), some (.inl a3), none, none]) rfl (Nat.le_of_ble_eq_true rfl) (T_X11_laysKey G a0 a1 a2 a3 M0) h l
theorem wd_1049 : (.fieldLink "TypesAtPrimeModel" 372 "TypesAtPrimeModel" "knots" "I" : Cond) ∈ lw_tbl := List.mem_append_right _ (List.mem_of_getElem? (i := 1049) (by decide +kernel))
theorem fl_Model_372 : tp_F "TypesAtPrimeModel" 372 11 21 0 := ⟨_, _, _, rfl, by decide, rfl, wd_1049, rfl, by decide⟩
theorem pf_11_21 (v : Int) : ∀ (C : String) (T : u_T) (N : Nat), vwCl[11]? = some (C, T, N) → (T 21).2.2.2 = false ∧ ∀ G : tp_G, ∃ ty, parseFieldDescriptor (T 21).2.2.1 = some ty ∧ narrow ty (tp_enc G (tp_zv 0 v)) = tp_enc G (tp_zv 0 v) ∧ fits ty (tp_enc G (tp_zv 0 v)) = true := by
  intro C T N h
  cases h
  exact ⟨rfl, fun G => ⟨_, tyX11_ok 21 (by decide), rfl, rfl⟩⟩
def y_X11_newKnot : MethodName := ⟨"TypesAtPrimeModel", "newKnot", "(II)I"⟩
abbrev i_X11_newKnot : tp_I := (prog_13_method_60_code, "TypesAtPrimeModel", (some .int), 5, "newKnot")
abbrev o_X11_newKnot : Int × tp_M → tp_O := fun r => (some (.inl r.1), tp_NC, tp_st r.2)
theorem d_X11_newKnot_0 : decode prog_13_method_60_code 0 = .ok (.aload_n 0, 1) := by decide +kernel
theorem d_X11_newKnot_1 : decode prog_13_method_60_code 1 = .ok (.getfield 372, 3) := by decide +kernel
theorem d_X11_newKnot_4 : decode prog_13_method_60_code 4 = .ok (.istore_n 3, 1) := by decide +kernel
theorem d_X11_newKnot_5 : decode prog_13_method_60_code 5 = .ok (.aload_n 0, 1) := by decide +kernel
theorem d_X11_newKnot_6 : decode prog_13_method_60_code 6 = .ok (.dup, 1) := by decide +kernel
theorem d_X11_newKnot_7 : decode prog_13_method_60_code 7 = .ok (.getfield 372, 3) := by decide +kernel
theorem d_X11_newKnot_10 : decode prog_13_method_60_code 10 = .ok (.iconst 1, 1) := by decide +kernel
theorem d_X11_newKnot_11 : decode prog_13_method_60_code 11 = .ok (.iadd, 1) := by decide +kernel
theorem d_X11_newKnot_12 : decode prog_13_method_60_code 12 = .ok (.putfield 372, 3) := by decide +kernel
theorem d_X11_newKnot_15 : decode prog_13_method_60_code 15 = .ok (.aload_n 0, 1) := by decide +kernel
theorem d_X11_newKnot_16 : decode prog_13_method_60_code 16 = .ok (.getfield 47, 3) := by decide +kernel
theorem d_X11_newKnot_19 : decode prog_13_method_60_code 19 = .ok (.iload_n 3, 1) := by decide +kernel
theorem d_X11_newKnot_20 : decode prog_13_method_60_code 20 = .ok (.iload_n 1, 1) := by decide +kernel
theorem d_X11_newKnot_21 : decode prog_13_method_60_code 21 = .ok (.ifCond .ge 7, 3) := by decide +kernel
theorem d_X11_newKnot_24 : decode prog_13_method_60_code 24 = .ok (.iconst 1, 1) := by decide +kernel
theorem d_X11_newKnot_25 : decode prog_13_method_60_code 25 = .ok (.goto 11, 3) := by decide +kernel
theorem d_X11_newKnot_28 : decode prog_13_method_60_code 28 = .ok (.aload_n 0, 1) := by decide +kernel
theorem d_X11_newKnot_29 : decode prog_13_method_60_code 29 = .ok (.getfield 47, 3) := by decide +kernel
theorem d_X11_newKnot_32 : decode prog_13_method_60_code 32 = .ok (.iload_n 1, 1) := by decide +kernel
theorem d_X11_newKnot_33 : decode prog_13_method_60_code 33 = .ok (.iaload, 1) := by decide +kernel
theorem d_X11_newKnot_34 : decode prog_13_method_60_code 34 = .ok (.iconst 1, 1) := by decide +kernel
theorem d_X11_newKnot_35 : decode prog_13_method_60_code 35 = .ok (.iadd, 1) := by decide +kernel
theorem d_X11_newKnot_36 : decode prog_13_method_60_code 36 = .ok (.iastore, 1) := by decide +kernel
theorem d_X11_newKnot_37 : decode prog_13_method_60_code 37 = .ok (.aload_n 0, 1) := by decide +kernel
theorem d_X11_newKnot_38 : decode prog_13_method_60_code 38 = .ok (.getfield 50, 3) := by decide +kernel
theorem d_X11_newKnot_41 : decode prog_13_method_60_code 41 = .ok (.iload_n 3, 1) := by decide +kernel
theorem d_X11_newKnot_42 : decode prog_13_method_60_code 42 = .ok (.iload_n 2, 1) := by decide +kernel
theorem d_X11_newKnot_43 : decode prog_13_method_60_code 43 = .ok (.iastore, 1) := by decide +kernel
theorem d_X11_newKnot_44 : decode prog_13_method_60_code 44 = .ok (.aload_n 0, 1) := by decide +kernel
theorem d_X11_newKnot_45 : decode prog_13_method_60_code 45 = .ok (.getfield 53, 3) := by decide +kernel
theorem d_X11_newKnot_48 : decode prog_13_method_60_code 48 = .ok (.iload_n 3, 1) := by decide +kernel
theorem d_X11_newKnot_49 : decode prog_13_method_60_code 49 = .ok (.iload_n 1, 1) := by decide +kernel
theorem d_X11_newKnot_50 : decode prog_13_method_60_code 50 = .ok (.iastore, 1) := by decide +kernel
theorem d_X11_newKnot_51 : decode prog_13_method_60_code 51 = .ok (.iconst 0, 1) := by decide +kernel
theorem d_X11_newKnot_52 : decode prog_13_method_60_code 52 = .ok (.istore 4, 2) := by decide +kernel
theorem d_X11_newKnot_54 : decode prog_13_method_60_code 54 = .ok (.iload 4, 2) := by decide +kernel
theorem d_X11_newKnot_56 : decode prog_13_method_60_code 56 = .ok (.bipush 9, 2) := by decide +kernel
theorem d_X11_newKnot_58 : decode prog_13_method_60_code 58 = .ok (.if_icmp .ge 22, 3) := by decide +kernel
theorem d_X11_newKnot_61 : decode prog_13_method_60_code 61 = .ok (.aload_n 0, 1) := by decide +kernel
theorem d_X11_newKnot_62 : decode prog_13_method_60_code 62 = .ok (.getfield 23, 3) := by decide +kernel
theorem d_X11_newKnot_65 : decode prog_13_method_60_code 65 = .ok (.bipush 9, 2) := by decide +kernel
theorem d_X11_newKnot_67 : decode prog_13_method_60_code 67 = .ok (.iload_n 3, 1) := by decide +kernel
theorem d_X11_newKnot_68 : decode prog_13_method_60_code 68 = .ok (.imul, 1) := by decide +kernel
theorem d_X11_newKnot_69 : decode prog_13_method_60_code 69 = .ok (.iload 4, 2) := by decide +kernel
theorem d_X11_newKnot_71 : decode prog_13_method_60_code 71 = .ok (.iadd, 1) := by decide +kernel
theorem d_X11_newKnot_72 : decode prog_13_method_60_code 72 = .ok (.lconst 0, 1) := by decide +kernel
theorem d_X11_newKnot_73 : decode prog_13_method_60_code 73 = .ok (.lastore, 1) := by decide +kernel
theorem d_X11_newKnot_74 : decode prog_13_method_60_code 74 = .ok (.iinc 4 1, 3) := by decide +kernel
theorem d_X11_newKnot_77 : decode prog_13_method_60_code 77 = .ok (.goto (-23), 3) := by decide +kernel
theorem d_X11_newKnot_80 : decode prog_13_method_60_code 80 = .ok (.iload_n 3, 1) := by decide +kernel
theorem d_X11_newKnot_81 : decode prog_13_method_60_code 81 = .ok (.ireturn, 1) := by decide +kernel
def f_X11_newKnot_54B (x3 : Int) (rec_54 : Int → tp_M → Option (Int × tp_M)) (x4 : Int) (M0 : tp_M) : Option (Int × tp_M) :=
  if 9 ≤ x4 then
    some (x3, M0)
  else
    if 0 ≤ (tp_w ((tp_w (9 * x3)) + x4)) ∧ (tp_w ((tp_w (9 * x3)) + x4)) < 369 then
      tp_mp (tp_up M0 488 (tp_w ((tp_w (9 * x3)) + x4)) 0) fun M8 =>
      tp_lt (tp_w (x4 + 1)) fun y9 =>
      rec_54 y9 M8 else none
set_option maxHeartbeats 4000000 in
set_option maxRecDepth 100000 in
theorem T_X11_newKnot_54B (G : tp_G) (x3 : Int) (rec_54 : Int → tp_M → Option (Int × tp_M)) (hrec_54 : ∀ (x4' : Int) (M' : tp_M), tp_J i_X11_newKnot (tp_rm 0) G 0 0 o_X11_newKnot tp_NC (tp_st M') 0 0 [some (.inr (.inr 483)), none, none, some (.inl x3), some (.inl (x4'))] 54 [] (rec_54 x4' M')) (x4 : Int) (M0 : tp_M) : tp_J i_X11_newKnot (tp_rm 0) G 0 0 o_X11_newKnot tp_NC (tp_st M0) 0 0 [some (.inr (.inr 483)), none, none, some (.inl x3), some (.inl x4)] 54 [] (f_X11_newKnot_54B x3 rec_54 x4 M0) := by
  unfold f_X11_newKnot_54B
  refine j_iload d_X11_newKnot_54 rfl ?_
  refine j_bipush ⟨by decide, by decide⟩ (by decide +kernel) d_X11_newKnot_56 ?_
  refine j_icmp_ge (tgt := 80) d_X11_newKnot_58 (by decide) (fun h7 => ?_) (fun h7 => ?_)
  · refine j_iload_n rfl d_X11_newKnot_80 rfl ?_
    exact j_iret d_X11_newKnot_81 rfl rfl ⟨rfl, rfl⟩
  · refine j_aload_n rfl d_X11_newKnot_61 rfl ?_
    refine j_getr fl_Model_23 tg_483 rv_483_9 d_X11_newKnot_62 ?_
    refine j_bipush ⟨by decide, by decide⟩ (by decide +kernel) d_X11_newKnot_65 ?_
    refine j_iload_n rfl d_X11_newKnot_67 rfl ?_
    refine j_imul d_X11_newKnot_68 ?_
    refine j_iload d_X11_newKnot_69 rfl ?_
    refine j_iadd d_X11_newKnot_71 ?_
    refine j_lconst (x := 0) ⟨by decide, by decide⟩ (by decide +kernel) d_X11_newKnot_72 ?_
    refine j_last tg_488 al_488 d_X11_newKnot_73 (fun M8 hM8 => ?_)
    refine j_iincN (lv' := fun y9 => [some (.inr (.inr 483)), none, none, some (.inl x3), some (.inl y9)]) d_X11_newKnot_74 rfl (Nat.le_of_ble_eq_true rfl) (fun _ => rfl) (fun y9 hy9 => ?_)
    refine j_goto (tgt := 54) d_X11_newKnot_77 (by decide) ?_
    exact j_wk [true, false, false, true, true] rfl rfl (hrec_54 y9 M8)
def f_X11_newKnot_54 (x3 : Int) (x4 : Int) (M0 : tp_M) : Option (Int × tp_M) := tp_lp (σ := Int × tp_M) (fun rec_ u => f_X11_newKnot_54B x3 (fun x4' M0' => rec_ (x4', M0')) u.1 u.2) tp_N (x4, M0)
set_option maxHeartbeats 4000000 in
set_option maxRecDepth 100000 in
theorem T_X11_newKnot_54 (G : tp_G) (x3 : Int) (x4 : Int) (M0 : tp_M) : tp_J i_X11_newKnot (tp_rm 0) G 0 0 o_X11_newKnot tp_NC (tp_st M0) 0 0 [some (.inr (.inr 483)), none, none, some (.inl x3), some (.inl x4)] 54 [] (f_X11_newKnot_54 x3 x4 M0) := by
  unfold f_X11_newKnot_54
  exact j_lp (σ := Int × tp_M) (n' := fun _ => tp_NC) (g' := fun u => tp_st u.2) (k' := fun _ => 0) (q' := fun _ => 0) (lv' := fun u => [some (.inr (.inr 483)), none, none, some (.inl x3), some (.inl u.1)]) (fun rec_ hrec u => T_X11_newKnot_54B G x3 (fun x4' M0' => rec_ (x4', M0')) (fun x4' M0' => hrec (x4', M0')) u.1 u.2) tp_N (x4, M0)
def f_X11_newKnot_36 (x1 : Int) (x2 : Int) (x3 : Int) (s0 : Int) (s1 : Int) (M0 : tp_M) : Option (Int × tp_M) :=
  if 0 ≤ s1 ∧ s1 < 40 then
    tp_mp (tp_up M0 496 s1 s0) fun M4 =>
    if 0 ≤ x3 ∧ x3 < 40 then
      tp_mp (tp_up M4 497 x3 x2) fun M5 =>
      if 0 ≤ x3 ∧ x3 < 40 then
        tp_mp (tp_up M5 498 x3 x1) fun M6 =>
        f_X11_newKnot_54 x3 0 M6 else none else none else none
set_option maxHeartbeats 4000000 in
set_option maxRecDepth 100000 in
theorem T_X11_newKnot_36 (G : tp_G) (x1 : Int) (x2 : Int) (x3 : Int) (s0 : Int) (s1 : Int) (M0 : tp_M) : tp_J i_X11_newKnot (tp_rm 0) G 0 0 o_X11_newKnot tp_NC (tp_st M0) 0 0 [some (.inr (.inr 483)), some (.inl x1), some (.inl x2), some (.inl x3), none] 36 [.inl s0, .inl s1, .inr (.inr 496)] (f_X11_newKnot_36 x1 x2 x3 s0 s1 M0) := by
  unfold f_X11_newKnot_36
  refine j_iast tg_496 al_496 d_X11_newKnot_36 (fun M4 hM4 => ?_)
  refine j_aload_n rfl d_X11_newKnot_37 rfl ?_
  refine j_getr fl_Model_50 tg_483 rv_483_25 d_X11_newKnot_38 ?_
  refine j_iload_n rfl d_X11_newKnot_41 rfl ?_
  refine j_iload_n rfl d_X11_newKnot_42 rfl ?_
  refine j_iast tg_497 al_497 d_X11_newKnot_43 (fun M5 hM5 => ?_)
  refine j_aload_n rfl d_X11_newKnot_44 rfl ?_
  refine j_getr fl_Model_53 tg_483 rv_483_26 d_X11_newKnot_45 ?_
  refine j_iload_n rfl d_X11_newKnot_48 rfl ?_
  refine j_iload_n rfl d_X11_newKnot_49 rfl ?_
  refine j_iast tg_498 al_498 d_X11_newKnot_50 (fun M6 hM6 => ?_)
  refine j_iconst ⟨by decide, by decide⟩ d_X11_newKnot_51 ?_
  refine j_istore (lv' := [some (.inr (.inr 483)), some (.inl x1), some (.inl x2), some (.inl x3), some (.inl 0)]) d_X11_newKnot_52 (Nat.le_of_ble_eq_true rfl) rfl ?_
  exact j_wk [true, false, false, true, true] rfl rfl (T_X11_newKnot_54 G x3 0 M6)
def f_X11_newKnot (a0 : Int) (a1 : Int) (M0 : tp_M) : Option (Int × tp_M) :=
  tp_lt ((M0 483 21)) fun y1 =>
  tp_mp (tp_up M0 483 21 (tp_w ((M0 483 21) + 1))) fun M2 =>
  if 0 ≤ a0 then
    if 0 ≤ a0 ∧ a0 < 40 then
      f_X11_newKnot_36 a0 a1 y1 (tp_w ((M2 496 a0) + 1)) y1 M2 else none
  else
    f_X11_newKnot_36 a0 a1 y1 1 y1 M2
set_option maxHeartbeats 4000000 in
set_option maxRecDepth 100000 in
theorem T_X11_newKnot (G : tp_G) (a0 : Int) (a1 : Int) (M0 : tp_M) : tp_J i_X11_newKnot (tp_rm 0) G 0 0 o_X11_newKnot tp_NC (tp_st M0) 0 0 [some (.inr (.inr 483)), some (.inl a0), some (.inl a1), none, none] 0 [] (f_X11_newKnot a0 a1 M0) := by
  unfold f_X11_newKnot
  refine j_aload_n rfl d_X11_newKnot_0 rfl ?_
  refine j_geti fl_Model_372 tg_483 d_X11_newKnot_1 ?_
  refine j_nmI (fun y1 hy1 => ?_)
  refine j_istore_n (lv' := [some (.inr (.inr 483)), some (.inl a0), some (.inl a1), some (.inl y1), none]) rfl d_X11_newKnot_4 (Nat.le_of_ble_eq_true rfl) rfl ?_
  refine j_aload_n rfl d_X11_newKnot_5 rfl ?_
  refine j_dup d_X11_newKnot_6 (fun G => tp_cat G _) ?_
  refine j_geti fl_Model_372 tg_483 d_X11_newKnot_7 ?_
  refine j_iconst ⟨by decide, by decide⟩ d_X11_newKnot_10 ?_
  refine j_iadd d_X11_newKnot_11 ?_
  refine j_put (z := 0) (v := (tp_w ((M0 483 21) + 1))) fl_Model_372 (by decide) tg_483 (pf_11_21 _) pt_11 d_X11_newKnot_12 (fun M2 hM2 => ?_)
  refine j_aload_n rfl d_X11_newKnot_15 rfl ?_
  refine j_getr fl_Model_47 tg_483 rv_483_24 d_X11_newKnot_16 ?_
  refine j_iload_n rfl d_X11_newKnot_19 rfl ?_
  refine j_iload_n rfl d_X11_newKnot_20 rfl ?_
  refine j_if_ge (tgt := 28) d_X11_newKnot_21 (by decide) (fun h3 => ?_) (fun h3 => ?_)
  · refine j_aload_n rfl d_X11_newKnot_28 rfl ?_
    refine j_getr fl_Model_47 tg_483 rv_483_24 d_X11_newKnot_29 ?_
    refine j_iload_n rfl d_X11_newKnot_32 rfl ?_
    refine j_iald tg_496 al_496 d_X11_newKnot_33 ?_
    refine j_iconst ⟨by decide, by decide⟩ d_X11_newKnot_34 ?_
    refine j_iadd d_X11_newKnot_35 ?_
    exact j_wk [true, true, true, true, false] rfl rfl (T_X11_newKnot_36 G a0 a1 y1 (tp_w ((M2 496 a0) + 1)) y1 M2)
  · refine j_iconst ⟨by decide, by decide⟩ d_X11_newKnot_24 ?_
    refine j_goto (tgt := 36) d_X11_newKnot_25 (by decide) ?_
    exact j_wk [true, true, true, true, false] rfl rfl (T_X11_newKnot_36 G a0 a1 y1 1 y1 M2)
set_option maxHeartbeats 4000000 in
set_option maxRecDepth 100000 in
theorem c_X11_newKnot (G : tp_G) (a0 : Int) (a1 : Int) (M0 : tp_M) (r : Int × tp_M) (h : f_X11_newKnot a0 a1 M0 = some r) (l : Launch) : Met l y_X11_newKnot (tp_ws y_X11_newKnot i_X11_newKnot) (tp_rm 0) (tp_Pc G [.inr (.inr 483), .inl a0, .inl a1] tp_NC (tp_st M0)) (tp_Q G (o_X11_newKnot r)) 0 0 (tp_A G) :=
  tp_met (I := i_X11_newKnot) (y := y_X11_newKnot) (by decide +kernel) (Eq.refl "TypesAtPrimeModel") (Eq.refl "newKnot") (lv := [some (.inr (.inr 483)), some (.inl a0), some (.inl a1), none, none]) rfl (Nat.le_of_ble_eq_true rfl) (T_X11_newKnot G a0 a1 M0) h l
theorem wd_1415 : (.code ⟨"TypesAtPrimeModel", "laysKnot", "(I)V"⟩ prog_13_method_56_code 4 (none : Option Jvm.ClassFile.FieldType) : Cond) ∈ lw_tbl := List.mem_append_right _ (List.mem_of_getElem? (i := 1415) (by decide +kernel))
theorem cs_Model_375 : tp_CS "TypesAtPrimeModel" 375 y_X11_laysKnot i_X11_laysKnot 1 := ⟨wd_1415, wd_12, by decide, by decide, by decide +kernel⟩
theorem wd_1412 : (.methodLink "TypesAtPrimeModel" 375 ⟨"TypesAtPrimeModel", "laysKnot", "(I)V"⟩ : Cond) ∈ lw_tbl := List.mem_append_right _ (List.mem_of_getElem? (i := 1412) (by decide +kernel))
theorem wd_1414 : (.instanceMethod ⟨"TypesAtPrimeModel", "laysKnot", "(I)V"⟩ : Cond) ∈ lw_tbl := List.mem_append_right _ (List.mem_of_getElem? (i := 1414) (by decide +kernel))
theorem ws_64 : (.selects "TypesAtPrimeModel" ⟨"TypesAtPrimeModel", "laysKnot", "(I)V"⟩ ⟨"TypesAtPrimeModel", "laysKnot", "(I)V"⟩ : Cond) ∈ lw_tbl := List.mem_append_left _ (List.mem_of_getElem? (i := 64) (by decide +kernel))
theorem wd_1089 : (.fieldLink "TypesAtPrimeModel" 378 "TypesAtPrimeModel" "height" "I" : Cond) ∈ lw_tbl := List.mem_append_right _ (List.mem_of_getElem? (i := 1089) (by decide +kernel))
theorem fl_Model_378 : tp_F "TypesAtPrimeModel" 378 11 61 0 := ⟨_, _, _, rfl, by decide, rfl, wd_1089, rfl, by decide⟩
theorem pf_11_61 (v : Int) : ∀ (C : String) (T : u_T) (N : Nat), vwCl[11]? = some (C, T, N) → (T 61).2.2.2 = false ∧ ∀ G : tp_G, ∃ ty, parseFieldDescriptor (T 61).2.2.1 = some ty ∧ narrow ty (tp_enc G (tp_zv 0 v)) = tp_enc G (tp_zv 0 v) ∧ fits ty (tp_enc G (tp_zv 0 v)) = true := by
  intro C T N h
  cases h
  exact ⟨rfl, fun G => ⟨_, tyX11_ok 61 (by decide), rfl, rfl⟩⟩
theorem wd_1086 : (.fieldLink "TypesAtPrimeModel" 143 "TypesAtPrimeModel" "knotAt" "[I" : Cond) ∈ lw_tbl := List.mem_append_right _ (List.mem_of_getElem? (i := 1086) (by decide +kernel))
theorem fl_Model_143 : tp_F "TypesAtPrimeModel" 143 11 58 2 := ⟨_, _, _, rfl, by decide, rfl, wd_1086, rfl, by decide⟩
theorem tg_528 : tp_tg 528 = 21 := by decide +kernel
theorem al_528 : tp_al 528 = 8 := by decide +kernel
theorem rv_483_58 : tp_rv 483 58 = 528 := by decide +kernel
theorem wd_1087 : (.fieldLink "TypesAtPrimeModel" 146 "TypesAtPrimeModel" "sideAt" "[I" : Cond) ∈ lw_tbl := List.mem_append_right _ (List.mem_of_getElem? (i := 1087) (by decide +kernel))
theorem fl_Model_146 : tp_F "TypesAtPrimeModel" 146 11 59 2 := ⟨_, _, _, rfl, by decide, rfl, wd_1087, rfl, by decide⟩
theorem tg_529 : tp_tg 529 = 21 := by decide +kernel
theorem al_529 : tp_al 529 = 8 := by decide +kernel
theorem rv_483_59 : tp_rv 483 59 = 529 := by decide +kernel
theorem wd_1088 : (.fieldLink "TypesAtPrimeModel" 149 "TypesAtPrimeModel" "nextAt" "[I" : Cond) ∈ lw_tbl := List.mem_append_right _ (List.mem_of_getElem? (i := 1088) (by decide +kernel))
theorem fl_Model_149 : tp_F "TypesAtPrimeModel" 149 11 60 2 := ⟨_, _, _, rfl, by decide, rfl, wd_1088, rfl, by decide⟩
theorem tg_530 : tp_tg 530 = 21 := by decide +kernel
theorem al_530 : tp_al 530 = 8 := by decide +kernel
theorem rv_483_60 : tp_rv 483 60 = 530 := by decide +kernel
def y_X11_goesInto : MethodName := ⟨"TypesAtPrimeModel", "goesInto", "(I)V"⟩
abbrev i_X11_goesInto : tp_I := (prog_13_method_61_code, "TypesAtPrimeModel", none, 2, "goesInto")
abbrev o_X11_goesInto : tp_M → tp_O := fun r => (none, tp_NC, tp_st r)
theorem d_X11_goesInto_0 : decode prog_13_method_61_code 0 = .ok (.aload_n 0, 1) := by decide +kernel
theorem d_X11_goesInto_1 : decode prog_13_method_61_code 1 = .ok (.iload_n 1, 1) := by decide +kernel
theorem d_X11_goesInto_2 : decode prog_13_method_61_code 2 = .ok (.invokevirtual 375, 3) := by decide +kernel
theorem d_X11_goesInto_5 : decode prog_13_method_61_code 5 = .ok (.aload_n 0, 1) := by decide +kernel
theorem d_X11_goesInto_6 : decode prog_13_method_61_code 6 = .ok (.dup, 1) := by decide +kernel
theorem d_X11_goesInto_7 : decode prog_13_method_61_code 7 = .ok (.getfield 378, 3) := by decide +kernel
theorem d_X11_goesInto_10 : decode prog_13_method_61_code 10 = .ok (.iconst 1, 1) := by decide +kernel
theorem d_X11_goesInto_11 : decode prog_13_method_61_code 11 = .ok (.iadd, 1) := by decide +kernel
theorem d_X11_goesInto_12 : decode prog_13_method_61_code 12 = .ok (.putfield 378, 3) := by decide +kernel
theorem d_X11_goesInto_15 : decode prog_13_method_61_code 15 = .ok (.aload_n 0, 1) := by decide +kernel
theorem d_X11_goesInto_16 : decode prog_13_method_61_code 16 = .ok (.getfield 143, 3) := by decide +kernel
theorem d_X11_goesInto_19 : decode prog_13_method_61_code 19 = .ok (.aload_n 0, 1) := by decide +kernel
theorem d_X11_goesInto_20 : decode prog_13_method_61_code 20 = .ok (.getfield 378, 3) := by decide +kernel
theorem d_X11_goesInto_23 : decode prog_13_method_61_code 23 = .ok (.iload_n 1, 1) := by decide +kernel
theorem d_X11_goesInto_24 : decode prog_13_method_61_code 24 = .ok (.iastore, 1) := by decide +kernel
theorem d_X11_goesInto_25 : decode prog_13_method_61_code 25 = .ok (.aload_n 0, 1) := by decide +kernel
theorem d_X11_goesInto_26 : decode prog_13_method_61_code 26 = .ok (.getfield 146, 3) := by decide +kernel
theorem d_X11_goesInto_29 : decode prog_13_method_61_code 29 = .ok (.aload_n 0, 1) := by decide +kernel
theorem d_X11_goesInto_30 : decode prog_13_method_61_code 30 = .ok (.getfield 378, 3) := by decide +kernel
theorem d_X11_goesInto_33 : decode prog_13_method_61_code 33 = .ok (.iconst 0, 1) := by decide +kernel
theorem d_X11_goesInto_34 : decode prog_13_method_61_code 34 = .ok (.iastore, 1) := by decide +kernel
theorem d_X11_goesInto_35 : decode prog_13_method_61_code 35 = .ok (.aload_n 0, 1) := by decide +kernel
theorem d_X11_goesInto_36 : decode prog_13_method_61_code 36 = .ok (.getfield 149, 3) := by decide +kernel
theorem d_X11_goesInto_39 : decode prog_13_method_61_code 39 = .ok (.aload_n 0, 1) := by decide +kernel
theorem d_X11_goesInto_40 : decode prog_13_method_61_code 40 = .ok (.getfield 378, 3) := by decide +kernel
theorem d_X11_goesInto_43 : decode prog_13_method_61_code 43 = .ok (.iconst 0, 1) := by decide +kernel
theorem d_X11_goesInto_44 : decode prog_13_method_61_code 44 = .ok (.iastore, 1) := by decide +kernel
theorem d_X11_goesInto_45 : decode prog_13_method_61_code 45 = .ok (.return_, 1) := by decide +kernel
def f_X11_goesInto (a0 : Int) (M0 : tp_M) : Option (tp_M) :=
  (f_X11_laysKnot a0 M0).bind fun r1 =>
  tp_mp (tp_up r1 483 61 (tp_w ((r1 483 61) + 1))) fun M3 =>
  if 0 ≤ (M3 483 61) ∧ (M3 483 61) < 8 then
    tp_mp (tp_up M3 528 (M3 483 61) a0) fun M4 =>
    if 0 ≤ (M4 483 61) ∧ (M4 483 61) < 8 then
      tp_mp (tp_up M4 529 (M4 483 61) 0) fun M5 =>
      if 0 ≤ (M5 483 61) ∧ (M5 483 61) < 8 then
        tp_mp (tp_up M5 530 (M5 483 61) 0) fun M6 =>
        some M6 else none else none else none
set_option maxHeartbeats 4000000 in
set_option maxRecDepth 100000 in
theorem T_X11_goesInto (G : tp_G) (a0 : Int) (M0 : tp_M) : tp_J i_X11_goesInto (tp_rm 7) G 0 0 o_X11_goesInto tp_NC (tp_st M0) 0 0 [some (.inr (.inr 483)), some (.inl a0)] 0 [] (f_X11_goesInto a0 M0) := by
  unfold f_X11_goesInto
  refine j_aload_n rfl d_X11_goesInto_0 rfl ?_
  refine j_iload_n rfl d_X11_goesInto_1 rfl ?_
  refine j_bind (fun r1 h2 => ?_)
  refine j_callV (y := y_X11_laysKnot) (I' := i_X11_laysKnot) (avs := [.inl a0]) (c := 483) (st := []) (c_X11_laysKnot G a0 M0 r1 h2) cs_Model_375 wd_1412 wd_1414 ws_64 tg_483 rfl rfl rfl (Nat.le_of_ble_eq_true rfl) ⟨rfl, rfl⟩ ⟨by decide, by decide⟩ ⟨by decide, by decide⟩ d_X11_goesInto_2 ?_
  refine j_aload_n rfl d_X11_goesInto_5 rfl ?_
  refine j_dup d_X11_goesInto_6 (fun G => tp_cat G _) ?_
  refine j_geti fl_Model_378 tg_483 d_X11_goesInto_7 ?_
  refine j_iconst ⟨by decide, by decide⟩ d_X11_goesInto_10 ?_
  refine j_iadd d_X11_goesInto_11 ?_
  refine j_put (z := 0) (v := (tp_w ((r1 483 61) + 1))) fl_Model_378 (by decide) tg_483 (pf_11_61 _) pt_11 d_X11_goesInto_12 (fun M3 hM3 => ?_)
  refine j_aload_n rfl d_X11_goesInto_15 rfl ?_
  refine j_getr fl_Model_143 tg_483 rv_483_58 d_X11_goesInto_16 ?_
  refine j_aload_n rfl d_X11_goesInto_19 rfl ?_
  refine j_geti fl_Model_378 tg_483 d_X11_goesInto_20 ?_
  refine j_iload_n rfl d_X11_goesInto_23 rfl ?_
  refine j_iast tg_528 al_528 d_X11_goesInto_24 (fun M4 hM4 => ?_)
  refine j_aload_n rfl d_X11_goesInto_25 rfl ?_
  refine j_getr fl_Model_146 tg_483 rv_483_59 d_X11_goesInto_26 ?_
  refine j_aload_n rfl d_X11_goesInto_29 rfl ?_
  refine j_geti fl_Model_378 tg_483 d_X11_goesInto_30 ?_
  refine j_iconst ⟨by decide, by decide⟩ d_X11_goesInto_33 ?_
  refine j_iast tg_529 al_529 d_X11_goesInto_34 (fun M5 hM5 => ?_)
  refine j_aload_n rfl d_X11_goesInto_35 rfl ?_
  refine j_getr fl_Model_149 tg_483 rv_483_60 d_X11_goesInto_36 ?_
  refine j_aload_n rfl d_X11_goesInto_39 rfl ?_
  refine j_geti fl_Model_378 tg_483 d_X11_goesInto_40 ?_
  refine j_iconst ⟨by decide, by decide⟩ d_X11_goesInto_43 ?_
  refine j_iast tg_530 al_530 d_X11_goesInto_44 (fun M6 hM6 => ?_)
  exact j_vret d_X11_goesInto_45 rfl rfl ⟨rfl, rfl⟩
set_option maxHeartbeats 4000000 in
set_option maxRecDepth 100000 in
theorem c_X11_goesInto (G : tp_G) (a0 : Int) (M0 : tp_M) (r : tp_M) (h : f_X11_goesInto a0 M0 = some r) (l : Launch) : Met l y_X11_goesInto (tp_ws y_X11_goesInto i_X11_goesInto) (tp_rm 7) (tp_Pc G [.inr (.inr 483), .inl a0] tp_NC (tp_st M0)) (tp_Q G (o_X11_goesInto r)) 0 0 (tp_A G) :=
  tp_met (I := i_X11_goesInto) (y := y_X11_goesInto) (by decide +kernel) (Eq.refl "TypesAtPrimeModel") (Eq.refl "goesInto") (lv := [some (.inr (.inr 483)), some (.inl a0)]) rfl (Nat.le_of_ble_eq_true rfl) (T_X11_goesInto G a0 M0) h l
def y_X11_rootOf : MethodName := ⟨"TypesAtPrimeModel", "rootOf", "(I)I"⟩
abbrev i_X11_rootOf : tp_I := (prog_13_method_62_code, "TypesAtPrimeModel", (some .int), 2, "rootOf")
abbrev o_X11_rootOf (M : tp_M) : Int → tp_O := fun r => (some (.inl r), tp_NC, tp_st M)
theorem d_X11_rootOf_0 : decode prog_13_method_62_code 0 = .ok (.aload_n 0, 1) := by decide +kernel
theorem d_X11_rootOf_1 : decode prog_13_method_62_code 1 = .ok (.getfield 168, 3) := by decide +kernel
theorem d_X11_rootOf_4 : decode prog_13_method_62_code 4 = .ok (.aload_n 0, 1) := by decide +kernel
theorem d_X11_rootOf_5 : decode prog_13_method_62_code 5 = .ok (.getfield 35, 3) := by decide +kernel
theorem d_X11_rootOf_8 : decode prog_13_method_62_code 8 = .ok (.bipush 9, 2) := by decide +kernel
theorem d_X11_rootOf_10 : decode prog_13_method_62_code 10 = .ok (.iload_n 1, 1) := by decide +kernel
theorem d_X11_rootOf_11 : decode prog_13_method_62_code 11 = .ok (.imul, 1) := by decide +kernel
theorem d_X11_rootOf_12 : decode prog_13_method_62_code 12 = .ok (.iaload, 1) := by decide +kernel
theorem d_X11_rootOf_13 : decode prog_13_method_62_code 13 = .ok (.isub, 1) := by decide +kernel
theorem d_X11_rootOf_14 : decode prog_13_method_62_code 14 = .ok (.aload_n 0, 1) := by decide +kernel
theorem d_X11_rootOf_15 : decode prog_13_method_62_code 15 = .ok (.getfield 168, 3) := by decide +kernel
theorem d_X11_rootOf_18 : decode prog_13_method_62_code 18 = .ok (.irem, 1) := by decide +kernel
theorem d_X11_rootOf_19 : decode prog_13_method_62_code 19 = .ok (.ireturn, 1) := by decide +kernel
def f_X11_rootOf (a0 : Int) (M0 : tp_M) : Option (Int) :=
  if 0 ≤ (tp_w (9 * a0)) ∧ (tp_w (9 * a0)) < 81 then
    if (M0 483 0) = 0 then none else
      some (Int.tmod (tp_w ((M0 483 0) - (M0 492 (tp_w (9 * a0))))) (M0 483 0)) else none
set_option maxHeartbeats 4000000 in
set_option maxRecDepth 100000 in
theorem T_X11_rootOf (G : tp_G) (a0 : Int) (M0 : tp_M) : tp_J i_X11_rootOf (tp_rm 0) G 0 0 (o_X11_rootOf M0) tp_NC (tp_st M0) 0 0 [some (.inr (.inr 483)), some (.inl a0)] 0 [] (f_X11_rootOf a0 M0) := by
  unfold f_X11_rootOf
  refine j_aload_n rfl d_X11_rootOf_0 rfl ?_
  refine j_geti fl_Model_168 tg_483 d_X11_rootOf_1 ?_
  refine j_aload_n rfl d_X11_rootOf_4 rfl ?_
  refine j_getr fl_Model_35 tg_483 rv_483_15 d_X11_rootOf_5 ?_
  refine j_bipush ⟨by decide, by decide⟩ (by decide +kernel) d_X11_rootOf_8 ?_
  refine j_iload_n rfl d_X11_rootOf_10 rfl ?_
  refine j_imul d_X11_rootOf_11 ?_
  refine j_iald tg_492 al_492 d_X11_rootOf_12 ?_
  refine j_isub d_X11_rootOf_13 ?_
  refine j_aload_n rfl d_X11_rootOf_14 rfl ?_
  refine j_geti fl_Model_168 tg_483 d_X11_rootOf_15 ?_
  refine j_irem d_X11_rootOf_18 ?_
  exact j_iret d_X11_rootOf_19 rfl rfl ⟨rfl, rfl⟩
set_option maxHeartbeats 4000000 in
set_option maxRecDepth 100000 in
theorem c_X11_rootOf (G : tp_G) (a0 : Int) (M0 : tp_M) (r : Int) (h : f_X11_rootOf a0 M0 = some r) (l : Launch) : Met l y_X11_rootOf (tp_ws y_X11_rootOf i_X11_rootOf) (tp_rm 0) (tp_Pc G [.inr (.inr 483), .inl a0] tp_NC (tp_st M0)) (tp_Q G ((o_X11_rootOf M0) r)) 0 0 (tp_A G) :=
  tp_met (I := i_X11_rootOf) (y := y_X11_rootOf) (by decide +kernel) (Eq.refl "TypesAtPrimeModel") (Eq.refl "rootOf") (lv := [some (.inr (.inr 483)), some (.inl a0)]) rfl (Nat.le_of_ble_eq_true rfl) (T_X11_rootOf G a0 M0) h l
theorem wd_1403 : (.code ⟨"TypesAtPrimeModel", "rootOf", "(I)I"⟩ prog_13_method_62_code 2 (some .int) : Cond) ∈ lw_tbl := List.mem_append_right _ (List.mem_of_getElem? (i := 1403) (by decide +kernel))
theorem cs_Model_381 : tp_CS "TypesAtPrimeModel" 381 y_X11_rootOf i_X11_rootOf 1 := ⟨wd_1403, wd_12, by decide, by decide, by decide +kernel⟩
theorem wd_1400 : (.methodLink "TypesAtPrimeModel" 381 ⟨"TypesAtPrimeModel", "rootOf", "(I)I"⟩ : Cond) ∈ lw_tbl := List.mem_append_right _ (List.mem_of_getElem? (i := 1400) (by decide +kernel))
theorem wd_1402 : (.instanceMethod ⟨"TypesAtPrimeModel", "rootOf", "(I)I"⟩ : Cond) ∈ lw_tbl := List.mem_append_right _ (List.mem_of_getElem? (i := 1402) (by decide +kernel))
theorem ws_61 : (.selects "TypesAtPrimeModel" ⟨"TypesAtPrimeModel", "rootOf", "(I)I"⟩ ⟨"TypesAtPrimeModel", "rootOf", "(I)I"⟩ : Cond) ∈ lw_tbl := List.mem_append_left _ (List.mem_of_getElem? (i := 61) (by decide +kernel))
theorem wd_1407 : (.code ⟨"TypesAtPrimeModel", "newKnot", "(II)I"⟩ prog_13_method_60_code 5 (some .int) : Cond) ∈ lw_tbl := List.mem_append_right _ (List.mem_of_getElem? (i := 1407) (by decide +kernel))
theorem cs_Model_384 : tp_CS "TypesAtPrimeModel" 384 y_X11_newKnot i_X11_newKnot 2 := ⟨wd_1407, wd_12, by decide, by decide, by decide +kernel⟩
theorem wd_1404 : (.methodLink "TypesAtPrimeModel" 384 ⟨"TypesAtPrimeModel", "newKnot", "(II)I"⟩ : Cond) ∈ lw_tbl := List.mem_append_right _ (List.mem_of_getElem? (i := 1404) (by decide +kernel))
theorem wd_1406 : (.instanceMethod ⟨"TypesAtPrimeModel", "newKnot", "(II)I"⟩ : Cond) ∈ lw_tbl := List.mem_append_right _ (List.mem_of_getElem? (i := 1406) (by decide +kernel))
theorem ws_62 : (.selects "TypesAtPrimeModel" ⟨"TypesAtPrimeModel", "newKnot", "(II)I"⟩ ⟨"TypesAtPrimeModel", "newKnot", "(II)I"⟩ : Cond) ∈ lw_tbl := List.mem_append_left _ (List.mem_of_getElem? (i := 62) (by decide +kernel))
theorem wd_1411 : (.code ⟨"TypesAtPrimeModel", "goesInto", "(I)V"⟩ prog_13_method_61_code 2 (none : Option Jvm.ClassFile.FieldType) : Cond) ∈ lw_tbl := List.mem_append_right _ (List.mem_of_getElem? (i := 1411) (by decide +kernel))
theorem cs_Model_387 : tp_CS "TypesAtPrimeModel" 387 y_X11_goesInto i_X11_goesInto 1 := ⟨wd_1411, wd_12, by decide, by decide, by decide +kernel⟩
theorem wd_1408 : (.methodLink "TypesAtPrimeModel" 387 ⟨"TypesAtPrimeModel", "goesInto", "(I)V"⟩ : Cond) ∈ lw_tbl := List.mem_append_right _ (List.mem_of_getElem? (i := 1408) (by decide +kernel))
theorem wd_1410 : (.instanceMethod ⟨"TypesAtPrimeModel", "goesInto", "(I)V"⟩ : Cond) ∈ lw_tbl := List.mem_append_right _ (List.mem_of_getElem? (i := 1410) (by decide +kernel))
theorem ws_63 : (.selects "TypesAtPrimeModel" ⟨"TypesAtPrimeModel", "goesInto", "(I)V"⟩ ⟨"TypesAtPrimeModel", "goesInto", "(I)V"⟩ : Cond) ∈ lw_tbl := List.mem_append_left _ (List.mem_of_getElem? (i := 63) (by decide +kernel))
def y_X11_takesFirst : MethodName := ⟨"TypesAtPrimeModel", "takesFirst", "(I)V"⟩
abbrev i_X11_takesFirst : tp_I := (prog_13_method_63_code, "TypesAtPrimeModel", none, 6, "takesFirst")
abbrev o_X11_takesFirst : tp_M → tp_O := fun r => (none, tp_NC, tp_st r)
theorem d_X11_takesFirst_0 : decode prog_13_method_63_code 0 = .ok (.aload_n 0, 1) := by decide +kernel
theorem d_X11_takesFirst_1 : decode prog_13_method_63_code 1 = .ok (.getfield 29, 3) := by decide +kernel
theorem d_X11_takesFirst_4 : decode prog_13_method_63_code 4 = .ok (.iload_n 1, 1) := by decide +kernel
theorem d_X11_takesFirst_5 : decode prog_13_method_63_code 5 = .ok (.iaload, 1) := by decide +kernel
theorem d_X11_takesFirst_6 : decode prog_13_method_63_code 6 = .ok (.istore_n 2, 1) := by decide +kernel
theorem d_X11_takesFirst_7 : decode prog_13_method_63_code 7 = .ok (.aload_n 0, 1) := by decide +kernel
theorem d_X11_takesFirst_8 : decode prog_13_method_63_code 8 = .ok (.getfield 32, 3) := by decide +kernel
theorem d_X11_takesFirst_11 : decode prog_13_method_63_code 11 = .ok (.iload_n 1, 1) := by decide +kernel
theorem d_X11_takesFirst_12 : decode prog_13_method_63_code 12 = .ok (.iaload, 1) := by decide +kernel
theorem d_X11_takesFirst_13 : decode prog_13_method_63_code 13 = .ok (.istore_n 3, 1) := by decide +kernel
theorem d_X11_takesFirst_14 : decode prog_13_method_63_code 14 = .ok (.iload_n 3, 1) := by decide +kernel
theorem d_X11_takesFirst_15 : decode prog_13_method_63_code 15 = .ok (.iconst 1, 1) := by decide +kernel
theorem d_X11_takesFirst_16 : decode prog_13_method_63_code 16 = .ok (.if_icmp .ne 16, 3) := by decide +kernel
theorem d_X11_takesFirst_19 : decode prog_13_method_63_code 19 = .ok (.aload_n 0, 1) := by decide +kernel
theorem d_X11_takesFirst_20 : decode prog_13_method_63_code 20 = .ok (.iconst 0, 1) := by decide +kernel
theorem d_X11_takesFirst_21 : decode prog_13_method_63_code 21 = .ok (.iconst 1, 1) := by decide +kernel
theorem d_X11_takesFirst_22 : decode prog_13_method_63_code 22 = .ok (.iload_n 2, 1) := by decide +kernel
theorem d_X11_takesFirst_23 : decode prog_13_method_63_code 23 = .ok (.iload_n 2, 1) := by decide +kernel
theorem d_X11_takesFirst_24 : decode prog_13_method_63_code 24 = .ok (.bipush (-2), 2) := by decide +kernel
theorem d_X11_takesFirst_26 : decode prog_13_method_63_code 26 = .ok (.invokevirtual 358, 3) := by decide +kernel
theorem d_X11_takesFirst_29 : decode prog_13_method_63_code 29 = .ok (.goto 75, 3) := by decide +kernel
theorem d_X11_takesFirst_32 : decode prog_13_method_63_code 32 = .ok (.iload_n 2, 1) := by decide +kernel
theorem d_X11_takesFirst_33 : decode prog_13_method_63_code 33 = .ok (.iconst 1, 1) := by decide +kernel
theorem d_X11_takesFirst_34 : decode prog_13_method_63_code 34 = .ok (.if_icmp .ne 58, 3) := by decide +kernel
theorem d_X11_takesFirst_37 : decode prog_13_method_63_code 37 = .ok (.aload_n 0, 1) := by decide +kernel
theorem d_X11_takesFirst_38 : decode prog_13_method_63_code 38 = .ok (.iload_n 1, 1) := by decide +kernel
theorem d_X11_takesFirst_39 : decode prog_13_method_63_code 39 = .ok (.invokevirtual 381, 3) := by decide +kernel
theorem d_X11_takesFirst_42 : decode prog_13_method_63_code 42 = .ok (.istore 4, 2) := by decide +kernel
theorem d_X11_takesFirst_44 : decode prog_13_method_63_code 44 = .ok (.aload_n 0, 1) := by decide +kernel
theorem d_X11_takesFirst_45 : decode prog_13_method_63_code 45 = .ok (.iconst (-1), 1) := by decide +kernel
theorem d_X11_takesFirst_46 : decode prog_13_method_63_code 46 = .ok (.iload_n 3, 1) := by decide +kernel
theorem d_X11_takesFirst_47 : decode prog_13_method_63_code 47 = .ok (.invokevirtual 384, 3) := by decide +kernel
theorem d_X11_takesFirst_50 : decode prog_13_method_63_code 50 = .ok (.istore 5, 2) := by decide +kernel
theorem d_X11_takesFirst_52 : decode prog_13_method_63_code 52 = .ok (.aload_n 0, 1) := by decide +kernel
theorem d_X11_takesFirst_53 : decode prog_13_method_63_code 53 = .ok (.getfield 23, 3) := by decide +kernel
theorem d_X11_takesFirst_56 : decode prog_13_method_63_code 56 = .ok (.bipush 9, 2) := by decide +kernel
theorem d_X11_takesFirst_58 : decode prog_13_method_63_code 58 = .ok (.iload 5, 2) := by decide +kernel
theorem d_X11_takesFirst_60 : decode prog_13_method_63_code 60 = .ok (.imul, 1) := by decide +kernel
theorem d_X11_takesFirst_61 : decode prog_13_method_63_code 61 = .ok (.aload_n 0, 1) := by decide +kernel
theorem d_X11_takesFirst_62 : decode prog_13_method_63_code 62 = .ok (.iload 4, 2) := by decide +kernel
theorem d_X11_takesFirst_64 : decode prog_13_method_63_code 64 = .ok (.ineg, 1) := by decide +kernel
theorem d_X11_takesFirst_65 : decode prog_13_method_63_code 65 = .ok (.i2l, 1) := by decide +kernel
theorem d_X11_takesFirst_66 : decode prog_13_method_63_code 66 = .ok (.invokevirtual 257, 3) := by decide +kernel
theorem d_X11_takesFirst_69 : decode prog_13_method_63_code 69 = .ok (.lastore, 1) := by decide +kernel
theorem d_X11_takesFirst_70 : decode prog_13_method_63_code 70 = .ok (.aload_n 0, 1) := by decide +kernel
theorem d_X11_takesFirst_71 : decode prog_13_method_63_code 71 = .ok (.getfield 23, 3) := by decide +kernel
theorem d_X11_takesFirst_74 : decode prog_13_method_63_code 74 = .ok (.bipush 9, 2) := by decide +kernel
theorem d_X11_takesFirst_76 : decode prog_13_method_63_code 76 = .ok (.iload 5, 2) := by decide +kernel
theorem d_X11_takesFirst_78 : decode prog_13_method_63_code 78 = .ok (.imul, 1) := by decide +kernel
theorem d_X11_takesFirst_79 : decode prog_13_method_63_code 79 = .ok (.iconst 1, 1) := by decide +kernel
theorem d_X11_takesFirst_80 : decode prog_13_method_63_code 80 = .ok (.iadd, 1) := by decide +kernel
theorem d_X11_takesFirst_81 : decode prog_13_method_63_code 81 = .ok (.lconst 1, 1) := by decide +kernel
theorem d_X11_takesFirst_82 : decode prog_13_method_63_code 82 = .ok (.lastore, 1) := by decide +kernel
theorem d_X11_takesFirst_83 : decode prog_13_method_63_code 83 = .ok (.aload_n 0, 1) := by decide +kernel
theorem d_X11_takesFirst_84 : decode prog_13_method_63_code 84 = .ok (.iload 5, 2) := by decide +kernel
theorem d_X11_takesFirst_86 : decode prog_13_method_63_code 86 = .ok (.invokevirtual 387, 3) := by decide +kernel
theorem d_X11_takesFirst_89 : decode prog_13_method_63_code 89 = .ok (.goto 15, 3) := by decide +kernel
theorem d_X11_takesFirst_92 : decode prog_13_method_63_code 92 = .ok (.aload_n 0, 1) := by decide +kernel
theorem d_X11_takesFirst_93 : decode prog_13_method_63_code 93 = .ok (.iconst 2, 1) := by decide +kernel
theorem d_X11_takesFirst_94 : decode prog_13_method_63_code 94 = .ok (.iconst 0, 1) := by decide +kernel
theorem d_X11_takesFirst_95 : decode prog_13_method_63_code 95 = .ok (.iconst 0, 1) := by decide +kernel
theorem d_X11_takesFirst_96 : decode prog_13_method_63_code 96 = .ok (.iload_n 2, 1) := by decide +kernel
theorem d_X11_takesFirst_97 : decode prog_13_method_63_code 97 = .ok (.iload_n 3, 1) := by decide +kernel
theorem d_X11_takesFirst_98 : decode prog_13_method_63_code 98 = .ok (.imul, 1) := by decide +kernel
theorem d_X11_takesFirst_99 : decode prog_13_method_63_code 99 = .ok (.bipush (-2), 2) := by decide +kernel
theorem d_X11_takesFirst_101 : decode prog_13_method_63_code 101 = .ok (.invokevirtual 358, 3) := by decide +kernel
theorem d_X11_takesFirst_104 : decode prog_13_method_63_code 104 = .ok (.return_, 1) := by decide +kernel
def f_X11_takesFirst (a0 : Int) (M0 : tp_M) : Option (tp_M) :=
  if 0 ≤ a0 ∧ a0 < 9 then
    tp_lt ((M0 490 a0)) fun y1 =>
    if 0 ≤ a0 ∧ a0 < 9 then
      tp_lt ((M0 491 a0)) fun y2 =>
      if ¬ y2 = 1 then
        if ¬ y1 = 1 then
          (f_X11_addsLeaf 2 0 0 (tp_w (y1 * y2)) (-2) M0).bind fun r5 =>
          some r5
        else
          (f_X11_rootOf a0 M0).bind fun r7 =>
          (f_X11_newKnot (-1) y2 M0).bind fun r9 =>
          (f_X11_number (tp_w (-r7)) r9.2).bind fun r11 =>
          if 0 ≤ (tp_w (9 * r9.1)) ∧ (tp_w (9 * r9.1)) < 369 then
            tp_mp (tp_up r9.2 488 (tp_w (9 * r9.1)) r11) fun M13 =>
            if 0 ≤ (tp_w ((tp_w (9 * r9.1)) + 1)) ∧ (tp_w ((tp_w (9 * r9.1)) + 1)) < 369 then
              tp_mp (tp_up M13 488 (tp_w ((tp_w (9 * r9.1)) + 1)) 1) fun M14 =>
              (f_X11_goesInto r9.1 M14).bind fun r15 =>
              some r15 else none else none
      else
        (f_X11_addsLeaf 0 1 y1 y1 (-2) M0).bind fun r17 =>
        some r17 else none else none
set_option maxHeartbeats 4000000 in
set_option maxRecDepth 100000 in
theorem T_X11_takesFirst (G : tp_G) (a0 : Int) (M0 : tp_M) : tp_J i_X11_takesFirst (tp_rm 8) G 0 0 o_X11_takesFirst tp_NC (tp_st M0) 0 0 [some (.inr (.inr 483)), some (.inl a0), none, none, none, none] 0 [] (f_X11_takesFirst a0 M0) := by
  unfold f_X11_takesFirst
  refine j_aload_n rfl d_X11_takesFirst_0 rfl ?_
  refine j_getr fl_Model_29 tg_483 rv_483_13 d_X11_takesFirst_1 ?_
  refine j_iload_n rfl d_X11_takesFirst_4 rfl ?_
  refine j_iald tg_490 al_490 d_X11_takesFirst_5 ?_
  refine j_nmI (fun y1 hy1 => ?_)
  refine j_istore_n (lv' := [some (.inr (.inr 483)), some (.inl a0), some (.inl y1), none, none, none]) rfl d_X11_takesFirst_6 (Nat.le_of_ble_eq_true rfl) rfl ?_
  refine j_aload_n rfl d_X11_takesFirst_7 rfl ?_
  refine j_getr fl_Model_32 tg_483 rv_483_14 d_X11_takesFirst_8 ?_
  refine j_iload_n rfl d_X11_takesFirst_11 rfl ?_
  refine j_iald tg_491 al_491 d_X11_takesFirst_12 ?_
  refine j_nmI (fun y2 hy2 => ?_)
  refine j_istore_n (lv' := [some (.inr (.inr 483)), some (.inl a0), some (.inl y1), some (.inl y2), none, none]) rfl d_X11_takesFirst_13 (Nat.le_of_ble_eq_true rfl) rfl ?_
  refine j_iload_n rfl d_X11_takesFirst_14 rfl ?_
  refine j_iconst ⟨by decide, by decide⟩ d_X11_takesFirst_15 ?_
  refine j_icmp_ne (tgt := 32) d_X11_takesFirst_16 (by decide) (fun h3 => ?_) (fun h3 => ?_)
  · refine j_iload_n rfl d_X11_takesFirst_32 rfl ?_
    refine j_iconst ⟨by decide, by decide⟩ d_X11_takesFirst_33 ?_
    refine j_icmp_ne (tgt := 92) d_X11_takesFirst_34 (by decide) (fun h4 => ?_) (fun h4 => ?_)
    · refine j_aload_n rfl d_X11_takesFirst_92 rfl ?_
      refine j_iconst ⟨by decide, by decide⟩ d_X11_takesFirst_93 ?_
      refine j_iconst ⟨by decide, by decide⟩ d_X11_takesFirst_94 ?_
      refine j_iconst ⟨by decide, by decide⟩ d_X11_takesFirst_95 ?_
      refine j_iload_n rfl d_X11_takesFirst_96 rfl ?_
      refine j_iload_n rfl d_X11_takesFirst_97 rfl ?_
      refine j_imul d_X11_takesFirst_98 ?_
      refine j_bipush ⟨by decide, by decide⟩ (by decide +kernel) d_X11_takesFirst_99 ?_
      refine j_bind (fun r5 h6 => ?_)
      refine j_callV (y := y_X11_addsLeaf) (I' := i_X11_addsLeaf) (avs := [.inl 2, .inl 0, .inl 0, .inl (tp_w (y1 * y2)), .inl (-2)]) (c := 483) (st := []) (c_X11_addsLeaf G 2 0 0 (tp_w (y1 * y2)) (-2) M0 r5 h6) cs_Model_358 wd_1396 wd_1398 ws_60 tg_483 rfl rfl rfl (Nat.le_of_ble_eq_true rfl) ⟨rfl, rfl⟩ ⟨by decide, by decide⟩ ⟨by decide, by decide⟩ d_X11_takesFirst_101 ?_
      exact j_vret d_X11_takesFirst_104 rfl rfl ⟨rfl, rfl⟩
    · refine j_aload_n rfl d_X11_takesFirst_37 rfl ?_
      refine j_iload_n rfl d_X11_takesFirst_38 rfl ?_
      refine j_bind (fun r7 h8 => ?_)
      refine j_callV (y := y_X11_rootOf) (I' := i_X11_rootOf) (avs := [.inl a0]) (c := 483) (st := []) (c_X11_rootOf G a0 M0 r7 h8) cs_Model_381 wd_1400 wd_1402 ws_61 tg_483 rfl rfl rfl (Nat.le_of_ble_eq_true rfl) ⟨rfl, rfl⟩ ⟨by decide, by decide⟩ ⟨by decide, by decide⟩ d_X11_takesFirst_39 ?_
      refine j_istore (lv' := [some (.inr (.inr 483)), some (.inl a0), some (.inl y1), some (.inl y2), some (.inl r7), none]) d_X11_takesFirst_42 (Nat.le_of_ble_eq_true rfl) rfl ?_
      refine j_aload_n rfl d_X11_takesFirst_44 rfl ?_
      refine j_iconst ⟨by decide, by decide⟩ d_X11_takesFirst_45 ?_
      refine j_iload_n rfl d_X11_takesFirst_46 rfl ?_
      refine j_bind (fun r9 h10 => ?_)
      refine j_callV (y := y_X11_newKnot) (I' := i_X11_newKnot) (avs := [.inl (-1), .inl y2]) (c := 483) (st := []) (c_X11_newKnot G (-1) y2 M0 r9 h10) cs_Model_384 wd_1404 wd_1406 ws_62 tg_483 rfl rfl rfl (Nat.le_of_ble_eq_true rfl) ⟨rfl, rfl⟩ ⟨by decide, by decide⟩ ⟨by decide, by decide⟩ d_X11_takesFirst_47 ?_
      refine j_istore (lv' := [some (.inr (.inr 483)), some (.inl a0), some (.inl y1), some (.inl y2), some (.inl r7), some (.inl r9.1)]) d_X11_takesFirst_50 (Nat.le_of_ble_eq_true rfl) rfl ?_
      refine j_aload_n rfl d_X11_takesFirst_52 rfl ?_
      refine j_getr fl_Model_23 tg_483 rv_483_9 d_X11_takesFirst_53 ?_
      refine j_bipush ⟨by decide, by decide⟩ (by decide +kernel) d_X11_takesFirst_56 ?_
      refine j_iload d_X11_takesFirst_58 rfl ?_
      refine j_imul d_X11_takesFirst_60 ?_
      refine j_aload_n rfl d_X11_takesFirst_61 rfl ?_
      refine j_iload d_X11_takesFirst_62 rfl ?_
      refine j_ineg d_X11_takesFirst_64 ?_
      refine j_i2l d_X11_takesFirst_65 ?_
      refine j_bind (fun r11 h12 => ?_)
      refine j_callV (y := y_X11_number) (I' := i_X11_number) (avs := [.inr (.inl (tp_w (-r7)))]) (c := 483) (st := [.inl (tp_w (9 * r9.1)), .inr (.inr 488)]) (c_X11_number G (tp_w (-r7)) r9.2 r11 h12) cs_Model_257 wd_1338 wd_1340 ws_48 tg_483 rfl rfl rfl (Nat.le_of_ble_eq_true rfl) ⟨rfl, rfl⟩ ⟨by decide, by decide⟩ ⟨by decide, by decide⟩ d_X11_takesFirst_66 ?_
      refine j_last tg_488 al_488 d_X11_takesFirst_69 (fun M13 hM13 => ?_)
      refine j_aload_n rfl d_X11_takesFirst_70 rfl ?_
      refine j_getr fl_Model_23 tg_483 rv_483_9 d_X11_takesFirst_71 ?_
      refine j_bipush ⟨by decide, by decide⟩ (by decide +kernel) d_X11_takesFirst_74 ?_
      refine j_iload d_X11_takesFirst_76 rfl ?_
      refine j_imul d_X11_takesFirst_78 ?_
      refine j_iconst ⟨by decide, by decide⟩ d_X11_takesFirst_79 ?_
      refine j_iadd d_X11_takesFirst_80 ?_
      refine j_lconst (x := 1) ⟨by decide, by decide⟩ (by decide +kernel) d_X11_takesFirst_81 ?_
      refine j_last tg_488 al_488 d_X11_takesFirst_82 (fun M14 hM14 => ?_)
      refine j_aload_n rfl d_X11_takesFirst_83 rfl ?_
      refine j_iload d_X11_takesFirst_84 rfl ?_
      refine j_bind (fun r15 h16 => ?_)
      refine j_callV (y := y_X11_goesInto) (I' := i_X11_goesInto) (avs := [.inl r9.1]) (c := 483) (st := []) (c_X11_goesInto G r9.1 M14 r15 h16) cs_Model_387 wd_1408 wd_1410 ws_63 tg_483 rfl rfl rfl (Nat.le_of_ble_eq_true rfl) ⟨rfl, rfl⟩ ⟨by decide, by decide⟩ ⟨by decide, by decide⟩ d_X11_takesFirst_86 ?_
      refine j_goto (tgt := 104) d_X11_takesFirst_89 (by decide) ?_
      exact j_vret d_X11_takesFirst_104 rfl rfl ⟨rfl, rfl⟩
  · refine j_aload_n rfl d_X11_takesFirst_19 rfl ?_
    refine j_iconst ⟨by decide, by decide⟩ d_X11_takesFirst_20 ?_
    refine j_iconst ⟨by decide, by decide⟩ d_X11_takesFirst_21 ?_
    refine j_iload_n rfl d_X11_takesFirst_22 rfl ?_
    refine j_iload_n rfl d_X11_takesFirst_23 rfl ?_
    refine j_bipush ⟨by decide, by decide⟩ (by decide +kernel) d_X11_takesFirst_24 ?_
    refine j_bind (fun r17 h18 => ?_)
    refine j_callV (y := y_X11_addsLeaf) (I' := i_X11_addsLeaf) (avs := [.inl 0, .inl 1, .inl y1, .inl y1, .inl (-2)]) (c := 483) (st := []) (c_X11_addsLeaf G 0 1 y1 y1 (-2) M0 r17 h18) cs_Model_358 wd_1396 wd_1398 ws_60 tg_483 rfl rfl rfl (Nat.le_of_ble_eq_true rfl) ⟨rfl, rfl⟩ ⟨by decide, by decide⟩ ⟨by decide, by decide⟩ d_X11_takesFirst_26 ?_
    refine j_goto (tgt := 104) d_X11_takesFirst_29 (by decide) ?_
    exact j_vret d_X11_takesFirst_104 rfl rfl ⟨rfl, rfl⟩
set_option maxHeartbeats 4000000 in
set_option maxRecDepth 100000 in
theorem c_X11_takesFirst (G : tp_G) (a0 : Int) (M0 : tp_M) (r : tp_M) (h : f_X11_takesFirst a0 M0 = some r) (l : Launch) : Met l y_X11_takesFirst (tp_ws y_X11_takesFirst i_X11_takesFirst) (tp_rm 8) (tp_Pc G [.inr (.inr 483), .inl a0] tp_NC (tp_st M0)) (tp_Q G (o_X11_takesFirst r)) 0 0 (tp_A G) :=
  tp_met (I := i_X11_takesFirst) (y := y_X11_takesFirst) (by decide +kernel) (Eq.refl "TypesAtPrimeModel") (Eq.refl "takesFirst") (lv := [some (.inr (.inr 483)), some (.inl a0), none, none, none, none]) rfl (Nat.le_of_ble_eq_true rfl) (T_X11_takesFirst G a0 M0) h l
theorem wd_1482 : (.code ⟨"TypesAtPrimeModel", "laysKey", "(IIII)V"⟩ prog_13_method_59_code 7 (none : Option Jvm.ClassFile.FieldType) : Cond) ∈ lw_tbl := List.mem_append_right _ (List.mem_of_getElem? (i := 1482) (by decide +kernel))
theorem cs_Model_390 : tp_CS "TypesAtPrimeModel" 390 y_X11_laysKey i_X11_laysKey 4 := ⟨wd_1482, wd_12, by decide, by decide, by decide +kernel⟩
theorem wd_1479 : (.methodLink "TypesAtPrimeModel" 390 ⟨"TypesAtPrimeModel", "laysKey", "(IIII)V"⟩ : Cond) ∈ lw_tbl := List.mem_append_right _ (List.mem_of_getElem? (i := 1479) (by decide +kernel))
theorem wd_1481 : (.instanceMethod ⟨"TypesAtPrimeModel", "laysKey", "(IIII)V"⟩ : Cond) ∈ lw_tbl := List.mem_append_right _ (List.mem_of_getElem? (i := 1481) (by decide +kernel))
theorem ws_80 : (.selects "TypesAtPrimeModel" ⟨"TypesAtPrimeModel", "laysKey", "(IIII)V"⟩ ⟨"TypesAtPrimeModel", "laysKey", "(IIII)V"⟩ : Cond) ∈ lw_tbl := List.mem_append_left _ (List.mem_of_getElem? (i := 80) (by decide +kernel))
def y_X11_takesFactor : MethodName := ⟨"TypesAtPrimeModel", "takesFactor", "(III)V"⟩
abbrev i_X11_takesFactor : tp_I := (prog_13_method_64_code, "TypesAtPrimeModel", none, 10, "takesFactor")
abbrev o_X11_takesFactor : tp_M → tp_O := fun r => (none, tp_NC, tp_st r)
theorem d_X11_takesFactor_0 : decode prog_13_method_64_code 0 = .ok (.aload_n 0, 1) := by decide +kernel
theorem d_X11_takesFactor_1 : decode prog_13_method_64_code 1 = .ok (.getfield 29, 3) := by decide +kernel
theorem d_X11_takesFactor_4 : decode prog_13_method_64_code 4 = .ok (.iload_n 3, 1) := by decide +kernel
theorem d_X11_takesFactor_5 : decode prog_13_method_64_code 5 = .ok (.iaload, 1) := by decide +kernel
theorem d_X11_takesFactor_6 : decode prog_13_method_64_code 6 = .ok (.istore 4, 2) := by decide +kernel
theorem d_X11_takesFactor_8 : decode prog_13_method_64_code 8 = .ok (.aload_n 0, 1) := by decide +kernel
theorem d_X11_takesFactor_9 : decode prog_13_method_64_code 9 = .ok (.getfield 32, 3) := by decide +kernel
theorem d_X11_takesFactor_12 : decode prog_13_method_64_code 12 = .ok (.iload_n 3, 1) := by decide +kernel
theorem d_X11_takesFactor_13 : decode prog_13_method_64_code 13 = .ok (.iaload, 1) := by decide +kernel
theorem d_X11_takesFactor_14 : decode prog_13_method_64_code 14 = .ok (.istore 5, 2) := by decide +kernel
theorem d_X11_takesFactor_16 : decode prog_13_method_64_code 16 = .ok (.aload_n 0, 1) := by decide +kernel
theorem d_X11_takesFactor_17 : decode prog_13_method_64_code 17 = .ok (.getfield 125, 3) := by decide +kernel
theorem d_X11_takesFactor_20 : decode prog_13_method_64_code 20 = .ok (.aload_n 0, 1) := by decide +kernel
theorem d_X11_takesFactor_21 : decode prog_13_method_64_code 21 = .ok (.getfield 300, 3) := by decide +kernel
theorem d_X11_takesFactor_24 : decode prog_13_method_64_code 24 = .ok (.iaload, 1) := by decide +kernel
theorem d_X11_takesFactor_25 : decode prog_13_method_64_code 25 = .ok (.aload_n 0, 1) := by decide +kernel
theorem d_X11_takesFactor_26 : decode prog_13_method_64_code 26 = .ok (.getfield 92, 3) := by decide +kernel
theorem d_X11_takesFactor_29 : decode prog_13_method_64_code 29 = .ok (.iload_n 2, 1) := by decide +kernel
theorem d_X11_takesFactor_30 : decode prog_13_method_64_code 30 = .ok (.iaload, 1) := by decide +kernel
theorem d_X11_takesFactor_31 : decode prog_13_method_64_code 31 = .ok (.imul, 1) := by decide +kernel
theorem d_X11_takesFactor_32 : decode prog_13_method_64_code 32 = .ok (.istore 6, 2) := by decide +kernel
theorem d_X11_takesFactor_34 : decode prog_13_method_64_code 34 = .ok (.iload 5, 2) := by decide +kernel
theorem d_X11_takesFactor_36 : decode prog_13_method_64_code 36 = .ok (.iconst 1, 1) := by decide +kernel
theorem d_X11_takesFactor_37 : decode prog_13_method_64_code 37 = .ok (.if_icmp .ne 21, 3) := by decide +kernel
theorem d_X11_takesFactor_40 : decode prog_13_method_64_code 40 = .ok (.aload_n 0, 1) := by decide +kernel
theorem d_X11_takesFactor_41 : decode prog_13_method_64_code 41 = .ok (.iconst 0, 1) := by decide +kernel
theorem d_X11_takesFactor_42 : decode prog_13_method_64_code 42 = .ok (.iload 6, 2) := by decide +kernel
theorem d_X11_takesFactor_44 : decode prog_13_method_64_code 44 = .ok (.iload 4, 2) := by decide +kernel
theorem d_X11_takesFactor_46 : decode prog_13_method_64_code 46 = .ok (.iload 6, 2) := by decide +kernel
theorem d_X11_takesFactor_48 : decode prog_13_method_64_code 48 = .ok (.iload 4, 2) := by decide +kernel
theorem d_X11_takesFactor_50 : decode prog_13_method_64_code 50 = .ok (.imul, 1) := by decide +kernel
theorem d_X11_takesFactor_51 : decode prog_13_method_64_code 51 = .ok (.iload_n 1, 1) := by decide +kernel
theorem d_X11_takesFactor_52 : decode prog_13_method_64_code 52 = .ok (.invokevirtual 358, 3) := by decide +kernel
theorem d_X11_takesFactor_55 : decode prog_13_method_64_code 55 = .ok (.goto 161, 3) := by decide +kernel
theorem d_X11_takesFactor_58 : decode prog_13_method_64_code 58 = .ok (.iload 4, 2) := by decide +kernel
theorem d_X11_takesFactor_60 : decode prog_13_method_64_code 60 = .ok (.iconst 1, 1) := by decide +kernel
theorem d_X11_takesFactor_61 : decode prog_13_method_64_code 61 = .ok (.if_icmp .le 22, 3) := by decide +kernel
theorem d_X11_takesFactor_64 : decode prog_13_method_64_code 64 = .ok (.aload_n 0, 1) := by decide +kernel
theorem d_X11_takesFactor_65 : decode prog_13_method_64_code 65 = .ok (.iconst 2, 1) := by decide +kernel
theorem d_X11_takesFactor_66 : decode prog_13_method_64_code 66 = .ok (.iconst 0, 1) := by decide +kernel
theorem d_X11_takesFactor_67 : decode prog_13_method_64_code 67 = .ok (.iconst 0, 1) := by decide +kernel
theorem d_X11_takesFactor_68 : decode prog_13_method_64_code 68 = .ok (.iload 4, 2) := by decide +kernel
theorem d_X11_takesFactor_70 : decode prog_13_method_64_code 70 = .ok (.iload 5, 2) := by decide +kernel
theorem d_X11_takesFactor_72 : decode prog_13_method_64_code 72 = .ok (.imul, 1) := by decide +kernel
theorem d_X11_takesFactor_73 : decode prog_13_method_64_code 73 = .ok (.iload 6, 2) := by decide +kernel
theorem d_X11_takesFactor_75 : decode prog_13_method_64_code 75 = .ok (.imul, 1) := by decide +kernel
theorem d_X11_takesFactor_76 : decode prog_13_method_64_code 76 = .ok (.iload_n 1, 1) := by decide +kernel
theorem d_X11_takesFactor_77 : decode prog_13_method_64_code 77 = .ok (.invokevirtual 358, 3) := by decide +kernel
theorem d_X11_takesFactor_80 : decode prog_13_method_64_code 80 = .ok (.goto 136, 3) := by decide +kernel
theorem d_X11_takesFactor_83 : decode prog_13_method_64_code 83 = .ok (.aload_n 0, 1) := by decide +kernel
theorem d_X11_takesFactor_84 : decode prog_13_method_64_code 84 = .ok (.getfield 300, 3) := by decide +kernel
theorem d_X11_takesFactor_87 : decode prog_13_method_64_code 87 = .ok (.bipush 6, 2) := by decide +kernel
theorem d_X11_takesFactor_89 : decode prog_13_method_64_code 89 = .ok (.if_icmp .ne 19, 3) := by decide +kernel
theorem d_X11_takesFactor_92 : decode prog_13_method_64_code 92 = .ok (.aload_n 0, 1) := by decide +kernel
theorem d_X11_takesFactor_93 : decode prog_13_method_64_code 93 = .ok (.iconst 3, 1) := by decide +kernel
theorem d_X11_takesFactor_94 : decode prog_13_method_64_code 94 = .ok (.iconst 0, 1) := by decide +kernel
theorem d_X11_takesFactor_95 : decode prog_13_method_64_code 95 = .ok (.iconst 0, 1) := by decide +kernel
theorem d_X11_takesFactor_96 : decode prog_13_method_64_code 96 = .ok (.iload 5, 2) := by decide +kernel
theorem d_X11_takesFactor_98 : decode prog_13_method_64_code 98 = .ok (.iload 6, 2) := by decide +kernel
theorem d_X11_takesFactor_100 : decode prog_13_method_64_code 100 = .ok (.imul, 1) := by decide +kernel
theorem d_X11_takesFactor_101 : decode prog_13_method_64_code 101 = .ok (.iload_n 1, 1) := by decide +kernel
theorem d_X11_takesFactor_102 : decode prog_13_method_64_code 102 = .ok (.invokevirtual 358, 3) := by decide +kernel
theorem d_X11_takesFactor_105 : decode prog_13_method_64_code 105 = .ok (.goto 111, 3) := by decide +kernel
theorem d_X11_takesFactor_108 : decode prog_13_method_64_code 108 = .ok (.aload_n 0, 1) := by decide +kernel
theorem d_X11_takesFactor_109 : decode prog_13_method_64_code 109 = .ok (.iload_n 3, 1) := by decide +kernel
theorem d_X11_takesFactor_110 : decode prog_13_method_64_code 110 = .ok (.invokevirtual 381, 3) := by decide +kernel
theorem d_X11_takesFactor_113 : decode prog_13_method_64_code 113 = .ok (.istore 7, 2) := by decide +kernel
theorem d_X11_takesFactor_115 : decode prog_13_method_64_code 115 = .ok (.aload_n 0, 1) := by decide +kernel
theorem d_X11_takesFactor_116 : decode prog_13_method_64_code 116 = .ok (.iload_n 1, 1) := by decide +kernel
theorem d_X11_takesFactor_117 : decode prog_13_method_64_code 117 = .ok (.iload 5, 2) := by decide +kernel
theorem d_X11_takesFactor_119 : decode prog_13_method_64_code 119 = .ok (.invokevirtual 384, 3) := by decide +kernel
theorem d_X11_takesFactor_122 : decode prog_13_method_64_code 122 = .ok (.istore 8, 2) := by decide +kernel
theorem d_X11_takesFactor_124 : decode prog_13_method_64_code 124 = .ok (.aload_n 0, 1) := by decide +kernel
theorem d_X11_takesFactor_125 : decode prog_13_method_64_code 125 = .ok (.iload 8, 2) := by decide +kernel
theorem d_X11_takesFactor_127 : decode prog_13_method_64_code 127 = .ok (.iload_n 1, 1) := by decide +kernel
theorem d_X11_takesFactor_128 : decode prog_13_method_64_code 128 = .ok (.iload_n 2, 1) := by decide +kernel
theorem d_X11_takesFactor_129 : decode prog_13_method_64_code 129 = .ok (.iload 7, 2) := by decide +kernel
theorem d_X11_takesFactor_131 : decode prog_13_method_64_code 131 = .ok (.invokevirtual 390, 3) := by decide +kernel
theorem d_X11_takesFactor_134 : decode prog_13_method_64_code 134 = .ok (.aload_n 0, 1) := by decide +kernel
theorem d_X11_takesFactor_135 : decode prog_13_method_64_code 135 = .ok (.getfield 71, 3) := by decide +kernel
theorem d_X11_takesFactor_138 : decode prog_13_method_64_code 138 = .ok (.iload 8, 2) := by decide +kernel
theorem d_X11_takesFactor_140 : decode prog_13_method_64_code 140 = .ok (.aload_n 0, 1) := by decide +kernel
theorem d_X11_takesFactor_141 : decode prog_13_method_64_code 141 = .ok (.getfield 92, 3) := by decide +kernel
theorem d_X11_takesFactor_144 : decode prog_13_method_64_code 144 = .ok (.iload_n 2, 1) := by decide +kernel
theorem d_X11_takesFactor_145 : decode prog_13_method_64_code 145 = .ok (.iaload, 1) := by decide +kernel
theorem d_X11_takesFactor_146 : decode prog_13_method_64_code 146 = .ok (.iastore, 1) := by decide +kernel
theorem d_X11_takesFactor_147 : decode prog_13_method_64_code 147 = .ok (.aload_n 0, 1) := by decide +kernel
theorem d_X11_takesFactor_148 : decode prog_13_method_64_code 148 = .ok (.getfield 74, 3) := by decide +kernel
theorem d_X11_takesFactor_151 : decode prog_13_method_64_code 151 = .ok (.iload 8, 2) := by decide +kernel
theorem d_X11_takesFactor_153 : decode prog_13_method_64_code 153 = .ok (.aload_n 0, 1) := by decide +kernel
theorem d_X11_takesFactor_154 : decode prog_13_method_64_code 154 = .ok (.getfield 98, 3) := by decide +kernel
theorem d_X11_takesFactor_157 : decode prog_13_method_64_code 157 = .ok (.iload_n 2, 1) := by decide +kernel
theorem d_X11_takesFactor_158 : decode prog_13_method_64_code 158 = .ok (.iaload, 1) := by decide +kernel
theorem d_X11_takesFactor_159 : decode prog_13_method_64_code 159 = .ok (.iastore, 1) := by decide +kernel
theorem d_X11_takesFactor_160 : decode prog_13_method_64_code 160 = .ok (.aload_n 0, 1) := by decide +kernel
theorem d_X11_takesFactor_161 : decode prog_13_method_64_code 161 = .ok (.getfield 77, 3) := by decide +kernel
theorem d_X11_takesFactor_164 : decode prog_13_method_64_code 164 = .ok (.iload 8, 2) := by decide +kernel
theorem d_X11_takesFactor_166 : decode prog_13_method_64_code 166 = .ok (.iload 7, 2) := by decide +kernel
theorem d_X11_takesFactor_168 : decode prog_13_method_64_code 168 = .ok (.iastore, 1) := by decide +kernel
theorem d_X11_takesFactor_169 : decode prog_13_method_64_code 169 = .ok (.iconst 0, 1) := by decide +kernel
theorem d_X11_takesFactor_170 : decode prog_13_method_64_code 170 = .ok (.istore 9, 2) := by decide +kernel
theorem d_X11_takesFactor_172 : decode prog_13_method_64_code 172 = .ok (.iload 9, 2) := by decide +kernel
theorem d_X11_takesFactor_174 : decode prog_13_method_64_code 174 = .ok (.bipush 7, 2) := by decide +kernel
theorem d_X11_takesFactor_176 : decode prog_13_method_64_code 176 = .ok (.if_icmp .ge 34, 3) := by decide +kernel
theorem d_X11_takesFactor_179 : decode prog_13_method_64_code 179 = .ok (.aload_n 0, 1) := by decide +kernel
theorem d_X11_takesFactor_180 : decode prog_13_method_64_code 180 = .ok (.getfield 80, 3) := by decide +kernel
theorem d_X11_takesFactor_183 : decode prog_13_method_64_code 183 = .ok (.bipush 7, 2) := by decide +kernel
theorem d_X11_takesFactor_185 : decode prog_13_method_64_code 185 = .ok (.iload 8, 2) := by decide +kernel
theorem d_X11_takesFactor_187 : decode prog_13_method_64_code 187 = .ok (.imul, 1) := by decide +kernel
theorem d_X11_takesFactor_188 : decode prog_13_method_64_code 188 = .ok (.iload 9, 2) := by decide +kernel
theorem d_X11_takesFactor_190 : decode prog_13_method_64_code 190 = .ok (.iadd, 1) := by decide +kernel
theorem d_X11_takesFactor_191 : decode prog_13_method_64_code 191 = .ok (.aload_n 0, 1) := by decide +kernel
theorem d_X11_takesFactor_192 : decode prog_13_method_64_code 192 = .ok (.getfield 101, 3) := by decide +kernel
theorem d_X11_takesFactor_195 : decode prog_13_method_64_code 195 = .ok (.bipush 7, 2) := by decide +kernel
theorem d_X11_takesFactor_197 : decode prog_13_method_64_code 197 = .ok (.iload_n 2, 1) := by decide +kernel
theorem d_X11_takesFactor_198 : decode prog_13_method_64_code 198 = .ok (.imul, 1) := by decide +kernel
theorem d_X11_takesFactor_199 : decode prog_13_method_64_code 199 = .ok (.iload 9, 2) := by decide +kernel
theorem d_X11_takesFactor_201 : decode prog_13_method_64_code 201 = .ok (.iadd, 1) := by decide +kernel
theorem d_X11_takesFactor_202 : decode prog_13_method_64_code 202 = .ok (.iaload, 1) := by decide +kernel
theorem d_X11_takesFactor_203 : decode prog_13_method_64_code 203 = .ok (.iastore, 1) := by decide +kernel
theorem d_X11_takesFactor_204 : decode prog_13_method_64_code 204 = .ok (.iinc 9 1, 3) := by decide +kernel
theorem d_X11_takesFactor_207 : decode prog_13_method_64_code 207 = .ok (.goto (-35), 3) := by decide +kernel
theorem d_X11_takesFactor_210 : decode prog_13_method_64_code 210 = .ok (.aload_n 0, 1) := by decide +kernel
theorem d_X11_takesFactor_211 : decode prog_13_method_64_code 211 = .ok (.iload 8, 2) := by decide +kernel
theorem d_X11_takesFactor_213 : decode prog_13_method_64_code 213 = .ok (.invokevirtual 387, 3) := by decide +kernel
theorem d_X11_takesFactor_216 : decode prog_13_method_64_code 216 = .ok (.return_, 1) := by decide +kernel
def f_X11_takesFactor_172B (x2 : Int) (x8 : Int) (rec_172 : Int → tp_M → Option (tp_M)) (x9 : Int) (M0 : tp_M) : Option (tp_M) :=
  if 7 ≤ x9 then
    (f_X11_goesInto x8 M0).bind fun r17 =>
    some r17
  else
    if 0 ≤ (tp_w ((tp_w (7 * x2)) + x9)) ∧ (tp_w ((tp_w (7 * x2)) + x9)) < 448 then
      if 0 ≤ (tp_w ((tp_w (7 * x8)) + x9)) ∧ (tp_w ((tp_w (7 * x8)) + x9)) < 280 then
        tp_mp (tp_up M0 507 (tp_w ((tp_w (7 * x8)) + x9)) (M0 514 (tp_w ((tp_w (7 * x2)) + x9)))) fun M19 =>
        tp_lt (tp_w (x9 + 1)) fun y20 =>
        rec_172 y20 M19 else none else none
set_option maxHeartbeats 4000000 in
set_option maxRecDepth 100000 in
theorem T_X11_takesFactor_172B (G : tp_G) (x2 : Int) (x8 : Int) (rec_172 : Int → tp_M → Option (tp_M)) (hrec_172 : ∀ (x9' : Int) (M' : tp_M), tp_J i_X11_takesFactor (tp_rm 8) G 0 0 o_X11_takesFactor tp_NC (tp_st M') 0 0 [some (.inr (.inr 483)), none, some (.inl x2), none, none, none, none, none, some (.inl x8), some (.inl (x9'))] 172 [] (rec_172 x9' M')) (x9 : Int) (M0 : tp_M) : tp_J i_X11_takesFactor (tp_rm 8) G 0 0 o_X11_takesFactor tp_NC (tp_st M0) 0 0 [some (.inr (.inr 483)), none, some (.inl x2), none, none, none, none, none, some (.inl x8), some (.inl x9)] 172 [] (f_X11_takesFactor_172B x2 x8 rec_172 x9 M0) := by
  unfold f_X11_takesFactor_172B
  refine j_iload d_X11_takesFactor_172 rfl ?_
  refine j_bipush ⟨by decide, by decide⟩ (by decide +kernel) d_X11_takesFactor_174 ?_
  refine j_icmp_ge (tgt := 210) d_X11_takesFactor_176 (by decide) (fun h16 => ?_) (fun h16 => ?_)
  · refine j_aload_n rfl d_X11_takesFactor_210 rfl ?_
    refine j_iload d_X11_takesFactor_211 rfl ?_
    refine j_bind (fun r17 h18 => ?_)
    refine j_callV (y := y_X11_goesInto) (I' := i_X11_goesInto) (avs := [.inl x8]) (c := 483) (st := []) (c_X11_goesInto G x8 M0 r17 h18) cs_Model_387 wd_1408 wd_1410 ws_63 tg_483 rfl rfl rfl (Nat.le_of_ble_eq_true rfl) ⟨rfl, rfl⟩ ⟨by decide, by decide⟩ ⟨by decide, by decide⟩ d_X11_takesFactor_213 ?_
    exact j_vret d_X11_takesFactor_216 rfl rfl ⟨rfl, rfl⟩
  · refine j_aload_n rfl d_X11_takesFactor_179 rfl ?_
    refine j_getr fl_Model_80 tg_483 rv_483_35 d_X11_takesFactor_180 ?_
    refine j_bipush ⟨by decide, by decide⟩ (by decide +kernel) d_X11_takesFactor_183 ?_
    refine j_iload d_X11_takesFactor_185 rfl ?_
    refine j_imul d_X11_takesFactor_187 ?_
    refine j_iload d_X11_takesFactor_188 rfl ?_
    refine j_iadd d_X11_takesFactor_190 ?_
    refine j_aload_n rfl d_X11_takesFactor_191 rfl ?_
    refine j_getr fl_Model_101 tg_483 rv_483_42 d_X11_takesFactor_192 ?_
    refine j_bipush ⟨by decide, by decide⟩ (by decide +kernel) d_X11_takesFactor_195 ?_
    refine j_iload_n rfl d_X11_takesFactor_197 rfl ?_
    refine j_imul d_X11_takesFactor_198 ?_
    refine j_iload d_X11_takesFactor_199 rfl ?_
    refine j_iadd d_X11_takesFactor_201 ?_
    refine j_iald tg_514 al_514 d_X11_takesFactor_202 ?_
    refine j_iast tg_507 al_507 d_X11_takesFactor_203 (fun M19 hM19 => ?_)
    refine j_iincN (lv' := fun y20 => [some (.inr (.inr 483)), none, some (.inl x2), none, none, none, none, none, some (.inl x8), some (.inl y20)]) d_X11_takesFactor_204 rfl (Nat.le_of_ble_eq_true rfl) (fun _ => rfl) (fun y20 hy20 => ?_)
    refine j_goto (tgt := 172) d_X11_takesFactor_207 (by decide) ?_
    exact j_wk [true, false, true, false, false, false, false, false, true, true] rfl rfl (hrec_172 y20 M19)
def f_X11_takesFactor_172 (x2 : Int) (x8 : Int) (x9 : Int) (M0 : tp_M) : Option (tp_M) := tp_lp (σ := Int × tp_M) (fun rec_ u => f_X11_takesFactor_172B x2 x8 (fun x9' M0' => rec_ (x9', M0')) u.1 u.2) tp_N (x9, M0)
set_option maxHeartbeats 4000000 in
set_option maxRecDepth 100000 in
theorem T_X11_takesFactor_172 (G : tp_G) (x2 : Int) (x8 : Int) (x9 : Int) (M0 : tp_M) : tp_J i_X11_takesFactor (tp_rm 8) G 0 0 o_X11_takesFactor tp_NC (tp_st M0) 0 0 [some (.inr (.inr 483)), none, some (.inl x2), none, none, none, none, none, some (.inl x8), some (.inl x9)] 172 [] (f_X11_takesFactor_172 x2 x8 x9 M0) := by
  unfold f_X11_takesFactor_172
  exact j_lp (σ := Int × tp_M) (n' := fun _ => tp_NC) (g' := fun u => tp_st u.2) (k' := fun _ => 0) (q' := fun _ => 0) (lv' := fun u => [some (.inr (.inr 483)), none, some (.inl x2), none, none, none, none, none, some (.inl x8), some (.inl u.1)]) (fun rec_ hrec u => T_X11_takesFactor_172B G x2 x8 (fun x9' M0' => rec_ (x9', M0')) (fun x9' M0' => hrec (x9', M0')) u.1 u.2) tp_N (x9, M0)
def f_X11_takesFactor (a0 : Int) (a1 : Int) (a2 : Int) (M0 : tp_M) : Option (tp_M) :=
  if 0 ≤ a2 ∧ a2 < 9 then
    tp_lt ((M0 490 a2)) fun y1 =>
    if 0 ≤ a2 ∧ a2 < 9 then
      tp_lt ((M0 491 a2)) fun y2 =>
      if 0 ≤ (M0 483 49) ∧ (M0 483 49) < 8 then
        if 0 ≤ a1 ∧ a1 < 64 then
          tp_lt ((tp_w ((M0 522 (M0 483 49)) * (M0 511 a1)))) fun y3 =>
          if ¬ y2 = 1 then
            if y1 ≤ 1 then
              if ¬ (M0 483 49) = 6 then
                (f_X11_rootOf a2 M0).bind fun r7 =>
                (f_X11_newKnot a0 y2 M0).bind fun r9 =>
                (f_X11_laysKey r9.1 a0 a1 r7 r9.2).bind fun r11 =>
                if 0 ≤ a1 ∧ a1 < 64 then
                  if 0 ≤ r9.1 ∧ r9.1 < 40 then
                    tp_mp (tp_up r11 504 r9.1 (r11 511 a1)) fun M13 =>
                    if 0 ≤ a1 ∧ a1 < 64 then
                      if 0 ≤ r9.1 ∧ r9.1 < 40 then
                        tp_mp (tp_up M13 505 r9.1 (M13 513 a1)) fun M14 =>
                        if 0 ≤ r9.1 ∧ r9.1 < 40 then
                          tp_mp (tp_up M14 506 r9.1 r7) fun M15 =>
                          f_X11_takesFactor_172 a1 r9.1 0 M15 else none else none else none else none else none
              else
                (f_X11_addsLeaf 3 0 0 (tp_w (y2 * y3)) a0 M0).bind fun r21 =>
                some r21
            else
              (f_X11_addsLeaf 2 0 0 (tp_w ((tp_w (y1 * y2)) * y3)) a0 M0).bind fun r23 =>
              some r23
          else
            (f_X11_addsLeaf 0 y3 y1 (tp_w (y3 * y1)) a0 M0).bind fun r25 =>
            some r25 else none else none else none else none
set_option maxHeartbeats 4000000 in
set_option maxRecDepth 100000 in
theorem T_X11_takesFactor (G : tp_G) (a0 : Int) (a1 : Int) (a2 : Int) (M0 : tp_M) : tp_J i_X11_takesFactor (tp_rm 8) G 0 0 o_X11_takesFactor tp_NC (tp_st M0) 0 0 [some (.inr (.inr 483)), some (.inl a0), some (.inl a1), some (.inl a2), none, none, none, none, none, none] 0 [] (f_X11_takesFactor a0 a1 a2 M0) := by
  unfold f_X11_takesFactor
  refine j_aload_n rfl d_X11_takesFactor_0 rfl ?_
  refine j_getr fl_Model_29 tg_483 rv_483_13 d_X11_takesFactor_1 ?_
  refine j_iload_n rfl d_X11_takesFactor_4 rfl ?_
  refine j_iald tg_490 al_490 d_X11_takesFactor_5 ?_
  refine j_nmI (fun y1 hy1 => ?_)
  refine j_istore (lv' := [some (.inr (.inr 483)), some (.inl a0), some (.inl a1), some (.inl a2), some (.inl y1), none, none, none, none, none]) d_X11_takesFactor_6 (Nat.le_of_ble_eq_true rfl) rfl ?_
  refine j_aload_n rfl d_X11_takesFactor_8 rfl ?_
  refine j_getr fl_Model_32 tg_483 rv_483_14 d_X11_takesFactor_9 ?_
  refine j_iload_n rfl d_X11_takesFactor_12 rfl ?_
  refine j_iald tg_491 al_491 d_X11_takesFactor_13 ?_
  refine j_nmI (fun y2 hy2 => ?_)
  refine j_istore (lv' := [some (.inr (.inr 483)), some (.inl a0), some (.inl a1), some (.inl a2), some (.inl y1), some (.inl y2), none, none, none, none]) d_X11_takesFactor_14 (Nat.le_of_ble_eq_true rfl) rfl ?_
  refine j_aload_n rfl d_X11_takesFactor_16 rfl ?_
  refine j_getr fl_Model_125 tg_483 rv_483_51 d_X11_takesFactor_17 ?_
  refine j_aload_n rfl d_X11_takesFactor_20 rfl ?_
  refine j_geti fl_Model_300 tg_483 d_X11_takesFactor_21 ?_
  refine j_iald tg_522 al_522 d_X11_takesFactor_24 ?_
  refine j_aload_n rfl d_X11_takesFactor_25 rfl ?_
  refine j_getr fl_Model_92 tg_483 rv_483_39 d_X11_takesFactor_26 ?_
  refine j_iload_n rfl d_X11_takesFactor_29 rfl ?_
  refine j_iald tg_511 al_511 d_X11_takesFactor_30 ?_
  refine j_imul d_X11_takesFactor_31 ?_
  refine j_nmI (fun y3 hy3 => ?_)
  refine j_istore (lv' := [some (.inr (.inr 483)), some (.inl a0), some (.inl a1), some (.inl a2), some (.inl y1), some (.inl y2), some (.inl y3), none, none, none]) d_X11_takesFactor_32 (Nat.le_of_ble_eq_true rfl) rfl ?_
  refine j_iload d_X11_takesFactor_34 rfl ?_
  refine j_iconst ⟨by decide, by decide⟩ d_X11_takesFactor_36 ?_
  refine j_icmp_ne (tgt := 58) d_X11_takesFactor_37 (by decide) (fun h4 => ?_) (fun h4 => ?_)
  · refine j_iload d_X11_takesFactor_58 rfl ?_
    refine j_iconst ⟨by decide, by decide⟩ d_X11_takesFactor_60 ?_
    refine j_icmp_le (tgt := 83) d_X11_takesFactor_61 (by decide) (fun h5 => ?_) (fun h5 => ?_)
    · refine j_aload_n rfl d_X11_takesFactor_83 rfl ?_
      refine j_geti fl_Model_300 tg_483 d_X11_takesFactor_84 ?_
      refine j_bipush ⟨by decide, by decide⟩ (by decide +kernel) d_X11_takesFactor_87 ?_
      refine j_icmp_ne (tgt := 108) d_X11_takesFactor_89 (by decide) (fun h6 => ?_) (fun h6 => ?_)
      · refine j_aload_n rfl d_X11_takesFactor_108 rfl ?_
        refine j_iload_n rfl d_X11_takesFactor_109 rfl ?_
        refine j_bind (fun r7 h8 => ?_)
        refine j_callV (y := y_X11_rootOf) (I' := i_X11_rootOf) (avs := [.inl a2]) (c := 483) (st := []) (c_X11_rootOf G a2 M0 r7 h8) cs_Model_381 wd_1400 wd_1402 ws_61 tg_483 rfl rfl rfl (Nat.le_of_ble_eq_true rfl) ⟨rfl, rfl⟩ ⟨by decide, by decide⟩ ⟨by decide, by decide⟩ d_X11_takesFactor_110 ?_
        refine j_istore (lv' := [some (.inr (.inr 483)), some (.inl a0), some (.inl a1), some (.inl a2), some (.inl y1), some (.inl y2), some (.inl y3), some (.inl r7), none, none]) d_X11_takesFactor_113 (Nat.le_of_ble_eq_true rfl) rfl ?_
        refine j_aload_n rfl d_X11_takesFactor_115 rfl ?_
        refine j_iload_n rfl d_X11_takesFactor_116 rfl ?_
        refine j_iload d_X11_takesFactor_117 rfl ?_
        refine j_bind (fun r9 h10 => ?_)
        refine j_callV (y := y_X11_newKnot) (I' := i_X11_newKnot) (avs := [.inl a0, .inl y2]) (c := 483) (st := []) (c_X11_newKnot G a0 y2 M0 r9 h10) cs_Model_384 wd_1404 wd_1406 ws_62 tg_483 rfl rfl rfl (Nat.le_of_ble_eq_true rfl) ⟨rfl, rfl⟩ ⟨by decide, by decide⟩ ⟨by decide, by decide⟩ d_X11_takesFactor_119 ?_
        refine j_istore (lv' := [some (.inr (.inr 483)), some (.inl a0), some (.inl a1), some (.inl a2), some (.inl y1), some (.inl y2), some (.inl y3), some (.inl r7), some (.inl r9.1), none]) d_X11_takesFactor_122 (Nat.le_of_ble_eq_true rfl) rfl ?_
        refine j_aload_n rfl d_X11_takesFactor_124 rfl ?_
        refine j_iload d_X11_takesFactor_125 rfl ?_
        refine j_iload_n rfl d_X11_takesFactor_127 rfl ?_
        refine j_iload_n rfl d_X11_takesFactor_128 rfl ?_
        refine j_iload d_X11_takesFactor_129 rfl ?_
        refine j_bind (fun r11 h12 => ?_)
        refine j_callV (y := y_X11_laysKey) (I' := i_X11_laysKey) (avs := [.inl r9.1, .inl a0, .inl a1, .inl r7]) (c := 483) (st := []) (c_X11_laysKey G r9.1 a0 a1 r7 r9.2 r11 h12) cs_Model_390 wd_1479 wd_1481 ws_80 tg_483 rfl rfl rfl (Nat.le_of_ble_eq_true rfl) ⟨rfl, rfl⟩ ⟨by decide, by decide⟩ ⟨by decide, by decide⟩ d_X11_takesFactor_131 ?_
        refine j_aload_n rfl d_X11_takesFactor_134 rfl ?_
        refine j_getr fl_Model_71 tg_483 rv_483_32 d_X11_takesFactor_135 ?_
        refine j_iload d_X11_takesFactor_138 rfl ?_
        refine j_aload_n rfl d_X11_takesFactor_140 rfl ?_
        refine j_getr fl_Model_92 tg_483 rv_483_39 d_X11_takesFactor_141 ?_
        refine j_iload_n rfl d_X11_takesFactor_144 rfl ?_
        refine j_iald tg_511 al_511 d_X11_takesFactor_145 ?_
        refine j_iast tg_504 al_504 d_X11_takesFactor_146 (fun M13 hM13 => ?_)
        refine j_aload_n rfl d_X11_takesFactor_147 rfl ?_
        refine j_getr fl_Model_74 tg_483 rv_483_33 d_X11_takesFactor_148 ?_
        refine j_iload d_X11_takesFactor_151 rfl ?_
        refine j_aload_n rfl d_X11_takesFactor_153 rfl ?_
        refine j_getr fl_Model_98 tg_483 rv_483_41 d_X11_takesFactor_154 ?_
        refine j_iload_n rfl d_X11_takesFactor_157 rfl ?_
        refine j_iald tg_513 al_513 d_X11_takesFactor_158 ?_
        refine j_iast tg_505 al_505 d_X11_takesFactor_159 (fun M14 hM14 => ?_)
        refine j_aload_n rfl d_X11_takesFactor_160 rfl ?_
        refine j_getr fl_Model_77 tg_483 rv_483_34 d_X11_takesFactor_161 ?_
        refine j_iload d_X11_takesFactor_164 rfl ?_
        refine j_iload d_X11_takesFactor_166 rfl ?_
        refine j_iast tg_506 al_506 d_X11_takesFactor_168 (fun M15 hM15 => ?_)
        refine j_iconst ⟨by decide, by decide⟩ d_X11_takesFactor_169 ?_
        refine j_istore (lv' := [some (.inr (.inr 483)), some (.inl a0), some (.inl a1), some (.inl a2), some (.inl y1), some (.inl y2), some (.inl y3), some (.inl r7), some (.inl r9.1), some (.inl 0)]) d_X11_takesFactor_170 (Nat.le_of_ble_eq_true rfl) rfl ?_
        exact j_wk [true, false, true, false, false, false, false, false, true, true] rfl rfl (T_X11_takesFactor_172 G a1 r9.1 0 M15)
      · refine j_aload_n rfl d_X11_takesFactor_92 rfl ?_
        refine j_iconst ⟨by decide, by decide⟩ d_X11_takesFactor_93 ?_
        refine j_iconst ⟨by decide, by decide⟩ d_X11_takesFactor_94 ?_
        refine j_iconst ⟨by decide, by decide⟩ d_X11_takesFactor_95 ?_
        refine j_iload d_X11_takesFactor_96 rfl ?_
        refine j_iload d_X11_takesFactor_98 rfl ?_
        refine j_imul d_X11_takesFactor_100 ?_
        refine j_iload_n rfl d_X11_takesFactor_101 rfl ?_
        refine j_bind (fun r21 h22 => ?_)
        refine j_callV (y := y_X11_addsLeaf) (I' := i_X11_addsLeaf) (avs := [.inl 3, .inl 0, .inl 0, .inl (tp_w (y2 * y3)), .inl a0]) (c := 483) (st := []) (c_X11_addsLeaf G 3 0 0 (tp_w (y2 * y3)) a0 M0 r21 h22) cs_Model_358 wd_1396 wd_1398 ws_60 tg_483 rfl rfl rfl (Nat.le_of_ble_eq_true rfl) ⟨rfl, rfl⟩ ⟨by decide, by decide⟩ ⟨by decide, by decide⟩ d_X11_takesFactor_102 ?_
        refine j_goto (tgt := 216) d_X11_takesFactor_105 (by decide) ?_
        exact j_vret d_X11_takesFactor_216 rfl rfl ⟨rfl, rfl⟩
    · refine j_aload_n rfl d_X11_takesFactor_64 rfl ?_
      refine j_iconst ⟨by decide, by decide⟩ d_X11_takesFactor_65 ?_
      refine j_iconst ⟨by decide, by decide⟩ d_X11_takesFactor_66 ?_
      refine j_iconst ⟨by decide, by decide⟩ d_X11_takesFactor_67 ?_
      refine j_iload d_X11_takesFactor_68 rfl ?_
      refine j_iload d_X11_takesFactor_70 rfl ?_
      refine j_imul d_X11_takesFactor_72 ?_
      refine j_iload d_X11_takesFactor_73 rfl ?_
      refine j_imul d_X11_takesFactor_75 ?_
      refine j_iload_n rfl d_X11_takesFactor_76 rfl ?_
      refine j_bind (fun r23 h24 => ?_)
      refine j_callV (y := y_X11_addsLeaf) (I' := i_X11_addsLeaf) (avs := [.inl 2, .inl 0, .inl 0, .inl (tp_w ((tp_w (y1 * y2)) * y3)), .inl a0]) (c := 483) (st := []) (c_X11_addsLeaf G 2 0 0 (tp_w ((tp_w (y1 * y2)) * y3)) a0 M0 r23 h24) cs_Model_358 wd_1396 wd_1398 ws_60 tg_483 rfl rfl rfl (Nat.le_of_ble_eq_true rfl) ⟨rfl, rfl⟩ ⟨by decide, by decide⟩ ⟨by decide, by decide⟩ d_X11_takesFactor_77 ?_
      refine j_goto (tgt := 216) d_X11_takesFactor_80 (by decide) ?_
      exact j_vret d_X11_takesFactor_216 rfl rfl ⟨rfl, rfl⟩
  · refine j_aload_n rfl d_X11_takesFactor_40 rfl ?_
    refine j_iconst ⟨by decide, by decide⟩ d_X11_takesFactor_41 ?_
    refine j_iload d_X11_takesFactor_42 rfl ?_
    refine j_iload d_X11_takesFactor_44 rfl ?_
    refine j_iload d_X11_takesFactor_46 rfl ?_
    refine j_iload d_X11_takesFactor_48 rfl ?_
    refine j_imul d_X11_takesFactor_50 ?_
    refine j_iload_n rfl d_X11_takesFactor_51 rfl ?_
    refine j_bind (fun r25 h26 => ?_)
    refine j_callV (y := y_X11_addsLeaf) (I' := i_X11_addsLeaf) (avs := [.inl 0, .inl y3, .inl y1, .inl (tp_w (y3 * y1)), .inl a0]) (c := 483) (st := []) (c_X11_addsLeaf G 0 y3 y1 (tp_w (y3 * y1)) a0 M0 r25 h26) cs_Model_358 wd_1396 wd_1398 ws_60 tg_483 rfl rfl rfl (Nat.le_of_ble_eq_true rfl) ⟨rfl, rfl⟩ ⟨by decide, by decide⟩ ⟨by decide, by decide⟩ d_X11_takesFactor_52 ?_
    refine j_goto (tgt := 216) d_X11_takesFactor_55 (by decide) ?_
    exact j_vret d_X11_takesFactor_216 rfl rfl ⟨rfl, rfl⟩
set_option maxHeartbeats 4000000 in
set_option maxRecDepth 100000 in
theorem c_X11_takesFactor (G : tp_G) (a0 : Int) (a1 : Int) (a2 : Int) (M0 : tp_M) (r : tp_M) (h : f_X11_takesFactor a0 a1 a2 M0 = some r) (l : Launch) : Met l y_X11_takesFactor (tp_ws y_X11_takesFactor i_X11_takesFactor) (tp_rm 8) (tp_Pc G [.inr (.inr 483), .inl a0, .inl a1, .inl a2] tp_NC (tp_st M0)) (tp_Q G (o_X11_takesFactor r)) 0 0 (tp_A G) :=
  tp_met (I := i_X11_takesFactor) (y := y_X11_takesFactor) (by decide +kernel) (Eq.refl "TypesAtPrimeModel") (Eq.refl "takesFactor") (lv := [some (.inr (.inr 483)), some (.inl a0), some (.inl a1), some (.inl a2), none, none, none, none, none, none]) rfl (Nat.le_of_ble_eq_true rfl) (T_X11_takesFactor G a0 a1 a2 M0) h l
