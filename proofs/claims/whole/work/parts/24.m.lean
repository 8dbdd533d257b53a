theorem wd_303 : (.fieldLink "TypesAtPrime$Tree" 17 "TypesAtPrime$Tree" "knots" "[LTypesAtPrime$Knot;" : Cond) ∈ lw_tbl := List.mem_append_right _ (List.mem_of_getElem? (i := 303) (by decide +kernel))
theorem fl_Tree_17 : tp_F "TypesAtPrime$Tree" 17 9 7 2 := ⟨_, _, _, rfl, by decide, rfl, wd_303, rfl, by decide⟩
theorem tg_43 : tp_tg 43 = 26 := by decide +kernel
theorem al_43 : tp_al 43 = 24 := by decide +kernel
theorem rv_41_7 : tp_rv 41 7 = 43 := by decide +kernel
theorem aa_43 : ∀ i : Int, 0 ≤ i → i < 24 → tp_rv 43 i.toNat = (46 + 3 * i) ∧ tp_tg (46 + 3 * i) = 2 ∧ tp_al (46 + 3 * i) = 10 := by
  intro i h0 h1
  have h : (List.range 24).all (fun j => decide (tp_rv 43 j = (46 + 3 * (j : Int)) ∧ tp_tg (46 + 3 * (j : Int)) = 2 ∧ tp_al (46 + 3 * (j : Int)) = 10)) = true := by decide +kernel
  have h3 := of_decide_eq_true (List.all_eq_true.mp h i.toNat (List.mem_range.mpr (by omega)))
  have h4 : ((i.toNat : Nat) : Int) = i := by omega
  rw [h4] at h3
  exact h3
def y_X9_knotAt : MethodName := ⟨"TypesAtPrime$Tree", "knotAt", "(I)LTypesAtPrime$Knot;"⟩
abbrev i_X9_knotAt : tp_I := (prog_11_method_3_code, "TypesAtPrime$Tree", (some (.object "TypesAtPrime$Knot")), 2, "knotAt")
abbrev o_X9_knotAt (M : tp_M) : Int → tp_O := fun r => (some (.inr (.inr r)), tp_NC, tp_st M)
theorem d_X9_knotAt_0 : decode prog_11_method_3_code 0 = .ok (.iload_n 1, 1) := by decide +kernel
theorem d_X9_knotAt_1 : decode prog_11_method_3_code 1 = .ok (.ifCond .lt 29, 3) := by decide +kernel
theorem d_X9_knotAt_4 : decode prog_11_method_3_code 4 = .ok (.iload_n 1, 1) := by decide +kernel
theorem d_X9_knotAt_5 : decode prog_11_method_3_code 5 = .ok (.aload_n 0, 1) := by decide +kernel
theorem d_X9_knotAt_6 : decode prog_11_method_3_code 6 = .ok (.getfield 44, 3) := by decide +kernel
theorem d_X9_knotAt_9 : decode prog_11_method_3_code 9 = .ok (.if_icmp .ge 21, 3) := by decide +kernel
theorem d_X9_knotAt_12 : decode prog_11_method_3_code 12 = .ok (.iload_n 1, 1) := by decide +kernel
theorem d_X9_knotAt_13 : decode prog_11_method_3_code 13 = .ok (.aload_n 0, 1) := by decide +kernel
theorem d_X9_knotAt_14 : decode prog_11_method_3_code 14 = .ok (.getfield 17, 3) := by decide +kernel
theorem d_X9_knotAt_17 : decode prog_11_method_3_code 17 = .ok (.arraylength, 1) := by decide +kernel
theorem d_X9_knotAt_18 : decode prog_11_method_3_code 18 = .ok (.if_icmp .ge 12, 3) := by decide +kernel
theorem d_X9_knotAt_21 : decode prog_11_method_3_code 21 = .ok (.aload_n 0, 1) := by decide +kernel
theorem d_X9_knotAt_22 : decode prog_11_method_3_code 22 = .ok (.getfield 17, 3) := by decide +kernel
theorem d_X9_knotAt_25 : decode prog_11_method_3_code 25 = .ok (.iload_n 1, 1) := by decide +kernel
theorem d_X9_knotAt_26 : decode prog_11_method_3_code 26 = .ok (.aaload, 1) := by decide +kernel
theorem d_X9_knotAt_27 : decode prog_11_method_3_code 27 = .ok (.goto 4, 3) := by decide +kernel
theorem d_X9_knotAt_30 : decode prog_11_method_3_code 30 = .ok (.aconst_null, 1) := by decide +kernel
theorem d_X9_knotAt_31 : decode prog_11_method_3_code 31 = .ok (.areturn, 1) := by decide +kernel
def f_X9_knotAt (a0 : Int) (M0 : tp_M) : Option (Int) :=
  if a0 < 0 then
    some (-1)
  else
    if (M0 41 2) ≤ a0 then
      some (-1)
    else
      if 24 ≤ a0 then
        some (-1)
      else
        if 0 ≤ a0 ∧ a0 < 24 then
          some (46 + 3 * a0) else none
set_option maxHeartbeats 4000000 in
set_option maxRecDepth 100000 in
theorem T_X9_knotAt (G : tp_G) (a0 : Int) (M0 : tp_M) : tp_J i_X9_knotAt (tp_rm 0) G 0 0 (o_X9_knotAt M0) tp_NC (tp_st M0) 0 0 [some (.inr (.inr 41)), some (.inl a0)] 0 [] (f_X9_knotAt a0 M0) := by
  unfold f_X9_knotAt
  refine j_iload_n rfl d_X9_knotAt_0 rfl ?_
  refine j_if_lt (tgt := 30) d_X9_knotAt_1 (by decide) (fun h1 => ?_) (fun h1 => ?_)
  · refine j_null d_X9_knotAt_30 ?_
    exact j_aret d_X9_knotAt_31 rfl (Or.inl ⟨_, rfl⟩) rfl ⟨rfl, rfl⟩
  · refine j_iload_n rfl d_X9_knotAt_4 rfl ?_
    refine j_aload_n rfl d_X9_knotAt_5 rfl ?_
    refine j_geti fl_Tree_44 tg_41 d_X9_knotAt_6 ?_
    refine j_icmp_ge (tgt := 30) d_X9_knotAt_9 (by decide) (fun h2 => ?_) (fun h2 => ?_)
    · refine j_null d_X9_knotAt_30 ?_
      exact j_aret d_X9_knotAt_31 rfl (Or.inl ⟨_, rfl⟩) rfl ⟨rfl, rfl⟩
    · refine j_iload_n rfl d_X9_knotAt_12 rfl ?_
      refine j_aload_n rfl d_X9_knotAt_13 rfl ?_
      refine j_getr fl_Tree_17 tg_41 rv_41_7 d_X9_knotAt_14 ?_
      refine j_alen tg_43 (by decide) al_43 ⟨by decide, by decide⟩ (ty := (.object "TypesAtPrime$Knot")) (by decide) d_X9_knotAt_17 ?_
      refine j_icmp_ge (tgt := 30) d_X9_knotAt_18 (by decide) (fun h3 => ?_) (fun h3 => ?_)
      · refine j_null d_X9_knotAt_30 ?_
        exact j_aret d_X9_knotAt_31 rfl (Or.inl ⟨_, rfl⟩) rfl ⟨rfl, rfl⟩
      · refine j_aload_n rfl d_X9_knotAt_21 rfl ?_
        refine j_getr fl_Tree_17 tg_41 rv_41_7 d_X9_knotAt_22 ?_
        refine j_iload_n rfl d_X9_knotAt_25 rfl ?_
        refine j_aald (v := (46 + 3 * a0)) (ty := (.object "TypesAtPrime$Knot")) tg_43 (by decide) al_43 (by decide) rfl d_X9_knotAt_26 (fun h1 h2 => (aa_43 _ h1 h2).1) (fun hi4 => ?_)
        refine j_goto (tgt := 31) d_X9_knotAt_27 (by decide) ?_
        exact j_aret d_X9_knotAt_31 rfl (Or.inl ⟨_, rfl⟩) rfl ⟨rfl, rfl⟩
set_option maxHeartbeats 4000000 in
set_option maxRecDepth 100000 in
theorem c_X9_knotAt (G : tp_G) (a0 : Int) (M0 : tp_M) (r : Int) (h : f_X9_knotAt a0 M0 = some r) (l : Launch) : Met l y_X9_knotAt (tp_ws y_X9_knotAt i_X9_knotAt) (tp_rm 0) (tp_Pc G [.inr (.inr 41), .inl a0] tp_NC (tp_st M0)) (tp_Q G ((o_X9_knotAt M0) r)) 0 0 (tp_A G) :=
  tp_met (I := i_X9_knotAt) (y := y_X9_knotAt) (by decide +kernel) (Eq.refl "TypesAtPrime$Tree") (Eq.refl "knotAt") (lv := [some (.inr (.inr 41)), some (.inl a0)]) rfl (Nat.le_of_ble_eq_true rfl) (T_X9_knotAt G a0 M0) h l
theorem wd_305 : (.fieldLink "TypesAtPrime$Tree" 29 "TypesAtPrime$Tree" "leaves" "[LTypesAtPrime$Leaf;" : Cond) ∈ lw_tbl := List.mem_append_right _ (List.mem_of_getElem? (i := 305) (by decide +kernel))
theorem fl_Tree_29 : tp_F "TypesAtPrime$Tree" 29 9 9 2 := ⟨_, _, _, rfl, by decide, rfl, wd_305, rfl, by decide⟩
theorem tg_45 : tp_tg 45 = 27 := by decide +kernel
theorem al_45 : tp_al 45 = 16 := by decide +kernel
theorem rv_41_9 : tp_rv 41 9 = 45 := by decide +kernel
theorem aa_45 : ∀ i : Int, 0 ≤ i → i < 16 → tp_rv 45 i.toNat = (262 + i) ∧ tp_tg (262 + i) = 3 ∧ tp_al (262 + i) = 5 := by
  intro i h0 h1
  have h : (List.range 16).all (fun j => decide (tp_rv 45 j = (262 + (j : Int)) ∧ tp_tg (262 + (j : Int)) = 3 ∧ tp_al (262 + (j : Int)) = 5)) = true := by decide +kernel
  have h3 := of_decide_eq_true (List.all_eq_true.mp h i.toNat (List.mem_range.mpr (by omega)))
  have h4 : ((i.toNat : Nat) : Int) = i := by omega
  rw [h4] at h3
  exact h3
def y_X9_leafAt : MethodName := ⟨"TypesAtPrime$Tree", "leafAt", "(I)LTypesAtPrime$Leaf;"⟩
abbrev i_X9_leafAt : tp_I := (prog_11_method_4_code, "TypesAtPrime$Tree", (some (.object "TypesAtPrime$Leaf")), 2, "leafAt")
abbrev o_X9_leafAt (M : tp_M) : Int → tp_O := fun r => (some (.inr (.inr r)), tp_NC, tp_st M)
theorem d_X9_leafAt_0 : decode prog_11_method_4_code 0 = .ok (.iload_n 1, 1) := by decide +kernel
theorem d_X9_leafAt_1 : decode prog_11_method_4_code 1 = .ok (.ifCond .lt 29, 3) := by decide +kernel
theorem d_X9_leafAt_4 : decode prog_11_method_4_code 4 = .ok (.iload_n 1, 1) := by decide +kernel
theorem d_X9_leafAt_5 : decode prog_11_method_4_code 5 = .ok (.aload_n 0, 1) := by decide +kernel
theorem d_X9_leafAt_6 : decode prog_11_method_4_code 6 = .ok (.getfield 50, 3) := by decide +kernel
theorem d_X9_leafAt_9 : decode prog_11_method_4_code 9 = .ok (.if_icmp .ge 21, 3) := by decide +kernel
theorem d_X9_leafAt_12 : decode prog_11_method_4_code 12 = .ok (.iload_n 1, 1) := by decide +kernel
theorem d_X9_leafAt_13 : decode prog_11_method_4_code 13 = .ok (.aload_n 0, 1) := by decide +kernel
theorem d_X9_leafAt_14 : decode prog_11_method_4_code 14 = .ok (.getfield 29, 3) := by decide +kernel
theorem d_X9_leafAt_17 : decode prog_11_method_4_code 17 = .ok (.arraylength, 1) := by decide +kernel
theorem d_X9_leafAt_18 : decode prog_11_method_4_code 18 = .ok (.if_icmp .ge 12, 3) := by decide +kernel
theorem d_X9_leafAt_21 : decode prog_11_method_4_code 21 = .ok (.aload_n 0, 1) := by decide +kernel
theorem d_X9_leafAt_22 : decode prog_11_method_4_code 22 = .ok (.getfield 29, 3) := by decide +kernel
theorem d_X9_leafAt_25 : decode prog_11_method_4_code 25 = .ok (.iload_n 1, 1) := by decide +kernel
theorem d_X9_leafAt_26 : decode prog_11_method_4_code 26 = .ok (.aaload, 1) := by decide +kernel
theorem d_X9_leafAt_27 : decode prog_11_method_4_code 27 = .ok (.goto 4, 3) := by decide +kernel
theorem d_X9_leafAt_30 : decode prog_11_method_4_code 30 = .ok (.aconst_null, 1) := by decide +kernel
theorem d_X9_leafAt_31 : decode prog_11_method_4_code 31 = .ok (.areturn, 1) := by decide +kernel
def f_X9_leafAt (a0 : Int) (M0 : tp_M) : Option (Int) :=
  if a0 < 0 then
    some (-1)
  else
    if (M0 41 3) ≤ a0 then
      some (-1)
    else
      if 16 ≤ a0 then
        some (-1)
      else
        if 0 ≤ a0 ∧ a0 < 16 then
          some (262 + a0) else none
set_option maxHeartbeats 4000000 in
set_option maxRecDepth 100000 in
theorem T_X9_leafAt (G : tp_G) (a0 : Int) (M0 : tp_M) : tp_J i_X9_leafAt (tp_rm 0) G 0 0 (o_X9_leafAt M0) tp_NC (tp_st M0) 0 0 [some (.inr (.inr 41)), some (.inl a0)] 0 [] (f_X9_leafAt a0 M0) := by
  unfold f_X9_leafAt
  refine j_iload_n rfl d_X9_leafAt_0 rfl ?_
  refine j_if_lt (tgt := 30) d_X9_leafAt_1 (by decide) (fun h1 => ?_) (fun h1 => ?_)
  · refine j_null d_X9_leafAt_30 ?_
    exact j_aret d_X9_leafAt_31 rfl (Or.inl ⟨_, rfl⟩) rfl ⟨rfl, rfl⟩
  · refine j_iload_n rfl d_X9_leafAt_4 rfl ?_
    refine j_aload_n rfl d_X9_leafAt_5 rfl ?_
    refine j_geti fl_Tree_50 tg_41 d_X9_leafAt_6 ?_
    refine j_icmp_ge (tgt := 30) d_X9_leafAt_9 (by decide) (fun h2 => ?_) (fun h2 => ?_)
    · refine j_null d_X9_leafAt_30 ?_
      exact j_aret d_X9_leafAt_31 rfl (Or.inl ⟨_, rfl⟩) rfl ⟨rfl, rfl⟩
    · refine j_iload_n rfl d_X9_leafAt_12 rfl ?_
      refine j_aload_n rfl d_X9_leafAt_13 rfl ?_
      refine j_getr fl_Tree_29 tg_41 rv_41_9 d_X9_leafAt_14 ?_
      refine j_alen tg_45 (by decide) al_45 ⟨by decide, by decide⟩ (ty := (.object "TypesAtPrime$Leaf")) (by decide) d_X9_leafAt_17 ?_
      refine j_icmp_ge (tgt := 30) d_X9_leafAt_18 (by decide) (fun h3 => ?_) (fun h3 => ?_)
      · refine j_null d_X9_leafAt_30 ?_
        exact j_aret d_X9_leafAt_31 rfl (Or.inl ⟨_, rfl⟩) rfl ⟨rfl, rfl⟩
      · refine j_aload_n rfl d_X9_leafAt_21 rfl ?_
        refine j_getr fl_Tree_29 tg_41 rv_41_9 d_X9_leafAt_22 ?_
        refine j_iload_n rfl d_X9_leafAt_25 rfl ?_
        refine j_aald (v := (262 + a0)) (ty := (.object "TypesAtPrime$Leaf")) tg_45 (by decide) al_45 (by decide) rfl d_X9_leafAt_26 (fun h1 h2 => (aa_45 _ h1 h2).1) (fun hi4 => ?_)
        refine j_goto (tgt := 31) d_X9_leafAt_27 (by decide) ?_
        exact j_aret d_X9_leafAt_31 rfl (Or.inl ⟨_, rfl⟩) rfl ⟨rfl, rfl⟩
set_option maxHeartbeats 4000000 in
set_option maxRecDepth 100000 in
theorem c_X9_leafAt (G : tp_G) (a0 : Int) (M0 : tp_M) (r : Int) (h : f_X9_leafAt a0 M0 = some r) (l : Launch) : Met l y_X9_leafAt (tp_ws y_X9_leafAt i_X9_leafAt) (tp_rm 0) (tp_Pc G [.inr (.inr 41), .inl a0] tp_NC (tp_st M0)) (tp_Q G ((o_X9_leafAt M0) r)) 0 0 (tp_A G) :=
  tp_met (I := i_X9_leafAt) (y := y_X9_leafAt) (by decide +kernel) (Eq.refl "TypesAtPrime$Tree") (Eq.refl "leafAt") (lv := [some (.inr (.inr 41)), some (.inl a0)]) rfl (Nat.le_of_ble_eq_true rfl) (T_X9_leafAt G a0 M0) h l
theorem wd_667 : (.code ⟨"TypesAtPrime$Tree", "knotAt", "(I)LTypesAtPrime$Knot;"⟩ prog_11_method_3_code 2 (some (.object "TypesAtPrime$Knot")) : Cond) ∈ lw_tbl := List.mem_append_right _ (List.mem_of_getElem? (i := 667) (by decide +kernel))
theorem cs_Tree_56 : tp_CS "TypesAtPrime$Tree" 56 y_X9_knotAt i_X9_knotAt 1 := ⟨wd_667, wd_6, by decide, by decide, by decide +kernel⟩
theorem wd_664 : (.methodLink "TypesAtPrime$Tree" 56 ⟨"TypesAtPrime$Tree", "knotAt", "(I)LTypesAtPrime$Knot;"⟩ : Cond) ∈ lw_tbl := List.mem_append_right _ (List.mem_of_getElem? (i := 664) (by decide +kernel))
theorem wd_665 : (.instanceMethod ⟨"TypesAtPrime$Tree", "knotAt", "(I)LTypesAtPrime$Knot;"⟩ : Cond) ∈ lw_tbl := List.mem_append_right _ (List.mem_of_getElem? (i := 665) (by decide +kernel))
theorem wd_666 : (.selects "TypesAtPrime$Tree" ⟨"TypesAtPrime$Tree", "knotAt", "(I)LTypesAtPrime$Knot;"⟩ ⟨"TypesAtPrime$Tree", "knotAt", "(I)LTypesAtPrime$Knot;"⟩ : Cond) ∈ lw_tbl := List.mem_append_right _ (List.mem_of_getElem? (i := 666) (by decide +kernel))
theorem wd_183 : (.fieldLink "TypesAtPrime$Tree" 61 "TypesAtPrime$Knot" "firstSide" "I" : Cond) ∈ lw_tbl := List.mem_append_right _ (List.mem_of_getElem? (i := 183) (by decide +kernel))
theorem fl_Tree_61 : tp_F "TypesAtPrime$Tree" 61 2 6 0 := ⟨_, _, _, rfl, by decide, rfl, wd_183, rfl, by decide⟩
def y_X9_sideAt : MethodName := ⟨"TypesAtPrime$Tree", "sideAt", "(II)LTypesAtPrime$Side;"⟩
abbrev i_X9_sideAt : tp_I := (prog_11_method_5_code, "TypesAtPrime$Tree", (some (.object "TypesAtPrime$Side")), 5, "sideAt")
abbrev o_X9_sideAt (M : tp_M) : Int → tp_O := fun r => (some (.inr (.inr r)), tp_NC, tp_st M)
theorem d_X9_sideAt_0 : decode prog_11_method_5_code 0 = .ok (.aload_n 0, 1) := by decide +kernel
theorem d_X9_sideAt_1 : decode prog_11_method_5_code 1 = .ok (.iload_n 1, 1) := by decide +kernel
theorem d_X9_sideAt_2 : decode prog_11_method_5_code 2 = .ok (.invokevirtual 56, 3) := by decide +kernel
theorem d_X9_sideAt_5 : decode prog_11_method_5_code 5 = .ok (.astore_n 3, 1) := by decide +kernel
theorem d_X9_sideAt_6 : decode prog_11_method_5_code 6 = .ok (.aload_n 3, 1) := by decide +kernel
theorem d_X9_sideAt_7 : decode prog_11_method_5_code 7 = .ok (.ifnull 15, 3) := by decide +kernel
theorem d_X9_sideAt_10 : decode prog_11_method_5_code 10 = .ok (.iload_n 2, 1) := by decide +kernel
theorem d_X9_sideAt_11 : decode prog_11_method_5_code 11 = .ok (.ifCond .lt 11, 3) := by decide +kernel
theorem d_X9_sideAt_14 : decode prog_11_method_5_code 14 = .ok (.iload_n 2, 1) := by decide +kernel
theorem d_X9_sideAt_15 : decode prog_11_method_5_code 15 = .ok (.aload_n 3, 1) := by decide +kernel
theorem d_X9_sideAt_16 : decode prog_11_method_5_code 16 = .ok (.getfield 60, 3) := by decide +kernel
theorem d_X9_sideAt_19 : decode prog_11_method_5_code 19 = .ok (.if_icmp .lt 5, 3) := by decide +kernel
theorem d_X9_sideAt_22 : decode prog_11_method_5_code 22 = .ok (.aconst_null, 1) := by decide +kernel
theorem d_X9_sideAt_23 : decode prog_11_method_5_code 23 = .ok (.areturn, 1) := by decide +kernel
theorem d_X9_sideAt_24 : decode prog_11_method_5_code 24 = .ok (.aload_n 3, 1) := by decide +kernel
theorem d_X9_sideAt_25 : decode prog_11_method_5_code 25 = .ok (.getfield 61, 3) := by decide +kernel
theorem d_X9_sideAt_28 : decode prog_11_method_5_code 28 = .ok (.iload_n 2, 1) := by decide +kernel
theorem d_X9_sideAt_29 : decode prog_11_method_5_code 29 = .ok (.iadd, 1) := by decide +kernel
theorem d_X9_sideAt_30 : decode prog_11_method_5_code 30 = .ok (.istore 4, 2) := by decide +kernel
theorem d_X9_sideAt_32 : decode prog_11_method_5_code 32 = .ok (.iload 4, 2) := by decide +kernel
theorem d_X9_sideAt_34 : decode prog_11_method_5_code 34 = .ok (.ifCond .lt 23, 3) := by decide +kernel
theorem d_X9_sideAt_37 : decode prog_11_method_5_code 37 = .ok (.iload 4, 2) := by decide +kernel
theorem d_X9_sideAt_39 : decode prog_11_method_5_code 39 = .ok (.aload_n 0, 1) := by decide +kernel
theorem d_X9_sideAt_40 : decode prog_11_method_5_code 40 = .ok (.getfield 23, 3) := by decide +kernel
theorem d_X9_sideAt_43 : decode prog_11_method_5_code 43 = .ok (.arraylength, 1) := by decide +kernel
theorem d_X9_sideAt_44 : decode prog_11_method_5_code 44 = .ok (.if_icmp .ge 13, 3) := by decide +kernel
theorem d_X9_sideAt_47 : decode prog_11_method_5_code 47 = .ok (.aload_n 0, 1) := by decide +kernel
theorem d_X9_sideAt_48 : decode prog_11_method_5_code 48 = .ok (.getfield 23, 3) := by decide +kernel
theorem d_X9_sideAt_51 : decode prog_11_method_5_code 51 = .ok (.iload 4, 2) := by decide +kernel
theorem d_X9_sideAt_53 : decode prog_11_method_5_code 53 = .ok (.aaload, 1) := by decide +kernel
theorem d_X9_sideAt_54 : decode prog_11_method_5_code 54 = .ok (.goto 4, 3) := by decide +kernel
theorem d_X9_sideAt_57 : decode prog_11_method_5_code 57 = .ok (.aconst_null, 1) := by decide +kernel
theorem d_X9_sideAt_58 : decode prog_11_method_5_code 58 = .ok (.areturn, 1) := by decide +kernel
def f_X9_sideAt (a0 : Int) (a1 : Int) (M0 : tp_M) : Option (Int) :=
  (f_X9_knotAt a0 M0).bind fun r1 =>
  if r1 = -1 then
    some (-1)
  else
    if a1 < 0 then
      some (-1)
    else
      if tp_tg r1 = 2 then
        if a1 < (M0 r1 7) then
          tp_lt ((tp_w ((M0 r1 6) + a1))) fun y7 =>
          if y7 < 0 then
            some (-1)
          else
            if 48 ≤ y7 then
              some (-1)
            else
              if 0 ≤ y7 ∧ y7 < 48 then
                some (118 + 3 * y7) else none
        else
          some (-1) else none
set_option maxHeartbeats 4000000 in
set_option maxRecDepth 100000 in
theorem T_X9_sideAt (G : tp_G) (a0 : Int) (a1 : Int) (M0 : tp_M) : tp_J i_X9_sideAt (tp_rm 1) G 0 0 (o_X9_sideAt M0) tp_NC (tp_st M0) 0 0 [some (.inr (.inr 41)), some (.inl a0), some (.inl a1), none, none] 0 [] (f_X9_sideAt a0 a1 M0) := by
  unfold f_X9_sideAt
  refine j_aload_n rfl d_X9_sideAt_0 rfl ?_
  refine j_iload_n rfl d_X9_sideAt_1 rfl ?_
  refine j_bind (fun r1 h2 => ?_)
  refine j_callV (y := y_X9_knotAt) (I' := i_X9_knotAt) (avs := [.inl a0]) (c := 41) (st := []) (c_X9_knotAt G a0 M0 r1 h2) cs_Tree_56 wd_664 wd_665 wd_666 tg_41 rfl rfl rfl (Nat.le_of_ble_eq_true rfl) ⟨rfl, rfl⟩ ⟨by decide, by decide⟩ ⟨by decide, by decide⟩ d_X9_sideAt_2 ?_
  refine j_astore_n (lv' := [some (.inr (.inr 41)), some (.inl a0), some (.inl a1), some (.inr (.inr r1)), none]) rfl d_X9_sideAt_5 (Nat.le_of_ble_eq_true rfl) rfl ?_
  refine j_aload_n rfl d_X9_sideAt_6 rfl ?_
  refine j_ifnull (tgt := 22) d_X9_sideAt_7 (by decide) (fun h3 => ?_) (fun h3 => ?_)
  · refine j_null d_X9_sideAt_22 ?_
    exact j_aret d_X9_sideAt_23 rfl (Or.inl ⟨_, rfl⟩) rfl ⟨rfl, rfl⟩
  · refine j_iload_n rfl d_X9_sideAt_10 rfl ?_
    refine j_if_lt (tgt := 22) d_X9_sideAt_11 (by decide) (fun h4 => ?_) (fun h4 => ?_)
    · refine j_null d_X9_sideAt_22 ?_
      exact j_aret d_X9_sideAt_23 rfl (Or.inl ⟨_, rfl⟩) rfl ⟨rfl, rfl⟩
    · refine j_iload_n rfl d_X9_sideAt_14 rfl ?_
      refine j_aload_n rfl d_X9_sideAt_15 rfl ?_
      refine tp_chk (fun ht5 => ?_)
      refine j_geti fl_Tree_60 ht5 d_X9_sideAt_16 ?_
      refine j_icmp_lt (tgt := 24) d_X9_sideAt_19 (by decide) (fun h6 => ?_) (fun h6 => ?_)
      · refine j_aload_n rfl d_X9_sideAt_24 rfl ?_
        refine j_geti fl_Tree_61 ht5 d_X9_sideAt_25 ?_
        refine j_iload_n rfl d_X9_sideAt_28 rfl ?_
        refine j_iadd d_X9_sideAt_29 ?_
        refine j_nmI (fun y7 hy7 => ?_)
        refine j_istore (lv' := [some (.inr (.inr 41)), some (.inl a0), some (.inl a1), some (.inr (.inr r1)), some (.inl y7)]) d_X9_sideAt_30 (Nat.le_of_ble_eq_true rfl) rfl ?_
        refine j_iload d_X9_sideAt_32 rfl ?_
        refine j_if_lt (tgt := 57) d_X9_sideAt_34 (by decide) (fun h8 => ?_) (fun h8 => ?_)
        · refine j_null d_X9_sideAt_57 ?_
          exact j_aret d_X9_sideAt_58 rfl (Or.inl ⟨_, rfl⟩) rfl ⟨rfl, rfl⟩
        · refine j_iload d_X9_sideAt_37 rfl ?_
          refine j_aload_n rfl d_X9_sideAt_39 rfl ?_
          refine j_getr fl_Tree_23 tg_41 rv_41_8 d_X9_sideAt_40 ?_
          refine j_alen tg_44 (by decide) al_44 ⟨by decide, by decide⟩ (ty := (.object "TypesAtPrime$Side")) (by decide) d_X9_sideAt_43 ?_
          refine j_icmp_ge (tgt := 57) d_X9_sideAt_44 (by decide) (fun h9 => ?_) (fun h9 => ?_)
          · refine j_null d_X9_sideAt_57 ?_
            exact j_aret d_X9_sideAt_58 rfl (Or.inl ⟨_, rfl⟩) rfl ⟨rfl, rfl⟩
          · refine j_aload_n rfl d_X9_sideAt_47 rfl ?_
            refine j_getr fl_Tree_23 tg_41 rv_41_8 d_X9_sideAt_48 ?_
            refine j_iload d_X9_sideAt_51 rfl ?_
            refine j_aald (v := (118 + 3 * y7)) (ty := (.object "TypesAtPrime$Side")) tg_44 (by decide) al_44 (by decide) rfl d_X9_sideAt_53 (fun h1 h2 => (aa_44 _ h1 h2).1) (fun hi10 => ?_)
            refine j_goto (tgt := 58) d_X9_sideAt_54 (by decide) ?_
            exact j_aret d_X9_sideAt_58 rfl (Or.inl ⟨_, rfl⟩) rfl ⟨rfl, rfl⟩
      · refine j_null d_X9_sideAt_22 ?_
        exact j_aret d_X9_sideAt_23 rfl (Or.inl ⟨_, rfl⟩) rfl ⟨rfl, rfl⟩
set_option maxHeartbeats 4000000 in
set_option maxRecDepth 100000 in
theorem c_X9_sideAt (G : tp_G) (a0 : Int) (a1 : Int) (M0 : tp_M) (r : Int) (h : f_X9_sideAt a0 a1 M0 = some r) (l : Launch) : Met l y_X9_sideAt (tp_ws y_X9_sideAt i_X9_sideAt) (tp_rm 1) (tp_Pc G [.inr (.inr 41), .inl a0, .inl a1] tp_NC (tp_st M0)) (tp_Q G ((o_X9_sideAt M0) r)) 0 0 (tp_A G) :=
  tp_met (I := i_X9_sideAt) (y := y_X9_sideAt) (by decide +kernel) (Eq.refl "TypesAtPrime$Tree") (Eq.refl "sideAt") (lv := [some (.inr (.inr 41)), some (.inl a0), some (.inl a1), none, none]) rfl (Nat.le_of_ble_eq_true rfl) (T_X9_sideAt G a0 a1 M0) h l
theorem wd_166 : (.fieldLink "TypesAtPrime$Tree" 64 "TypesAtPrime$Knot" "level" "I" : Cond) ∈ lw_tbl := List.mem_append_right _ (List.mem_of_getElem? (i := 166) (by decide +kernel))
theorem fl_Tree_64 : tp_F "TypesAtPrime$Tree" 64 2 0 0 := ⟨_, _, _, rfl, by decide, rfl, wd_166, rfl, by decide⟩
theorem pf_2_0 (v : Int) : ∀ (C : String) (T : u_T) (N : Nat), vwCl[2]? = some (C, T, N) → (T 0).2.2.2 = false ∧ ∀ G : tp_G, ∃ ty, parseFieldDescriptor (T 0).2.2.1 = some ty ∧ narrow ty (tp_enc G (tp_zv 0 v)) = tp_enc G (tp_zv 0 v) ∧ fits ty (tp_enc G (tp_zv 0 v)) = true := by
  intro C T N h
  cases h
  exact ⟨rfl, fun G => ⟨_, tyX2_ok 0 (by decide), rfl, rfl⟩⟩
theorem wd_168 : (.fieldLink "TypesAtPrime$Tree" 67 "TypesAtPrime$Knot" "manifold" "I" : Cond) ∈ lw_tbl := List.mem_append_right _ (List.mem_of_getElem? (i := 168) (by decide +kernel))
theorem fl_Tree_67 : tp_F "TypesAtPrime$Tree" 67 2 1 0 := ⟨_, _, _, rfl, by decide, rfl, wd_168, rfl, by decide⟩
theorem pf_2_1 (v : Int) : ∀ (C : String) (T : u_T) (N : Nat), vwCl[2]? = some (C, T, N) → (T 1).2.2.2 = false ∧ ∀ G : tp_G, ∃ ty, parseFieldDescriptor (T 1).2.2.1 = some ty ∧ narrow ty (tp_enc G (tp_zv 0 v)) = tp_enc G (tp_zv 0 v) ∧ fits ty (tp_enc G (tp_zv 0 v)) = true := by
  intro C T N h
  cases h
  exact ⟨rfl, fun G => ⟨_, tyX2_ok 1 (by decide), rfl, rfl⟩⟩
theorem wd_172 : (.fieldLink "TypesAtPrime$Tree" 70 "TypesAtPrime$Knot" "degree" "I" : Cond) ∈ lw_tbl := List.mem_append_right _ (List.mem_of_getElem? (i := 172) (by decide +kernel))
theorem fl_Tree_70 : tp_F "TypesAtPrime$Tree" 70 2 2 0 := ⟨_, _, _, rfl, by decide, rfl, wd_172, rfl, by decide⟩
theorem pf_2_2 (v : Int) : ∀ (C : String) (T : u_T) (N : Nat), vwCl[2]? = some (C, T, N) → (T 2).2.2.2 = false ∧ ∀ G : tp_G, ∃ ty, parseFieldDescriptor (T 2).2.2.1 = some ty ∧ narrow ty (tp_enc G (tp_zv 0 v)) = tp_enc G (tp_zv 0 v) ∧ fits ty (tp_enc G (tp_zv 0 v)) = true := by
  intro C T N h
  cases h
  exact ⟨rfl, fun G => ⟨_, tyX2_ok 2 (by decide), rfl, rfl⟩⟩
theorem wd_175 : (.fieldLink "TypesAtPrime$Tree" 71 "TypesAtPrime$Knot" "above" "I" : Cond) ∈ lw_tbl := List.mem_append_right _ (List.mem_of_getElem? (i := 175) (by decide +kernel))
theorem fl_Tree_71 : tp_F "TypesAtPrime$Tree" 71 2 3 0 := ⟨_, _, _, rfl, by decide, rfl, wd_175, rfl, by decide⟩
theorem pf_2_3 (v : Int) : ∀ (C : String) (T : u_T) (N : Nat), vwCl[2]? = some (C, T, N) → (T 3).2.2.2 = false ∧ ∀ G : tp_G, ∃ ty, parseFieldDescriptor (T 3).2.2.1 = some ty ∧ narrow ty (tp_enc G (tp_zv 0 v)) = tp_enc G (tp_zv 0 v) ∧ fits ty (tp_enc G (tp_zv 0 v)) = true := by
  intro C T N h
  cases h
  exact ⟨rfl, fun G => ⟨_, tyX2_ok 3 (by decide), rfl, rfl⟩⟩
theorem wd_178 : (.fieldLink "TypesAtPrime$Tree" 74 "TypesAtPrime$Knot" "first" "I" : Cond) ∈ lw_tbl := List.mem_append_right _ (List.mem_of_getElem? (i := 178) (by decide +kernel))
theorem fl_Tree_74 : tp_F "TypesAtPrime$Tree" 74 2 4 0 := ⟨_, _, _, rfl, by decide, rfl, wd_178, rfl, by decide⟩
theorem wd_180 : (.fieldLink "TypesAtPrime$Tree" 77 "TypesAtPrime$Knot" "index" "I" : Cond) ∈ lw_tbl := List.mem_append_right _ (List.mem_of_getElem? (i := 180) (by decide +kernel))
theorem fl_Tree_77 : tp_F "TypesAtPrime$Tree" 77 2 5 0 := ⟨_, _, _, rfl, by decide, rfl, wd_180, rfl, by decide⟩
theorem pf_2_6 (v : Int) : ∀ (C : String) (T : u_T) (N : Nat), vwCl[2]? = some (C, T, N) → (T 6).2.2.2 = false ∧ ∀ G : tp_G, ∃ ty, parseFieldDescriptor (T 6).2.2.1 = some ty ∧ narrow ty (tp_enc G (tp_zv 0 v)) = tp_enc G (tp_zv 0 v) ∧ fits ty (tp_enc G (tp_zv 0 v)) = true := by
  intro C T N h
  cases h
  exact ⟨rfl, fun G => ⟨_, tyX2_ok 6 (by decide), rfl, rfl⟩⟩
theorem wd_190 : (.fieldLink "TypesAtPrime$Tree" 80 "TypesAtPrime$Knot" "key" "[J" : Cond) ∈ lw_tbl := List.mem_append_right _ (List.mem_of_getElem? (i := 190) (by decide +kernel))
theorem fl_Tree_80 : tp_F "TypesAtPrime$Tree" 80 2 8 2 := ⟨_, _, _, rfl, by decide, rfl, wd_190, rfl, by decide⟩
theorem cs_Tree_84 : tp_CS "TypesAtPrime$Tree" 84 y_J7_fill_d0a16 i_J7_fill_d0a16 2 := ⟨wd_549, wd_14, by decide, by decide, by decide +kernel⟩
theorem wd_668 : (.methodLink "TypesAtPrime$Tree" 84 ⟨"java/util/Arrays", "fill", "([JJ)V"⟩ : Cond) ∈ lw_tbl := List.mem_append_right _ (List.mem_of_getElem? (i := 668) (by decide +kernel))
theorem wd_193 : (.fieldLink "TypesAtPrime$Tree" 90 "TypesAtPrime$Knot" "points" "[I" : Cond) ∈ lw_tbl := List.mem_append_right _ (List.mem_of_getElem? (i := 193) (by decide +kernel))
theorem fl_Tree_90 : tp_F "TypesAtPrime$Tree" 90 2 9 2 := ⟨_, _, _, rfl, by decide, rfl, wd_193, rfl, by decide⟩
theorem cs_Tree_94 : tp_CS "TypesAtPrime$Tree" 94 y_J7_fill_53178 i_J7_fill_53178 2 := ⟨wd_486, wd_14, by decide, by decide, by decide +kernel⟩
theorem wd_669 : (.methodLink "TypesAtPrime$Tree" 94 ⟨"java/util/Arrays", "fill", "([II)V"⟩ : Cond) ∈ lw_tbl := List.mem_append_right _ (List.mem_of_getElem? (i := 669) (by decide +kernel))
def y_X9_addKnot : MethodName := ⟨"TypesAtPrime$Tree", "addKnot", "(IIII)LTypesAtPrime$Knot;"⟩
abbrev i_X9_addKnot : tp_I := (prog_11_method_6_code, "TypesAtPrime$Tree", (some (.object "TypesAtPrime$Knot")), 6, "addKnot")
abbrev o_X9_addKnot : Int × tp_M → tp_O := fun r => (some (.inr (.inr r.1)), tp_NC, tp_st r.2)
theorem d_X9_addKnot_0 : decode prog_11_method_6_code 0 = .ok (.aload_n 0, 1) := by decide +kernel
theorem d_X9_addKnot_1 : decode prog_11_method_6_code 1 = .ok (.getfield 44, 3) := by decide +kernel
theorem d_X9_addKnot_4 : decode prog_11_method_6_code 4 = .ok (.aload_n 0, 1) := by decide +kernel
theorem d_X9_addKnot_5 : decode prog_11_method_6_code 5 = .ok (.getfield 17, 3) := by decide +kernel
theorem d_X9_addKnot_8 : decode prog_11_method_6_code 8 = .ok (.arraylength, 1) := by decide +kernel
theorem d_X9_addKnot_9 : decode prog_11_method_6_code 9 = .ok (.if_icmp .lt 5, 3) := by decide +kernel
theorem d_X9_addKnot_12 : decode prog_11_method_6_code 12 = .ok (.aconst_null, 1) := by decide +kernel
theorem d_X9_addKnot_13 : decode prog_11_method_6_code 13 = .ok (.areturn, 1) := by decide +kernel
theorem d_X9_addKnot_14 : decode prog_11_method_6_code 14 = .ok (.aload_n 0, 1) := by decide +kernel
theorem d_X9_addKnot_15 : decode prog_11_method_6_code 15 = .ok (.dup, 1) := by decide +kernel
theorem d_X9_addKnot_16 : decode prog_11_method_6_code 16 = .ok (.getfield 44, 3) := by decide +kernel
theorem d_X9_addKnot_19 : decode prog_11_method_6_code 19 = .ok (.iconst 1, 1) := by decide +kernel
theorem d_X9_addKnot_20 : decode prog_11_method_6_code 20 = .ok (.iadd, 1) := by decide +kernel
theorem d_X9_addKnot_21 : decode prog_11_method_6_code 21 = .ok (.putfield 44, 3) := by decide +kernel
theorem d_X9_addKnot_24 : decode prog_11_method_6_code 24 = .ok (.aload_n 0, 1) := by decide +kernel
theorem d_X9_addKnot_25 : decode prog_11_method_6_code 25 = .ok (.aload_n 0, 1) := by decide +kernel
theorem d_X9_addKnot_26 : decode prog_11_method_6_code 26 = .ok (.getfield 44, 3) := by decide +kernel
theorem d_X9_addKnot_29 : decode prog_11_method_6_code 29 = .ok (.iconst 1, 1) := by decide +kernel
theorem d_X9_addKnot_30 : decode prog_11_method_6_code 30 = .ok (.isub, 1) := by decide +kernel
theorem d_X9_addKnot_31 : decode prog_11_method_6_code 31 = .ok (.invokevirtual 56, 3) := by decide +kernel
theorem d_X9_addKnot_34 : decode prog_11_method_6_code 34 = .ok (.astore 5, 2) := by decide +kernel
theorem d_X9_addKnot_36 : decode prog_11_method_6_code 36 = .ok (.aload 5, 2) := by decide +kernel
theorem d_X9_addKnot_38 : decode prog_11_method_6_code 38 = .ok (.ifnonnull 5, 3) := by decide +kernel
theorem d_X9_addKnot_41 : decode prog_11_method_6_code 41 = .ok (.aconst_null, 1) := by decide +kernel
theorem d_X9_addKnot_42 : decode prog_11_method_6_code 42 = .ok (.areturn, 1) := by decide +kernel
theorem d_X9_addKnot_43 : decode prog_11_method_6_code 43 = .ok (.aload 5, 2) := by decide +kernel
theorem d_X9_addKnot_45 : decode prog_11_method_6_code 45 = .ok (.iload_n 1, 1) := by decide +kernel
theorem d_X9_addKnot_46 : decode prog_11_method_6_code 46 = .ok (.putfield 64, 3) := by decide +kernel
theorem d_X9_addKnot_49 : decode prog_11_method_6_code 49 = .ok (.aload 5, 2) := by decide +kernel
theorem d_X9_addKnot_51 : decode prog_11_method_6_code 51 = .ok (.iload_n 2, 1) := by decide +kernel
theorem d_X9_addKnot_52 : decode prog_11_method_6_code 52 = .ok (.putfield 67, 3) := by decide +kernel
theorem d_X9_addKnot_55 : decode prog_11_method_6_code 55 = .ok (.aload 5, 2) := by decide +kernel
theorem d_X9_addKnot_57 : decode prog_11_method_6_code 57 = .ok (.iload_n 3, 1) := by decide +kernel
theorem d_X9_addKnot_58 : decode prog_11_method_6_code 58 = .ok (.putfield 70, 3) := by decide +kernel
theorem d_X9_addKnot_61 : decode prog_11_method_6_code 61 = .ok (.aload 5, 2) := by decide +kernel
theorem d_X9_addKnot_63 : decode prog_11_method_6_code 63 = .ok (.iload 4, 2) := by decide +kernel
theorem d_X9_addKnot_65 : decode prog_11_method_6_code 65 = .ok (.putfield 71, 3) := by decide +kernel
theorem d_X9_addKnot_68 : decode prog_11_method_6_code 68 = .ok (.aload 5, 2) := by decide +kernel
theorem d_X9_addKnot_70 : decode prog_11_method_6_code 70 = .ok (.iload_n 2, 1) := by decide +kernel
theorem d_X9_addKnot_71 : decode prog_11_method_6_code 71 = .ok (.putfield 74, 3) := by decide +kernel
theorem d_X9_addKnot_74 : decode prog_11_method_6_code 74 = .ok (.aload 5, 2) := by decide +kernel
theorem d_X9_addKnot_76 : decode prog_11_method_6_code 76 = .ok (.iconst 0, 1) := by decide +kernel
theorem d_X9_addKnot_77 : decode prog_11_method_6_code 77 = .ok (.putfield 77, 3) := by decide +kernel
theorem d_X9_addKnot_80 : decode prog_11_method_6_code 80 = .ok (.aload 5, 2) := by decide +kernel
theorem d_X9_addKnot_82 : decode prog_11_method_6_code 82 = .ok (.aload_n 0, 1) := by decide +kernel
theorem d_X9_addKnot_83 : decode prog_11_method_6_code 83 = .ok (.getfield 47, 3) := by decide +kernel
theorem d_X9_addKnot_86 : decode prog_11_method_6_code 86 = .ok (.putfield 61, 3) := by decide +kernel
theorem d_X9_addKnot_89 : decode prog_11_method_6_code 89 = .ok (.aload 5, 2) := by decide +kernel
theorem d_X9_addKnot_91 : decode prog_11_method_6_code 91 = .ok (.iconst 0, 1) := by decide +kernel
theorem d_X9_addKnot_92 : decode prog_11_method_6_code 92 = .ok (.putfield 60, 3) := by decide +kernel
theorem d_X9_addKnot_95 : decode prog_11_method_6_code 95 = .ok (.aload 5, 2) := by decide +kernel
theorem d_X9_addKnot_97 : decode prog_11_method_6_code 97 = .ok (.getfield 80, 3) := by decide +kernel
theorem d_X9_addKnot_100 : decode prog_11_method_6_code 100 = .ok (.lconst 0, 1) := by decide +kernel
theorem d_X9_addKnot_101 : decode prog_11_method_6_code 101 = .ok (.invokestatic 84, 3) := by decide +kernel
theorem d_X9_addKnot_104 : decode prog_11_method_6_code 104 = .ok (.aload 5, 2) := by decide +kernel
theorem d_X9_addKnot_106 : decode prog_11_method_6_code 106 = .ok (.getfield 90, 3) := by decide +kernel
theorem d_X9_addKnot_109 : decode prog_11_method_6_code 109 = .ok (.iconst (-1), 1) := by decide +kernel
theorem d_X9_addKnot_110 : decode prog_11_method_6_code 110 = .ok (.invokestatic 94, 3) := by decide +kernel
theorem d_X9_addKnot_113 : decode prog_11_method_6_code 113 = .ok (.aload 5, 2) := by decide +kernel
theorem d_X9_addKnot_115 : decode prog_11_method_6_code 115 = .ok (.areturn, 1) := by decide +kernel
def f_X9_addKnot (a0 : Int) (a1 : Int) (a2 : Int) (a3 : Int) (M0 : tp_M) : Option (Int × tp_M) :=
  if (M0 41 2) < 24 then
    tp_mp (tp_up M0 41 2 (tp_w ((M0 41 2) + 1))) fun M2 =>
    (f_X9_knotAt (tp_w ((M2 41 2) - 1)) M2).bind fun r3 =>
    if r3 = -1 then
      some ((-1), M2)
    else
      if tp_tg r3 = 2 then
        tp_mp (tp_up M2 r3 0 a0) fun M7 =>
        tp_mp (tp_up M7 r3 1 a1) fun M8 =>
        tp_mp (tp_up M8 r3 2 a2) fun M9 =>
        tp_mp (tp_up M9 r3 3 a3) fun M10 =>
        tp_mp (tp_up M10 r3 4 a1) fun M11 =>
        tp_mp (tp_up M11 r3 5 0) fun M12 =>
        tp_mp (tp_up M12 r3 6 (M12 41 6)) fun M13 =>
        tp_mp (tp_up M13 r3 7 0) fun M14 =>
        (f_J7_fill_d0a16 (r3 + 1) 0 M14).bind fun r15 =>
        (f_J7_fill_53178 (r3 + 2) (-1) r15).bind fun r17 =>
        some (r3, r17) else none
  else
    some ((-1), M0)
set_option maxHeartbeats 4000000 in
set_option maxRecDepth 100000 in
theorem T_X9_addKnot (G : tp_G) (a0 : Int) (a1 : Int) (a2 : Int) (a3 : Int) (M0 : tp_M) : tp_J i_X9_addKnot (tp_rm 1) G 0 0 o_X9_addKnot tp_NC (tp_st M0) 0 0 [some (.inr (.inr 41)), some (.inl a0), some (.inl a1), some (.inl a2), some (.inl a3), none] 0 [] (f_X9_addKnot a0 a1 a2 a3 M0) := by
  unfold f_X9_addKnot
  refine j_aload_n rfl d_X9_addKnot_0 rfl ?_
  refine j_geti fl_Tree_44 tg_41 d_X9_addKnot_1 ?_
  refine j_aload_n rfl d_X9_addKnot_4 rfl ?_
  refine j_getr fl_Tree_17 tg_41 rv_41_7 d_X9_addKnot_5 ?_
  refine j_alen tg_43 (by decide) al_43 ⟨by decide, by decide⟩ (ty := (.object "TypesAtPrime$Knot")) (by decide) d_X9_addKnot_8 ?_
  refine j_icmp_lt (tgt := 14) d_X9_addKnot_9 (by decide) (fun h1 => ?_) (fun h1 => ?_)
  · refine j_aload_n rfl d_X9_addKnot_14 rfl ?_
    refine j_dup d_X9_addKnot_15 (fun G => tp_cat G _) ?_
    refine j_geti fl_Tree_44 tg_41 d_X9_addKnot_16 ?_
    refine j_iconst ⟨by decide, by decide⟩ d_X9_addKnot_19 ?_
    refine j_iadd d_X9_addKnot_20 ?_
    refine j_put (z := 0) (v := (tp_w ((M0 41 2) + 1))) fl_Tree_44 (by decide) tg_41 (pf_9_2 _) pt_9 d_X9_addKnot_21 (fun M2 hM2 => ?_)
    refine j_aload_n rfl d_X9_addKnot_24 rfl ?_
    refine j_aload_n rfl d_X9_addKnot_25 rfl ?_
    refine j_geti fl_Tree_44 tg_41 d_X9_addKnot_26 ?_
    refine j_iconst ⟨by decide, by decide⟩ d_X9_addKnot_29 ?_
    refine j_isub d_X9_addKnot_30 ?_
    refine j_bind (fun r3 h4 => ?_)
    refine j_callV (y := y_X9_knotAt) (I' := i_X9_knotAt) (avs := [.inl (tp_w ((M2 41 2) - 1))]) (c := 41) (st := []) (c_X9_knotAt G (tp_w ((M2 41 2) - 1)) M2 r3 h4) cs_Tree_56 wd_664 wd_665 wd_666 tg_41 rfl rfl rfl (Nat.le_of_ble_eq_true rfl) ⟨rfl, rfl⟩ ⟨by decide, by decide⟩ ⟨by decide, by decide⟩ d_X9_addKnot_31 ?_
    refine j_astore (lv' := [some (.inr (.inr 41)), some (.inl a0), some (.inl a1), some (.inl a2), some (.inl a3), some (.inr (.inr r3))]) d_X9_addKnot_34 (Nat.le_of_ble_eq_true rfl) rfl ?_
    refine j_aload d_X9_addKnot_36 rfl ?_
    refine j_ifnonnull (tgt := 43) d_X9_addKnot_38 (by decide) (fun h5 => ?_) (fun h5 => ?_)
    · refine j_null d_X9_addKnot_41 ?_
      exact j_aret d_X9_addKnot_42 rfl (Or.inl ⟨_, rfl⟩) rfl ⟨rfl, rfl⟩
    · refine j_aload d_X9_addKnot_43 rfl ?_
      refine j_iload_n rfl d_X9_addKnot_45 rfl ?_
      refine tp_chk (fun ht6 => ?_)
      refine j_put (z := 0) (v := a0) fl_Tree_64 (by decide) ht6 (pf_2_0 _) pt_2 d_X9_addKnot_46 (fun M7 hM7 => ?_)
      refine j_aload d_X9_addKnot_49 rfl ?_
      refine j_iload_n rfl d_X9_addKnot_51 rfl ?_
      refine j_put (z := 0) (v := a1) fl_Tree_67 (by decide) ht6 (pf_2_1 _) pt_2 d_X9_addKnot_52 (fun M8 hM8 => ?_)
      refine j_aload d_X9_addKnot_55 rfl ?_
      refine j_iload_n rfl d_X9_addKnot_57 rfl ?_
      refine j_put (z := 0) (v := a2) fl_Tree_70 (by decide) ht6 (pf_2_2 _) pt_2 d_X9_addKnot_58 (fun M9 hM9 => ?_)
      refine j_aload d_X9_addKnot_61 rfl ?_
      refine j_iload d_X9_addKnot_63 rfl ?_
      refine j_put (z := 0) (v := a3) fl_Tree_71 (by decide) ht6 (pf_2_3 _) pt_2 d_X9_addKnot_65 (fun M10 hM10 => ?_)
      refine j_aload d_X9_addKnot_68 rfl ?_
      refine j_iload_n rfl d_X9_addKnot_70 rfl ?_
      refine j_put (z := 0) (v := a1) fl_Tree_74 (by decide) ht6 (pf_2_4 _) pt_2 d_X9_addKnot_71 (fun M11 hM11 => ?_)
      refine j_aload d_X9_addKnot_74 rfl ?_
      refine j_iconst ⟨by decide, by decide⟩ d_X9_addKnot_76 ?_
      refine j_put (z := 0) (v := 0) fl_Tree_77 (by decide) ht6 (pf_2_5 _) pt_2 d_X9_addKnot_77 (fun M12 hM12 => ?_)
      refine j_aload d_X9_addKnot_80 rfl ?_
      refine j_aload_n rfl d_X9_addKnot_82 rfl ?_
      refine j_geti fl_Tree_47 tg_41 d_X9_addKnot_83 ?_
      refine j_put (z := 0) (v := (M12 41 6)) fl_Tree_61 (by decide) ht6 (pf_2_6 _) pt_2 d_X9_addKnot_86 (fun M13 hM13 => ?_)
      refine j_aload d_X9_addKnot_89 rfl ?_
      refine j_iconst ⟨by decide, by decide⟩ d_X9_addKnot_91 ?_
      refine j_put (z := 0) (v := 0) fl_Tree_60 (by decide) ht6 (pf_2_7 _) pt_2 d_X9_addKnot_92 (fun M14 hM14 => ?_)
      refine j_aload d_X9_addKnot_95 rfl ?_
      refine j_getr fl_Tree_80 ht6 (fam_2_8 _ ht6).1 d_X9_addKnot_97 ?_
      refine j_lconst (x := 0) ⟨by decide, by decide⟩ (by decide +kernel) d_X9_addKnot_100 ?_
      refine j_bind (fun r15 h16 => ?_)
      refine j_callS (y := y_J7_fill_d0a16) (I' := i_J7_fill_d0a16) (avs := [.inr (.inr (r3 + 1)), .inr (.inl 0)]) (st := []) (c_J7_fill_d0a16 G (r3 + 1) 0 M14 r15 h16) cs_Tree_84 wd_668 wd_548 rfl rfl (Nat.le_of_ble_eq_true rfl) ⟨rfl, rfl⟩ ⟨by decide, by decide⟩ ⟨by decide, by decide⟩ d_X9_addKnot_101 ?_
      refine j_aload d_X9_addKnot_104 rfl ?_
      refine j_getr fl_Tree_90 ht6 (fam_2_9 _ ht6).1 d_X9_addKnot_106 ?_
      refine j_iconst ⟨by decide, by decide⟩ d_X9_addKnot_109 ?_
      refine j_bind (fun r17 h18 => ?_)
      refine j_callS (y := y_J7_fill_53178) (I' := i_J7_fill_53178) (avs := [.inr (.inr (r3 + 2)), .inl (-1)]) (st := []) (c_J7_fill_53178 G (r3 + 2) (-1) r15 r17 h18) cs_Tree_94 wd_669 wd_485 rfl rfl (Nat.le_of_ble_eq_true rfl) ⟨rfl, rfl⟩ ⟨by decide, by decide⟩ ⟨by decide, by decide⟩ d_X9_addKnot_110 ?_
      refine j_aload d_X9_addKnot_113 rfl ?_
      exact j_aret d_X9_addKnot_115 rfl (Or.inl ⟨_, rfl⟩) rfl ⟨rfl, rfl⟩
  · refine j_null d_X9_addKnot_12 ?_
    exact j_aret d_X9_addKnot_13 rfl (Or.inl ⟨_, rfl⟩) rfl ⟨rfl, rfl⟩
set_option maxHeartbeats 4000000 in
set_option maxRecDepth 100000 in
theorem c_X9_addKnot (G : tp_G) (a0 : Int) (a1 : Int) (a2 : Int) (a3 : Int) (M0 : tp_M) (r : Int × tp_M) (h : f_X9_addKnot a0 a1 a2 a3 M0 = some r) (l : Launch) : Met l y_X9_addKnot (tp_ws y_X9_addKnot i_X9_addKnot) (tp_rm 1) (tp_Pc G [.inr (.inr 41), .inl a0, .inl a1, .inl a2, .inl a3] tp_NC (tp_st M0)) (tp_Q G (o_X9_addKnot r)) 0 0 (tp_A G) :=
  tp_met (I := i_X9_addKnot) (y := y_X9_addKnot) (by decide +kernel) (Eq.refl "TypesAtPrime$Tree") (Eq.refl "addKnot") (lv := [some (.inr (.inr 41)), some (.inl a0), some (.inl a1), some (.inl a2), some (.inl a3), none]) rfl (Nat.le_of_ble_eq_true rfl) (T_X9_addKnot G a0 a1 a2 a3 M0) h l
theorem wd_654 : (.code ⟨"TypesAtPrime$Tree", "leafAt", "(I)LTypesAtPrime$Leaf;"⟩ prog_11_method_4_code 2 (some (.object "TypesAtPrime$Leaf")) : Cond) ∈ lw_tbl := List.mem_append_right _ (List.mem_of_getElem? (i := 654) (by decide +kernel))
theorem cs_Tree_97 : tp_CS "TypesAtPrime$Tree" 97 y_X9_leafAt i_X9_leafAt 1 := ⟨wd_654, wd_6, by decide, by decide, by decide +kernel⟩
theorem wd_651 : (.methodLink "TypesAtPrime$Tree" 97 ⟨"TypesAtPrime$Tree", "leafAt", "(I)LTypesAtPrime$Leaf;"⟩ : Cond) ∈ lw_tbl := List.mem_append_right _ (List.mem_of_getElem? (i := 651) (by decide +kernel))
theorem wd_652 : (.instanceMethod ⟨"TypesAtPrime$Tree", "leafAt", "(I)LTypesAtPrime$Leaf;"⟩ : Cond) ∈ lw_tbl := List.mem_append_right _ (List.mem_of_getElem? (i := 652) (by decide +kernel))
theorem wd_653 : (.selects "TypesAtPrime$Tree" ⟨"TypesAtPrime$Tree", "leafAt", "(I)LTypesAtPrime$Leaf;"⟩ ⟨"TypesAtPrime$Tree", "leafAt", "(I)LTypesAtPrime$Leaf;"⟩ : Cond) ∈ lw_tbl := List.mem_append_right _ (List.mem_of_getElem? (i := 653) (by decide +kernel))
theorem wd_266 : (.fieldLink "TypesAtPrime$Tree" 101 "TypesAtPrime$Leaf" "kind" "I" : Cond) ∈ lw_tbl := List.mem_append_right _ (List.mem_of_getElem? (i := 266) (by decide +kernel))
theorem fl_Tree_101 : tp_F "TypesAtPrime$Tree" 101 3 0 0 := ⟨_, _, _, rfl, by decide, rfl, wd_266, rfl, by decide⟩
theorem pf_3_0 (v : Int) : ∀ (C : String) (T : u_T) (N : Nat), vwCl[3]? = some (C, T, N) → (T 0).2.2.2 = false ∧ ∀ G : tp_G, ∃ ty, parseFieldDescriptor (T 0).2.2.1 = some ty ∧ narrow ty (tp_enc G (tp_zv 0 v)) = tp_enc G (tp_zv 0 v) ∧ fits ty (tp_enc G (tp_zv 0 v)) = true := by
  intro C T N h
  cases h
  exact ⟨rfl, fun G => ⟨_, tyX3_ok 0 (by decide), rfl, rfl⟩⟩
theorem pt_3 : ∃ ty0 : Nat → FieldType, ∀ (C : String) (T : u_T) (N : Nat), vwCl[3]? = some (C, T, N) → (∀ k, k < N → parseFieldDescriptor (T k).2.2.1 = some (ty0 k)) ∧ ∀ a, a < N → ∀ b, b < N → a ≠ b → (T a).2.1 ≠ (T b).2.1 := ⟨tyX3, fun C T N h => by cases h; exact ⟨tyX3_ok, nmX3⟩⟩
theorem wd_268 : (.fieldLink "TypesAtPrime$Tree" 104 "TypesAtPrime$Leaf" "ramification" "I" : Cond) ∈ lw_tbl := List.mem_append_right _ (List.mem_of_getElem? (i := 268) (by decide +kernel))
theorem fl_Tree_104 : tp_F "TypesAtPrime$Tree" 104 3 1 0 := ⟨_, _, _, rfl, by decide, rfl, wd_268, rfl, by decide⟩
theorem pf_3_1 (v : Int) : ∀ (C : String) (T : u_T) (N : Nat), vwCl[3]? = some (C, T, N) → (T 1).2.2.2 = false ∧ ∀ G : tp_G, ∃ ty, parseFieldDescriptor (T 1).2.2.1 = some ty ∧ narrow ty (tp_enc G (tp_zv 0 v)) = tp_enc G (tp_zv 0 v) ∧ fits ty (tp_enc G (tp_zv 0 v)) = true := by
  intro C T N h
  cases h
  exact ⟨rfl, fun G => ⟨_, tyX3_ok 1 (by decide), rfl, rfl⟩⟩
theorem wd_270 : (.fieldLink "TypesAtPrime$Tree" 107 "TypesAtPrime$Leaf" "residueDegree" "I" : Cond) ∈ lw_tbl := List.mem_append_right _ (List.mem_of_getElem? (i := 270) (by decide +kernel))
theorem fl_Tree_107 : tp_F "TypesAtPrime$Tree" 107 3 2 0 := ⟨_, _, _, rfl, by decide, rfl, wd_270, rfl, by decide⟩
theorem pf_3_2 (v : Int) : ∀ (C : String) (T : u_T) (N : Nat), vwCl[3]? = some (C, T, N) → (T 2).2.2.2 = false ∧ ∀ G : tp_G, ∃ ty, parseFieldDescriptor (T 2).2.2.1 = some ty ∧ narrow ty (tp_enc G (tp_zv 0 v)) = tp_enc G (tp_zv 0 v) ∧ fits ty (tp_enc G (tp_zv 0 v)) = true := by
  intro C T N h
  cases h
  exact ⟨rfl, fun G => ⟨_, tyX3_ok 2 (by decide), rfl, rfl⟩⟩
theorem wd_272 : (.fieldLink "TypesAtPrime$Tree" 110 "TypesAtPrime$Leaf" "degree" "I" : Cond) ∈ lw_tbl := List.mem_append_right _ (List.mem_of_getElem? (i := 272) (by decide +kernel))
theorem fl_Tree_110 : tp_F "TypesAtPrime$Tree" 110 3 3 0 := ⟨_, _, _, rfl, by decide, rfl, wd_272, rfl, by decide⟩
theorem pf_3_3 (v : Int) : ∀ (C : String) (T : u_T) (N : Nat), vwCl[3]? = some (C, T, N) → (T 3).2.2.2 = false ∧ ∀ G : tp_G, ∃ ty, parseFieldDescriptor (T 3).2.2.1 = some ty ∧ narrow ty (tp_enc G (tp_zv 0 v)) = tp_enc G (tp_zv 0 v) ∧ fits ty (tp_enc G (tp_zv 0 v)) = true := by
  intro C T N h
  cases h
  exact ⟨rfl, fun G => ⟨_, tyX3_ok 3 (by decide), rfl, rfl⟩⟩
theorem wd_274 : (.fieldLink "TypesAtPrime$Tree" 111 "TypesAtPrime$Leaf" "knot" "I" : Cond) ∈ lw_tbl := List.mem_append_right _ (List.mem_of_getElem? (i := 274) (by decide +kernel))
theorem fl_Tree_111 : tp_F "TypesAtPrime$Tree" 111 3 4 0 := ⟨_, _, _, rfl, by decide, rfl, wd_274, rfl, by decide⟩
theorem pf_3_4 (v : Int) : ∀ (C : String) (T : u_T) (N : Nat), vwCl[3]? = some (C, T, N) → (T 4).2.2.2 = false ∧ ∀ G : tp_G, ∃ ty, parseFieldDescriptor (T 4).2.2.1 = some ty ∧ narrow ty (tp_enc G (tp_zv 0 v)) = tp_enc G (tp_zv 0 v) ∧ fits ty (tp_enc G (tp_zv 0 v)) = true := by
  intro C T N h
  cases h
  exact ⟨rfl, fun G => ⟨_, tyX3_ok 4 (by decide), rfl, rfl⟩⟩
def y_X9_addLeaf : MethodName := ⟨"TypesAtPrime$Tree", "addLeaf", "(IIIII)V"⟩
abbrev i_X9_addLeaf : tp_I := (prog_11_method_8_code, "TypesAtPrime$Tree", none, 7, "addLeaf")
abbrev o_X9_addLeaf : tp_M → tp_O := fun r => (none, tp_NC, tp_st r)
theorem d_X9_addLeaf_0 : decode prog_11_method_8_code 0 = .ok (.aload_n 0, 1) := by decide +kernel
theorem d_X9_addLeaf_1 : decode prog_11_method_8_code 1 = .ok (.getfield 50, 3) := by decide +kernel
theorem d_X9_addLeaf_4 : decode prog_11_method_8_code 4 = .ok (.aload_n 0, 1) := by decide +kernel
theorem d_X9_addLeaf_5 : decode prog_11_method_8_code 5 = .ok (.getfield 29, 3) := by decide +kernel
theorem d_X9_addLeaf_8 : decode prog_11_method_8_code 8 = .ok (.arraylength, 1) := by decide +kernel
theorem d_X9_addLeaf_9 : decode prog_11_method_8_code 9 = .ok (.if_icmp .lt 4, 3) := by decide +kernel
theorem d_X9_addLeaf_12 : decode prog_11_method_8_code 12 = .ok (.return_, 1) := by decide +kernel
theorem d_X9_addLeaf_13 : decode prog_11_method_8_code 13 = .ok (.aload_n 0, 1) := by decide +kernel
theorem d_X9_addLeaf_14 : decode prog_11_method_8_code 14 = .ok (.dup, 1) := by decide +kernel
theorem d_X9_addLeaf_15 : decode prog_11_method_8_code 15 = .ok (.getfield 50, 3) := by decide +kernel
theorem d_X9_addLeaf_18 : decode prog_11_method_8_code 18 = .ok (.iconst 1, 1) := by decide +kernel
theorem d_X9_addLeaf_19 : decode prog_11_method_8_code 19 = .ok (.iadd, 1) := by decide +kernel
theorem d_X9_addLeaf_20 : decode prog_11_method_8_code 20 = .ok (.putfield 50, 3) := by decide +kernel
theorem d_X9_addLeaf_23 : decode prog_11_method_8_code 23 = .ok (.aload_n 0, 1) := by decide +kernel
theorem d_X9_addLeaf_24 : decode prog_11_method_8_code 24 = .ok (.aload_n 0, 1) := by decide +kernel
theorem d_X9_addLeaf_25 : decode prog_11_method_8_code 25 = .ok (.getfield 50, 3) := by decide +kernel
theorem d_X9_addLeaf_28 : decode prog_11_method_8_code 28 = .ok (.iconst 1, 1) := by decide +kernel
theorem d_X9_addLeaf_29 : decode prog_11_method_8_code 29 = .ok (.isub, 1) := by decide +kernel
theorem d_X9_addLeaf_30 : decode prog_11_method_8_code 30 = .ok (.invokevirtual 97, 3) := by decide +kernel
theorem d_X9_addLeaf_33 : decode prog_11_method_8_code 33 = .ok (.astore 6, 2) := by decide +kernel
theorem d_X9_addLeaf_35 : decode prog_11_method_8_code 35 = .ok (.aload 6, 2) := by decide +kernel
theorem d_X9_addLeaf_37 : decode prog_11_method_8_code 37 = .ok (.ifnonnull 4, 3) := by decide +kernel
theorem d_X9_addLeaf_40 : decode prog_11_method_8_code 40 = .ok (.return_, 1) := by decide +kernel
theorem d_X9_addLeaf_41 : decode prog_11_method_8_code 41 = .ok (.aload 6, 2) := by decide +kernel
theorem d_X9_addLeaf_43 : decode prog_11_method_8_code 43 = .ok (.iload_n 1, 1) := by decide +kernel
theorem d_X9_addLeaf_44 : decode prog_11_method_8_code 44 = .ok (.putfield 101, 3) := by decide +kernel
theorem d_X9_addLeaf_47 : decode prog_11_method_8_code 47 = .ok (.aload 6, 2) := by decide +kernel
theorem d_X9_addLeaf_49 : decode prog_11_method_8_code 49 = .ok (.iload_n 2, 1) := by decide +kernel
theorem d_X9_addLeaf_50 : decode prog_11_method_8_code 50 = .ok (.putfield 104, 3) := by decide +kernel
theorem d_X9_addLeaf_53 : decode prog_11_method_8_code 53 = .ok (.aload 6, 2) := by decide +kernel
theorem d_X9_addLeaf_55 : decode prog_11_method_8_code 55 = .ok (.iload_n 3, 1) := by decide +kernel
theorem d_X9_addLeaf_56 : decode prog_11_method_8_code 56 = .ok (.putfield 107, 3) := by decide +kernel
theorem d_X9_addLeaf_59 : decode prog_11_method_8_code 59 = .ok (.aload 6, 2) := by decide +kernel
theorem d_X9_addLeaf_61 : decode prog_11_method_8_code 61 = .ok (.iload 4, 2) := by decide +kernel
theorem d_X9_addLeaf_63 : decode prog_11_method_8_code 63 = .ok (.putfield 110, 3) := by decide +kernel
theorem d_X9_addLeaf_66 : decode prog_11_method_8_code 66 = .ok (.aload 6, 2) := by decide +kernel
theorem d_X9_addLeaf_68 : decode prog_11_method_8_code 68 = .ok (.iload 5, 2) := by decide +kernel
theorem d_X9_addLeaf_70 : decode prog_11_method_8_code 70 = .ok (.putfield 111, 3) := by decide +kernel
theorem d_X9_addLeaf_73 : decode prog_11_method_8_code 73 = .ok (.return_, 1) := by decide +kernel
def f_X9_addLeaf (a0 : Int) (a1 : Int) (a2 : Int) (a3 : Int) (a4 : Int) (M0 : tp_M) : Option (tp_M) :=
  if (M0 41 3) < 16 then
    tp_mp (tp_up M0 41 3 (tp_w ((M0 41 3) + 1))) fun M2 =>
    (f_X9_leafAt (tp_w ((M2 41 3) - 1)) M2).bind fun r3 =>
    if r3 = -1 then
      some M2
    else
      if tp_tg r3 = 3 then
        tp_mp (tp_up M2 r3 0 a0) fun M7 =>
        tp_mp (tp_up M7 r3 1 a1) fun M8 =>
        tp_mp (tp_up M8 r3 2 a2) fun M9 =>
        tp_mp (tp_up M9 r3 3 a3) fun M10 =>
        tp_mp (tp_up M10 r3 4 a4) fun M11 =>
        some M11 else none
  else
    some M0
set_option maxHeartbeats 4000000 in
set_option maxRecDepth 100000 in
theorem T_X9_addLeaf (G : tp_G) (a0 : Int) (a1 : Int) (a2 : Int) (a3 : Int) (a4 : Int) (M0 : tp_M) : tp_J i_X9_addLeaf (tp_rm 1) G 0 0 o_X9_addLeaf tp_NC (tp_st M0) 0 0 [some (.inr (.inr 41)), some (.inl a0), some (.inl a1), some (.inl a2), some (.inl a3), some (.inl a4), none] 0 [] (f_X9_addLeaf a0 a1 a2 a3 a4 M0) := by
  unfold f_X9_addLeaf
  refine j_aload_n rfl d_X9_addLeaf_0 rfl ?_
  refine j_geti fl_Tree_50 tg_41 d_X9_addLeaf_1 ?_
  refine j_aload_n rfl d_X9_addLeaf_4 rfl ?_
  refine j_getr fl_Tree_29 tg_41 rv_41_9 d_X9_addLeaf_5 ?_
  refine j_alen tg_45 (by decide) al_45 ⟨by decide, by decide⟩ (ty := (.object "TypesAtPrime$Leaf")) (by decide) d_X9_addLeaf_8 ?_
  refine j_icmp_lt (tgt := 13) d_X9_addLeaf_9 (by decide) (fun h1 => ?_) (fun h1 => ?_)
  · refine j_aload_n rfl d_X9_addLeaf_13 rfl ?_
    refine j_dup d_X9_addLeaf_14 (fun G => tp_cat G _) ?_
    refine j_geti fl_Tree_50 tg_41 d_X9_addLeaf_15 ?_
    refine j_iconst ⟨by decide, by decide⟩ d_X9_addLeaf_18 ?_
    refine j_iadd d_X9_addLeaf_19 ?_
    refine j_put (z := 0) (v := (tp_w ((M0 41 3) + 1))) fl_Tree_50 (by decide) tg_41 (pf_9_3 _) pt_9 d_X9_addLeaf_20 (fun M2 hM2 => ?_)
    refine j_aload_n rfl d_X9_addLeaf_23 rfl ?_
    refine j_aload_n rfl d_X9_addLeaf_24 rfl ?_
    refine j_geti fl_Tree_50 tg_41 d_X9_addLeaf_25 ?_
    refine j_iconst ⟨by decide, by decide⟩ d_X9_addLeaf_28 ?_
    refine j_isub d_X9_addLeaf_29 ?_
    refine j_bind (fun r3 h4 => ?_)
    refine j_callV (y := y_X9_leafAt) (I' := i_X9_leafAt) (avs := [.inl (tp_w ((M2 41 3) - 1))]) (c := 41) (st := []) (c_X9_leafAt G (tp_w ((M2 41 3) - 1)) M2 r3 h4) cs_Tree_97 wd_651 wd_652 wd_653 tg_41 rfl rfl rfl (Nat.le_of_ble_eq_true rfl) ⟨rfl, rfl⟩ ⟨by decide, by decide⟩ ⟨by decide, by decide⟩ d_X9_addLeaf_30 ?_
    refine j_astore (lv' := [some (.inr (.inr 41)), some (.inl a0), some (.inl a1), some (.inl a2), some (.inl a3), some (.inl a4), some (.inr (.inr r3))]) d_X9_addLeaf_33 (Nat.le_of_ble_eq_true rfl) rfl ?_
    refine j_aload d_X9_addLeaf_35 rfl ?_
    refine j_ifnonnull (tgt := 41) d_X9_addLeaf_37 (by decide) (fun h5 => ?_) (fun h5 => ?_)
    · exact j_vret d_X9_addLeaf_40 rfl rfl ⟨rfl, rfl⟩
    · refine j_aload d_X9_addLeaf_41 rfl ?_
      refine j_iload_n rfl d_X9_addLeaf_43 rfl ?_
      refine tp_chk (fun ht6 => ?_)
      refine j_put (z := 0) (v := a0) fl_Tree_101 (by decide) ht6 (pf_3_0 _) pt_3 d_X9_addLeaf_44 (fun M7 hM7 => ?_)
      refine j_aload d_X9_addLeaf_47 rfl ?_
      refine j_iload_n rfl d_X9_addLeaf_49 rfl ?_
      refine j_put (z := 0) (v := a1) fl_Tree_104 (by decide) ht6 (pf_3_1 _) pt_3 d_X9_addLeaf_50 (fun M8 hM8 => ?_)
      refine j_aload d_X9_addLeaf_53 rfl ?_
      refine j_iload_n rfl d_X9_addLeaf_55 rfl ?_
      refine j_put (z := 0) (v := a2) fl_Tree_107 (by decide) ht6 (pf_3_2 _) pt_3 d_X9_addLeaf_56 (fun M9 hM9 => ?_)
      refine j_aload d_X9_addLeaf_59 rfl ?_
      refine j_iload d_X9_addLeaf_61 rfl ?_
      refine j_put (z := 0) (v := a3) fl_Tree_110 (by decide) ht6 (pf_3_3 _) pt_3 d_X9_addLeaf_63 (fun M10 hM10 => ?_)
      refine j_aload d_X9_addLeaf_66 rfl ?_
      refine j_iload d_X9_addLeaf_68 rfl ?_
      refine j_put (z := 0) (v := a4) fl_Tree_111 (by decide) ht6 (pf_3_4 _) pt_3 d_X9_addLeaf_70 (fun M11 hM11 => ?_)
      exact j_vret d_X9_addLeaf_73 rfl rfl ⟨rfl, rfl⟩
  · exact j_vret d_X9_addLeaf_12 rfl rfl ⟨rfl, rfl⟩
set_option maxHeartbeats 4000000 in
set_option maxRecDepth 100000 in
theorem c_X9_addLeaf (G : tp_G) (a0 : Int) (a1 : Int) (a2 : Int) (a3 : Int) (a4 : Int) (M0 : tp_M) (r : tp_M) (h : f_X9_addLeaf a0 a1 a2 a3 a4 M0 = some r) (l : Launch) : Met l y_X9_addLeaf (tp_ws y_X9_addLeaf i_X9_addLeaf) (tp_rm 1) (tp_Pc G [.inr (.inr 41), .inl a0, .inl a1, .inl a2, .inl a3, .inl a4] tp_NC (tp_st M0)) (tp_Q G (o_X9_addLeaf r)) 0 0 (tp_A G) :=
  tp_met (I := i_X9_addLeaf) (y := y_X9_addLeaf) (by decide +kernel) (Eq.refl "TypesAtPrime$Tree") (Eq.refl "addLeaf") (lv := [some (.inr (.inr 41)), some (.inl a0), some (.inl a1), some (.inl a2), some (.inl a3), some (.inl a4), none]) rfl (Nat.le_of_ble_eq_true rfl) (T_X9_addLeaf G a0 a1 a2 a3 a4 M0) h l
def y_X9_wholeIndex : MethodName := ⟨"TypesAtPrime$Tree", "wholeIndex", "()I"⟩
abbrev i_X9_wholeIndex : tp_I := (prog_11_method_9_code, "TypesAtPrime$Tree", (some .int), 4, "wholeIndex")
abbrev o_X9_wholeIndex (M : tp_M) : Int → tp_O := fun r => (some (.inl r), tp_NC, tp_st M)
theorem d_X9_wholeIndex_0 : decode prog_11_method_9_code 0 = .ok (.iconst 0, 1) := by decide +kernel
theorem d_X9_wholeIndex_1 : decode prog_11_method_9_code 1 = .ok (.istore_n 1, 1) := by decide +kernel
theorem d_X9_wholeIndex_2 : decode prog_11_method_9_code 2 = .ok (.iconst 0, 1) := by decide +kernel
theorem d_X9_wholeIndex_3 : decode prog_11_method_9_code 3 = .ok (.istore_n 2, 1) := by decide +kernel
theorem d_X9_wholeIndex_4 : decode prog_11_method_9_code 4 = .ok (.iload_n 2, 1) := by decide +kernel
theorem d_X9_wholeIndex_5 : decode prog_11_method_9_code 5 = .ok (.aload_n 0, 1) := by decide +kernel
theorem d_X9_wholeIndex_6 : decode prog_11_method_9_code 6 = .ok (.getfield 44, 3) := by decide +kernel
theorem d_X9_wholeIndex_9 : decode prog_11_method_9_code 9 = .ok (.if_icmp .ge 26, 3) := by decide +kernel
theorem d_X9_wholeIndex_12 : decode prog_11_method_9_code 12 = .ok (.aload_n 0, 1) := by decide +kernel
theorem d_X9_wholeIndex_13 : decode prog_11_method_9_code 13 = .ok (.iload_n 2, 1) := by decide +kernel
theorem d_X9_wholeIndex_14 : decode prog_11_method_9_code 14 = .ok (.invokevirtual 56, 3) := by decide +kernel
theorem d_X9_wholeIndex_17 : decode prog_11_method_9_code 17 = .ok (.astore_n 3, 1) := by decide +kernel
theorem d_X9_wholeIndex_18 : decode prog_11_method_9_code 18 = .ok (.aload_n 3, 1) := by decide +kernel
theorem d_X9_wholeIndex_19 : decode prog_11_method_9_code 19 = .ok (.ifnull 10, 3) := by decide +kernel
theorem d_X9_wholeIndex_22 : decode prog_11_method_9_code 22 = .ok (.iload_n 1, 1) := by decide +kernel
theorem d_X9_wholeIndex_23 : decode prog_11_method_9_code 23 = .ok (.aload_n 3, 1) := by decide +kernel
theorem d_X9_wholeIndex_24 : decode prog_11_method_9_code 24 = .ok (.getfield 77, 3) := by decide +kernel
theorem d_X9_wholeIndex_27 : decode prog_11_method_9_code 27 = .ok (.iadd, 1) := by decide +kernel
theorem d_X9_wholeIndex_28 : decode prog_11_method_9_code 28 = .ok (.istore_n 1, 1) := by decide +kernel
theorem d_X9_wholeIndex_29 : decode prog_11_method_9_code 29 = .ok (.iinc 2 1, 3) := by decide +kernel
theorem d_X9_wholeIndex_32 : decode prog_11_method_9_code 32 = .ok (.goto (-28), 3) := by decide +kernel
theorem d_X9_wholeIndex_35 : decode prog_11_method_9_code 35 = .ok (.iload_n 1, 1) := by decide +kernel
theorem d_X9_wholeIndex_36 : decode prog_11_method_9_code 36 = .ok (.ireturn, 1) := by decide +kernel
def f_X9_wholeIndex_29 (rec_4 : Int → Int → Option (Int)) (x1 : Int) (x2 : Int) (M0 : tp_M) : Option (Int) :=
  tp_lt (tp_w (x2 + 1)) fun y5 =>
  rec_4 x1 y5
set_option maxHeartbeats 4000000 in
set_option maxRecDepth 100000 in
theorem T_X9_wholeIndex_29 (G : tp_G) (rec_4 : Int → Int → Option (Int)) (x1 : Int) (x2 : Int) (M0 : tp_M) (hrec_4 : ∀ (x1' x2' : Int), tp_J i_X9_wholeIndex (tp_rm 1) G 0 0 (o_X9_wholeIndex M0) tp_NC (tp_st M0) 0 0 [some (.inr (.inr 41)), some (.inl (x1')), some (.inl (x2')), none] 4 [] (rec_4 x1' x2')) : tp_J i_X9_wholeIndex (tp_rm 1) G 0 0 (o_X9_wholeIndex M0) tp_NC (tp_st M0) 0 0 [some (.inr (.inr 41)), some (.inl x1), some (.inl x2), none] 29 [] (f_X9_wholeIndex_29 rec_4 x1 x2 M0) := by
  unfold f_X9_wholeIndex_29
  refine j_iincN (lv' := fun y5 => [some (.inr (.inr 41)), some (.inl x1), some (.inl y5), none]) d_X9_wholeIndex_29 rfl (Nat.le_of_ble_eq_true rfl) (fun _ => rfl) (fun y5 hy5 => ?_)
  refine j_goto (tgt := 4) d_X9_wholeIndex_32 (by decide) ?_
  exact j_wk [true, true, true, false] rfl rfl (hrec_4 x1 y5)
def f_X9_wholeIndex_4B (M0 : tp_M) (rec_4 : Int → Int → Option (Int)) (x1 : Int) (x2 : Int) : Option (Int) :=
  if (M0 41 2) ≤ x2 then
    some x1
  else
    (f_X9_knotAt x2 M0).bind fun r2 =>
    if r2 = -1 then
      f_X9_wholeIndex_29 rec_4 x1 x2 M0
    else
      if tp_tg r2 = 2 then
        tp_lt ((tp_w (x1 + (M0 r2 5)))) fun y7 =>
        f_X9_wholeIndex_29 rec_4 y7 x2 M0 else none
set_option maxHeartbeats 4000000 in
set_option maxRecDepth 100000 in
theorem T_X9_wholeIndex_4B (G : tp_G) (M0 : tp_M) (rec_4 : Int → Int → Option (Int)) (hrec_4 : ∀ (x1' x2' : Int), tp_J i_X9_wholeIndex (tp_rm 1) G 0 0 (o_X9_wholeIndex M0) tp_NC (tp_st M0) 0 0 [some (.inr (.inr 41)), some (.inl (x1')), some (.inl (x2')), none] 4 [] (rec_4 x1' x2')) (x1 : Int) (x2 : Int) : tp_J i_X9_wholeIndex (tp_rm 1) G 0 0 (o_X9_wholeIndex M0) tp_NC (tp_st M0) 0 0 [some (.inr (.inr 41)), some (.inl x1), some (.inl x2), none] 4 [] (f_X9_wholeIndex_4B M0 rec_4 x1 x2) := by
  unfold f_X9_wholeIndex_4B
  refine j_iload_n rfl d_X9_wholeIndex_4 rfl ?_
  refine j_aload_n rfl d_X9_wholeIndex_5 rfl ?_
  refine j_geti fl_Tree_44 tg_41 d_X9_wholeIndex_6 ?_
  refine j_icmp_ge (tgt := 35) d_X9_wholeIndex_9 (by decide) (fun h1 => ?_) (fun h1 => ?_)
  · refine j_iload_n rfl d_X9_wholeIndex_35 rfl ?_
    exact j_iret d_X9_wholeIndex_36 rfl rfl ⟨rfl, rfl⟩
  · refine j_aload_n rfl d_X9_wholeIndex_12 rfl ?_
    refine j_iload_n rfl d_X9_wholeIndex_13 rfl ?_
    refine j_bind (fun r2 h3 => ?_)
    refine j_callV (y := y_X9_knotAt) (I' := i_X9_knotAt) (avs := [.inl x2]) (c := 41) (st := []) (c_X9_knotAt G x2 M0 r2 h3) cs_Tree_56 wd_664 wd_665 wd_666 tg_41 rfl rfl rfl (Nat.le_of_ble_eq_true rfl) ⟨rfl, rfl⟩ ⟨by decide, by decide⟩ ⟨by decide, by decide⟩ d_X9_wholeIndex_14 ?_
    refine j_astore_n (lv' := [some (.inr (.inr 41)), some (.inl x1), some (.inl x2), some (.inr (.inr r2))]) rfl d_X9_wholeIndex_17 (Nat.le_of_ble_eq_true rfl) rfl ?_
    refine j_aload_n rfl d_X9_wholeIndex_18 rfl ?_
    refine j_ifnull (tgt := 29) d_X9_wholeIndex_19 (by decide) (fun h4 => ?_) (fun h4 => ?_)
    · exact j_wk [true, true, true, false] rfl rfl (T_X9_wholeIndex_29 G rec_4 x1 x2 M0 hrec_4)
    · refine j_iload_n rfl d_X9_wholeIndex_22 rfl ?_
      refine j_aload_n rfl d_X9_wholeIndex_23 rfl ?_
      refine tp_chk (fun ht6 => ?_)
      refine j_geti fl_Tree_77 ht6 d_X9_wholeIndex_24 ?_
      refine j_iadd d_X9_wholeIndex_27 ?_
      refine j_nmI (fun y7 hy7 => ?_)
      refine j_istore_n (lv' := [some (.inr (.inr 41)), some (.inl y7), some (.inl x2), some (.inr (.inr r2))]) rfl d_X9_wholeIndex_28 (Nat.le_of_ble_eq_true rfl) rfl ?_
      exact j_wk [true, true, true, false] rfl rfl (T_X9_wholeIndex_29 G rec_4 y7 x2 M0 hrec_4)
def f_X9_wholeIndex_4 (x1 : Int) (x2 : Int) (M0 : tp_M) : Option (Int) := tp_lp (σ := Int × Int) (fun rec_ u => f_X9_wholeIndex_4B M0 (fun x1' x2' => rec_ (x1', x2')) u.1 u.2) tp_N (x1, x2)
set_option maxHeartbeats 4000000 in
set_option maxRecDepth 100000 in
theorem T_X9_wholeIndex_4 (G : tp_G) (x1 : Int) (x2 : Int) (M0 : tp_M) : tp_J i_X9_wholeIndex (tp_rm 1) G 0 0 (o_X9_wholeIndex M0) tp_NC (tp_st M0) 0 0 [some (.inr (.inr 41)), some (.inl x1), some (.inl x2), none] 4 [] (f_X9_wholeIndex_4 x1 x2 M0) := by
  unfold f_X9_wholeIndex_4
  exact j_lp (σ := Int × Int) (n' := fun _ => tp_NC) (g' := fun u => tp_st M0) (k' := fun _ => 0) (q' := fun _ => 0) (lv' := fun u => [some (.inr (.inr 41)), some (.inl u.1), some (.inl u.2), none]) (fun rec_ hrec u => T_X9_wholeIndex_4B G M0 (fun x1' x2' => rec_ (x1', x2')) (fun x1' x2' => hrec (x1', x2')) u.1 u.2) tp_N (x1, x2)
def f_X9_wholeIndex (M0 : tp_M) : Option (Int) :=
  f_X9_wholeIndex_4 0 0 M0
set_option maxHeartbeats 4000000 in
set_option maxRecDepth 100000 in
theorem T_X9_wholeIndex (G : tp_G) (M0 : tp_M) : tp_J i_X9_wholeIndex (tp_rm 1) G 0 0 (o_X9_wholeIndex M0) tp_NC (tp_st M0) 0 0 [some (.inr (.inr 41)), none, none, none] 0 [] (f_X9_wholeIndex M0) := by
  unfold f_X9_wholeIndex
  refine j_iconst ⟨by decide, by decide⟩ d_X9_wholeIndex_0 ?_
  refine j_istore_n (lv' := [some (.inr (.inr 41)), some (.inl 0), none, none]) rfl d_X9_wholeIndex_1 (Nat.le_of_ble_eq_true rfl) rfl ?_
  refine j_iconst ⟨by decide, by decide⟩ d_X9_wholeIndex_2 ?_
  refine j_istore_n (lv' := [some (.inr (.inr 41)), some (.inl 0), some (.inl 0), none]) rfl d_X9_wholeIndex_3 (Nat.le_of_ble_eq_true rfl) rfl ?_
  exact j_wk [true, true, true, false] rfl rfl (T_X9_wholeIndex_4 G 0 0 M0)
set_option maxHeartbeats 4000000 in
set_option maxRecDepth 100000 in
theorem c_X9_wholeIndex (G : tp_G) (M0 : tp_M) (r : Int) (h : f_X9_wholeIndex M0 = some r) (l : Launch) : Met l y_X9_wholeIndex (tp_ws y_X9_wholeIndex i_X9_wholeIndex) (tp_rm 1) (tp_Pc G [.inr (.inr 41)] tp_NC (tp_st M0)) (tp_Q G ((o_X9_wholeIndex M0) r)) 0 0 (tp_A G) :=
  tp_met (I := i_X9_wholeIndex) (y := y_X9_wholeIndex) (by decide +kernel) (Eq.refl "TypesAtPrime$Tree") (Eq.refl "wholeIndex") (lv := [some (.inr (.inr 41)), none, none, none]) rfl (Nat.le_of_ble_eq_true rfl) (T_X9_wholeIndex G M0) h l
def y_X9_openDegree : MethodName := ⟨"TypesAtPrime$Tree", "openDegree", "()I"⟩
abbrev i_X9_openDegree : tp_I := (prog_11_method_10_code, "TypesAtPrime$Tree", (some .int), 4, "openDegree")
abbrev o_X9_openDegree (M : tp_M) : Int → tp_O := fun r => (some (.inl r), tp_NC, tp_st M)
theorem d_X9_openDegree_0 : decode prog_11_method_10_code 0 = .ok (.iconst 0, 1) := by decide +kernel
theorem d_X9_openDegree_1 : decode prog_11_method_10_code 1 = .ok (.istore_n 1, 1) := by decide +kernel
theorem d_X9_openDegree_2 : decode prog_11_method_10_code 2 = .ok (.iconst 0, 1) := by decide +kernel
theorem d_X9_openDegree_3 : decode prog_11_method_10_code 3 = .ok (.istore_n 2, 1) := by decide +kernel
theorem d_X9_openDegree_4 : decode prog_11_method_10_code 4 = .ok (.iload_n 2, 1) := by decide +kernel
theorem d_X9_openDegree_5 : decode prog_11_method_10_code 5 = .ok (.aload_n 0, 1) := by decide +kernel
theorem d_X9_openDegree_6 : decode prog_11_method_10_code 6 = .ok (.getfield 50, 3) := by decide +kernel
theorem d_X9_openDegree_9 : decode prog_11_method_10_code 9 = .ok (.if_icmp .ge 34, 3) := by decide +kernel
theorem d_X9_openDegree_12 : decode prog_11_method_10_code 12 = .ok (.aload_n 0, 1) := by decide +kernel
theorem d_X9_openDegree_13 : decode prog_11_method_10_code 13 = .ok (.iload_n 2, 1) := by decide +kernel
theorem d_X9_openDegree_14 : decode prog_11_method_10_code 14 = .ok (.invokevirtual 97, 3) := by decide +kernel
theorem d_X9_openDegree_17 : decode prog_11_method_10_code 17 = .ok (.astore_n 3, 1) := by decide +kernel
theorem d_X9_openDegree_18 : decode prog_11_method_10_code 18 = .ok (.aload_n 3, 1) := by decide +kernel
theorem d_X9_openDegree_19 : decode prog_11_method_10_code 19 = .ok (.ifnull 18, 3) := by decide +kernel
theorem d_X9_openDegree_22 : decode prog_11_method_10_code 22 = .ok (.aload_n 3, 1) := by decide +kernel
theorem d_X9_openDegree_23 : decode prog_11_method_10_code 23 = .ok (.getfield 101, 3) := by decide +kernel
theorem d_X9_openDegree_26 : decode prog_11_method_10_code 26 = .ok (.iconst 1, 1) := by decide +kernel
theorem d_X9_openDegree_27 : decode prog_11_method_10_code 27 = .ok (.if_icmp .le 10, 3) := by decide +kernel
theorem d_X9_openDegree_30 : decode prog_11_method_10_code 30 = .ok (.iload_n 1, 1) := by decide +kernel
theorem d_X9_openDegree_31 : decode prog_11_method_10_code 31 = .ok (.aload_n 3, 1) := by decide +kernel
theorem d_X9_openDegree_32 : decode prog_11_method_10_code 32 = .ok (.getfield 110, 3) := by decide +kernel
theorem d_X9_openDegree_35 : decode prog_11_method_10_code 35 = .ok (.iadd, 1) := by decide +kernel
theorem d_X9_openDegree_36 : decode prog_11_method_10_code 36 = .ok (.istore_n 1, 1) := by decide +kernel
theorem d_X9_openDegree_37 : decode prog_11_method_10_code 37 = .ok (.iinc 2 1, 3) := by decide +kernel
theorem d_X9_openDegree_40 : decode prog_11_method_10_code 40 = .ok (.goto (-36), 3) := by decide +kernel
theorem d_X9_openDegree_43 : decode prog_11_method_10_code 43 = .ok (.iload_n 1, 1) := by decide +kernel
theorem d_X9_openDegree_44 : decode prog_11_method_10_code 44 = .ok (.ireturn, 1) := by decide +kernel
def f_X9_openDegree_37 (rec_4 : Int → Int → Option (Int)) (x1 : Int) (x2 : Int) (M0 : tp_M) : Option (Int) :=
  tp_lt (tp_w (x2 + 1)) fun y5 =>
  rec_4 x1 y5
set_option maxHeartbeats 4000000 in
set_option maxRecDepth 100000 in
theorem T_X9_openDegree_37 (G : tp_G) (rec_4 : Int → Int → Option (Int)) (x1 : Int) (x2 : Int) (M0 : tp_M) (hrec_4 : ∀ (x1' x2' : Int), tp_J i_X9_openDegree (tp_rm 1) G 0 0 (o_X9_openDegree M0) tp_NC (tp_st M0) 0 0 [some (.inr (.inr 41)), some (.inl (x1')), some (.inl (x2')), none] 4 [] (rec_4 x1' x2')) : tp_J i_X9_openDegree (tp_rm 1) G 0 0 (o_X9_openDegree M0) tp_NC (tp_st M0) 0 0 [some (.inr (.inr 41)), some (.inl x1), some (.inl x2), none] 37 [] (f_X9_openDegree_37 rec_4 x1 x2 M0) := by
  unfold f_X9_openDegree_37
  refine j_iincN (lv' := fun y5 => [some (.inr (.inr 41)), some (.inl x1), some (.inl y5), none]) d_X9_openDegree_37 rfl (Nat.le_of_ble_eq_true rfl) (fun _ => rfl) (fun y5 hy5 => ?_)
  refine j_goto (tgt := 4) d_X9_openDegree_40 (by decide) ?_
  exact j_wk [true, true, true, false] rfl rfl (hrec_4 x1 y5)
def f_X9_openDegree_4B (M0 : tp_M) (rec_4 : Int → Int → Option (Int)) (x1 : Int) (x2 : Int) : Option (Int) :=
  if (M0 41 3) ≤ x2 then
    some x1
  else
    (f_X9_leafAt x2 M0).bind fun r2 =>
    if r2 = -1 then
      f_X9_openDegree_37 rec_4 x1 x2 M0
    else
      if tp_tg r2 = 3 then
        if (M0 r2 0) ≤ 1 then
          f_X9_openDegree_37 rec_4 x1 x2 M0
        else
          tp_lt ((tp_w (x1 + (M0 r2 3)))) fun y8 =>
          f_X9_openDegree_37 rec_4 y8 x2 M0 else none
set_option maxHeartbeats 4000000 in
set_option maxRecDepth 100000 in
theorem T_X9_openDegree_4B (G : tp_G) (M0 : tp_M) (rec_4 : Int → Int → Option (Int)) (hrec_4 : ∀ (x1' x2' : Int), tp_J i_X9_openDegree (tp_rm 1) G 0 0 (o_X9_openDegree M0) tp_NC (tp_st M0) 0 0 [some (.inr (.inr 41)), some (.inl (x1')), some (.inl (x2')), none] 4 [] (rec_4 x1' x2')) (x1 : Int) (x2 : Int) : tp_J i_X9_openDegree (tp_rm 1) G 0 0 (o_X9_openDegree M0) tp_NC (tp_st M0) 0 0 [some (.inr (.inr 41)), some (.inl x1), some (.inl x2), none] 4 [] (f_X9_openDegree_4B M0 rec_4 x1 x2) := by
  unfold f_X9_openDegree_4B
  refine j_iload_n rfl d_X9_openDegree_4 rfl ?_
  refine j_aload_n rfl d_X9_openDegree_5 rfl ?_
  refine j_geti fl_Tree_50 tg_41 d_X9_openDegree_6 ?_
  refine j_icmp_ge (tgt := 43) d_X9_openDegree_9 (by decide) (fun h1 => ?_) (fun h1 => ?_)
  · refine j_iload_n rfl d_X9_openDegree_43 rfl ?_
    exact j_iret d_X9_openDegree_44 rfl rfl ⟨rfl, rfl⟩
  · refine j_aload_n rfl d_X9_openDegree_12 rfl ?_
    refine j_iload_n rfl d_X9_openDegree_13 rfl ?_
    refine j_bind (fun r2 h3 => ?_)
    refine j_callV (y := y_X9_leafAt) (I' := i_X9_leafAt) (avs := [.inl x2]) (c := 41) (st := []) (c_X9_leafAt G x2 M0 r2 h3) cs_Tree_97 wd_651 wd_652 wd_653 tg_41 rfl rfl rfl (Nat.le_of_ble_eq_true rfl) ⟨rfl, rfl⟩ ⟨by decide, by decide⟩ ⟨by decide, by decide⟩ d_X9_openDegree_14 ?_
    refine j_astore_n (lv' := [some (.inr (.inr 41)), some (.inl x1), some (.inl x2), some (.inr (.inr r2))]) rfl d_X9_openDegree_17 (Nat.le_of_ble_eq_true rfl) rfl ?_
    refine j_aload_n rfl d_X9_openDegree_18 rfl ?_
    refine j_ifnull (tgt := 37) d_X9_openDegree_19 (by decide) (fun h4 => ?_) (fun h4 => ?_)
    · exact j_wk [true, true, true, false] rfl rfl (T_X9_openDegree_37 G rec_4 x1 x2 M0 hrec_4)
    · refine j_aload_n rfl d_X9_openDegree_22 rfl ?_
      refine tp_chk (fun ht6 => ?_)
      refine j_geti fl_Tree_101 ht6 d_X9_openDegree_23 ?_
      refine j_iconst ⟨by decide, by decide⟩ d_X9_openDegree_26 ?_
      refine j_icmp_le (tgt := 37) d_X9_openDegree_27 (by decide) (fun h7 => ?_) (fun h7 => ?_)
      · exact j_wk [true, true, true, false] rfl rfl (T_X9_openDegree_37 G rec_4 x1 x2 M0 hrec_4)
      · refine j_iload_n rfl d_X9_openDegree_30 rfl ?_
        refine j_aload_n rfl d_X9_openDegree_31 rfl ?_
        refine j_geti fl_Tree_110 ht6 d_X9_openDegree_32 ?_
        refine j_iadd d_X9_openDegree_35 ?_
        refine j_nmI (fun y8 hy8 => ?_)
        refine j_istore_n (lv' := [some (.inr (.inr 41)), some (.inl y8), some (.inl x2), some (.inr (.inr r2))]) rfl d_X9_openDegree_36 (Nat.le_of_ble_eq_true rfl) rfl ?_
        exact j_wk [true, true, true, false] rfl rfl (T_X9_openDegree_37 G rec_4 y8 x2 M0 hrec_4)
def f_X9_openDegree_4 (x1 : Int) (x2 : Int) (M0 : tp_M) : Option (Int) := tp_lp (σ := Int × Int) (fun rec_ u => f_X9_openDegree_4B M0 (fun x1' x2' => rec_ (x1', x2')) u.1 u.2) tp_N (x1, x2)
set_option maxHeartbeats 4000000 in
set_option maxRecDepth 100000 in
theorem T_X9_openDegree_4 (G : tp_G) (x1 : Int) (x2 : Int) (M0 : tp_M) : tp_J i_X9_openDegree (tp_rm 1) G 0 0 (o_X9_openDegree M0) tp_NC (tp_st M0) 0 0 [some (.inr (.inr 41)), some (.inl x1), some (.inl x2), none] 4 [] (f_X9_openDegree_4 x1 x2 M0) := by
  unfold f_X9_openDegree_4
  exact j_lp (σ := Int × Int) (n' := fun _ => tp_NC) (g' := fun u => tp_st M0) (k' := fun _ => 0) (q' := fun _ => 0) (lv' := fun u => [some (.inr (.inr 41)), some (.inl u.1), some (.inl u.2), none]) (fun rec_ hrec u => T_X9_openDegree_4B G M0 (fun x1' x2' => rec_ (x1', x2')) (fun x1' x2' => hrec (x1', x2')) u.1 u.2) tp_N (x1, x2)
def f_X9_openDegree (M0 : tp_M) : Option (Int) :=
  f_X9_openDegree_4 0 0 M0
set_option maxHeartbeats 4000000 in
set_option maxRecDepth 100000 in
theorem T_X9_openDegree (G : tp_G) (M0 : tp_M) : tp_J i_X9_openDegree (tp_rm 1) G 0 0 (o_X9_openDegree M0) tp_NC (tp_st M0) 0 0 [some (.inr (.inr 41)), none, none, none] 0 [] (f_X9_openDegree M0) := by
  unfold f_X9_openDegree
  refine j_iconst ⟨by decide, by decide⟩ d_X9_openDegree_0 ?_
  refine j_istore_n (lv' := [some (.inr (.inr 41)), some (.inl 0), none, none]) rfl d_X9_openDegree_1 (Nat.le_of_ble_eq_true rfl) rfl ?_
  refine j_iconst ⟨by decide, by decide⟩ d_X9_openDegree_2 ?_
  refine j_istore_n (lv' := [some (.inr (.inr 41)), some (.inl 0), some (.inl 0), none]) rfl d_X9_openDegree_3 (Nat.le_of_ble_eq_true rfl) rfl ?_
  exact j_wk [true, true, true, false] rfl rfl (T_X9_openDegree_4 G 0 0 M0)
set_option maxHeartbeats 4000000 in
set_option maxRecDepth 100000 in
theorem c_X9_openDegree (G : tp_G) (M0 : tp_M) (r : Int) (h : f_X9_openDegree M0 = some r) (l : Launch) : Met l y_X9_openDegree (tp_ws y_X9_openDegree i_X9_openDegree) (tp_rm 1) (tp_Pc G [.inr (.inr 41)] tp_NC (tp_st M0)) (tp_Q G ((o_X9_openDegree M0) r)) 0 0 (tp_A G) :=
  tp_met (I := i_X9_openDegree) (y := y_X9_openDegree) (by decide +kernel) (Eq.refl "TypesAtPrime$Tree") (Eq.refl "openDegree") (lv := [some (.inr (.inr 41)), none, none, none]) rfl (Nat.le_of_ble_eq_true rfl) (T_X9_openDegree G M0) h l
theorem wd_826 : (.methodLink "TypesAtPrime$Tree" 114 ⟨"java/lang/Math", "max", "(II)I"⟩ : Cond) ∈ lw_tbl := List.mem_append_right _ (List.mem_of_getElem? (i := 826) (by decide +kernel))
def y_X9_greatestRamification : MethodName := ⟨"TypesAtPrime$Tree", "greatestRamification", "()I"⟩
abbrev i_X9_greatestRamification : tp_I := (prog_11_method_11_code, "TypesAtPrime$Tree", (some .int), 4, "greatestRamification")
abbrev o_X9_greatestRamification (M : tp_M) : Int → tp_O := fun r => (some (.inl r), tp_NC, tp_st M)
theorem d_X9_greatestRamification_0 : decode prog_11_method_11_code 0 = .ok (.iconst 0, 1) := by decide +kernel
theorem d_X9_greatestRamification_1 : decode prog_11_method_11_code 1 = .ok (.istore_n 1, 1) := by decide +kernel
theorem d_X9_greatestRamification_2 : decode prog_11_method_11_code 2 = .ok (.iconst 0, 1) := by decide +kernel
theorem d_X9_greatestRamification_3 : decode prog_11_method_11_code 3 = .ok (.istore_n 2, 1) := by decide +kernel
theorem d_X9_greatestRamification_4 : decode prog_11_method_11_code 4 = .ok (.iload_n 2, 1) := by decide +kernel
theorem d_X9_greatestRamification_5 : decode prog_11_method_11_code 5 = .ok (.aload_n 0, 1) := by decide +kernel
theorem d_X9_greatestRamification_6 : decode prog_11_method_11_code 6 = .ok (.getfield 50, 3) := by decide +kernel
theorem d_X9_greatestRamification_9 : decode prog_11_method_11_code 9 = .ok (.if_icmp .ge 36, 3) := by decide +kernel
theorem d_X9_greatestRamification_12 : decode prog_11_method_11_code 12 = .ok (.aload_n 0, 1) := by decide +kernel
theorem d_X9_greatestRamification_13 : decode prog_11_method_11_code 13 = .ok (.iload_n 2, 1) := by decide +kernel
theorem d_X9_greatestRamification_14 : decode prog_11_method_11_code 14 = .ok (.invokevirtual 97, 3) := by decide +kernel
theorem d_X9_greatestRamification_17 : decode prog_11_method_11_code 17 = .ok (.astore_n 3, 1) := by decide +kernel
theorem d_X9_greatestRamification_18 : decode prog_11_method_11_code 18 = .ok (.aload_n 3, 1) := by decide +kernel
theorem d_X9_greatestRamification_19 : decode prog_11_method_11_code 19 = .ok (.ifnull 20, 3) := by decide +kernel
theorem d_X9_greatestRamification_22 : decode prog_11_method_11_code 22 = .ok (.aload_n 3, 1) := by decide +kernel
theorem d_X9_greatestRamification_23 : decode prog_11_method_11_code 23 = .ok (.getfield 101, 3) := by decide +kernel
theorem d_X9_greatestRamification_26 : decode prog_11_method_11_code 26 = .ok (.iconst 1, 1) := by decide +kernel
theorem d_X9_greatestRamification_27 : decode prog_11_method_11_code 27 = .ok (.if_icmp .gt 12, 3) := by decide +kernel
theorem d_X9_greatestRamification_30 : decode prog_11_method_11_code 30 = .ok (.iload_n 1, 1) := by decide +kernel
theorem d_X9_greatestRamification_31 : decode prog_11_method_11_code 31 = .ok (.aload_n 3, 1) := by decide +kernel
theorem d_X9_greatestRamification_32 : decode prog_11_method_11_code 32 = .ok (.getfield 104, 3) := by decide +kernel
theorem d_X9_greatestRamification_35 : decode prog_11_method_11_code 35 = .ok (.invokestatic 114, 3) := by decide +kernel
theorem d_X9_greatestRamification_38 : decode prog_11_method_11_code 38 = .ok (.istore_n 1, 1) := by decide +kernel
theorem d_X9_greatestRamification_39 : decode prog_11_method_11_code 39 = .ok (.iinc 2 1, 3) := by decide +kernel
theorem d_X9_greatestRamification_42 : decode prog_11_method_11_code 42 = .ok (.goto (-38), 3) := by decide +kernel
theorem d_X9_greatestRamification_45 : decode prog_11_method_11_code 45 = .ok (.iload_n 1, 1) := by decide +kernel
theorem d_X9_greatestRamification_46 : decode prog_11_method_11_code 46 = .ok (.ireturn, 1) := by decide +kernel
def f_X9_greatestRamification_39 (rec_4 : Int → Int → Option (Int)) (x1 : Int) (x2 : Int) (M0 : tp_M) : Option (Int) :=
  tp_lt (tp_w (x2 + 1)) fun y5 =>
  rec_4 x1 y5
set_option maxHeartbeats 4000000 in
set_option maxRecDepth 100000 in
theorem T_X9_greatestRamification_39 (G : tp_G) (rec_4 : Int → Int → Option (Int)) (x1 : Int) (x2 : Int) (M0 : tp_M) (hrec_4 : ∀ (x1' x2' : Int), tp_J i_X9_greatestRamification (tp_rm 1) G 0 0 (o_X9_greatestRamification M0) tp_NC (tp_st M0) 0 0 [some (.inr (.inr 41)), some (.inl (x1')), some (.inl (x2')), none] 4 [] (rec_4 x1' x2')) : tp_J i_X9_greatestRamification (tp_rm 1) G 0 0 (o_X9_greatestRamification M0) tp_NC (tp_st M0) 0 0 [some (.inr (.inr 41)), some (.inl x1), some (.inl x2), none] 39 [] (f_X9_greatestRamification_39 rec_4 x1 x2 M0) := by
  unfold f_X9_greatestRamification_39
  refine j_iincN (lv' := fun y5 => [some (.inr (.inr 41)), some (.inl x1), some (.inl y5), none]) d_X9_greatestRamification_39 rfl (Nat.le_of_ble_eq_true rfl) (fun _ => rfl) (fun y5 hy5 => ?_)
  refine j_goto (tgt := 4) d_X9_greatestRamification_42 (by decide) ?_
  exact j_wk [true, true, true, false] rfl rfl (hrec_4 x1 y5)
def f_X9_greatestRamification_4B (M0 : tp_M) (rec_4 : Int → Int → Option (Int)) (x1 : Int) (x2 : Int) : Option (Int) :=
  if (M0 41 3) ≤ x2 then
    some x1
  else
    (f_X9_leafAt x2 M0).bind fun r2 =>
    if r2 = -1 then
      f_X9_greatestRamification_39 rec_4 x1 x2 M0
    else
      if tp_tg r2 = 3 then
        if 1 < (M0 r2 0) then
          f_X9_greatestRamification_39 rec_4 x1 x2 M0
        else
          tp_lt ((max x1 (M0 r2 1))) fun y8 =>
          f_X9_greatestRamification_39 rec_4 y8 x2 M0 else none
set_option maxHeartbeats 4000000 in
set_option maxRecDepth 100000 in
theorem T_X9_greatestRamification_4B (G : tp_G) (M0 : tp_M) (rec_4 : Int → Int → Option (Int)) (hrec_4 : ∀ (x1' x2' : Int), tp_J i_X9_greatestRamification (tp_rm 1) G 0 0 (o_X9_greatestRamification M0) tp_NC (tp_st M0) 0 0 [some (.inr (.inr 41)), some (.inl (x1')), some (.inl (x2')), none] 4 [] (rec_4 x1' x2')) (x1 : Int) (x2 : Int) : tp_J i_X9_greatestRamification (tp_rm 1) G 0 0 (o_X9_greatestRamification M0) tp_NC (tp_st M0) 0 0 [some (.inr (.inr 41)), some (.inl x1), some (.inl x2), none] 4 [] (f_X9_greatestRamification_4B M0 rec_4 x1 x2) := by
  unfold f_X9_greatestRamification_4B
  refine j_iload_n rfl d_X9_greatestRamification_4 rfl ?_
  refine j_aload_n rfl d_X9_greatestRamification_5 rfl ?_
  refine j_geti fl_Tree_50 tg_41 d_X9_greatestRamification_6 ?_
  refine j_icmp_ge (tgt := 45) d_X9_greatestRamification_9 (by decide) (fun h1 => ?_) (fun h1 => ?_)
  · refine j_iload_n rfl d_X9_greatestRamification_45 rfl ?_
    exact j_iret d_X9_greatestRamification_46 rfl rfl ⟨rfl, rfl⟩
  · refine j_aload_n rfl d_X9_greatestRamification_12 rfl ?_
    refine j_iload_n rfl d_X9_greatestRamification_13 rfl ?_
    refine j_bind (fun r2 h3 => ?_)
    refine j_callV (y := y_X9_leafAt) (I' := i_X9_leafAt) (avs := [.inl x2]) (c := 41) (st := []) (c_X9_leafAt G x2 M0 r2 h3) cs_Tree_97 wd_651 wd_652 wd_653 tg_41 rfl rfl rfl (Nat.le_of_ble_eq_true rfl) ⟨rfl, rfl⟩ ⟨by decide, by decide⟩ ⟨by decide, by decide⟩ d_X9_greatestRamification_14 ?_
    refine j_astore_n (lv' := [some (.inr (.inr 41)), some (.inl x1), some (.inl x2), some (.inr (.inr r2))]) rfl d_X9_greatestRamification_17 (Nat.le_of_ble_eq_true rfl) rfl ?_
    refine j_aload_n rfl d_X9_greatestRamification_18 rfl ?_
    refine j_ifnull (tgt := 39) d_X9_greatestRamification_19 (by decide) (fun h4 => ?_) (fun h4 => ?_)
    · exact j_wk [true, true, true, false] rfl rfl (T_X9_greatestRamification_39 G rec_4 x1 x2 M0 hrec_4)
    · refine j_aload_n rfl d_X9_greatestRamification_22 rfl ?_
      refine tp_chk (fun ht6 => ?_)
      refine j_geti fl_Tree_101 ht6 d_X9_greatestRamification_23 ?_
      refine j_iconst ⟨by decide, by decide⟩ d_X9_greatestRamification_26 ?_
      refine j_icmp_gt (tgt := 39) d_X9_greatestRamification_27 (by decide) (fun h7 => ?_) (fun h7 => ?_)
      · exact j_wk [true, true, true, false] rfl rfl (T_X9_greatestRamification_39 G rec_4 x1 x2 M0 hrec_4)
      · refine j_iload_n rfl d_X9_greatestRamification_30 rfl ?_
        refine j_aload_n rfl d_X9_greatestRamification_31 rfl ?_
        refine j_geti fl_Tree_104 ht6 d_X9_greatestRamification_32 ?_
        refine j_mmax wd_826 wd_604 wd_13 wd_605 ⟨(by decide : 1 ≤ ((tp_rm 1) : Room).frames), (by decide : 40 ≤ ((tp_rm 1) : Room).locals)⟩ ⟨by decide, by decide⟩ (Nat.le_of_ble_eq_true rfl) d_X9_greatestRamification_35 ?_
        refine j_nmI (fun y8 hy8 => ?_)
        refine j_istore_n (lv' := [some (.inr (.inr 41)), some (.inl y8), some (.inl x2), some (.inr (.inr r2))]) rfl d_X9_greatestRamification_38 (Nat.le_of_ble_eq_true rfl) rfl ?_
        exact j_wk [true, true, true, false] rfl rfl (T_X9_greatestRamification_39 G rec_4 y8 x2 M0 hrec_4)
def f_X9_greatestRamification_4 (x1 : Int) (x2 : Int) (M0 : tp_M) : Option (Int) := tp_lp (σ := Int × Int) (fun rec_ u => f_X9_greatestRamification_4B M0 (fun x1' x2' => rec_ (x1', x2')) u.1 u.2) tp_N (x1, x2)
set_option maxHeartbeats 4000000 in
set_option maxRecDepth 100000 in
theorem T_X9_greatestRamification_4 (G : tp_G) (x1 : Int) (x2 : Int) (M0 : tp_M) : tp_J i_X9_greatestRamification (tp_rm 1) G 0 0 (o_X9_greatestRamification M0) tp_NC (tp_st M0) 0 0 [some (.inr (.inr 41)), some (.inl x1), some (.inl x2), none] 4 [] (f_X9_greatestRamification_4 x1 x2 M0) := by
  unfold f_X9_greatestRamification_4
  exact j_lp (σ := Int × Int) (n' := fun _ => tp_NC) (g' := fun u => tp_st M0) (k' := fun _ => 0) (q' := fun _ => 0) (lv' := fun u => [some (.inr (.inr 41)), some (.inl u.1), some (.inl u.2), none]) (fun rec_ hrec u => T_X9_greatestRamification_4B G M0 (fun x1' x2' => rec_ (x1', x2')) (fun x1' x2' => hrec (x1', x2')) u.1 u.2) tp_N (x1, x2)
def f_X9_greatestRamification (M0 : tp_M) : Option (Int) :=
  f_X9_greatestRamification_4 0 0 M0
set_option maxHeartbeats 4000000 in
set_option maxRecDepth 100000 in
theorem T_X9_greatestRamification (G : tp_G) (M0 : tp_M) : tp_J i_X9_greatestRamification (tp_rm 1) G 0 0 (o_X9_greatestRamification M0) tp_NC (tp_st M0) 0 0 [some (.inr (.inr 41)), none, none, none] 0 [] (f_X9_greatestRamification M0) := by
  unfold f_X9_greatestRamification
  refine j_iconst ⟨by decide, by decide⟩ d_X9_greatestRamification_0 ?_
  refine j_istore_n (lv' := [some (.inr (.inr 41)), some (.inl 0), none, none]) rfl d_X9_greatestRamification_1 (Nat.le_of_ble_eq_true rfl) rfl ?_
  refine j_iconst ⟨by decide, by decide⟩ d_X9_greatestRamification_2 ?_
  refine j_istore_n (lv' := [some (.inr (.inr 41)), some (.inl 0), some (.inl 0), none]) rfl d_X9_greatestRamification_3 (Nat.le_of_ble_eq_true rfl) rfl ?_
  exact j_wk [true, true, true, false] rfl rfl (T_X9_greatestRamification_4 G 0 0 M0)
set_option maxHeartbeats 4000000 in
set_option maxRecDepth 100000 in
theorem c_X9_greatestRamification (G : tp_G) (M0 : tp_M) (r : Int) (h : f_X9_greatestRamification M0 = some r) (l : Launch) : Met l y_X9_greatestRamification (tp_ws y_X9_greatestRamification i_X9_greatestRamification) (tp_rm 1) (tp_Pc G [.inr (.inr 41)] tp_NC (tp_st M0)) (tp_Q G ((o_X9_greatestRamification M0) r)) 0 0 (tp_A G) :=
  tp_met (I := i_X9_greatestRamification) (y := y_X9_greatestRamification) (by decide +kernel) (Eq.refl "TypesAtPrime$Tree") (Eq.refl "greatestRamification") (lv := [some (.inr (.inr 41)), none, none, none]) rfl (Nat.le_of_ble_eq_true rfl) (T_X9_greatestRamification G M0) h l
def y_X9_greatestLevel : MethodName := ⟨"TypesAtPrime$Tree", "greatestLevel", "()I"⟩
abbrev i_X9_greatestLevel : tp_I := (prog_11_method_12_code, "TypesAtPrime$Tree", (some .int), 4, "greatestLevel")
abbrev o_X9_greatestLevel (M : tp_M) : Int → tp_O := fun r => (some (.inl r), tp_NC, tp_st M)
theorem d_X9_greatestLevel_0 : decode prog_11_method_12_code 0 = .ok (.iconst 0, 1) := by decide +kernel
theorem d_X9_greatestLevel_1 : decode prog_11_method_12_code 1 = .ok (.istore_n 1, 1) := by decide +kernel
theorem d_X9_greatestLevel_2 : decode prog_11_method_12_code 2 = .ok (.iconst 0, 1) := by decide +kernel
theorem d_X9_greatestLevel_3 : decode prog_11_method_12_code 3 = .ok (.istore_n 2, 1) := by decide +kernel
theorem d_X9_greatestLevel_4 : decode prog_11_method_12_code 4 = .ok (.iload_n 2, 1) := by decide +kernel
theorem d_X9_greatestLevel_5 : decode prog_11_method_12_code 5 = .ok (.aload_n 0, 1) := by decide +kernel
theorem d_X9_greatestLevel_6 : decode prog_11_method_12_code 6 = .ok (.getfield 44, 3) := by decide +kernel
theorem d_X9_greatestLevel_9 : decode prog_11_method_12_code 9 = .ok (.if_icmp .ge 28, 3) := by decide +kernel
theorem d_X9_greatestLevel_12 : decode prog_11_method_12_code 12 = .ok (.aload_n 0, 1) := by decide +kernel
theorem d_X9_greatestLevel_13 : decode prog_11_method_12_code 13 = .ok (.iload_n 2, 1) := by decide +kernel
theorem d_X9_greatestLevel_14 : decode prog_11_method_12_code 14 = .ok (.invokevirtual 56, 3) := by decide +kernel
theorem d_X9_greatestLevel_17 : decode prog_11_method_12_code 17 = .ok (.astore_n 3, 1) := by decide +kernel
theorem d_X9_greatestLevel_18 : decode prog_11_method_12_code 18 = .ok (.aload_n 3, 1) := by decide +kernel
theorem d_X9_greatestLevel_19 : decode prog_11_method_12_code 19 = .ok (.ifnull 12, 3) := by decide +kernel
theorem d_X9_greatestLevel_22 : decode prog_11_method_12_code 22 = .ok (.iload_n 1, 1) := by decide +kernel
theorem d_X9_greatestLevel_23 : decode prog_11_method_12_code 23 = .ok (.aload_n 3, 1) := by decide +kernel
theorem d_X9_greatestLevel_24 : decode prog_11_method_12_code 24 = .ok (.getfield 64, 3) := by decide +kernel
theorem d_X9_greatestLevel_27 : decode prog_11_method_12_code 27 = .ok (.invokestatic 114, 3) := by decide +kernel
theorem d_X9_greatestLevel_30 : decode prog_11_method_12_code 30 = .ok (.istore_n 1, 1) := by decide +kernel
theorem d_X9_greatestLevel_31 : decode prog_11_method_12_code 31 = .ok (.iinc 2 1, 3) := by decide +kernel
theorem d_X9_greatestLevel_34 : decode prog_11_method_12_code 34 = .ok (.goto (-30), 3) := by decide +kernel
theorem d_X9_greatestLevel_37 : decode prog_11_method_12_code 37 = .ok (.iload_n 1, 1) := by decide +kernel
theorem d_X9_greatestLevel_38 : decode prog_11_method_12_code 38 = .ok (.ireturn, 1) := by decide +kernel
def f_X9_greatestLevel_31 (rec_4 : Int → Int → Option (Int)) (x1 : Int) (x2 : Int) (M0 : tp_M) : Option (Int) :=
  tp_lt (tp_w (x2 + 1)) fun y5 =>
  rec_4 x1 y5
set_option maxHeartbeats 4000000 in
set_option maxRecDepth 100000 in
theorem T_X9_greatestLevel_31 (G : tp_G) (rec_4 : Int → Int → Option (Int)) (x1 : Int) (x2 : Int) (M0 : tp_M) (hrec_4 : ∀ (x1' x2' : Int), tp_J i_X9_greatestLevel (tp_rm 1) G 0 0 (o_X9_greatestLevel M0) tp_NC (tp_st M0) 0 0 [some (.inr (.inr 41)), some (.inl (x1')), some (.inl (x2')), none] 4 [] (rec_4 x1' x2')) : tp_J i_X9_greatestLevel (tp_rm 1) G 0 0 (o_X9_greatestLevel M0) tp_NC (tp_st M0) 0 0 [some (.inr (.inr 41)), some (.inl x1), some (.inl x2), none] 31 [] (f_X9_greatestLevel_31 rec_4 x1 x2 M0) := by
  unfold f_X9_greatestLevel_31
  refine j_iincN (lv' := fun y5 => [some (.inr (.inr 41)), some (.inl x1), some (.inl y5), none]) d_X9_greatestLevel_31 rfl (Nat.le_of_ble_eq_true rfl) (fun _ => rfl) (fun y5 hy5 => ?_)
  refine j_goto (tgt := 4) d_X9_greatestLevel_34 (by decide) ?_
  exact j_wk [true, true, true, false] rfl rfl (hrec_4 x1 y5)
def f_X9_greatestLevel_4B (M0 : tp_M) (rec_4 : Int → Int → Option (Int)) (x1 : Int) (x2 : Int) : Option (Int) :=
  if (M0 41 2) ≤ x2 then
    some x1
  else
    (f_X9_knotAt x2 M0).bind fun r2 =>
    if r2 = -1 then
      f_X9_greatestLevel_31 rec_4 x1 x2 M0
    else
      if tp_tg r2 = 2 then
        tp_lt ((max x1 (M0 r2 0))) fun y7 =>
        f_X9_greatestLevel_31 rec_4 y7 x2 M0 else none
set_option maxHeartbeats 4000000 in
set_option maxRecDepth 100000 in
theorem T_X9_greatestLevel_4B (G : tp_G) (M0 : tp_M) (rec_4 : Int → Int → Option (Int)) (hrec_4 : ∀ (x1' x2' : Int), tp_J i_X9_greatestLevel (tp_rm 1) G 0 0 (o_X9_greatestLevel M0) tp_NC (tp_st M0) 0 0 [some (.inr (.inr 41)), some (.inl (x1')), some (.inl (x2')), none] 4 [] (rec_4 x1' x2')) (x1 : Int) (x2 : Int) : tp_J i_X9_greatestLevel (tp_rm 1) G 0 0 (o_X9_greatestLevel M0) tp_NC (tp_st M0) 0 0 [some (.inr (.inr 41)), some (.inl x1), some (.inl x2), none] 4 [] (f_X9_greatestLevel_4B M0 rec_4 x1 x2) := by
  unfold f_X9_greatestLevel_4B
  refine j_iload_n rfl d_X9_greatestLevel_4 rfl ?_
  refine j_aload_n rfl d_X9_greatestLevel_5 rfl ?_
  refine j_geti fl_Tree_44 tg_41 d_X9_greatestLevel_6 ?_
  refine j_icmp_ge (tgt := 37) d_X9_greatestLevel_9 (by decide) (fun h1 => ?_) (fun h1 => ?_)
  · refine j_iload_n rfl d_X9_greatestLevel_37 rfl ?_
    exact j_iret d_X9_greatestLevel_38 rfl rfl ⟨rfl, rfl⟩
  · refine j_aload_n rfl d_X9_greatestLevel_12 rfl ?_
    refine j_iload_n rfl d_X9_greatestLevel_13 rfl ?_
    refine j_bind (fun r2 h3 => ?_)
    refine j_callV (y := y_X9_knotAt) (I' := i_X9_knotAt) (avs := [.inl x2]) (c := 41) (st := []) (c_X9_knotAt G x2 M0 r2 h3) cs_Tree_56 wd_664 wd_665 wd_666 tg_41 rfl rfl rfl (Nat.le_of_ble_eq_true rfl) ⟨rfl, rfl⟩ ⟨by decide, by decide⟩ ⟨by decide, by decide⟩ d_X9_greatestLevel_14 ?_
    refine j_astore_n (lv' := [some (.inr (.inr 41)), some (.inl x1), some (.inl x2), some (.inr (.inr r2))]) rfl d_X9_greatestLevel_17 (Nat.le_of_ble_eq_true rfl) rfl ?_
    refine j_aload_n rfl d_X9_greatestLevel_18 rfl ?_
    refine j_ifnull (tgt := 31) d_X9_greatestLevel_19 (by decide) (fun h4 => ?_) (fun h4 => ?_)
    · exact j_wk [true, true, true, false] rfl rfl (T_X9_greatestLevel_31 G rec_4 x1 x2 M0 hrec_4)
    · refine j_iload_n rfl d_X9_greatestLevel_22 rfl ?_
      refine j_aload_n rfl d_X9_greatestLevel_23 rfl ?_
      refine tp_chk (fun ht6 => ?_)
      refine j_geti fl_Tree_64 ht6 d_X9_greatestLevel_24 ?_
      refine j_mmax wd_826 wd_604 wd_13 wd_605 ⟨(by decide : 1 ≤ ((tp_rm 1) : Room).frames), (by decide : 40 ≤ ((tp_rm 1) : Room).locals)⟩ ⟨by decide, by decide⟩ (Nat.le_of_ble_eq_true rfl) d_X9_greatestLevel_27 ?_
      refine j_nmI (fun y7 hy7 => ?_)
      refine j_istore_n (lv' := [some (.inr (.inr 41)), some (.inl y7), some (.inl x2), some (.inr (.inr r2))]) rfl d_X9_greatestLevel_30 (Nat.le_of_ble_eq_true rfl) rfl ?_
      exact j_wk [true, true, true, false] rfl rfl (T_X9_greatestLevel_31 G rec_4 y7 x2 M0 hrec_4)
def f_X9_greatestLevel_4 (x1 : Int) (x2 : Int) (M0 : tp_M) : Option (Int) := tp_lp (σ := Int × Int) (fun rec_ u => f_X9_greatestLevel_4B M0 (fun x1' x2' => rec_ (x1', x2')) u.1 u.2) tp_N (x1, x2)
set_option maxHeartbeats 4000000 in
set_option maxRecDepth 100000 in
theorem T_X9_greatestLevel_4 (G : tp_G) (x1 : Int) (x2 : Int) (M0 : tp_M) : tp_J i_X9_greatestLevel (tp_rm 1) G 0 0 (o_X9_greatestLevel M0) tp_NC (tp_st M0) 0 0 [some (.inr (.inr 41)), some (.inl x1), some (.inl x2), none] 4 [] (f_X9_greatestLevel_4 x1 x2 M0) := by
  unfold f_X9_greatestLevel_4
  exact j_lp (σ := Int × Int) (n' := fun _ => tp_NC) (g' := fun u => tp_st M0) (k' := fun _ => 0) (q' := fun _ => 0) (lv' := fun u => [some (.inr (.inr 41)), some (.inl u.1), some (.inl u.2), none]) (fun rec_ hrec u => T_X9_greatestLevel_4B G M0 (fun x1' x2' => rec_ (x1', x2')) (fun x1' x2' => hrec (x1', x2')) u.1 u.2) tp_N (x1, x2)
def f_X9_greatestLevel (M0 : tp_M) : Option (Int) :=
  f_X9_greatestLevel_4 0 0 M0
set_option maxHeartbeats 4000000 in
set_option maxRecDepth 100000 in
theorem T_X9_greatestLevel (G : tp_G) (M0 : tp_M) : tp_J i_X9_greatestLevel (tp_rm 1) G 0 0 (o_X9_greatestLevel M0) tp_NC (tp_st M0) 0 0 [some (.inr (.inr 41)), none, none, none] 0 [] (f_X9_greatestLevel M0) := by
  unfold f_X9_greatestLevel
  refine j_iconst ⟨by decide, by decide⟩ d_X9_greatestLevel_0 ?_
  refine j_istore_n (lv' := [some (.inr (.inr 41)), some (.inl 0), none, none]) rfl d_X9_greatestLevel_1 (Nat.le_of_ble_eq_true rfl) rfl ?_
  refine j_iconst ⟨by decide, by decide⟩ d_X9_greatestLevel_2 ?_
  refine j_istore_n (lv' := [some (.inr (.inr 41)), some (.inl 0), some (.inl 0), none]) rfl d_X9_greatestLevel_3 (Nat.le_of_ble_eq_true rfl) rfl ?_
  exact j_wk [true, true, true, false] rfl rfl (T_X9_greatestLevel_4 G 0 0 M0)
set_option maxHeartbeats 4000000 in
set_option maxRecDepth 100000 in
theorem c_X9_greatestLevel (G : tp_G) (M0 : tp_M) (r : Int) (h : f_X9_greatestLevel M0 = some r) (l : Launch) : Met l y_X9_greatestLevel (tp_ws y_X9_greatestLevel i_X9_greatestLevel) (tp_rm 1) (tp_Pc G [.inr (.inr 41)] tp_NC (tp_st M0)) (tp_Q G ((o_X9_greatestLevel M0) r)) 0 0 (tp_A G) :=
  tp_met (I := i_X9_greatestLevel) (y := y_X9_greatestLevel) (by decide +kernel) (Eq.refl "TypesAtPrime$Tree") (Eq.refl "greatestLevel") (lv := [some (.inr (.inr 41)), none, none, none]) rfl (Nat.le_of_ble_eq_true rfl) (T_X9_greatestLevel G M0) h l
theorem wd_300 : (.fieldLink "TypesAtPrime$Tree" 9 "TypesAtPrime$Tree" "spelling" "[B" : Cond) ∈ lw_tbl := List.mem_append_right _ (List.mem_of_getElem? (i := 300) (by decide +kernel))
theorem fl_Tree_9 : tp_F "TypesAtPrime$Tree" 9 9 5 2 := ⟨_, _, _, rfl, by decide, rfl, wd_300, rfl, by decide⟩
theorem tg_42 : tp_tg 42 = 20 := by decide +kernel
theorem al_42 : tp_al 42 = 80 := by decide +kernel
theorem rv_41_5 : tp_rv 41 5 = 42 := by decide +kernel
def y_X9_write : MethodName := ⟨"TypesAtPrime$Tree", "write", "(C)V"⟩
abbrev i_X9_write : tp_I := (prog_11_method_16_code, "TypesAtPrime$Tree", none, 2, "write")
abbrev o_X9_write : tp_M → tp_O := fun r => (none, tp_NC, tp_st r)
theorem d_X9_write_0 : decode prog_11_method_16_code 0 = .ok (.aload_n 0, 1) := by decide +kernel
theorem d_X9_write_1 : decode prog_11_method_16_code 1 = .ok (.getfield 53, 3) := by decide +kernel
theorem d_X9_write_4 : decode prog_11_method_16_code 4 = .ok (.ifCond .lt 15, 3) := by decide +kernel
theorem d_X9_write_7 : decode prog_11_method_16_code 7 = .ok (.aload_n 0, 1) := by decide +kernel
theorem d_X9_write_8 : decode prog_11_method_16_code 8 = .ok (.getfield 53, 3) := by decide +kernel
theorem d_X9_write_11 : decode prog_11_method_16_code 11 = .ok (.aload_n 0, 1) := by decide +kernel
theorem d_X9_write_12 : decode prog_11_method_16_code 12 = .ok (.getfield 9, 3) := by decide +kernel
theorem d_X9_write_15 : decode prog_11_method_16_code 15 = .ok (.arraylength, 1) := by decide +kernel
theorem d_X9_write_16 : decode prog_11_method_16_code 16 = .ok (.if_icmp .lt 4, 3) := by decide +kernel
theorem d_X9_write_19 : decode prog_11_method_16_code 19 = .ok (.return_, 1) := by decide +kernel
theorem d_X9_write_20 : decode prog_11_method_16_code 20 = .ok (.aload_n 0, 1) := by decide +kernel
theorem d_X9_write_21 : decode prog_11_method_16_code 21 = .ok (.getfield 9, 3) := by decide +kernel
theorem d_X9_write_24 : decode prog_11_method_16_code 24 = .ok (.aload_n 0, 1) := by decide +kernel
theorem d_X9_write_25 : decode prog_11_method_16_code 25 = .ok (.getfield 53, 3) := by decide +kernel
theorem d_X9_write_28 : decode prog_11_method_16_code 28 = .ok (.iload_n 1, 1) := by decide +kernel
theorem d_X9_write_29 : decode prog_11_method_16_code 29 = .ok (.i2b, 1) := by decide +kernel
theorem d_X9_write_30 : decode prog_11_method_16_code 30 = .ok (.bastore, 1) := by decide +kernel
theorem d_X9_write_31 : decode prog_11_method_16_code 31 = .ok (.aload_n 0, 1) := by decide +kernel
theorem d_X9_write_32 : decode prog_11_method_16_code 32 = .ok (.dup, 1) := by decide +kernel
theorem d_X9_write_33 : decode prog_11_method_16_code 33 = .ok (.getfield 53, 3) := by decide +kernel
theorem d_X9_write_36 : decode prog_11_method_16_code 36 = .ok (.iconst 1, 1) := by decide +kernel
theorem d_X9_write_37 : decode prog_11_method_16_code 37 = .ok (.iadd, 1) := by decide +kernel
theorem d_X9_write_38 : decode prog_11_method_16_code 38 = .ok (.putfield 53, 3) := by decide +kernel
theorem d_X9_write_41 : decode prog_11_method_16_code 41 = .ok (.return_, 1) := by decide +kernel
def f_X9_write (a0 : Int) (M0 : tp_M) : Option (tp_M) :=
  if (M0 41 4) < 0 then
    some M0
  else
    if (M0 41 4) < 80 then
      if 0 ≤ (M0 41 4) ∧ (M0 41 4) < 80 then
        tp_mp (tp_up M0 42 (M0 41 4) (tp_b (tp_b a0))) fun M3 =>
        tp_mp (tp_up M3 41 4 (tp_w ((M3 41 4) + 1))) fun M4 =>
        some M4 else none
    else
      some M0
set_option maxHeartbeats 4000000 in
set_option maxRecDepth 100000 in
theorem T_X9_write (G : tp_G) (a0 : Int) (M0 : tp_M) : tp_J i_X9_write (tp_rm 0) G 0 0 o_X9_write tp_NC (tp_st M0) 0 0 [some (.inr (.inr 41)), some (.inl a0)] 0 [] (f_X9_write a0 M0) := by
  unfold f_X9_write
  refine j_aload_n rfl d_X9_write_0 rfl ?_
  refine j_geti fl_Tree_53 tg_41 d_X9_write_1 ?_
  refine j_if_lt (tgt := 19) d_X9_write_4 (by decide) (fun h1 => ?_) (fun h1 => ?_)
  · exact j_vret d_X9_write_19 rfl rfl ⟨rfl, rfl⟩
  · refine j_aload_n rfl d_X9_write_7 rfl ?_
    refine j_geti fl_Tree_53 tg_41 d_X9_write_8 ?_
    refine j_aload_n rfl d_X9_write_11 rfl ?_
    refine j_getr fl_Tree_9 tg_41 rv_41_5 d_X9_write_12 ?_
    refine j_alen tg_42 (by decide) al_42 ⟨by decide, by decide⟩ (ty := .byte) (by decide) d_X9_write_15 ?_
    refine j_icmp_lt (tgt := 20) d_X9_write_16 (by decide) (fun h2 => ?_) (fun h2 => ?_)
    · refine j_aload_n rfl d_X9_write_20 rfl ?_
      refine j_getr fl_Tree_9 tg_41 rv_41_5 d_X9_write_21 ?_
      refine j_aload_n rfl d_X9_write_24 rfl ?_
      refine j_geti fl_Tree_53 tg_41 d_X9_write_25 ?_
      refine j_iload_n rfl d_X9_write_28 rfl ?_
      refine j_i2b d_X9_write_29 ?_
      refine j_bast tg_42 al_42 d_X9_write_30 (fun M3 hM3 => ?_)
      refine j_aload_n rfl d_X9_write_31 rfl ?_
      refine j_dup d_X9_write_32 (fun G => tp_cat G _) ?_
      refine j_geti fl_Tree_53 tg_41 d_X9_write_33 ?_
      refine j_iconst ⟨by decide, by decide⟩ d_X9_write_36 ?_
      refine j_iadd d_X9_write_37 ?_
      refine j_put (z := 0) (v := (tp_w ((M3 41 4) + 1))) fl_Tree_53 (by decide) tg_41 (pf_9_4 _) pt_9 d_X9_write_38 (fun M4 hM4 => ?_)
      exact j_vret d_X9_write_41 rfl rfl ⟨rfl, rfl⟩
    · exact j_vret d_X9_write_19 rfl rfl ⟨rfl, rfl⟩
set_option maxHeartbeats 4000000 in
set_option maxRecDepth 100000 in
theorem c_X9_write (G : tp_G) (a0 : Int) (M0 : tp_M) (r : tp_M) (h : f_X9_write a0 M0 = some r) (l : Launch) : Met l y_X9_write (tp_ws y_X9_write i_X9_write) (tp_rm 0) (tp_Pc G [.inr (.inr 41), .inl a0] tp_NC (tp_st M0)) (tp_Q G (o_X9_write r)) 0 0 (tp_A G) :=
  tp_met (I := i_X9_write) (y := y_X9_write) (by decide +kernel) (Eq.refl "TypesAtPrime$Tree") (Eq.refl "write") (lv := [some (.inr (.inr 41)), some (.inl a0)]) rfl (Nat.le_of_ble_eq_true rfl) (T_X9_write G a0 M0) h l
theorem wd_801 : (.code ⟨"TypesAtPrime$Tree", "write", "(C)V"⟩ prog_11_method_16_code 2 (none : Option Jvm.ClassFile.FieldType) : Cond) ∈ lw_tbl := List.mem_append_right _ (List.mem_of_getElem? (i := 801) (by decide +kernel))
theorem cs_Tree_120 : tp_CS "TypesAtPrime$Tree" 120 y_X9_write i_X9_write 1 := ⟨wd_801, wd_6, by decide, by decide, by decide +kernel⟩
theorem wd_798 : (.methodLink "TypesAtPrime$Tree" 120 ⟨"TypesAtPrime$Tree", "write", "(C)V"⟩ : Cond) ∈ lw_tbl := List.mem_append_right _ (List.mem_of_getElem? (i := 798) (by decide +kernel))
theorem wd_800 : (.instanceMethod ⟨"TypesAtPrime$Tree", "write", "(C)V"⟩ : Cond) ∈ lw_tbl := List.mem_append_right _ (List.mem_of_getElem? (i := 800) (by decide +kernel))
theorem ws_29 : (.selects "TypesAtPrime$Tree" ⟨"TypesAtPrime$Tree", "write", "(C)V"⟩ ⟨"TypesAtPrime$Tree", "write", "(C)V"⟩ : Cond) ∈ lw_tbl := List.mem_append_left _ (List.mem_of_getElem? (i := 29) (by decide +kernel))
def y_X9_writeDigit : MethodName := ⟨"TypesAtPrime$Tree", "writeDigit", "(I)V"⟩
abbrev i_X9_writeDigit : tp_I := (prog_11_method_15_code, "TypesAtPrime$Tree", none, 2, "writeDigit")
abbrev o_X9_writeDigit : tp_M → tp_O := fun r => (none, tp_NC, tp_st r)
theorem d_X9_writeDigit_0 : decode prog_11_method_15_code 0 = .ok (.aload_n 0, 1) := by decide +kernel
theorem d_X9_writeDigit_1 : decode prog_11_method_15_code 1 = .ok (.bipush 48, 2) := by decide +kernel
theorem d_X9_writeDigit_3 : decode prog_11_method_15_code 3 = .ok (.iload_n 1, 1) := by decide +kernel
theorem d_X9_writeDigit_4 : decode prog_11_method_15_code 4 = .ok (.iadd, 1) := by decide +kernel
theorem d_X9_writeDigit_5 : decode prog_11_method_15_code 5 = .ok (.i2c, 1) := by decide +kernel
theorem d_X9_writeDigit_6 : decode prog_11_method_15_code 6 = .ok (.invokevirtual 120, 3) := by decide +kernel
theorem d_X9_writeDigit_9 : decode prog_11_method_15_code 9 = .ok (.return_, 1) := by decide +kernel
def f_X9_writeDigit (a0 : Int) (M0 : tp_M) : Option (tp_M) :=
  (f_X9_write ((tp_w (48 + a0)) % 65536) M0).bind fun r1 =>
  some r1
set_option maxHeartbeats 4000000 in
set_option maxRecDepth 100000 in
theorem T_X9_writeDigit (G : tp_G) (a0 : Int) (M0 : tp_M) : tp_J i_X9_writeDigit (tp_rm 1) G 0 0 o_X9_writeDigit tp_NC (tp_st M0) 0 0 [some (.inr (.inr 41)), some (.inl a0)] 0 [] (f_X9_writeDigit a0 M0) := by
  unfold f_X9_writeDigit
  refine j_aload_n rfl d_X9_writeDigit_0 rfl ?_
  refine j_bipush ⟨by decide, by decide⟩ (by decide +kernel) d_X9_writeDigit_1 ?_
  refine j_iload_n rfl d_X9_writeDigit_3 rfl ?_
  refine j_iadd d_X9_writeDigit_4 ?_
  refine j_i2c d_X9_writeDigit_5 ?_
  refine j_bind (fun r1 h2 => ?_)
  refine j_callV (y := y_X9_write) (I' := i_X9_write) (avs := [.inl ((tp_w (48 + a0)) % 65536)]) (c := 41) (st := []) (c_X9_write G ((tp_w (48 + a0)) % 65536) M0 r1 h2) cs_Tree_120 wd_798 wd_800 ws_29 tg_41 rfl rfl rfl (Nat.le_of_ble_eq_true rfl) ⟨rfl, rfl⟩ ⟨by decide, by decide⟩ ⟨by decide, by decide⟩ d_X9_writeDigit_6 ?_
  exact j_vret d_X9_writeDigit_9 rfl rfl ⟨rfl, rfl⟩
set_option maxHeartbeats 4000000 in
set_option maxRecDepth 100000 in
theorem c_X9_writeDigit (G : tp_G) (a0 : Int) (M0 : tp_M) (r : tp_M) (h : f_X9_writeDigit a0 M0 = some r) (l : Launch) : Met l y_X9_writeDigit (tp_ws y_X9_writeDigit i_X9_writeDigit) (tp_rm 1) (tp_Pc G [.inr (.inr 41), .inl a0] tp_NC (tp_st M0)) (tp_Q G (o_X9_writeDigit r)) 0 0 (tp_A G) :=
  tp_met (I := i_X9_writeDigit) (y := y_X9_writeDigit) (by decide +kernel) (Eq.refl "TypesAtPrime$Tree") (Eq.refl "writeDigit") (lv := [some (.inr (.inr 41)), some (.inl a0)]) rfl (Nat.le_of_ble_eq_true rfl) (T_X9_writeDigit G a0 M0) h l
theorem wd_809 : (.code ⟨"TypesAtPrime$Tree", "writeDigit", "(I)V"⟩ prog_11_method_15_code 2 (none : Option Jvm.ClassFile.FieldType) : Cond) ∈ lw_tbl := List.mem_append_right _ (List.mem_of_getElem? (i := 809) (by decide +kernel))
theorem cs_Tree_128 : tp_CS "TypesAtPrime$Tree" 128 y_X9_writeDigit i_X9_writeDigit 1 := ⟨wd_809, wd_6, by decide, by decide, by decide +kernel⟩
theorem wd_806 : (.methodLink "TypesAtPrime$Tree" 128 ⟨"TypesAtPrime$Tree", "writeDigit", "(I)V"⟩ : Cond) ∈ lw_tbl := List.mem_append_right _ (List.mem_of_getElem? (i := 806) (by decide +kernel))
theorem wd_808 : (.instanceMethod ⟨"TypesAtPrime$Tree", "writeDigit", "(I)V"⟩ : Cond) ∈ lw_tbl := List.mem_append_right _ (List.mem_of_getElem? (i := 808) (by decide +kernel))
theorem ws_31 : (.selects "TypesAtPrime$Tree" ⟨"TypesAtPrime$Tree", "writeDigit", "(I)V"⟩ ⟨"TypesAtPrime$Tree", "writeDigit", "(I)V"⟩ : Cond) ∈ lw_tbl := List.mem_append_left _ (List.mem_of_getElem? (i := 31) (by decide +kernel))
def y_X9_spellLeaf : MethodName := ⟨"TypesAtPrime$Tree", "spellLeaf", "(LTypesAtPrime$Leaf;)V"⟩
abbrev i_X9_spellLeaf : tp_I := (prog_11_method_14_code, "TypesAtPrime$Tree", none, 3, "spellLeaf")
abbrev o_X9_spellLeaf : tp_M → tp_O := fun r => (none, tp_NC, tp_st r)
theorem d_X9_spellLeaf_0 : decode prog_11_method_14_code 0 = .ok (.aload_n 1, 1) := by decide +kernel
theorem d_X9_spellLeaf_1 : decode prog_11_method_14_code 1 = .ok (.getfield 101, 3) := by decide +kernel
theorem d_X9_spellLeaf_4 : decode prog_11_method_14_code 4 = .ok (.iconst 1, 1) := by decide +kernel
theorem d_X9_spellLeaf_5 : decode prog_11_method_14_code 5 = .ok (.if_icmp .gt 40, 3) := by decide +kernel
theorem d_X9_spellLeaf_8 : decode prog_11_method_14_code 8 = .ok (.aload_n 0, 1) := by decide +kernel
theorem d_X9_spellLeaf_9 : decode prog_11_method_14_code 9 = .ok (.aload_n 1, 1) := by decide +kernel
theorem d_X9_spellLeaf_10 : decode prog_11_method_14_code 10 = .ok (.getfield 104, 3) := by decide +kernel
theorem d_X9_spellLeaf_13 : decode prog_11_method_14_code 13 = .ok (.invokevirtual 128, 3) := by decide +kernel
theorem d_X9_spellLeaf_16 : decode prog_11_method_14_code 16 = .ok (.aload_n 0, 1) := by decide +kernel
theorem d_X9_spellLeaf_17 : decode prog_11_method_14_code 17 = .ok (.bipush 46, 2) := by decide +kernel
theorem d_X9_spellLeaf_19 : decode prog_11_method_14_code 19 = .ok (.invokevirtual 120, 3) := by decide +kernel
theorem d_X9_spellLeaf_22 : decode prog_11_method_14_code 22 = .ok (.aload_n 0, 1) := by decide +kernel
theorem d_X9_spellLeaf_23 : decode prog_11_method_14_code 23 = .ok (.aload_n 1, 1) := by decide +kernel
theorem d_X9_spellLeaf_24 : decode prog_11_method_14_code 24 = .ok (.getfield 107, 3) := by decide +kernel
theorem d_X9_spellLeaf_27 : decode prog_11_method_14_code 27 = .ok (.invokevirtual 128, 3) := by decide +kernel
theorem d_X9_spellLeaf_30 : decode prog_11_method_14_code 30 = .ok (.aload_n 1, 1) := by decide +kernel
theorem d_X9_spellLeaf_31 : decode prog_11_method_14_code 31 = .ok (.getfield 101, 3) := by decide +kernel
theorem d_X9_spellLeaf_34 : decode prog_11_method_14_code 34 = .ok (.iconst 1, 1) := by decide +kernel
theorem d_X9_spellLeaf_35 : decode prog_11_method_14_code 35 = .ok (.if_icmp .ne 9, 3) := by decide +kernel
theorem d_X9_spellLeaf_38 : decode prog_11_method_14_code 38 = .ok (.aload_n 0, 1) := by decide +kernel
theorem d_X9_spellLeaf_39 : decode prog_11_method_14_code 39 = .ok (.bipush 33, 2) := by decide +kernel
theorem d_X9_spellLeaf_41 : decode prog_11_method_14_code 41 = .ok (.invokevirtual 120, 3) := by decide +kernel
theorem d_X9_spellLeaf_44 : decode prog_11_method_14_code 44 = .ok (.return_, 1) := by decide +kernel
theorem d_X9_spellLeaf_45 : decode prog_11_method_14_code 45 = .ok (.iconst 2, 1) := by decide +kernel
theorem d_X9_spellLeaf_46 : decode prog_11_method_14_code 46 = .ok (.istore_n 2, 1) := by decide +kernel
theorem d_X9_spellLeaf_47 : decode prog_11_method_14_code 47 = .ok (.iload_n 2, 1) := by decide +kernel
theorem d_X9_spellLeaf_48 : decode prog_11_method_14_code 48 = .ok (.aload_n 1, 1) := by decide +kernel
theorem d_X9_spellLeaf_49 : decode prog_11_method_14_code 49 = .ok (.getfield 101, 3) := by decide +kernel
theorem d_X9_spellLeaf_52 : decode prog_11_method_14_code 52 = .ok (.if_icmp .gt 15, 3) := by decide +kernel
theorem d_X9_spellLeaf_55 : decode prog_11_method_14_code 55 = .ok (.aload_n 0, 1) := by decide +kernel
theorem d_X9_spellLeaf_56 : decode prog_11_method_14_code 56 = .ok (.bipush 63, 2) := by decide +kernel
theorem d_X9_spellLeaf_58 : decode prog_11_method_14_code 58 = .ok (.invokevirtual 120, 3) := by decide +kernel
theorem d_X9_spellLeaf_61 : decode prog_11_method_14_code 61 = .ok (.iinc 2 1, 3) := by decide +kernel
theorem d_X9_spellLeaf_64 : decode prog_11_method_14_code 64 = .ok (.goto (-17), 3) := by decide +kernel
theorem d_X9_spellLeaf_67 : decode prog_11_method_14_code 67 = .ok (.aload_n 0, 1) := by decide +kernel
theorem d_X9_spellLeaf_68 : decode prog_11_method_14_code 68 = .ok (.aload_n 1, 1) := by decide +kernel
theorem d_X9_spellLeaf_69 : decode prog_11_method_14_code 69 = .ok (.getfield 110, 3) := by decide +kernel
theorem d_X9_spellLeaf_72 : decode prog_11_method_14_code 72 = .ok (.invokevirtual 128, 3) := by decide +kernel
theorem d_X9_spellLeaf_75 : decode prog_11_method_14_code 75 = .ok (.return_, 1) := by decide +kernel
def f_X9_spellLeaf_47B (x1 : Int) (rec_47 : Int → tp_M → Option (tp_M)) (x2 : Int) (M0 : tp_M) : Option (tp_M) :=
  if (M0 x1 0) < x2 then
    (f_X9_writeDigit (M0 x1 3) M0).bind fun r4 =>
    some r4
  else
    (f_X9_write 63 M0).bind fun r6 =>
    tp_lt (tp_w (x2 + 1)) fun y8 =>
    rec_47 y8 r6
set_option maxHeartbeats 4000000 in
set_option maxRecDepth 100000 in
theorem T_X9_spellLeaf_47B (G : tp_G) (x1 : Int) (hg_x1 : tp_tg x1 = 3) (rec_47 : Int → tp_M → Option (tp_M)) (hrec_47 : ∀ (x2' : Int) (M' : tp_M), tp_J i_X9_spellLeaf (tp_rm 2) G 0 0 o_X9_spellLeaf tp_NC (tp_st M') 0 0 [some (.inr (.inr 41)), some (.inr (.inr x1)), some (.inl (x2'))] 47 [] (rec_47 x2' M')) (x2 : Int) (M0 : tp_M) : tp_J i_X9_spellLeaf (tp_rm 2) G 0 0 o_X9_spellLeaf tp_NC (tp_st M0) 0 0 [some (.inr (.inr 41)), some (.inr (.inr x1)), some (.inl x2)] 47 [] (f_X9_spellLeaf_47B x1 rec_47 x2 M0) := by
  unfold f_X9_spellLeaf_47B
  refine j_iload_n rfl d_X9_spellLeaf_47 rfl ?_
  refine j_aload_n rfl d_X9_spellLeaf_48 rfl ?_
  refine j_geti fl_Tree_101 hg_x1 d_X9_spellLeaf_49 ?_
  refine j_icmp_gt (tgt := 67) d_X9_spellLeaf_52 (by decide) (fun h3 => ?_) (fun h3 => ?_)
  · refine j_aload_n rfl d_X9_spellLeaf_67 rfl ?_
    refine j_aload_n rfl d_X9_spellLeaf_68 rfl ?_
    refine j_geti fl_Tree_110 hg_x1 d_X9_spellLeaf_69 ?_
    refine j_bind (fun r4 h5 => ?_)
    refine j_callV (y := y_X9_writeDigit) (I' := i_X9_writeDigit) (avs := [.inl (M0 x1 3)]) (c := 41) (st := []) (c_X9_writeDigit G (M0 x1 3) M0 r4 h5) cs_Tree_128 wd_806 wd_808 ws_31 tg_41 rfl rfl rfl (Nat.le_of_ble_eq_true rfl) ⟨rfl, rfl⟩ ⟨by decide, by decide⟩ ⟨by decide, by decide⟩ d_X9_spellLeaf_72 ?_
    exact j_vret d_X9_spellLeaf_75 rfl rfl ⟨rfl, rfl⟩
  · refine j_aload_n rfl d_X9_spellLeaf_55 rfl ?_
    refine j_bipush ⟨by decide, by decide⟩ (by decide +kernel) d_X9_spellLeaf_56 ?_
    refine j_bind (fun r6 h7 => ?_)
    refine j_callV (y := y_X9_write) (I' := i_X9_write) (avs := [.inl 63]) (c := 41) (st := []) (c_X9_write G 63 M0 r6 h7) cs_Tree_120 wd_798 wd_800 ws_29 tg_41 rfl rfl rfl (Nat.le_of_ble_eq_true rfl) ⟨rfl, rfl⟩ ⟨by decide, by decide⟩ ⟨by decide, by decide⟩ d_X9_spellLeaf_58 ?_
    refine j_iincN (lv' := fun y8 => [some (.inr (.inr 41)), some (.inr (.inr x1)), some (.inl y8)]) d_X9_spellLeaf_61 rfl (Nat.le_of_ble_eq_true rfl) (fun _ => rfl) (fun y8 hy8 => ?_)
    refine j_goto (tgt := 47) d_X9_spellLeaf_64 (by decide) ?_
    exact j_wk [true, true, true] rfl rfl (hrec_47 y8 r6)
def f_X9_spellLeaf_47 (x1 : Int) (x2 : Int) (M0 : tp_M) : Option (tp_M) := tp_lp (σ := Int × tp_M) (fun rec_ u => f_X9_spellLeaf_47B x1 (fun x2' M0' => rec_ (x2', M0')) u.1 u.2) tp_N (x2, M0)
set_option maxHeartbeats 4000000 in
set_option maxRecDepth 100000 in
theorem T_X9_spellLeaf_47 (G : tp_G) (x1 : Int) (x2 : Int) (M0 : tp_M) (hg_x1 : tp_tg x1 = 3) : tp_J i_X9_spellLeaf (tp_rm 2) G 0 0 o_X9_spellLeaf tp_NC (tp_st M0) 0 0 [some (.inr (.inr 41)), some (.inr (.inr x1)), some (.inl x2)] 47 [] (f_X9_spellLeaf_47 x1 x2 M0) := by
  unfold f_X9_spellLeaf_47
  exact j_lp (σ := Int × tp_M) (n' := fun _ => tp_NC) (g' := fun u => tp_st u.2) (k' := fun _ => 0) (q' := fun _ => 0) (lv' := fun u => [some (.inr (.inr 41)), some (.inr (.inr x1)), some (.inl u.1)]) (fun rec_ hrec u => T_X9_spellLeaf_47B G x1 hg_x1 (fun x2' M0' => rec_ (x2', M0')) (fun x2' M0' => hrec (x2', M0')) u.1 u.2) tp_N (x2, M0)
def f_X9_spellLeaf (a0 : Int) (M0 : tp_M) : Option (tp_M) :=
  if tp_tg a0 = 3 then
    if 1 < (M0 a0 0) then
      f_X9_spellLeaf_47 a0 2 M0
    else
      (f_X9_writeDigit (M0 a0 1) M0).bind fun r9 =>
      (f_X9_write 46 r9).bind fun r11 =>
      (f_X9_writeDigit (r11 a0 2) r11).bind fun r13 =>
      if ¬ (r13 a0 0) = 1 then
        some r13
      else
        (f_X9_write 33 r13).bind fun r16 =>
        some r16 else none
set_option maxHeartbeats 4000000 in
set_option maxRecDepth 100000 in
theorem T_X9_spellLeaf (G : tp_G) (a0 : Int) (M0 : tp_M) : tp_J i_X9_spellLeaf (tp_rm 2) G 0 0 o_X9_spellLeaf tp_NC (tp_st M0) 0 0 [some (.inr (.inr 41)), some (.inr (.inr a0)), none] 0 [] (f_X9_spellLeaf a0 M0) := by
  unfold f_X9_spellLeaf
  refine tp_chk (fun ht1 => ?_)
  refine j_aload_n rfl d_X9_spellLeaf_0 rfl ?_
  refine j_geti fl_Tree_101 ht1 d_X9_spellLeaf_1 ?_
  refine j_iconst ⟨by decide, by decide⟩ d_X9_spellLeaf_4 ?_
  refine j_icmp_gt (tgt := 45) d_X9_spellLeaf_5 (by decide) (fun h2 => ?_) (fun h2 => ?_)
  · refine j_iconst ⟨by decide, by decide⟩ d_X9_spellLeaf_45 ?_
    refine j_istore_n (lv' := [some (.inr (.inr 41)), some (.inr (.inr a0)), some (.inl 2)]) rfl d_X9_spellLeaf_46 (Nat.le_of_ble_eq_true rfl) rfl ?_
    exact j_wk [true, true, true] rfl rfl (T_X9_spellLeaf_47 G a0 2 M0 ht1)
  · refine j_aload_n rfl d_X9_spellLeaf_8 rfl ?_
    refine j_aload_n rfl d_X9_spellLeaf_9 rfl ?_
    refine j_geti fl_Tree_104 ht1 d_X9_spellLeaf_10 ?_
    refine j_bind (fun r9 h10 => ?_)
    refine j_callV (y := y_X9_writeDigit) (I' := i_X9_writeDigit) (avs := [.inl (M0 a0 1)]) (c := 41) (st := []) (c_X9_writeDigit G (M0 a0 1) M0 r9 h10) cs_Tree_128 wd_806 wd_808 ws_31 tg_41 rfl rfl rfl (Nat.le_of_ble_eq_true rfl) ⟨rfl, rfl⟩ ⟨by decide, by decide⟩ ⟨by decide, by decide⟩ d_X9_spellLeaf_13 ?_
    refine j_aload_n rfl d_X9_spellLeaf_16 rfl ?_
    refine j_bipush ⟨by decide, by decide⟩ (by decide +kernel) d_X9_spellLeaf_17 ?_
    refine j_bind (fun r11 h12 => ?_)
    refine j_callV (y := y_X9_write) (I' := i_X9_write) (avs := [.inl 46]) (c := 41) (st := []) (c_X9_write G 46 r9 r11 h12) cs_Tree_120 wd_798 wd_800 ws_29 tg_41 rfl rfl rfl (Nat.le_of_ble_eq_true rfl) ⟨rfl, rfl⟩ ⟨by decide, by decide⟩ ⟨by decide, by decide⟩ d_X9_spellLeaf_19 ?_
    refine j_aload_n rfl d_X9_spellLeaf_22 rfl ?_
    refine j_aload_n rfl d_X9_spellLeaf_23 rfl ?_
    refine j_geti fl_Tree_107 ht1 d_X9_spellLeaf_24 ?_
    refine j_bind (fun r13 h14 => ?_)
    refine j_callV (y := y_X9_writeDigit) (I' := i_X9_writeDigit) (avs := [.inl (r11 a0 2)]) (c := 41) (st := []) (c_X9_writeDigit G (r11 a0 2) r11 r13 h14) cs_Tree_128 wd_806 wd_808 ws_31 tg_41 rfl rfl rfl (Nat.le_of_ble_eq_true rfl) ⟨rfl, rfl⟩ ⟨by decide, by decide⟩ ⟨by decide, by decide⟩ d_X9_spellLeaf_27 ?_
    refine j_aload_n rfl d_X9_spellLeaf_30 rfl ?_
    refine j_geti fl_Tree_101 ht1 d_X9_spellLeaf_31 ?_
    refine j_iconst ⟨by decide, by decide⟩ d_X9_spellLeaf_34 ?_
    refine j_icmp_ne (tgt := 44) d_X9_spellLeaf_35 (by decide) (fun h15 => ?_) (fun h15 => ?_)
    · exact j_vret d_X9_spellLeaf_44 rfl rfl ⟨rfl, rfl⟩
    · refine j_aload_n rfl d_X9_spellLeaf_38 rfl ?_
      refine j_bipush ⟨by decide, by decide⟩ (by decide +kernel) d_X9_spellLeaf_39 ?_
      refine j_bind (fun r16 h17 => ?_)
      refine j_callV (y := y_X9_write) (I' := i_X9_write) (avs := [.inl 33]) (c := 41) (st := []) (c_X9_write G 33 r13 r16 h17) cs_Tree_120 wd_798 wd_800 ws_29 tg_41 rfl rfl rfl (Nat.le_of_ble_eq_true rfl) ⟨rfl, rfl⟩ ⟨by decide, by decide⟩ ⟨by decide, by decide⟩ d_X9_spellLeaf_41 ?_
      exact j_vret d_X9_spellLeaf_44 rfl rfl ⟨rfl, rfl⟩
set_option maxHeartbeats 4000000 in
set_option maxRecDepth 100000 in
theorem c_X9_spellLeaf (G : tp_G) (a0 : Int) (M0 : tp_M) (r : tp_M) (h : f_X9_spellLeaf a0 M0 = some r) (l : Launch) : Met l y_X9_spellLeaf (tp_ws y_X9_spellLeaf i_X9_spellLeaf) (tp_rm 2) (tp_Pc G [.inr (.inr 41), .inr (.inr a0)] tp_NC (tp_st M0)) (tp_Q G (o_X9_spellLeaf r)) 0 0 (tp_A G) :=
  tp_met (I := i_X9_spellLeaf) (y := y_X9_spellLeaf) (by decide +kernel) (Eq.refl "TypesAtPrime$Tree") (Eq.refl "spellLeaf") (lv := [some (.inr (.inr 41)), some (.inr (.inr a0)), none]) rfl (Nat.le_of_ble_eq_true rfl) (T_X9_spellLeaf G a0 M0) h l
theorem wd_805 : (.code ⟨"TypesAtPrime$Tree", "spellLeaf", "(LTypesAtPrime$Leaf;)V"⟩ prog_11_method_14_code 3 (none : Option Jvm.ClassFile.FieldType) : Cond) ∈ lw_tbl := List.mem_append_right _ (List.mem_of_getElem? (i := 805) (by decide +kernel))
theorem cs_Tree_124 : tp_CS "TypesAtPrime$Tree" 124 y_X9_spellLeaf i_X9_spellLeaf 1 := ⟨wd_805, wd_6, by decide, by decide, by decide +kernel⟩
theorem wd_802 : (.methodLink "TypesAtPrime$Tree" 124 ⟨"TypesAtPrime$Tree", "spellLeaf", "(LTypesAtPrime$Leaf;)V"⟩ : Cond) ∈ lw_tbl := List.mem_append_right _ (List.mem_of_getElem? (i := 802) (by decide +kernel))
theorem wd_804 : (.instanceMethod ⟨"TypesAtPrime$Tree", "spellLeaf", "(LTypesAtPrime$Leaf;)V"⟩ : Cond) ∈ lw_tbl := List.mem_append_right _ (List.mem_of_getElem? (i := 804) (by decide +kernel))
theorem ws_30 : (.selects "TypesAtPrime$Tree" ⟨"TypesAtPrime$Tree", "spellLeaf", "(LTypesAtPrime$Leaf;)V"⟩ ⟨"TypesAtPrime$Tree", "spellLeaf", "(LTypesAtPrime$Leaf;)V"⟩ : Cond) ∈ lw_tbl := List.mem_append_left _ (List.mem_of_getElem? (i := 30) (by decide +kernel))
def y_X9_spell : MethodName := ⟨"TypesAtPrime$Tree", "spell", "()V"⟩
abbrev i_X9_spell : tp_I := (prog_11_method_13_code, "TypesAtPrime$Tree", none, 3, "spell")
abbrev o_X9_spell : tp_M → tp_O := fun r => (none, tp_NC, tp_st r)
theorem d_X9_spell_0 : decode prog_11_method_13_code 0 = .ok (.aload_n 0, 1) := by decide +kernel
theorem d_X9_spell_1 : decode prog_11_method_13_code 1 = .ok (.iconst 0, 1) := by decide +kernel
theorem d_X9_spell_2 : decode prog_11_method_13_code 2 = .ok (.putfield 53, 3) := by decide +kernel
theorem d_X9_spell_5 : decode prog_11_method_13_code 5 = .ok (.iconst 0, 1) := by decide +kernel
theorem d_X9_spell_6 : decode prog_11_method_13_code 6 = .ok (.istore_n 1, 1) := by decide +kernel
theorem d_X9_spell_7 : decode prog_11_method_13_code 7 = .ok (.iload_n 1, 1) := by decide +kernel
theorem d_X9_spell_8 : decode prog_11_method_13_code 8 = .ok (.aload_n 0, 1) := by decide +kernel
theorem d_X9_spell_9 : decode prog_11_method_13_code 9 = .ok (.getfield 50, 3) := by decide +kernel
theorem d_X9_spell_12 : decode prog_11_method_13_code 12 = .ok (.if_icmp .ge 37, 3) := by decide +kernel
theorem d_X9_spell_15 : decode prog_11_method_13_code 15 = .ok (.aload_n 0, 1) := by decide +kernel
theorem d_X9_spell_16 : decode prog_11_method_13_code 16 = .ok (.iload_n 1, 1) := by decide +kernel
theorem d_X9_spell_17 : decode prog_11_method_13_code 17 = .ok (.invokevirtual 97, 3) := by decide +kernel
theorem d_X9_spell_20 : decode prog_11_method_13_code 20 = .ok (.astore_n 2, 1) := by decide +kernel
theorem d_X9_spell_21 : decode prog_11_method_13_code 21 = .ok (.aload_n 2, 1) := by decide +kernel
theorem d_X9_spell_22 : decode prog_11_method_13_code 22 = .ok (.ifnonnull 6, 3) := by decide +kernel
theorem d_X9_spell_25 : decode prog_11_method_13_code 25 = .ok (.goto 18, 3) := by decide +kernel
theorem d_X9_spell_28 : decode prog_11_method_13_code 28 = .ok (.iload_n 1, 1) := by decide +kernel
theorem d_X9_spell_29 : decode prog_11_method_13_code 29 = .ok (.ifCond .le 9, 3) := by decide +kernel
theorem d_X9_spell_32 : decode prog_11_method_13_code 32 = .ok (.aload_n 0, 1) := by decide +kernel
theorem d_X9_spell_33 : decode prog_11_method_13_code 33 = .ok (.bipush 43, 2) := by decide +kernel
theorem d_X9_spell_35 : decode prog_11_method_13_code 35 = .ok (.invokevirtual 120, 3) := by decide +kernel
theorem d_X9_spell_38 : decode prog_11_method_13_code 38 = .ok (.aload_n 0, 1) := by decide +kernel
theorem d_X9_spell_39 : decode prog_11_method_13_code 39 = .ok (.aload_n 2, 1) := by decide +kernel
theorem d_X9_spell_40 : decode prog_11_method_13_code 40 = .ok (.invokevirtual 124, 3) := by decide +kernel
theorem d_X9_spell_43 : decode prog_11_method_13_code 43 = .ok (.iinc 1 1, 3) := by decide +kernel
theorem d_X9_spell_46 : decode prog_11_method_13_code 46 = .ok (.goto (-39), 3) := by decide +kernel
theorem d_X9_spell_49 : decode prog_11_method_13_code 49 = .ok (.return_, 1) := by decide +kernel
def f_X9_spell_43 (rec_7 : Int → tp_M → Option (tp_M)) (x1 : Int) (M0 : tp_M) : Option (tp_M) :=
  tp_lt (tp_w (x1 + 1)) fun y6 =>
  rec_7 y6 M0
set_option maxHeartbeats 4000000 in
set_option maxRecDepth 100000 in
theorem T_X9_spell_43 (G : tp_G) (rec_7 : Int → tp_M → Option (tp_M)) (x1 : Int) (M0 : tp_M) (hrec_7 : ∀ (x1' : Int) (M' : tp_M), tp_J i_X9_spell (tp_rm 3) G 0 0 o_X9_spell tp_NC (tp_st M') 0 0 [some (.inr (.inr 41)), some (.inl (x1')), none] 7 [] (rec_7 x1' M')) : tp_J i_X9_spell (tp_rm 3) G 0 0 o_X9_spell tp_NC (tp_st M0) 0 0 [some (.inr (.inr 41)), some (.inl x1), none] 43 [] (f_X9_spell_43 rec_7 x1 M0) := by
  unfold f_X9_spell_43
  refine j_iincN (lv' := fun y6 => [some (.inr (.inr 41)), some (.inl y6), none]) d_X9_spell_43 rfl (Nat.le_of_ble_eq_true rfl) (fun _ => rfl) (fun y6 hy6 => ?_)
  refine j_goto (tgt := 7) d_X9_spell_46 (by decide) ?_
  exact j_wk [true, true, false] rfl rfl (hrec_7 y6 M0)
def f_X9_spell_38 (rec_7 : Int → tp_M → Option (tp_M)) (x1 : Int) (x2 : Int) (M0 : tp_M) : Option (tp_M) :=
  (f_X9_spellLeaf x2 M0).bind fun r8 =>
  f_X9_spell_43 rec_7 x1 r8
set_option maxHeartbeats 4000000 in
set_option maxRecDepth 100000 in
theorem T_X9_spell_38 (G : tp_G) (rec_7 : Int → tp_M → Option (tp_M)) (x1 : Int) (x2 : Int) (M0 : tp_M) (hrec_7 : ∀ (x1' : Int) (M' : tp_M), tp_J i_X9_spell (tp_rm 3) G 0 0 o_X9_spell tp_NC (tp_st M') 0 0 [some (.inr (.inr 41)), some (.inl (x1')), none] 7 [] (rec_7 x1' M')) : tp_J i_X9_spell (tp_rm 3) G 0 0 o_X9_spell tp_NC (tp_st M0) 0 0 [some (.inr (.inr 41)), some (.inl x1), some (.inr (.inr x2))] 38 [] (f_X9_spell_38 rec_7 x1 x2 M0) := by
  unfold f_X9_spell_38
  refine j_aload_n rfl d_X9_spell_38 rfl ?_
  refine j_aload_n rfl d_X9_spell_39 rfl ?_
  refine j_bind (fun r8 h9 => ?_)
  refine j_callV (y := y_X9_spellLeaf) (I' := i_X9_spellLeaf) (avs := [.inr (.inr x2)]) (c := 41) (st := []) (c_X9_spellLeaf G x2 M0 r8 h9) cs_Tree_124 wd_802 wd_804 ws_30 tg_41 rfl rfl rfl (Nat.le_of_ble_eq_true rfl) ⟨rfl, rfl⟩ ⟨by decide, by decide⟩ ⟨by decide, by decide⟩ d_X9_spell_40 ?_
  exact j_wk [true, true, false] rfl rfl (T_X9_spell_43 G rec_7 x1 r8 hrec_7)
def f_X9_spell_7B (rec_7 : Int → tp_M → Option (tp_M)) (x1 : Int) (M0 : tp_M) : Option (tp_M) :=
  if (M0 41 3) ≤ x1 then
    some M0
  else
    (f_X9_leafAt x1 M0).bind fun r3 =>
    if r3 = -1 then
      f_X9_spell_43 rec_7 x1 M0
    else
      if x1 ≤ 0 then
        f_X9_spell_38 rec_7 x1 r3 M0
      else
        (f_X9_write 43 M0).bind fun r10 =>
        f_X9_spell_38 rec_7 x1 r3 r10
set_option maxHeartbeats 4000000 in
set_option maxRecDepth 100000 in
theorem T_X9_spell_7B (G : tp_G) (rec_7 : Int → tp_M → Option (tp_M)) (hrec_7 : ∀ (x1' : Int) (M' : tp_M), tp_J i_X9_spell (tp_rm 3) G 0 0 o_X9_spell tp_NC (tp_st M') 0 0 [some (.inr (.inr 41)), some (.inl (x1')), none] 7 [] (rec_7 x1' M')) (x1 : Int) (M0 : tp_M) : tp_J i_X9_spell (tp_rm 3) G 0 0 o_X9_spell tp_NC (tp_st M0) 0 0 [some (.inr (.inr 41)), some (.inl x1), none] 7 [] (f_X9_spell_7B rec_7 x1 M0) := by
  unfold f_X9_spell_7B
  refine j_iload_n rfl d_X9_spell_7 rfl ?_
  refine j_aload_n rfl d_X9_spell_8 rfl ?_
  refine j_geti fl_Tree_50 tg_41 d_X9_spell_9 ?_
  refine j_icmp_ge (tgt := 49) d_X9_spell_12 (by decide) (fun h2 => ?_) (fun h2 => ?_)
  · exact j_vret d_X9_spell_49 rfl rfl ⟨rfl, rfl⟩
  · refine j_aload_n rfl d_X9_spell_15 rfl ?_
    refine j_iload_n rfl d_X9_spell_16 rfl ?_
    refine j_bind (fun r3 h4 => ?_)
    refine j_callV (y := y_X9_leafAt) (I' := i_X9_leafAt) (avs := [.inl x1]) (c := 41) (st := []) (c_X9_leafAt G x1 M0 r3 h4) cs_Tree_97 wd_651 wd_652 wd_653 tg_41 rfl rfl rfl (Nat.le_of_ble_eq_true rfl) ⟨rfl, rfl⟩ ⟨by decide, by decide⟩ ⟨by decide, by decide⟩ d_X9_spell_17 ?_
    refine j_astore_n (lv' := [some (.inr (.inr 41)), some (.inl x1), some (.inr (.inr r3))]) rfl d_X9_spell_20 (Nat.le_of_ble_eq_true rfl) rfl ?_
    refine j_aload_n rfl d_X9_spell_21 rfl ?_
    refine j_ifnonnull (tgt := 28) d_X9_spell_22 (by decide) (fun h5 => ?_) (fun h5 => ?_)
    · refine j_goto (tgt := 43) d_X9_spell_25 (by decide) ?_
      exact j_wk [true, true, false] rfl rfl (T_X9_spell_43 G rec_7 x1 M0 hrec_7)
    · refine j_iload_n rfl d_X9_spell_28 rfl ?_
      refine j_if_le (tgt := 38) d_X9_spell_29 (by decide) (fun h7 => ?_) (fun h7 => ?_)
      · exact j_wk [true, true, true] rfl rfl (T_X9_spell_38 G rec_7 x1 r3 M0 hrec_7)
      · refine j_aload_n rfl d_X9_spell_32 rfl ?_
        refine j_bipush ⟨by decide, by decide⟩ (by decide +kernel) d_X9_spell_33 ?_
        refine j_bind (fun r10 h11 => ?_)
        refine j_callV (y := y_X9_write) (I' := i_X9_write) (avs := [.inl 43]) (c := 41) (st := []) (c_X9_write G 43 M0 r10 h11) cs_Tree_120 wd_798 wd_800 ws_29 tg_41 rfl rfl rfl (Nat.le_of_ble_eq_true rfl) ⟨rfl, rfl⟩ ⟨by decide, by decide⟩ ⟨by decide, by decide⟩ d_X9_spell_35 ?_
        exact j_wk [true, true, true] rfl rfl (T_X9_spell_38 G rec_7 x1 r3 r10 hrec_7)
def f_X9_spell_7 (x1 : Int) (M0 : tp_M) : Option (tp_M) := tp_lp (σ := Int × tp_M) (fun rec_ u => f_X9_spell_7B (fun x1' M0' => rec_ (x1', M0')) u.1 u.2) tp_N (x1, M0)
set_option maxHeartbeats 4000000 in
set_option maxRecDepth 100000 in
theorem T_X9_spell_7 (G : tp_G) (x1 : Int) (M0 : tp_M) : tp_J i_X9_spell (tp_rm 3) G 0 0 o_X9_spell tp_NC (tp_st M0) 0 0 [some (.inr (.inr 41)), some (.inl x1), none] 7 [] (f_X9_spell_7 x1 M0) := by
  unfold f_X9_spell_7
  exact j_lp (σ := Int × tp_M) (n' := fun _ => tp_NC) (g' := fun u => tp_st u.2) (k' := fun _ => 0) (q' := fun _ => 0) (lv' := fun u => [some (.inr (.inr 41)), some (.inl u.1), none]) (fun rec_ hrec u => T_X9_spell_7B G (fun x1' M0' => rec_ (x1', M0')) (fun x1' M0' => hrec (x1', M0')) u.1 u.2) tp_N (x1, M0)
def f_X9_spell (M0 : tp_M) : Option (tp_M) :=
  tp_mp (tp_up M0 41 4 0) fun M1 =>
  f_X9_spell_7 0 M1
set_option maxHeartbeats 4000000 in
set_option maxRecDepth 100000 in
theorem T_X9_spell (G : tp_G) (M0 : tp_M) : tp_J i_X9_spell (tp_rm 3) G 0 0 o_X9_spell tp_NC (tp_st M0) 0 0 [some (.inr (.inr 41)), none, none] 0 [] (f_X9_spell M0) := by
  unfold f_X9_spell
  refine j_aload_n rfl d_X9_spell_0 rfl ?_
  refine j_iconst ⟨by decide, by decide⟩ d_X9_spell_1 ?_
  refine j_put (z := 0) (v := 0) fl_Tree_53 (by decide) tg_41 (pf_9_4 _) pt_9 d_X9_spell_2 (fun M1 hM1 => ?_)
  refine j_iconst ⟨by decide, by decide⟩ d_X9_spell_5 ?_
  refine j_istore_n (lv' := [some (.inr (.inr 41)), some (.inl 0), none]) rfl d_X9_spell_6 (Nat.le_of_ble_eq_true rfl) rfl ?_
  exact j_wk [true, true, false] rfl rfl (T_X9_spell_7 G 0 M1)
set_option maxHeartbeats 4000000 in
set_option maxRecDepth 100000 in
theorem c_X9_spell (G : tp_G) (M0 : tp_M) (r : tp_M) (h : f_X9_spell M0 = some r) (l : Launch) : Met l y_X9_spell (tp_ws y_X9_spell i_X9_spell) (tp_rm 3) (tp_Pc G [.inr (.inr 41)] tp_NC (tp_st M0)) (tp_Q G (o_X9_spell r)) 0 0 (tp_A G) :=
  tp_met (I := i_X9_spell) (y := y_X9_spell) (by decide +kernel) (Eq.refl "TypesAtPrime$Tree") (Eq.refl "spell") (lv := [some (.inr (.inr 41)), none, none]) rfl (Nat.le_of_ble_eq_true rfl) (T_X9_spell G M0) h l
theorem tg_0 : tp_tg 0 = 10 := by decide +kernel
theorem wd_411 : (.fieldLink "TypesAtPrime" 86 "TypesAtPrime" "tapeSize" "I" : Cond) ∈ lw_tbl := List.mem_append_right _ (List.mem_of_getElem? (i := 411) (by decide +kernel))
theorem fl_Main_86 : tp_F "TypesAtPrime" 86 10 2 0 := ⟨_, _, _, rfl, by decide, rfl, wd_411, rfl, by decide⟩
theorem wd_410 : (.fieldLink "TypesAtPrime" 18 "TypesAtPrime" "tape" "[B" : Cond) ∈ lw_tbl := List.mem_append_right _ (List.mem_of_getElem? (i := 410) (by decide +kernel))
theorem fl_Main_18 : tp_F "TypesAtPrime" 18 10 1 2 := ⟨_, _, _, rfl, by decide, rfl, wd_410, rfl, by decide⟩
theorem tg_2 : tp_tg 2 = 20 := by decide +kernel
theorem al_2 : tp_al 2 = 80 := by decide +kernel
theorem rv_0_1 : tp_rv 0 1 = 2 := by decide +kernel
theorem pf_10_2 (v : Int) : ∀ (C : String) (T : u_T) (N : Nat), vwCl[10]? = some (C, T, N) → (T 2).2.2.2 = false ∧ ∀ G : tp_G, ∃ ty, parseFieldDescriptor (T 2).2.2.1 = some ty ∧ narrow ty (tp_enc G (tp_zv 0 v)) = tp_enc G (tp_zv 0 v) ∧ fits ty (tp_enc G (tp_zv 0 v)) = true := by
  intro C T N h
  cases h
  exact ⟨rfl, fun G => ⟨_, tyX10_ok 2 (by decide), rfl, rfl⟩⟩
theorem pt_10 : ∃ ty0 : Nat → FieldType, ∀ (C : String) (T : u_T) (N : Nat), vwCl[10]? = some (C, T, N) → (∀ k, k < N → parseFieldDescriptor (T k).2.2.1 = some (ty0 k)) ∧ ∀ a, a < N → ∀ b, b < N → a ≠ b → (T a).2.1 ≠ (T b).2.1 := ⟨tyX10, fun C T N h => by cases h; exact ⟨tyX10_ok, nmX10⟩⟩
def y_X10_feed : MethodName := ⟨"TypesAtPrime", "feed", "(I)I"⟩
abbrev i_X10_feed : tp_I := (prog_1_method_3_code, "TypesAtPrime", (some .int), 2, "feed")
abbrev o_X10_feed : Int × tp_M → tp_O := fun r => (some (.inl r.1), tp_NC, tp_st r.2)
theorem d_X10_feed_0 : decode prog_1_method_3_code 0 = .ok (.iload_n 1, 1) := by decide +kernel
theorem d_X10_feed_1 : decode prog_1_method_3_code 1 = .ok (.ifCond .lt 9, 3) := by decide +kernel
theorem d_X10_feed_4 : decode prog_1_method_3_code 4 = .ok (.iload_n 1, 1) := by decide +kernel
theorem d_X10_feed_5 : decode prog_1_method_3_code 5 = .ok (.bipush 127, 2) := by decide +kernel
theorem d_X10_feed_7 : decode prog_1_method_3_code 7 = .ok (.if_icmp .le 5, 3) := by decide +kernel
theorem d_X10_feed_10 : decode prog_1_method_3_code 10 = .ok (.iconst (-1), 1) := by decide +kernel
theorem d_X10_feed_11 : decode prog_1_method_3_code 11 = .ok (.ireturn, 1) := by decide +kernel
theorem d_X10_feed_12 : decode prog_1_method_3_code 12 = .ok (.aload_n 0, 1) := by decide +kernel
theorem d_X10_feed_13 : decode prog_1_method_3_code 13 = .ok (.getfield 86, 3) := by decide +kernel
theorem d_X10_feed_16 : decode prog_1_method_3_code 16 = .ok (.ifCond .lt 15, 3) := by decide +kernel
theorem d_X10_feed_19 : decode prog_1_method_3_code 19 = .ok (.aload_n 0, 1) := by decide +kernel
theorem d_X10_feed_20 : decode prog_1_method_3_code 20 = .ok (.getfield 86, 3) := by decide +kernel
theorem d_X10_feed_23 : decode prog_1_method_3_code 23 = .ok (.aload_n 0, 1) := by decide +kernel
theorem d_X10_feed_24 : decode prog_1_method_3_code 24 = .ok (.getfield 18, 3) := by decide +kernel
theorem d_X10_feed_27 : decode prog_1_method_3_code 27 = .ok (.arraylength, 1) := by decide +kernel
theorem d_X10_feed_28 : decode prog_1_method_3_code 28 = .ok (.if_icmp .lt 6, 3) := by decide +kernel
theorem d_X10_feed_31 : decode prog_1_method_3_code 31 = .ok (.bipush (-4), 2) := by decide +kernel
theorem d_X10_feed_33 : decode prog_1_method_3_code 33 = .ok (.ireturn, 1) := by decide +kernel
theorem d_X10_feed_34 : decode prog_1_method_3_code 34 = .ok (.aload_n 0, 1) := by decide +kernel
theorem d_X10_feed_35 : decode prog_1_method_3_code 35 = .ok (.getfield 18, 3) := by decide +kernel
theorem d_X10_feed_38 : decode prog_1_method_3_code 38 = .ok (.aload_n 0, 1) := by decide +kernel
theorem d_X10_feed_39 : decode prog_1_method_3_code 39 = .ok (.getfield 86, 3) := by decide +kernel
theorem d_X10_feed_42 : decode prog_1_method_3_code 42 = .ok (.iload_n 1, 1) := by decide +kernel
theorem d_X10_feed_43 : decode prog_1_method_3_code 43 = .ok (.i2b, 1) := by decide +kernel
theorem d_X10_feed_44 : decode prog_1_method_3_code 44 = .ok (.bastore, 1) := by decide +kernel
theorem d_X10_feed_45 : decode prog_1_method_3_code 45 = .ok (.aload_n 0, 1) := by decide +kernel
theorem d_X10_feed_46 : decode prog_1_method_3_code 46 = .ok (.dup, 1) := by decide +kernel
theorem d_X10_feed_47 : decode prog_1_method_3_code 47 = .ok (.getfield 86, 3) := by decide +kernel
theorem d_X10_feed_50 : decode prog_1_method_3_code 50 = .ok (.iconst 1, 1) := by decide +kernel
theorem d_X10_feed_51 : decode prog_1_method_3_code 51 = .ok (.iadd, 1) := by decide +kernel
theorem d_X10_feed_52 : decode prog_1_method_3_code 52 = .ok (.putfield 86, 3) := by decide +kernel
theorem d_X10_feed_55 : decode prog_1_method_3_code 55 = .ok (.aload_n 0, 1) := by decide +kernel
theorem d_X10_feed_56 : decode prog_1_method_3_code 56 = .ok (.getfield 86, 3) := by decide +kernel
theorem d_X10_feed_59 : decode prog_1_method_3_code 59 = .ok (.ireturn, 1) := by decide +kernel
def f_X10_feed (a0 : Int) (M0 : tp_M) : Option (Int × tp_M) :=
  if a0 < 0 then
    some ((-1), M0)
  else
    if a0 ≤ 127 then
      if (M0 0 2) < 0 then
        some ((-4), M0)
      else
        if (M0 0 2) < 80 then
          if 0 ≤ (M0 0 2) ∧ (M0 0 2) < 80 then
            tp_mp (tp_up M0 2 (M0 0 2) (tp_b (tp_b a0))) fun M5 =>
            tp_mp (tp_up M5 0 2 (tp_w ((M5 0 2) + 1))) fun M6 =>
            some ((M6 0 2), M6) else none
        else
          some ((-4), M0)
    else
      some ((-1), M0)
set_option maxHeartbeats 4000000 in
set_option maxRecDepth 100000 in
theorem T_X10_feed (G : tp_G) (a0 : Int) (M0 : tp_M) : tp_J i_X10_feed (tp_rm 0) G 0 0 o_X10_feed tp_NC (tp_st M0) 0 0 [some (.inr (.inr 0)), some (.inl a0)] 0 [] (f_X10_feed a0 M0) := by
  unfold f_X10_feed
  refine j_iload_n rfl d_X10_feed_0 rfl ?_
  refine j_if_lt (tgt := 10) d_X10_feed_1 (by decide) (fun h1 => ?_) (fun h1 => ?_)
  · refine j_iconst ⟨by decide, by decide⟩ d_X10_feed_10 ?_
    exact j_iret d_X10_feed_11 rfl rfl ⟨rfl, rfl⟩
  · refine j_iload_n rfl d_X10_feed_4 rfl ?_
    refine j_bipush ⟨by decide, by decide⟩ (by decide +kernel) d_X10_feed_5 ?_
    refine j_icmp_le (tgt := 12) d_X10_feed_7 (by decide) (fun h2 => ?_) (fun h2 => ?_)
    · refine j_aload_n rfl d_X10_feed_12 rfl ?_
      refine j_geti fl_Main_86 tg_0 d_X10_feed_13 ?_
      refine j_if_lt (tgt := 31) d_X10_feed_16 (by decide) (fun h3 => ?_) (fun h3 => ?_)
      · refine j_bipush ⟨by decide, by decide⟩ (by decide +kernel) d_X10_feed_31 ?_
        exact j_iret d_X10_feed_33 rfl rfl ⟨rfl, rfl⟩
      · refine j_aload_n rfl d_X10_feed_19 rfl ?_
        refine j_geti fl_Main_86 tg_0 d_X10_feed_20 ?_
        refine j_aload_n rfl d_X10_feed_23 rfl ?_
        refine j_getr fl_Main_18 tg_0 rv_0_1 d_X10_feed_24 ?_
        refine j_alen tg_2 (by decide) al_2 ⟨by decide, by decide⟩ (ty := .byte) (by decide) d_X10_feed_27 ?_
        refine j_icmp_lt (tgt := 34) d_X10_feed_28 (by decide) (fun h4 => ?_) (fun h4 => ?_)
        · refine j_aload_n rfl d_X10_feed_34 rfl ?_
          refine j_getr fl_Main_18 tg_0 rv_0_1 d_X10_feed_35 ?_
          refine j_aload_n rfl d_X10_feed_38 rfl ?_
          refine j_geti fl_Main_86 tg_0 d_X10_feed_39 ?_
          refine j_iload_n rfl d_X10_feed_42 rfl ?_
          refine j_i2b d_X10_feed_43 ?_
          refine j_bast tg_2 al_2 d_X10_feed_44 (fun M5 hM5 => ?_)
          refine j_aload_n rfl d_X10_feed_45 rfl ?_
          refine j_dup d_X10_feed_46 (fun G => tp_cat G _) ?_
          refine j_geti fl_Main_86 tg_0 d_X10_feed_47 ?_
          refine j_iconst ⟨by decide, by decide⟩ d_X10_feed_50 ?_
          refine j_iadd d_X10_feed_51 ?_
          refine j_put (z := 0) (v := (tp_w ((M5 0 2) + 1))) fl_Main_86 (by decide) tg_0 (pf_10_2 _) pt_10 d_X10_feed_52 (fun M6 hM6 => ?_)
          refine j_aload_n rfl d_X10_feed_55 rfl ?_
          refine j_geti fl_Main_86 tg_0 d_X10_feed_56 ?_
          exact j_iret d_X10_feed_59 rfl rfl ⟨rfl, rfl⟩
        · refine j_bipush ⟨by decide, by decide⟩ (by decide +kernel) d_X10_feed_31 ?_
          exact j_iret d_X10_feed_33 rfl rfl ⟨rfl, rfl⟩
    · refine j_iconst ⟨by decide, by decide⟩ d_X10_feed_10 ?_
      exact j_iret d_X10_feed_11 rfl rfl ⟨rfl, rfl⟩
set_option maxHeartbeats 4000000 in
set_option maxRecDepth 100000 in
theorem c_X10_feed (G : tp_G) (a0 : Int) (M0 : tp_M) (r : Int × tp_M) (h : f_X10_feed a0 M0 = some r) (l : Launch) : Met l y_X10_feed (tp_ws y_X10_feed i_X10_feed) (tp_rm 0) (tp_Pc G [.inr (.inr 0), .inl a0] tp_NC (tp_st M0)) (tp_Q G (o_X10_feed r)) 0 0 (tp_A G) :=
  tp_met (I := i_X10_feed) (y := y_X10_feed) (by decide +kernel) (Eq.refl "TypesAtPrime") (Eq.refl "feed") (lv := [some (.inr (.inr 0)), some (.inl a0)]) rfl (Nat.le_of_ble_eq_true rfl) (T_X10_feed G a0 M0) h l
def y_X10_wipe : MethodName := ⟨"TypesAtPrime", "wipe", "()I"⟩
abbrev i_X10_wipe : tp_I := (prog_1_method_4_code, "TypesAtPrime", (some .int), 2, "wipe")
abbrev o_X10_wipe : Int × tp_M → tp_O := fun r => (some (.inl r.1), tp_NC, tp_st r.2)
theorem d_X10_wipe_0 : decode prog_1_method_4_code 0 = .ok (.aload_n 0, 1) := by decide +kernel
theorem d_X10_wipe_1 : decode prog_1_method_4_code 1 = .ok (.getfield 86, 3) := by decide +kernel
theorem d_X10_wipe_4 : decode prog_1_method_4_code 4 = .ok (.istore_n 1, 1) := by decide +kernel
theorem d_X10_wipe_5 : decode prog_1_method_4_code 5 = .ok (.aload_n 0, 1) := by decide +kernel
theorem d_X10_wipe_6 : decode prog_1_method_4_code 6 = .ok (.iconst 0, 1) := by decide +kernel
theorem d_X10_wipe_7 : decode prog_1_method_4_code 7 = .ok (.putfield 86, 3) := by decide +kernel
theorem d_X10_wipe_10 : decode prog_1_method_4_code 10 = .ok (.iload_n 1, 1) := by decide +kernel
theorem d_X10_wipe_11 : decode prog_1_method_4_code 11 = .ok (.ireturn, 1) := by decide +kernel
def f_X10_wipe (M0 : tp_M) : Option (Int × tp_M) :=
  tp_lt ((M0 0 2)) fun y1 =>
  tp_mp (tp_up M0 0 2 0) fun M2 =>
  some (y1, M2)
set_option maxHeartbeats 4000000 in
set_option maxRecDepth 100000 in
theorem T_X10_wipe (G : tp_G) (M0 : tp_M) : tp_J i_X10_wipe (tp_rm 0) G 0 0 o_X10_wipe tp_NC (tp_st M0) 0 0 [some (.inr (.inr 0)), none] 0 [] (f_X10_wipe M0) := by
  unfold f_X10_wipe
  refine j_aload_n rfl d_X10_wipe_0 rfl ?_
  refine j_geti fl_Main_86 tg_0 d_X10_wipe_1 ?_
  refine j_nmI (fun y1 hy1 => ?_)
  refine j_istore_n (lv' := [some (.inr (.inr 0)), some (.inl y1)]) rfl d_X10_wipe_4 (Nat.le_of_ble_eq_true rfl) rfl ?_
  refine j_aload_n rfl d_X10_wipe_5 rfl ?_
  refine j_iconst ⟨by decide, by decide⟩ d_X10_wipe_6 ?_
  refine j_put (z := 0) (v := 0) fl_Main_86 (by decide) tg_0 (pf_10_2 _) pt_10 d_X10_wipe_7 (fun M2 hM2 => ?_)
  refine j_iload_n rfl d_X10_wipe_10 rfl ?_
  exact j_iret d_X10_wipe_11 rfl rfl ⟨rfl, rfl⟩
set_option maxHeartbeats 4000000 in
set_option maxRecDepth 100000 in
theorem c_X10_wipe (G : tp_G) (M0 : tp_M) (r : Int × tp_M) (h : f_X10_wipe M0 = some r) (l : Launch) : Met l y_X10_wipe (tp_ws y_X10_wipe i_X10_wipe) (tp_rm 0) (tp_Pc G [.inr (.inr 0)] tp_NC (tp_st M0)) (tp_Q G (o_X10_wipe r)) 0 0 (tp_A G) :=
  tp_met (I := i_X10_wipe) (y := y_X10_wipe) (by decide +kernel) (Eq.refl "TypesAtPrime") (Eq.refl "wipe") (lv := [some (.inr (.inr 0)), none]) rfl (Nat.le_of_ble_eq_true rfl) (T_X10_wipe G M0) h l
def y_X10_isSlot : MethodName := ⟨"TypesAtPrime", "isSlot", "(I)Z"⟩
abbrev i_X10_isSlot : tp_I := (prog_1_method_34_code, "TypesAtPrime", (some .boolean), 1, "isSlot")
abbrev o_X10_isSlot (M : tp_M) : Int → tp_O := fun r => (some (.inl r), tp_NC, tp_st M)
theorem d_X10_isSlot_0 : decode prog_1_method_34_code 0 = .ok (.iload_n 0, 1) := by decide +kernel
theorem d_X10_isSlot_1 : decode prog_1_method_34_code 1 = .ok (.ifCond .lt 12, 3) := by decide +kernel
theorem d_X10_isSlot_4 : decode prog_1_method_34_code 4 = .ok (.iload_n 0, 1) := by decide +kernel
theorem d_X10_isSlot_5 : decode prog_1_method_34_code 5 = .ok (.iconst 5, 1) := by decide +kernel
theorem d_X10_isSlot_6 : decode prog_1_method_34_code 6 = .ok (.if_icmp .ge 7, 3) := by decide +kernel
theorem d_X10_isSlot_9 : decode prog_1_method_34_code 9 = .ok (.iconst 1, 1) := by decide +kernel
theorem d_X10_isSlot_10 : decode prog_1_method_34_code 10 = .ok (.goto 4, 3) := by decide +kernel
theorem d_X10_isSlot_13 : decode prog_1_method_34_code 13 = .ok (.iconst 0, 1) := by decide +kernel
theorem d_X10_isSlot_14 : decode prog_1_method_34_code 14 = .ok (.ireturn, 1) := by decide +kernel
def f_X10_isSlot (a0 : Int) (M0 : tp_M) : Option (Int) :=
  if a0 < 0 then
    some 0
  else
    if 5 ≤ a0 then
      some 0
    else
      some 1
set_option maxHeartbeats 4000000 in
set_option maxRecDepth 100000 in
theorem T_X10_isSlot (G : tp_G) (a0 : Int) (M0 : tp_M) : tp_J i_X10_isSlot (tp_rm 0) G 0 0 (o_X10_isSlot M0) tp_NC (tp_st M0) 0 0 [some (.inl a0)] 0 [] (f_X10_isSlot a0 M0) := by
  unfold f_X10_isSlot
  refine j_iload_n rfl d_X10_isSlot_0 rfl ?_
  refine j_if_lt (tgt := 13) d_X10_isSlot_1 (by decide) (fun h1 => ?_) (fun h1 => ?_)
  · refine j_iconst ⟨by decide, by decide⟩ d_X10_isSlot_13 ?_
    exact j_zret d_X10_isSlot_14 rfl (Or.inl rfl) rfl ⟨rfl, rfl⟩
  · refine j_iload_n rfl d_X10_isSlot_4 rfl ?_
    refine j_iconst ⟨by decide, by decide⟩ d_X10_isSlot_5 ?_
    refine j_icmp_ge (tgt := 13) d_X10_isSlot_6 (by decide) (fun h2 => ?_) (fun h2 => ?_)
    · refine j_iconst ⟨by decide, by decide⟩ d_X10_isSlot_13 ?_
      exact j_zret d_X10_isSlot_14 rfl (Or.inl rfl) rfl ⟨rfl, rfl⟩
    · refine j_iconst ⟨by decide, by decide⟩ d_X10_isSlot_9 ?_
      refine j_goto (tgt := 14) d_X10_isSlot_10 (by decide) ?_
      exact j_zret d_X10_isSlot_14 rfl (Or.inr rfl) rfl ⟨rfl, rfl⟩
set_option maxHeartbeats 4000000 in
set_option maxRecDepth 100000 in
theorem c_X10_isSlot (G : tp_G) (a0 : Int) (M0 : tp_M) (r : Int) (h : f_X10_isSlot a0 M0 = some r) (l : Launch) : Met l y_X10_isSlot (tp_ws y_X10_isSlot i_X10_isSlot) (tp_rm 0) (tp_Pc G [.inl a0] tp_NC (tp_st M0)) (tp_Q G ((o_X10_isSlot M0) r)) 0 0 (tp_A G) :=
  tp_met (I := i_X10_isSlot) (y := y_X10_isSlot) (by decide +kernel) (Eq.refl "TypesAtPrime") (Eq.refl "isSlot") (lv := [some (.inl a0)]) rfl (Nat.le_of_ble_eq_true rfl) (T_X10_isSlot G a0 M0) h l
theorem wd_510 : (.constantLong "TypesAtPrime" 345 (-9999) : Cond) ∈ lw_tbl := List.mem_append_right _ (List.mem_of_getElem? (i := 510) (by decide +kernel))
theorem wd_511 : (.constantLong "TypesAtPrime" 347 9999 : Cond) ∈ lw_tbl := List.mem_append_right _ (List.mem_of_getElem? (i := 511) (by decide +kernel))
def y_X10_isCoefficient : MethodName := ⟨"TypesAtPrime", "isCoefficient", "(J)Z"⟩
abbrev i_X10_isCoefficient : tp_I := (prog_1_method_36_code, "TypesAtPrime", (some .boolean), 2, "isCoefficient")
abbrev o_X10_isCoefficient (M : tp_M) : Int → tp_O := fun r => (some (.inl r), tp_NC, tp_st M)
theorem d_X10_isCoefficient_0 : decode prog_1_method_36_code 0 = .ok (.lload_n 0, 1) := by decide +kernel
theorem d_X10_isCoefficient_1 : decode prog_1_method_36_code 1 = .ok (.ldc2_w 345, 3) := by decide +kernel
theorem d_X10_isCoefficient_4 : decode prog_1_method_36_code 4 = .ok (.lcmp, 1) := by decide +kernel
theorem d_X10_isCoefficient_5 : decode prog_1_method_36_code 5 = .ok (.ifCond .lt 15, 3) := by decide +kernel
theorem d_X10_isCoefficient_8 : decode prog_1_method_36_code 8 = .ok (.lload_n 0, 1) := by decide +kernel
theorem d_X10_isCoefficient_9 : decode prog_1_method_36_code 9 = .ok (.ldc2_w 347, 3) := by decide +kernel
theorem d_X10_isCoefficient_12 : decode prog_1_method_36_code 12 = .ok (.lcmp, 1) := by decide +kernel
theorem d_X10_isCoefficient_13 : decode prog_1_method_36_code 13 = .ok (.ifCond .gt 7, 3) := by decide +kernel
theorem d_X10_isCoefficient_16 : decode prog_1_method_36_code 16 = .ok (.iconst 1, 1) := by decide +kernel
theorem d_X10_isCoefficient_17 : decode prog_1_method_36_code 17 = .ok (.goto 4, 3) := by decide +kernel
theorem d_X10_isCoefficient_20 : decode prog_1_method_36_code 20 = .ok (.iconst 0, 1) := by decide +kernel
theorem d_X10_isCoefficient_21 : decode prog_1_method_36_code 21 = .ok (.ireturn, 1) := by decide +kernel
def f_X10_isCoefficient (a0 : Int) (M0 : tp_M) : Option (Int) :=
  if a0 < (-9999) then
    some 0
  else
    if 9999 < a0 then
      some 0
    else
      some 1
set_option maxHeartbeats 4000000 in
set_option maxRecDepth 100000 in
theorem T_X10_isCoefficient (G : tp_G) (a0 : Int) (M0 : tp_M) : tp_J i_X10_isCoefficient (tp_rm 0) G 0 0 (o_X10_isCoefficient M0) tp_NC (tp_st M0) 0 0 [some (.inr (.inl a0)), none] 0 [] (f_X10_isCoefficient a0 M0) := by
  unfold f_X10_isCoefficient
  refine j_lload_n rfl d_X10_isCoefficient_0 rfl ?_
  refine j_ldc2 (x := (-9999)) ⟨by decide, by decide⟩ (show Cond.constantLong _ _ _ ∈ lw_tbl from wd_510) d_X10_isCoefficient_1 ?_
  refine j_lcmp_lt (tgt := 20) d_X10_isCoefficient_4 rfl d_X10_isCoefficient_5 (by decide) (fun h1 => ?_) (fun h1 => ?_)
  · refine j_iconst ⟨by decide, by decide⟩ d_X10_isCoefficient_20 ?_
    exact j_zret d_X10_isCoefficient_21 rfl (Or.inl rfl) rfl ⟨rfl, rfl⟩
  · refine j_lload_n rfl d_X10_isCoefficient_8 rfl ?_
    refine j_ldc2 (x := 9999) ⟨by decide, by decide⟩ (show Cond.constantLong _ _ _ ∈ lw_tbl from wd_511) d_X10_isCoefficient_9 ?_
    refine j_lcmp_gt (tgt := 20) d_X10_isCoefficient_12 rfl d_X10_isCoefficient_13 (by decide) (fun h2 => ?_) (fun h2 => ?_)
    · refine j_iconst ⟨by decide, by decide⟩ d_X10_isCoefficient_20 ?_
      exact j_zret d_X10_isCoefficient_21 rfl (Or.inl rfl) rfl ⟨rfl, rfl⟩
    · refine j_iconst ⟨by decide, by decide⟩ d_X10_isCoefficient_16 ?_
      refine j_goto (tgt := 21) d_X10_isCoefficient_17 (by decide) ?_
      exact j_zret d_X10_isCoefficient_21 rfl (Or.inr rfl) rfl ⟨rfl, rfl⟩
set_option maxHeartbeats 4000000 in
set_option maxRecDepth 100000 in
theorem c_X10_isCoefficient (G : tp_G) (a0 : Int) (M0 : tp_M) (r : Int) (h : f_X10_isCoefficient a0 M0 = some r) (l : Launch) : Met l y_X10_isCoefficient (tp_ws y_X10_isCoefficient i_X10_isCoefficient) (tp_rm 0) (tp_Pc G [.inr (.inl a0)] tp_NC (tp_st M0)) (tp_Q G ((o_X10_isCoefficient M0) r)) 0 0 (tp_A G) :=
  tp_met (I := i_X10_isCoefficient) (y := y_X10_isCoefficient) (by decide +kernel) (Eq.refl "TypesAtPrime") (Eq.refl "isCoefficient") (lv := [some (.inr (.inl a0)), none]) rfl (Nat.le_of_ble_eq_true rfl) (T_X10_isCoefficient G a0 M0) h l
theorem wd_412 : (.fieldLink "TypesAtPrime" 24 "TypesAtPrime" "slots" "[[I" : Cond) ∈ lw_tbl := List.mem_append_right _ (List.mem_of_getElem? (i := 412) (by decide +kernel))
theorem fl_Main_24 : tp_F "TypesAtPrime" 24 10 3 2 := ⟨_, _, _, rfl, by decide, rfl, wd_412, rfl, by decide⟩
theorem tg_3 : tp_tg 3 = 23 := by decide +kernel
theorem al_3 : tp_al 3 = 5 := by decide +kernel
theorem rv_0_3 : tp_rv 0 3 = 3 := by decide +kernel
theorem aa_3 : ∀ i : Int, 0 ≤ i → i < 5 → tp_rv 3 i.toNat = (4 + i) ∧ tp_tg (4 + i) = 21 ∧ tp_al (4 + i) = 9 := by
  intro i h0 h1
  have h : (List.range 5).all (fun j => decide (tp_rv 3 j = (4 + (j : Int)) ∧ tp_tg (4 + (j : Int)) = 21 ∧ tp_al (4 + (j : Int)) = 9)) = true := by decide +kernel
  have h3 := of_decide_eq_true (List.all_eq_true.mp h i.toNat (List.mem_range.mpr (by omega)))
  have h4 : ((i.toNat : Nat) : Int) = i := by omega
  rw [h4] at h3
  exact h3
theorem wd_419 : (.fieldLink "TypesAtPrime" 68 "TypesAtPrime" "mixed" "[J" : Cond) ∈ lw_tbl := List.mem_append_right _ (List.mem_of_getElem? (i := 419) (by decide +kernel))
theorem fl_Main_68 : tp_F "TypesAtPrime" 68 10 10 2 := ⟨_, _, _, rfl, by decide, rfl, wd_419, rfl, by decide⟩
theorem tg_481 : tp_tg 481 = 22 := by decide +kernel
theorem al_481 : tp_al 481 = 18 := by decide +kernel
theorem rv_0_10 : tp_rv 0 10 = 481 := by decide +kernel
theorem wd_509 : (.code ⟨"TypesAtPrime", "isCoefficient", "(J)Z"⟩ prog_1_method_36_code 2 (some .boolean) : Cond) ∈ lw_tbl := List.mem_append_right _ (List.mem_of_getElem? (i := 509) (by decide +kernel))
theorem cs_Main_109 : tp_CS "TypesAtPrime" 109 y_X10_isCoefficient i_X10_isCoefficient 1 := ⟨wd_509, wd_1, by decide, by decide, by decide +kernel⟩
theorem wd_507 : (.methodLink "TypesAtPrime" 109 ⟨"TypesAtPrime", "isCoefficient", "(J)Z"⟩ : Cond) ∈ lw_tbl := List.mem_append_right _ (List.mem_of_getElem? (i := 507) (by decide +kernel))
theorem wd_508 : (.static ⟨"TypesAtPrime", "isCoefficient", "(J)Z"⟩ : Cond) ∈ lw_tbl := List.mem_append_right _ (List.mem_of_getElem? (i := 508) (by decide +kernel))
def y_X10_store : MethodName := ⟨"TypesAtPrime", "store", "(I)Z"⟩
abbrev i_X10_store : tp_I := (prog_1_method_40_code, "TypesAtPrime", (some .boolean), 3, "store")
abbrev o_X10_store : Int × tp_M → tp_O := fun r => (some (.inl r.1), tp_NC, tp_st r.2)
theorem d_X10_store_0 : decode prog_1_method_40_code 0 = .ok (.iconst 0, 1) := by decide +kernel
theorem d_X10_store_1 : decode prog_1_method_40_code 1 = .ok (.istore_n 2, 1) := by decide +kernel
theorem d_X10_store_2 : decode prog_1_method_40_code 2 = .ok (.iload_n 2, 1) := by decide +kernel
theorem d_X10_store_3 : decode prog_1_method_40_code 3 = .ok (.bipush 9, 2) := by decide +kernel
theorem d_X10_store_5 : decode prog_1_method_40_code 5 = .ok (.if_icmp .ge 23, 3) := by decide +kernel
theorem d_X10_store_8 : decode prog_1_method_40_code 8 = .ok (.aload_n 0, 1) := by decide +kernel
theorem d_X10_store_9 : decode prog_1_method_40_code 9 = .ok (.getfield 68, 3) := by decide +kernel
theorem d_X10_store_12 : decode prog_1_method_40_code 12 = .ok (.iload_n 2, 1) := by decide +kernel
theorem d_X10_store_13 : decode prog_1_method_40_code 13 = .ok (.laload, 1) := by decide +kernel
theorem d_X10_store_14 : decode prog_1_method_40_code 14 = .ok (.invokestatic 109, 3) := by decide +kernel
theorem d_X10_store_17 : decode prog_1_method_40_code 17 = .ok (.ifCond .ne 5, 3) := by decide +kernel
theorem d_X10_store_20 : decode prog_1_method_40_code 20 = .ok (.iconst 0, 1) := by decide +kernel
theorem d_X10_store_21 : decode prog_1_method_40_code 21 = .ok (.ireturn, 1) := by decide +kernel
theorem d_X10_store_22 : decode prog_1_method_40_code 22 = .ok (.iinc 2 1, 3) := by decide +kernel
theorem d_X10_store_25 : decode prog_1_method_40_code 25 = .ok (.goto (-23), 3) := by decide +kernel
theorem d_X10_store_28 : decode prog_1_method_40_code 28 = .ok (.iconst 0, 1) := by decide +kernel
theorem d_X10_store_29 : decode prog_1_method_40_code 29 = .ok (.istore_n 2, 1) := by decide +kernel
theorem d_X10_store_30 : decode prog_1_method_40_code 30 = .ok (.iload_n 2, 1) := by decide +kernel
theorem d_X10_store_31 : decode prog_1_method_40_code 31 = .ok (.bipush 9, 2) := by decide +kernel
theorem d_X10_store_33 : decode prog_1_method_40_code 33 = .ok (.if_icmp .ge 24, 3) := by decide +kernel
theorem d_X10_store_36 : decode prog_1_method_40_code 36 = .ok (.aload_n 0, 1) := by decide +kernel
theorem d_X10_store_37 : decode prog_1_method_40_code 37 = .ok (.getfield 24, 3) := by decide +kernel
theorem d_X10_store_40 : decode prog_1_method_40_code 40 = .ok (.iload_n 1, 1) := by decide +kernel
theorem d_X10_store_41 : decode prog_1_method_40_code 41 = .ok (.aaload, 1) := by decide +kernel
theorem d_X10_store_42 : decode prog_1_method_40_code 42 = .ok (.iload_n 2, 1) := by decide +kernel
theorem d_X10_store_43 : decode prog_1_method_40_code 43 = .ok (.aload_n 0, 1) := by decide +kernel
theorem d_X10_store_44 : decode prog_1_method_40_code 44 = .ok (.getfield 68, 3) := by decide +kernel
theorem d_X10_store_47 : decode prog_1_method_40_code 47 = .ok (.iload_n 2, 1) := by decide +kernel
theorem d_X10_store_48 : decode prog_1_method_40_code 48 = .ok (.laload, 1) := by decide +kernel
theorem d_X10_store_49 : decode prog_1_method_40_code 49 = .ok (.l2i, 1) := by decide +kernel
theorem d_X10_store_50 : decode prog_1_method_40_code 50 = .ok (.iastore, 1) := by decide +kernel
theorem d_X10_store_51 : decode prog_1_method_40_code 51 = .ok (.iinc 2 1, 3) := by decide +kernel
theorem d_X10_store_54 : decode prog_1_method_40_code 54 = .ok (.goto (-24), 3) := by decide +kernel
theorem d_X10_store_57 : decode prog_1_method_40_code 57 = .ok (.iconst 1, 1) := by decide +kernel
theorem d_X10_store_58 : decode prog_1_method_40_code 58 = .ok (.ireturn, 1) := by decide +kernel
def f_X10_store_30B (x1 : Int) (rec_30 : Int → tp_M → Option (Int × tp_M)) (x2 : Int) (M0 : tp_M) : Option (Int × tp_M) :=
  if 9 ≤ x2 then
    some (1, M0)
  else
    if 0 ≤ x1 ∧ x1 < 5 then
      if 0 ≤ x2 ∧ x2 < 18 then
        if 0 ≤ x2 ∧ x2 < 9 then
          tp_mp (tp_up M0 (4 + x1) x2 (tp_w (M0 481 x2))) fun M4 =>
          tp_lt (tp_w (x2 + 1)) fun y5 =>
          rec_30 y5 M4 else none else none else none
set_option maxHeartbeats 4000000 in
set_option maxRecDepth 100000 in
theorem T_X10_store_30B (G : tp_G) (x1 : Int) (rec_30 : Int → tp_M → Option (Int × tp_M)) (hrec_30 : ∀ (x2' : Int) (M' : tp_M), tp_J i_X10_store (tp_rm 1) G 0 0 o_X10_store tp_NC (tp_st M') 0 0 [some (.inr (.inr 0)), some (.inl x1), some (.inl (x2'))] 30 [] (rec_30 x2' M')) (x2 : Int) (M0 : tp_M) : tp_J i_X10_store (tp_rm 1) G 0 0 o_X10_store tp_NC (tp_st M0) 0 0 [some (.inr (.inr 0)), some (.inl x1), some (.inl x2)] 30 [] (f_X10_store_30B x1 rec_30 x2 M0) := by
  unfold f_X10_store_30B
  refine j_iload_n rfl d_X10_store_30 rfl ?_
  refine j_bipush ⟨by decide, by decide⟩ (by decide +kernel) d_X10_store_31 ?_
  refine j_icmp_ge (tgt := 57) d_X10_store_33 (by decide) (fun h2 => ?_) (fun h2 => ?_)
  · refine j_iconst ⟨by decide, by decide⟩ d_X10_store_57 ?_
    exact j_zret d_X10_store_58 rfl (Or.inr rfl) rfl ⟨rfl, rfl⟩
  · refine j_aload_n rfl d_X10_store_36 rfl ?_
    refine j_getr fl_Main_24 tg_0 rv_0_3 d_X10_store_37 ?_
    refine j_iload_n rfl d_X10_store_40 rfl ?_
    refine j_aald (v := (4 + x1)) (ty := (.array .int)) tg_3 (by decide) al_3 (by decide) rfl d_X10_store_41 (fun h1 h2 => (aa_3 _ h1 h2).1) (fun hi3 => ?_)
    refine j_iload_n rfl d_X10_store_42 rfl ?_
    refine j_aload_n rfl d_X10_store_43 rfl ?_
    refine j_getr fl_Main_68 tg_0 rv_0_10 d_X10_store_44 ?_
    refine j_iload_n rfl d_X10_store_47 rfl ?_
    refine j_lald tg_481 al_481 d_X10_store_48 ?_
    refine j_l2i d_X10_store_49 ?_
    refine j_iast ((aa_3 _ hi3.1 hi3.2).2.1) ((aa_3 _ hi3.1 hi3.2).2.2) d_X10_store_50 (fun M4 hM4 => ?_)
    refine j_iincN (lv' := fun y5 => [some (.inr (.inr 0)), some (.inl x1), some (.inl y5)]) d_X10_store_51 rfl (Nat.le_of_ble_eq_true rfl) (fun _ => rfl) (fun y5 hy5 => ?_)
    refine j_goto (tgt := 30) d_X10_store_54 (by decide) ?_
    exact j_wk [true, true, true] rfl rfl (hrec_30 y5 M4)
def f_X10_store_30 (x1 : Int) (x2 : Int) (M0 : tp_M) : Option (Int × tp_M) := tp_lp (σ := Int × tp_M) (fun rec_ u => f_X10_store_30B x1 (fun x2' M0' => rec_ (x2', M0')) u.1 u.2) tp_N (x2, M0)
set_option maxHeartbeats 4000000 in
set_option maxRecDepth 100000 in
theorem T_X10_store_30 (G : tp_G) (x1 : Int) (x2 : Int) (M0 : tp_M) : tp_J i_X10_store (tp_rm 1) G 0 0 o_X10_store tp_NC (tp_st M0) 0 0 [some (.inr (.inr 0)), some (.inl x1), some (.inl x2)] 30 [] (f_X10_store_30 x1 x2 M0) := by
  unfold f_X10_store_30
  exact j_lp (σ := Int × tp_M) (n' := fun _ => tp_NC) (g' := fun u => tp_st u.2) (k' := fun _ => 0) (q' := fun _ => 0) (lv' := fun u => [some (.inr (.inr 0)), some (.inl x1), some (.inl u.1)]) (fun rec_ hrec u => T_X10_store_30B G x1 (fun x2' M0' => rec_ (x2', M0')) (fun x2' M0' => hrec (x2', M0')) u.1 u.2) tp_N (x2, M0)
def f_X10_store_2B (x1 : Int) (M0 : tp_M) (rec_2 : Int → Option (Int × tp_M)) (x2 : Int) : Option (Int × tp_M) :=
  if 9 ≤ x2 then
    f_X10_store_30 x1 0 M0
  else
    if 0 ≤ x2 ∧ x2 < 18 then
      (f_X10_isCoefficient (M0 481 x2) M0).bind fun r6 =>
      if ¬ r6 = 0 then
        tp_lt (tp_w (x2 + 1)) fun y9 =>
        rec_2 y9
      else
        some (0, M0) else none
set_option maxHeartbeats 4000000 in
set_option maxRecDepth 100000 in
theorem T_X10_store_2B (G : tp_G) (x1 : Int) (M0 : tp_M) (rec_2 : Int → Option (Int × tp_M)) (hrec_2 : ∀ (x2' : Int), tp_J i_X10_store (tp_rm 1) G 0 0 o_X10_store tp_NC (tp_st M0) 0 0 [some (.inr (.inr 0)), some (.inl x1), some (.inl (x2'))] 2 [] (rec_2 x2')) (x2 : Int) : tp_J i_X10_store (tp_rm 1) G 0 0 o_X10_store tp_NC (tp_st M0) 0 0 [some (.inr (.inr 0)), some (.inl x1), some (.inl x2)] 2 [] (f_X10_store_2B x1 M0 rec_2 x2) := by
  unfold f_X10_store_2B
  refine j_iload_n rfl d_X10_store_2 rfl ?_
  refine j_bipush ⟨by decide, by decide⟩ (by decide +kernel) d_X10_store_3 ?_
  refine j_icmp_ge (tgt := 28) d_X10_store_5 (by decide) (fun h1 => ?_) (fun h1 => ?_)
  · refine j_iconst ⟨by decide, by decide⟩ d_X10_store_28 ?_
    refine j_istore_n (lv' := [some (.inr (.inr 0)), some (.inl x1), some (.inl 0)]) rfl d_X10_store_29 (Nat.le_of_ble_eq_true rfl) rfl ?_
    exact j_wk [true, true, true] rfl rfl (T_X10_store_30 G x1 0 M0)
  · refine j_aload_n rfl d_X10_store_8 rfl ?_
    refine j_getr fl_Main_68 tg_0 rv_0_10 d_X10_store_9 ?_
    refine j_iload_n rfl d_X10_store_12 rfl ?_
    refine j_lald tg_481 al_481 d_X10_store_13 ?_
    refine j_bind (fun r6 h7 => ?_)
    refine j_callS (y := y_X10_isCoefficient) (I' := i_X10_isCoefficient) (avs := [.inr (.inl (M0 481 x2))]) (st := []) (c_X10_isCoefficient G (M0 481 x2) M0 r6 h7) cs_Main_109 wd_507 wd_508 rfl rfl (Nat.le_of_ble_eq_true rfl) ⟨rfl, rfl⟩ ⟨by decide, by decide⟩ ⟨by decide, by decide⟩ d_X10_store_14 ?_
    refine j_if_ne (tgt := 22) d_X10_store_17 (by decide) (fun h8 => ?_) (fun h8 => ?_)
    · refine j_iincN (lv' := fun y9 => [some (.inr (.inr 0)), some (.inl x1), some (.inl y9)]) d_X10_store_22 rfl (Nat.le_of_ble_eq_true rfl) (fun _ => rfl) (fun y9 hy9 => ?_)
      refine j_goto (tgt := 2) d_X10_store_25 (by decide) ?_
      exact j_wk [true, true, true] rfl rfl (hrec_2 y9)
    · refine j_iconst ⟨by decide, by decide⟩ d_X10_store_20 ?_
      exact j_zret d_X10_store_21 rfl (Or.inl rfl) rfl ⟨rfl, rfl⟩
def f_X10_store_2 (x1 : Int) (x2 : Int) (M0 : tp_M) : Option (Int × tp_M) := tp_lp (σ := Int) (fun rec_ u => f_X10_store_2B x1 M0 (fun x2' => rec_ x2') u) tp_N x2
set_option maxHeartbeats 4000000 in
set_option maxRecDepth 100000 in
theorem T_X10_store_2 (G : tp_G) (x1 : Int) (x2 : Int) (M0 : tp_M) : tp_J i_X10_store (tp_rm 1) G 0 0 o_X10_store tp_NC (tp_st M0) 0 0 [some (.inr (.inr 0)), some (.inl x1), some (.inl x2)] 2 [] (f_X10_store_2 x1 x2 M0) := by
  unfold f_X10_store_2
  exact j_lp (σ := Int) (n' := fun _ => tp_NC) (g' := fun u => tp_st M0) (k' := fun _ => 0) (q' := fun _ => 0) (lv' := fun u => [some (.inr (.inr 0)), some (.inl x1), some (.inl u)]) (fun rec_ hrec u => T_X10_store_2B G x1 M0 (fun x2' => rec_ x2') (fun x2' => hrec x2') u) tp_N x2
def f_X10_store (a0 : Int) (M0 : tp_M) : Option (Int × tp_M) :=
  f_X10_store_2 a0 0 M0
set_option maxHeartbeats 4000000 in
set_option maxRecDepth 100000 in
theorem T_X10_store (G : tp_G) (a0 : Int) (M0 : tp_M) : tp_J i_X10_store (tp_rm 1) G 0 0 o_X10_store tp_NC (tp_st M0) 0 0 [some (.inr (.inr 0)), some (.inl a0), none] 0 [] (f_X10_store a0 M0) := by
  unfold f_X10_store
  refine j_iconst ⟨by decide, by decide⟩ d_X10_store_0 ?_
  refine j_istore_n (lv' := [some (.inr (.inr 0)), some (.inl a0), some (.inl 0)]) rfl d_X10_store_1 (Nat.le_of_ble_eq_true rfl) rfl ?_
  exact j_wk [true, true, true] rfl rfl (T_X10_store_2 G a0 0 M0)
set_option maxHeartbeats 4000000 in
set_option maxRecDepth 100000 in
theorem c_X10_store (G : tp_G) (a0 : Int) (M0 : tp_M) (r : Int × tp_M) (h : f_X10_store a0 M0 = some r) (l : Launch) : Met l y_X10_store (tp_ws y_X10_store i_X10_store) (tp_rm 1) (tp_Pc G [.inr (.inr 0), .inl a0] tp_NC (tp_st M0)) (tp_Q G (o_X10_store r)) 0 0 (tp_A G) :=
  tp_met (I := i_X10_store) (y := y_X10_store) (by decide +kernel) (Eq.refl "TypesAtPrime") (Eq.refl "store") (lv := [some (.inr (.inr 0)), some (.inl a0), none]) rfl (Nat.le_of_ble_eq_true rfl) (T_X10_store G a0 M0) h l
theorem cs_Main_118 : tp_CS "TypesAtPrime" 118 y_X10_degreeOf i_X10_degreeOf 1 := ⟨wd_518, wd_1, by decide, by decide, by decide +kernel⟩
theorem wd_516 : (.methodLink "TypesAtPrime" 118 ⟨"TypesAtPrime", "degreeOf", "([I)I"⟩ : Cond) ∈ lw_tbl := List.mem_append_right _ (List.mem_of_getElem? (i := 516) (by decide +kernel))
def y_X10_toldDegree : MethodName := ⟨"TypesAtPrime", "toldDegree", "(I)I"⟩
abbrev i_X10_toldDegree : tp_I := (prog_1_method_38_code, "TypesAtPrime", (some .int), 3, "toldDegree")
abbrev o_X10_toldDegree (M : tp_M) : Int → tp_O := fun r => (some (.inl r), tp_NC, tp_st M)
theorem d_X10_toldDegree_0 : decode prog_1_method_38_code 0 = .ok (.aload_n 0, 1) := by decide +kernel
theorem d_X10_toldDegree_1 : decode prog_1_method_38_code 1 = .ok (.getfield 24, 3) := by decide +kernel
theorem d_X10_toldDegree_4 : decode prog_1_method_38_code 4 = .ok (.iload_n 1, 1) := by decide +kernel
theorem d_X10_toldDegree_5 : decode prog_1_method_38_code 5 = .ok (.aaload, 1) := by decide +kernel
theorem d_X10_toldDegree_6 : decode prog_1_method_38_code 6 = .ok (.invokestatic 118, 3) := by decide +kernel
theorem d_X10_toldDegree_9 : decode prog_1_method_38_code 9 = .ok (.istore_n 2, 1) := by decide +kernel
theorem d_X10_toldDegree_10 : decode prog_1_method_38_code 10 = .ok (.iload_n 2, 1) := by decide +kernel
theorem d_X10_toldDegree_11 : decode prog_1_method_38_code 11 = .ok (.ifCond .ge 8, 3) := by decide +kernel
theorem d_X10_toldDegree_14 : decode prog_1_method_38_code 14 = .ok (.bipush (-10), 2) := by decide +kernel
theorem d_X10_toldDegree_16 : decode prog_1_method_38_code 16 = .ok (.goto 4, 3) := by decide +kernel
theorem d_X10_toldDegree_19 : decode prog_1_method_38_code 19 = .ok (.iload_n 2, 1) := by decide +kernel
theorem d_X10_toldDegree_20 : decode prog_1_method_38_code 20 = .ok (.ireturn, 1) := by decide +kernel
def f_X10_toldDegree (a0 : Int) (M0 : tp_M) : Option (Int) :=
  if 0 ≤ a0 ∧ a0 < 5 then
    (f_X10_degreeOf (4 + a0) M0).bind fun r2 =>
    if 0 ≤ r2 then
      some r2
    else
      some (-10) else none
set_option maxHeartbeats 4000000 in
set_option maxRecDepth 100000 in
theorem T_X10_toldDegree (G : tp_G) (a0 : Int) (M0 : tp_M) : tp_J i_X10_toldDegree (tp_rm 1) G 0 0 (o_X10_toldDegree M0) tp_NC (tp_st M0) 0 0 [some (.inr (.inr 0)), some (.inl a0), none] 0 [] (f_X10_toldDegree a0 M0) := by
  unfold f_X10_toldDegree
  refine j_aload_n rfl d_X10_toldDegree_0 rfl ?_
  refine j_getr fl_Main_24 tg_0 rv_0_3 d_X10_toldDegree_1 ?_
  refine j_iload_n rfl d_X10_toldDegree_4 rfl ?_
  refine j_aald (v := (4 + a0)) (ty := (.array .int)) tg_3 (by decide) al_3 (by decide) rfl d_X10_toldDegree_5 (fun h1 h2 => (aa_3 _ h1 h2).1) (fun hi1 => ?_)
  refine j_bind (fun r2 h3 => ?_)
  refine j_callS (y := y_X10_degreeOf) (I' := i_X10_degreeOf) (avs := [.inr (.inr (4 + a0))]) (st := []) (c_X10_degreeOf G (4 + a0) M0 r2 h3) cs_Main_118 wd_516 wd_517 rfl rfl (Nat.le_of_ble_eq_true rfl) ⟨rfl, rfl⟩ ⟨by decide, by decide⟩ ⟨by decide, by decide⟩ d_X10_toldDegree_6 ?_
  refine j_istore_n (lv' := [some (.inr (.inr 0)), some (.inl a0), some (.inl r2)]) rfl d_X10_toldDegree_9 (Nat.le_of_ble_eq_true rfl) rfl ?_
  refine j_iload_n rfl d_X10_toldDegree_10 rfl ?_
  refine j_if_ge (tgt := 19) d_X10_toldDegree_11 (by decide) (fun h4 => ?_) (fun h4 => ?_)
  · refine j_iload_n rfl d_X10_toldDegree_19 rfl ?_
    exact j_iret d_X10_toldDegree_20 rfl rfl ⟨rfl, rfl⟩
  · refine j_bipush ⟨by decide, by decide⟩ (by decide +kernel) d_X10_toldDegree_14 ?_
    refine j_goto (tgt := 20) d_X10_toldDegree_16 (by decide) ?_
    exact j_iret d_X10_toldDegree_20 rfl rfl ⟨rfl, rfl⟩
set_option maxHeartbeats 4000000 in
set_option maxRecDepth 100000 in
theorem c_X10_toldDegree (G : tp_G) (a0 : Int) (M0 : tp_M) (r : Int) (h : f_X10_toldDegree a0 M0 = some r) (l : Launch) : Met l y_X10_toldDegree (tp_ws y_X10_toldDegree i_X10_toldDegree) (tp_rm 1) (tp_Pc G [.inr (.inr 0), .inl a0] tp_NC (tp_st M0)) (tp_Q G ((o_X10_toldDegree M0) r)) 0 0 (tp_A G) :=
  tp_met (I := i_X10_toldDegree) (y := y_X10_toldDegree) (by decide +kernel) (Eq.refl "TypesAtPrime") (Eq.refl "toldDegree") (lv := [some (.inr (.inr 0)), some (.inl a0), none]) rfl (Nat.le_of_ble_eq_true rfl) (T_X10_toldDegree G a0 M0) h l
theorem wd_476 : (.code ⟨"TypesAtPrime", "isSlot", "(I)Z"⟩ prog_1_method_34_code 1 (some .boolean) : Cond) ∈ lw_tbl := List.mem_append_right _ (List.mem_of_getElem? (i := 476) (by decide +kernel))
theorem cs_Main_89 : tp_CS "TypesAtPrime" 89 y_X10_isSlot i_X10_isSlot 1 := ⟨wd_476, wd_1, by decide, by decide, by decide +kernel⟩
theorem wd_474 : (.methodLink "TypesAtPrime" 89 ⟨"TypesAtPrime", "isSlot", "(I)Z"⟩ : Cond) ∈ lw_tbl := List.mem_append_right _ (List.mem_of_getElem? (i := 474) (by decide +kernel))
theorem wd_475 : (.static ⟨"TypesAtPrime", "isSlot", "(I)Z"⟩ : Cond) ∈ lw_tbl := List.mem_append_right _ (List.mem_of_getElem? (i := 475) (by decide +kernel))
theorem wd_414 : (.fieldLink "TypesAtPrime" 37 "TypesAtPrime" "reader" "LTypesAtPrime$TextReader;" : Cond) ∈ lw_tbl := List.mem_append_right _ (List.mem_of_getElem? (i := 414) (by decide +kernel))
theorem fl_Main_37 : tp_F "TypesAtPrime" 37 10 5 2 := ⟨_, _, _, rfl, by decide, rfl, wd_414, rfl, by decide⟩
theorem rv_0_5 : tp_rv 0 5 = 18 := by decide +kernel
theorem wd_480 : (.code ⟨"TypesAtPrime$TextReader", "read", "([BI)I"⟩ prog_10_method_2_code 5 (some .int) : Cond) ∈ lw_tbl := List.mem_append_right _ (List.mem_of_getElem? (i := 480) (by decide +kernel))
theorem cs_Main_92 : tp_CS "TypesAtPrime" 92 y_X8_read i_X8_read 2 := ⟨wd_480, wd_4, by decide, by decide, by decide +kernel⟩
theorem wd_477 : (.methodLink "TypesAtPrime" 92 ⟨"TypesAtPrime$TextReader", "read", "([BI)I"⟩ : Cond) ∈ lw_tbl := List.mem_append_right _ (List.mem_of_getElem? (i := 477) (by decide +kernel))
theorem wd_478 : (.instanceMethod ⟨"TypesAtPrime$TextReader", "read", "([BI)I"⟩ : Cond) ∈ lw_tbl := List.mem_append_right _ (List.mem_of_getElem? (i := 478) (by decide +kernel))
theorem wd_479 : (.selects "TypesAtPrime$TextReader" ⟨"TypesAtPrime$TextReader", "read", "([BI)I"⟩ ⟨"TypesAtPrime$TextReader", "read", "([BI)I"⟩ : Cond) ∈ lw_tbl := List.mem_append_right _ (List.mem_of_getElem? (i := 479) (by decide +kernel))
theorem wd_506 : (.code ⟨"TypesAtPrime", "store", "(I)Z"⟩ prog_1_method_40_code 3 (some .boolean) : Cond) ∈ lw_tbl := List.mem_append_right _ (List.mem_of_getElem? (i := 506) (by decide +kernel))
theorem cs_Main_99 : tp_CS "TypesAtPrime" 99 y_X10_store i_X10_store 1 := ⟨wd_506, wd_1, by decide, by decide, by decide +kernel⟩
theorem wd_503 : (.methodLink "TypesAtPrime" 99 ⟨"TypesAtPrime", "store", "(I)Z"⟩ : Cond) ∈ lw_tbl := List.mem_append_right _ (List.mem_of_getElem? (i := 503) (by decide +kernel))
theorem wd_505 : (.instanceMethod ⟨"TypesAtPrime", "store", "(I)Z"⟩ : Cond) ∈ lw_tbl := List.mem_append_right _ (List.mem_of_getElem? (i := 505) (by decide +kernel))
theorem ws_4 : (.selects "TypesAtPrime" ⟨"TypesAtPrime", "store", "(I)Z"⟩ ⟨"TypesAtPrime", "store", "(I)Z"⟩ : Cond) ∈ lw_tbl := List.mem_append_left _ (List.mem_of_getElem? (i := 4) (by decide +kernel))
theorem wd_515 : (.code ⟨"TypesAtPrime", "toldDegree", "(I)I"⟩ prog_1_method_38_code 3 (some .int) : Cond) ∈ lw_tbl := List.mem_append_right _ (List.mem_of_getElem? (i := 515) (by decide +kernel))
theorem cs_Main_102 : tp_CS "TypesAtPrime" 102 y_X10_toldDegree i_X10_toldDegree 1 := ⟨wd_515, wd_1, by decide, by decide, by decide +kernel⟩
theorem wd_512 : (.methodLink "TypesAtPrime" 102 ⟨"TypesAtPrime", "toldDegree", "(I)I"⟩ : Cond) ∈ lw_tbl := List.mem_append_right _ (List.mem_of_getElem? (i := 512) (by decide +kernel))
theorem wd_514 : (.instanceMethod ⟨"TypesAtPrime", "toldDegree", "(I)I"⟩ : Cond) ∈ lw_tbl := List.mem_append_right _ (List.mem_of_getElem? (i := 514) (by decide +kernel))
theorem ws_5 : (.selects "TypesAtPrime" ⟨"TypesAtPrime", "toldDegree", "(I)I"⟩ ⟨"TypesAtPrime", "toldDegree", "(I)I"⟩ : Cond) ∈ lw_tbl := List.mem_append_left _ (List.mem_of_getElem? (i := 5) (by decide +kernel))
theorem wd_79 : (.fieldLink "TypesAtPrime" 96 "TypesAtPrime$TextReader" "sums" "[I" : Cond) ∈ lw_tbl := List.mem_append_right _ (List.mem_of_getElem? (i := 79) (by decide +kernel))
theorem fl_Main_96 : tp_F "TypesAtPrime" 96 8 0 2 := ⟨_, _, _, rfl, by decide, rfl, wd_79, rfl, by decide⟩
def y_X10_text : MethodName := ⟨"TypesAtPrime", "text", "(I)I"⟩
abbrev i_X10_text : tp_I := (prog_1_method_5_code, "TypesAtPrime", (some .int), 4, "text")
abbrev o_X10_text : Int × tp_M → tp_O := fun r => (some (.inl r.1), tp_NC, tp_st r.2)
theorem d_X10_text_0 : decode prog_1_method_5_code 0 = .ok (.iload_n 1, 1) := by decide +kernel
theorem d_X10_text_1 : decode prog_1_method_5_code 1 = .ok (.invokestatic 89, 3) := by decide +kernel
theorem d_X10_text_4 : decode prog_1_method_5_code 4 = .ok (.ifCond .ne 5, 3) := by decide +kernel
theorem d_X10_text_7 : decode prog_1_method_5_code 7 = .ok (.iconst (-1), 1) := by decide +kernel
theorem d_X10_text_8 : decode prog_1_method_5_code 8 = .ok (.ireturn, 1) := by decide +kernel
theorem d_X10_text_9 : decode prog_1_method_5_code 9 = .ok (.aload_n 0, 1) := by decide +kernel
theorem d_X10_text_10 : decode prog_1_method_5_code 10 = .ok (.getfield 37, 3) := by decide +kernel
theorem d_X10_text_13 : decode prog_1_method_5_code 13 = .ok (.aload_n 0, 1) := by decide +kernel
theorem d_X10_text_14 : decode prog_1_method_5_code 14 = .ok (.getfield 18, 3) := by decide +kernel
theorem d_X10_text_17 : decode prog_1_method_5_code 17 = .ok (.aload_n 0, 1) := by decide +kernel
theorem d_X10_text_18 : decode prog_1_method_5_code 18 = .ok (.getfield 86, 3) := by decide +kernel
theorem d_X10_text_21 : decode prog_1_method_5_code 21 = .ok (.invokevirtual 92, 3) := by decide +kernel
theorem d_X10_text_24 : decode prog_1_method_5_code 24 = .ok (.istore_n 2, 1) := by decide +kernel
theorem d_X10_text_25 : decode prog_1_method_5_code 25 = .ok (.aload_n 0, 1) := by decide +kernel
theorem d_X10_text_26 : decode prog_1_method_5_code 26 = .ok (.iconst 0, 1) := by decide +kernel
theorem d_X10_text_27 : decode prog_1_method_5_code 27 = .ok (.putfield 86, 3) := by decide +kernel
theorem d_X10_text_30 : decode prog_1_method_5_code 30 = .ok (.iload_n 2, 1) := by decide +kernel
theorem d_X10_text_31 : decode prog_1_method_5_code 31 = .ok (.ifCond .lt 8, 3) := by decide +kernel
theorem d_X10_text_34 : decode prog_1_method_5_code 34 = .ok (.bipush (-100), 2) := by decide +kernel
theorem d_X10_text_36 : decode prog_1_method_5_code 36 = .ok (.iload_n 2, 1) := by decide +kernel
theorem d_X10_text_37 : decode prog_1_method_5_code 37 = .ok (.isub, 1) := by decide +kernel
theorem d_X10_text_38 : decode prog_1_method_5_code 38 = .ok (.ireturn, 1) := by decide +kernel
theorem d_X10_text_39 : decode prog_1_method_5_code 39 = .ok (.iconst 0, 1) := by decide +kernel
theorem d_X10_text_40 : decode prog_1_method_5_code 40 = .ok (.istore_n 3, 1) := by decide +kernel
theorem d_X10_text_41 : decode prog_1_method_5_code 41 = .ok (.iload_n 3, 1) := by decide +kernel
theorem d_X10_text_42 : decode prog_1_method_5_code 42 = .ok (.bipush 9, 2) := by decide +kernel
theorem d_X10_text_44 : decode prog_1_method_5_code 44 = .ok (.if_icmp .ge 25, 3) := by decide +kernel
theorem d_X10_text_47 : decode prog_1_method_5_code 47 = .ok (.aload_n 0, 1) := by decide +kernel
theorem d_X10_text_48 : decode prog_1_method_5_code 48 = .ok (.getfield 68, 3) := by decide +kernel
theorem d_X10_text_51 : decode prog_1_method_5_code 51 = .ok (.iload_n 3, 1) := by decide +kernel
theorem d_X10_text_52 : decode prog_1_method_5_code 52 = .ok (.aload_n 0, 1) := by decide +kernel
theorem d_X10_text_53 : decode prog_1_method_5_code 53 = .ok (.getfield 37, 3) := by decide +kernel
theorem d_X10_text_56 : decode prog_1_method_5_code 56 = .ok (.getfield 96, 3) := by decide +kernel
theorem d_X10_text_59 : decode prog_1_method_5_code 59 = .ok (.iload_n 3, 1) := by decide +kernel
theorem d_X10_text_60 : decode prog_1_method_5_code 60 = .ok (.iaload, 1) := by decide +kernel
theorem d_X10_text_61 : decode prog_1_method_5_code 61 = .ok (.i2l, 1) := by decide +kernel
theorem d_X10_text_62 : decode prog_1_method_5_code 62 = .ok (.lastore, 1) := by decide +kernel
theorem d_X10_text_63 : decode prog_1_method_5_code 63 = .ok (.iinc 3 1, 3) := by decide +kernel
theorem d_X10_text_66 : decode prog_1_method_5_code 66 = .ok (.goto (-25), 3) := by decide +kernel
theorem d_X10_text_69 : decode prog_1_method_5_code 69 = .ok (.aload_n 0, 1) := by decide +kernel
theorem d_X10_text_70 : decode prog_1_method_5_code 70 = .ok (.iload_n 1, 1) := by decide +kernel
theorem d_X10_text_71 : decode prog_1_method_5_code 71 = .ok (.invokevirtual 99, 3) := by decide +kernel
theorem d_X10_text_74 : decode prog_1_method_5_code 74 = .ok (.ifCond .ne 6, 3) := by decide +kernel
theorem d_X10_text_77 : decode prog_1_method_5_code 77 = .ok (.bipush (-3), 2) := by decide +kernel
theorem d_X10_text_79 : decode prog_1_method_5_code 79 = .ok (.ireturn, 1) := by decide +kernel
theorem d_X10_text_80 : decode prog_1_method_5_code 80 = .ok (.aload_n 0, 1) := by decide +kernel
theorem d_X10_text_81 : decode prog_1_method_5_code 81 = .ok (.iload_n 1, 1) := by decide +kernel
theorem d_X10_text_82 : decode prog_1_method_5_code 82 = .ok (.invokevirtual 102, 3) := by decide +kernel
theorem d_X10_text_85 : decode prog_1_method_5_code 85 = .ok (.ireturn, 1) := by decide +kernel
def f_X10_text_41B (x1 : Int) (rec_41 : Int → tp_M → Option (Int × tp_M)) (x3 : Int) (M0 : tp_M) : Option (Int × tp_M) :=
  if 9 ≤ x3 then
    (f_X10_store x1 M0).bind fun r9 =>
    if ¬ r9.1 = 0 then
      (f_X10_toldDegree x1 r9.2).bind fun r12 =>
      some (r12, r9.2)
    else
      some ((-3), r9.2)
  else
    if 0 ≤ x3 ∧ x3 < 9 then
      if 0 ≤ x3 ∧ x3 < 18 then
        tp_mp (tp_up M0 481 x3 (M0 19 x3)) fun M14 =>
        tp_lt (tp_w (x3 + 1)) fun y15 =>
        rec_41 y15 M14 else none else none
set_option maxHeartbeats 4000000 in
set_option maxRecDepth 100000 in
theorem T_X10_text_41B (G : tp_G) (x1 : Int) (rec_41 : Int → tp_M → Option (Int × tp_M)) (hrec_41 : ∀ (x3' : Int) (M' : tp_M), tp_J i_X10_text (tp_rm 5) G 0 0 o_X10_text tp_NC (tp_st M') 0 0 [some (.inr (.inr 0)), some (.inl x1), none, some (.inl (x3'))] 41 [] (rec_41 x3' M')) (x3 : Int) (M0 : tp_M) : tp_J i_X10_text (tp_rm 5) G 0 0 o_X10_text tp_NC (tp_st M0) 0 0 [some (.inr (.inr 0)), some (.inl x1), none, some (.inl x3)] 41 [] (f_X10_text_41B x1 rec_41 x3 M0) := by
  unfold f_X10_text_41B
  refine j_iload_n rfl d_X10_text_41 rfl ?_
  refine j_bipush ⟨by decide, by decide⟩ (by decide +kernel) d_X10_text_42 ?_
  refine j_icmp_ge (tgt := 69) d_X10_text_44 (by decide) (fun h8 => ?_) (fun h8 => ?_)
  · refine j_aload_n rfl d_X10_text_69 rfl ?_
    refine j_iload_n rfl d_X10_text_70 rfl ?_
    refine j_bind (fun r9 h10 => ?_)
    refine j_callV (y := y_X10_store) (I' := i_X10_store) (avs := [.inl x1]) (c := 0) (st := []) (c_X10_store G x1 M0 r9 h10) cs_Main_99 wd_503 wd_505 ws_4 tg_0 rfl rfl rfl (Nat.le_of_ble_eq_true rfl) ⟨rfl, rfl⟩ ⟨by decide, by decide⟩ ⟨by decide, by decide⟩ d_X10_text_71 ?_
    refine j_if_ne (tgt := 80) d_X10_text_74 (by decide) (fun h11 => ?_) (fun h11 => ?_)
    · refine j_aload_n rfl d_X10_text_80 rfl ?_
      refine j_iload_n rfl d_X10_text_81 rfl ?_
      refine j_bind (fun r12 h13 => ?_)
      refine j_callV (y := y_X10_toldDegree) (I' := i_X10_toldDegree) (avs := [.inl x1]) (c := 0) (st := []) (c_X10_toldDegree G x1 r9.2 r12 h13) cs_Main_102 wd_512 wd_514 ws_5 tg_0 rfl rfl rfl (Nat.le_of_ble_eq_true rfl) ⟨rfl, rfl⟩ ⟨by decide, by decide⟩ ⟨by decide, by decide⟩ d_X10_text_82 ?_
      exact j_iret d_X10_text_85 rfl rfl ⟨rfl, rfl⟩
    · refine j_bipush ⟨by decide, by decide⟩ (by decide +kernel) d_X10_text_77 ?_
      exact j_iret d_X10_text_79 rfl rfl ⟨rfl, rfl⟩
  · refine j_aload_n rfl d_X10_text_47 rfl ?_
    refine j_getr fl_Main_68 tg_0 rv_0_10 d_X10_text_48 ?_
    refine j_iload_n rfl d_X10_text_51 rfl ?_
    refine j_aload_n rfl d_X10_text_52 rfl ?_
    refine j_getr fl_Main_37 tg_0 rv_0_5 d_X10_text_53 ?_
    refine j_getr fl_Main_96 tg_18 rv_18_0 d_X10_text_56 ?_
    refine j_iload_n rfl d_X10_text_59 rfl ?_
    refine j_iald tg_19 al_19 d_X10_text_60 ?_
    refine j_i2l d_X10_text_61 ?_
    refine j_last tg_481 al_481 d_X10_text_62 (fun M14 hM14 => ?_)
    refine j_iincN (lv' := fun y15 => [some (.inr (.inr 0)), some (.inl x1), none, some (.inl y15)]) d_X10_text_63 rfl (Nat.le_of_ble_eq_true rfl) (fun _ => rfl) (fun y15 hy15 => ?_)
    refine j_goto (tgt := 41) d_X10_text_66 (by decide) ?_
    exact j_wk [true, true, false, true] rfl rfl (hrec_41 y15 M14)
def f_X10_text_41 (x1 : Int) (x3 : Int) (M0 : tp_M) : Option (Int × tp_M) := tp_lp (σ := Int × tp_M) (fun rec_ u => f_X10_text_41B x1 (fun x3' M0' => rec_ (x3', M0')) u.1 u.2) tp_N (x3, M0)
set_option maxHeartbeats 4000000 in
set_option maxRecDepth 100000 in
theorem T_X10_text_41 (G : tp_G) (x1 : Int) (x3 : Int) (M0 : tp_M) : tp_J i_X10_text (tp_rm 5) G 0 0 o_X10_text tp_NC (tp_st M0) 0 0 [some (.inr (.inr 0)), some (.inl x1), none, some (.inl x3)] 41 [] (f_X10_text_41 x1 x3 M0) := by
  unfold f_X10_text_41
  exact j_lp (σ := Int × tp_M) (n' := fun _ => tp_NC) (g' := fun u => tp_st u.2) (k' := fun _ => 0) (q' := fun _ => 0) (lv' := fun u => [some (.inr (.inr 0)), some (.inl x1), none, some (.inl u.1)]) (fun rec_ hrec u => T_X10_text_41B G x1 (fun x3' M0' => rec_ (x3', M0')) (fun x3' M0' => hrec (x3', M0')) u.1 u.2) tp_N (x3, M0)
def f_X10_text (a0 : Int) (M0 : tp_M) : Option (Int × tp_M) :=
  (f_X10_isSlot a0 M0).bind fun r1 =>
  if ¬ r1 = 0 then
    (f_X8_read 2 (M0 0 2) M0).bind fun r4 =>
    tp_mp (tp_up r4.2 0 2 0) fun M6 =>
    if r4.1 < 0 then
      f_X10_text_41 a0 0 M6
    else
      some ((tp_w ((-100) - r4.1)), M6)
  else
    some ((-1), M0)
set_option maxHeartbeats 4000000 in
set_option maxRecDepth 100000 in
theorem T_X10_text (G : tp_G) (a0 : Int) (M0 : tp_M) : tp_J i_X10_text (tp_rm 5) G 0 0 o_X10_text tp_NC (tp_st M0) 0 0 [some (.inr (.inr 0)), some (.inl a0), none, none] 0 [] (f_X10_text a0 M0) := by
  unfold f_X10_text
  refine j_iload_n rfl d_X10_text_0 rfl ?_
  refine j_bind (fun r1 h2 => ?_)
  refine j_callS (y := y_X10_isSlot) (I' := i_X10_isSlot) (avs := [.inl a0]) (st := []) (c_X10_isSlot G a0 M0 r1 h2) cs_Main_89 wd_474 wd_475 rfl rfl (Nat.le_of_ble_eq_true rfl) ⟨rfl, rfl⟩ ⟨by decide, by decide⟩ ⟨by decide, by decide⟩ d_X10_text_1 ?_
  refine j_if_ne (tgt := 9) d_X10_text_4 (by decide) (fun h3 => ?_) (fun h3 => ?_)
  · refine j_aload_n rfl d_X10_text_9 rfl ?_
    refine j_getr fl_Main_37 tg_0 rv_0_5 d_X10_text_10 ?_
    refine j_aload_n rfl d_X10_text_13 rfl ?_
    refine j_getr fl_Main_18 tg_0 rv_0_1 d_X10_text_14 ?_
    refine j_aload_n rfl d_X10_text_17 rfl ?_
    refine j_geti fl_Main_86 tg_0 d_X10_text_18 ?_
    refine j_bind (fun r4 h5 => ?_)
    refine j_callV (y := y_X8_read) (I' := i_X8_read) (avs := [.inr (.inr 2), .inl (M0 0 2)]) (c := 18) (st := []) (c_X8_read G 2 (M0 0 2) M0 r4 h5) cs_Main_92 wd_477 wd_478 wd_479 tg_18 rfl rfl rfl (Nat.le_of_ble_eq_true rfl) ⟨rfl, rfl⟩ ⟨by decide, by decide⟩ ⟨by decide, by decide⟩ d_X10_text_21 ?_
    refine j_istore_n (lv' := [some (.inr (.inr 0)), some (.inl a0), some (.inl r4.1), none]) rfl d_X10_text_24 (Nat.le_of_ble_eq_true rfl) rfl ?_
    refine j_aload_n rfl d_X10_text_25 rfl ?_
    refine j_iconst ⟨by decide, by decide⟩ d_X10_text_26 ?_
    refine j_put (z := 0) (v := 0) fl_Main_86 (by decide) tg_0 (pf_10_2 _) pt_10 d_X10_text_27 (fun M6 hM6 => ?_)
    refine j_iload_n rfl d_X10_text_30 rfl ?_
    refine j_if_lt (tgt := 39) d_X10_text_31 (by decide) (fun h7 => ?_) (fun h7 => ?_)
    · refine j_iconst ⟨by decide, by decide⟩ d_X10_text_39 ?_
      refine j_istore_n (lv' := [some (.inr (.inr 0)), some (.inl a0), some (.inl r4.1), some (.inl 0)]) rfl d_X10_text_40 (Nat.le_of_ble_eq_true rfl) rfl ?_
      exact j_wk [true, true, false, true] rfl rfl (T_X10_text_41 G a0 0 M6)
    · refine j_bipush ⟨by decide, by decide⟩ (by decide +kernel) d_X10_text_34 ?_
      refine j_iload_n rfl d_X10_text_36 rfl ?_
      refine j_isub d_X10_text_37 ?_
      exact j_iret d_X10_text_38 rfl rfl ⟨rfl, rfl⟩
  · refine j_iconst ⟨by decide, by decide⟩ d_X10_text_7 ?_
    exact j_iret d_X10_text_8 rfl rfl ⟨rfl, rfl⟩
set_option maxHeartbeats 4000000 in
set_option maxRecDepth 100000 in
theorem c_X10_text (G : tp_G) (a0 : Int) (M0 : tp_M) (r : Int × tp_M) (h : f_X10_text a0 M0 = some r) (l : Launch) : Met l y_X10_text (tp_ws y_X10_text i_X10_text) (tp_rm 5) (tp_Pc G [.inr (.inr 0), .inl a0] tp_NC (tp_st M0)) (tp_Q G (o_X10_text r)) 0 0 (tp_A G) :=
  tp_met (I := i_X10_text) (y := y_X10_text) (by decide +kernel) (Eq.refl "TypesAtPrime") (Eq.refl "text") (lv := [some (.inr (.inr 0)), some (.inl a0), none, none]) rfl (Nat.le_of_ble_eq_true rfl) (T_X10_text G a0 M0) h l
theorem wd_526 : (.constantLong "TypesAtPrime" 113 (-9223372036854775808) : Cond) ∈ lw_tbl := List.mem_append_right _ (List.mem_of_getElem? (i := 526) (by decide +kernel))
theorem cs_Main_106 : tp_CS "TypesAtPrime" 106 y_X10_isPower i_X10_isPower 1 := ⟨wd_525, wd_1, by decide, by decide, by decide +kernel⟩
theorem wd_523 : (.methodLink "TypesAtPrime" 106 ⟨"TypesAtPrime", "isPower", "(I)Z"⟩ : Cond) ∈ lw_tbl := List.mem_append_right _ (List.mem_of_getElem? (i := 523) (by decide +kernel))
def y_X10_set : MethodName := ⟨"TypesAtPrime", "set", "(III)J"⟩
abbrev i_X10_set : tp_I := (prog_1_method_6_code, "TypesAtPrime", (some .long), 5, "set")
abbrev o_X10_set : Int × tp_M → tp_O := fun r => (some (.inr (.inl r.1)), tp_NC, tp_st r.2)
theorem d_X10_set_0 : decode prog_1_method_6_code 0 = .ok (.iload_n 1, 1) := by decide +kernel
theorem d_X10_set_1 : decode prog_1_method_6_code 1 = .ok (.invokestatic 89, 3) := by decide +kernel
theorem d_X10_set_4 : decode prog_1_method_6_code 4 = .ok (.ifCond .eq 18, 3) := by decide +kernel
theorem d_X10_set_7 : decode prog_1_method_6_code 7 = .ok (.iload_n 2, 1) := by decide +kernel
theorem d_X10_set_8 : decode prog_1_method_6_code 8 = .ok (.invokestatic 106, 3) := by decide +kernel
theorem d_X10_set_11 : decode prog_1_method_6_code 11 = .ok (.ifCond .eq 11, 3) := by decide +kernel
theorem d_X10_set_14 : decode prog_1_method_6_code 14 = .ok (.iload_n 3, 1) := by decide +kernel
theorem d_X10_set_15 : decode prog_1_method_6_code 15 = .ok (.i2l, 1) := by decide +kernel
theorem d_X10_set_16 : decode prog_1_method_6_code 16 = .ok (.invokestatic 109, 3) := by decide +kernel
theorem d_X10_set_19 : decode prog_1_method_6_code 19 = .ok (.ifCond .ne 7, 3) := by decide +kernel
theorem d_X10_set_22 : decode prog_1_method_6_code 22 = .ok (.ldc2_w 113, 3) := by decide +kernel
theorem d_X10_set_25 : decode prog_1_method_6_code 25 = .ok (.lreturn, 1) := by decide +kernel
theorem d_X10_set_26 : decode prog_1_method_6_code 26 = .ok (.aload_n 0, 1) := by decide +kernel
theorem d_X10_set_27 : decode prog_1_method_6_code 27 = .ok (.getfield 24, 3) := by decide +kernel
theorem d_X10_set_30 : decode prog_1_method_6_code 30 = .ok (.iload_n 1, 1) := by decide +kernel
theorem d_X10_set_31 : decode prog_1_method_6_code 31 = .ok (.aaload, 1) := by decide +kernel
theorem d_X10_set_32 : decode prog_1_method_6_code 32 = .ok (.iload_n 2, 1) := by decide +kernel
theorem d_X10_set_33 : decode prog_1_method_6_code 33 = .ok (.iaload, 1) := by decide +kernel
theorem d_X10_set_34 : decode prog_1_method_6_code 34 = .ok (.istore 4, 2) := by decide +kernel
theorem d_X10_set_36 : decode prog_1_method_6_code 36 = .ok (.aload_n 0, 1) := by decide +kernel
theorem d_X10_set_37 : decode prog_1_method_6_code 37 = .ok (.getfield 24, 3) := by decide +kernel
theorem d_X10_set_40 : decode prog_1_method_6_code 40 = .ok (.iload_n 1, 1) := by decide +kernel
theorem d_X10_set_41 : decode prog_1_method_6_code 41 = .ok (.aaload, 1) := by decide +kernel
theorem d_X10_set_42 : decode prog_1_method_6_code 42 = .ok (.iload_n 2, 1) := by decide +kernel
theorem d_X10_set_43 : decode prog_1_method_6_code 43 = .ok (.iload_n 3, 1) := by decide +kernel
theorem d_X10_set_44 : decode prog_1_method_6_code 44 = .ok (.iastore, 1) := by decide +kernel
theorem d_X10_set_45 : decode prog_1_method_6_code 45 = .ok (.iload 4, 2) := by decide +kernel
theorem d_X10_set_47 : decode prog_1_method_6_code 47 = .ok (.i2l, 1) := by decide +kernel
theorem d_X10_set_48 : decode prog_1_method_6_code 48 = .ok (.lreturn, 1) := by decide +kernel
def f_X10_set (a0 : Int) (a1 : Int) (a2 : Int) (M0 : tp_M) : Option (Int × tp_M) :=
  (f_X10_isSlot a0 M0).bind fun r1 =>
  if r1 = 0 then
    some ((-9223372036854775808), M0)
  else
    (f_X10_isPower a1 M0).bind fun r4 =>
    if r4 = 0 then
      some ((-9223372036854775808), M0)
    else
      (f_X10_isCoefficient a2 M0).bind fun r7 =>
      if ¬ r7 = 0 then
        if 0 ≤ a0 ∧ a0 < 5 then
          if 0 ≤ a1 ∧ a1 < 9 then
            tp_lt ((M0 (4 + a0) a1)) fun y11 =>
            if 0 ≤ a0 ∧ a0 < 5 then
              if 0 ≤ a1 ∧ a1 < 9 then
                tp_mp (tp_up M0 (4 + a0) a1 a2) fun M13 =>
                some (y11, M13) else none else none else none else none
      else
        some ((-9223372036854775808), M0)
set_option maxHeartbeats 4000000 in
set_option maxRecDepth 100000 in
theorem T_X10_set (G : tp_G) (a0 : Int) (a1 : Int) (a2 : Int) (M0 : tp_M) : tp_J i_X10_set (tp_rm 1) G 0 0 o_X10_set tp_NC (tp_st M0) 0 0 [some (.inr (.inr 0)), some (.inl a0), some (.inl a1), some (.inl a2), none] 0 [] (f_X10_set a0 a1 a2 M0) := by
  unfold f_X10_set
  refine j_iload_n rfl d_X10_set_0 rfl ?_
  refine j_bind (fun r1 h2 => ?_)
  refine j_callS (y := y_X10_isSlot) (I' := i_X10_isSlot) (avs := [.inl a0]) (st := []) (c_X10_isSlot G a0 M0 r1 h2) cs_Main_89 wd_474 wd_475 rfl rfl (Nat.le_of_ble_eq_true rfl) ⟨rfl, rfl⟩ ⟨by decide, by decide⟩ ⟨by decide, by decide⟩ d_X10_set_1 ?_
  refine j_if_eq (tgt := 22) d_X10_set_4 (by decide) (fun h3 => ?_) (fun h3 => ?_)
  · refine j_ldc2 (x := (-9223372036854775808)) ⟨by decide, by decide⟩ (show Cond.constantLong _ _ _ ∈ lw_tbl from wd_526) d_X10_set_22 ?_
    exact j_lret d_X10_set_25 rfl rfl ⟨rfl, rfl⟩
  · refine j_iload_n rfl d_X10_set_7 rfl ?_
    refine j_bind (fun r4 h5 => ?_)
    refine j_callS (y := y_X10_isPower) (I' := i_X10_isPower) (avs := [.inl a1]) (st := []) (c_X10_isPower G a1 M0 r4 h5) cs_Main_106 wd_523 wd_524 rfl rfl (Nat.le_of_ble_eq_true rfl) ⟨rfl, rfl⟩ ⟨by decide, by decide⟩ ⟨by decide, by decide⟩ d_X10_set_8 ?_
    refine j_if_eq (tgt := 22) d_X10_set_11 (by decide) (fun h6 => ?_) (fun h6 => ?_)
    · refine j_ldc2 (x := (-9223372036854775808)) ⟨by decide, by decide⟩ (show Cond.constantLong _ _ _ ∈ lw_tbl from wd_526) d_X10_set_22 ?_
      exact j_lret d_X10_set_25 rfl rfl ⟨rfl, rfl⟩
    · refine j_iload_n rfl d_X10_set_14 rfl ?_
      refine j_i2l d_X10_set_15 ?_
      refine j_bind (fun r7 h8 => ?_)
      refine j_callS (y := y_X10_isCoefficient) (I' := i_X10_isCoefficient) (avs := [.inr (.inl a2)]) (st := []) (c_X10_isCoefficient G a2 M0 r7 h8) cs_Main_109 wd_507 wd_508 rfl rfl (Nat.le_of_ble_eq_true rfl) ⟨rfl, rfl⟩ ⟨by decide, by decide⟩ ⟨by decide, by decide⟩ d_X10_set_16 ?_
      refine j_if_ne (tgt := 26) d_X10_set_19 (by decide) (fun h9 => ?_) (fun h9 => ?_)
      · refine j_aload_n rfl d_X10_set_26 rfl ?_
        refine j_getr fl_Main_24 tg_0 rv_0_3 d_X10_set_27 ?_
        refine j_iload_n rfl d_X10_set_30 rfl ?_
        refine j_aald (v := (4 + a0)) (ty := (.array .int)) tg_3 (by decide) al_3 (by decide) rfl d_X10_set_31 (fun h1 h2 => (aa_3 _ h1 h2).1) (fun hi10 => ?_)
        refine j_iload_n rfl d_X10_set_32 rfl ?_
        refine j_iald ((aa_3 _ hi10.1 hi10.2).2.1) ((aa_3 _ hi10.1 hi10.2).2.2) d_X10_set_33 ?_
        refine j_nmI (fun y11 hy11 => ?_)
        refine j_istore (lv' := [some (.inr (.inr 0)), some (.inl a0), some (.inl a1), some (.inl a2), some (.inl y11)]) d_X10_set_34 (Nat.le_of_ble_eq_true rfl) rfl ?_
        refine j_aload_n rfl d_X10_set_36 rfl ?_
        refine j_getr fl_Main_24 tg_0 rv_0_3 d_X10_set_37 ?_
        refine j_iload_n rfl d_X10_set_40 rfl ?_
        refine j_aald (v := (4 + a0)) (ty := (.array .int)) tg_3 (by decide) al_3 (by decide) rfl d_X10_set_41 (fun h1 h2 => (aa_3 _ h1 h2).1) (fun hi12 => ?_)
        refine j_iload_n rfl d_X10_set_42 rfl ?_
        refine j_iload_n rfl d_X10_set_43 rfl ?_
        refine j_iast ((aa_3 _ hi12.1 hi12.2).2.1) ((aa_3 _ hi12.1 hi12.2).2.2) d_X10_set_44 (fun M13 hM13 => ?_)
        refine j_iload d_X10_set_45 rfl ?_
        refine j_i2l d_X10_set_47 ?_
        exact j_lret d_X10_set_48 rfl rfl ⟨rfl, rfl⟩
      · refine j_ldc2 (x := (-9223372036854775808)) ⟨by decide, by decide⟩ (show Cond.constantLong _ _ _ ∈ lw_tbl from wd_526) d_X10_set_22 ?_
        exact j_lret d_X10_set_25 rfl rfl ⟨rfl, rfl⟩
set_option maxHeartbeats 4000000 in
set_option maxRecDepth 100000 in
theorem c_X10_set (G : tp_G) (a0 : Int) (a1 : Int) (a2 : Int) (M0 : tp_M) (r : Int × tp_M) (h : f_X10_set a0 a1 a2 M0 = some r) (l : Launch) : Met l y_X10_set (tp_ws y_X10_set i_X10_set) (tp_rm 1) (tp_Pc G [.inr (.inr 0), .inl a0, .inl a1, .inl a2] tp_NC (tp_st M0)) (tp_Q G (o_X10_set r)) 0 0 (tp_A G) :=
  tp_met (I := i_X10_set) (y := y_X10_set) (by decide +kernel) (Eq.refl "TypesAtPrime") (Eq.refl "set") (lv := [some (.inr (.inr 0)), some (.inl a0), some (.inl a1), some (.inl a2), none]) rfl (Nat.le_of_ble_eq_true rfl) (T_X10_set G a0 a1 a2 M0) h l
def y_X10_at : MethodName := ⟨"TypesAtPrime", "at", "(II)J"⟩
abbrev i_X10_at : tp_I := (prog_1_method_7_code, "TypesAtPrime", (some .long), 3, "at")
abbrev o_X10_at (M : tp_M) : Int → tp_O := fun r => (some (.inr (.inl r)), tp_NC, tp_st M)
theorem d_X10_at_0 : decode prog_1_method_7_code 0 = .ok (.iload_n 1, 1) := by decide +kernel
theorem d_X10_at_1 : decode prog_1_method_7_code 1 = .ok (.invokestatic 89, 3) := by decide +kernel
theorem d_X10_at_4 : decode prog_1_method_7_code 4 = .ok (.ifCond .eq 10, 3) := by decide +kernel
theorem d_X10_at_7 : decode prog_1_method_7_code 7 = .ok (.iload_n 2, 1) := by decide +kernel
theorem d_X10_at_8 : decode prog_1_method_7_code 8 = .ok (.invokestatic 106, 3) := by decide +kernel
theorem d_X10_at_11 : decode prog_1_method_7_code 11 = .ok (.ifCond .ne 7, 3) := by decide +kernel
theorem d_X10_at_14 : decode prog_1_method_7_code 14 = .ok (.ldc2_w 113, 3) := by decide +kernel
theorem d_X10_at_17 : decode prog_1_method_7_code 17 = .ok (.lreturn, 1) := by decide +kernel
theorem d_X10_at_18 : decode prog_1_method_7_code 18 = .ok (.aload_n 0, 1) := by decide +kernel
theorem d_X10_at_19 : decode prog_1_method_7_code 19 = .ok (.getfield 24, 3) := by decide +kernel
theorem d_X10_at_22 : decode prog_1_method_7_code 22 = .ok (.iload_n 1, 1) := by decide +kernel
theorem d_X10_at_23 : decode prog_1_method_7_code 23 = .ok (.aaload, 1) := by decide +kernel
theorem d_X10_at_24 : decode prog_1_method_7_code 24 = .ok (.iload_n 2, 1) := by decide +kernel
theorem d_X10_at_25 : decode prog_1_method_7_code 25 = .ok (.iaload, 1) := by decide +kernel
theorem d_X10_at_26 : decode prog_1_method_7_code 26 = .ok (.i2l, 1) := by decide +kernel
theorem d_X10_at_27 : decode prog_1_method_7_code 27 = .ok (.lreturn, 1) := by decide +kernel
def f_X10_at (a0 : Int) (a1 : Int) (M0 : tp_M) : Option (Int) :=
  (f_X10_isSlot a0 M0).bind fun r1 =>
  if r1 = 0 then
    some (-9223372036854775808)
  else
    (f_X10_isPower a1 M0).bind fun r4 =>
    if ¬ r4 = 0 then
      if 0 ≤ a0 ∧ a0 < 5 then
        if 0 ≤ a1 ∧ a1 < 9 then
          some (M0 (4 + a0) a1) else none else none
    else
      some (-9223372036854775808)
set_option maxHeartbeats 4000000 in
set_option maxRecDepth 100000 in
theorem T_X10_at (G : tp_G) (a0 : Int) (a1 : Int) (M0 : tp_M) : tp_J i_X10_at (tp_rm 1) G 0 0 (o_X10_at M0) tp_NC (tp_st M0) 0 0 [some (.inr (.inr 0)), some (.inl a0), some (.inl a1)] 0 [] (f_X10_at a0 a1 M0) := by
  unfold f_X10_at
  refine j_iload_n rfl d_X10_at_0 rfl ?_
  refine j_bind (fun r1 h2 => ?_)
  refine j_callS (y := y_X10_isSlot) (I' := i_X10_isSlot) (avs := [.inl a0]) (st := []) (c_X10_isSlot G a0 M0 r1 h2) cs_Main_89 wd_474 wd_475 rfl rfl (Nat.le_of_ble_eq_true rfl) ⟨rfl, rfl⟩ ⟨by decide, by decide⟩ ⟨by decide, by decide⟩ d_X10_at_1 ?_
  refine j_if_eq (tgt := 14) d_X10_at_4 (by decide) (fun h3 => ?_) (fun h3 => ?_)
  · refine j_ldc2 (x := (-9223372036854775808)) ⟨by decide, by decide⟩ (show Cond.constantLong _ _ _ ∈ lw_tbl from wd_526) d_X10_at_14 ?_
    exact j_lret d_X10_at_17 rfl rfl ⟨rfl, rfl⟩
  · refine j_iload_n rfl d_X10_at_7 rfl ?_
    refine j_bind (fun r4 h5 => ?_)
    refine j_callS (y := y_X10_isPower) (I' := i_X10_isPower) (avs := [.inl a1]) (st := []) (c_X10_isPower G a1 M0 r4 h5) cs_Main_106 wd_523 wd_524 rfl rfl (Nat.le_of_ble_eq_true rfl) ⟨rfl, rfl⟩ ⟨by decide, by decide⟩ ⟨by decide, by decide⟩ d_X10_at_8 ?_
    refine j_if_ne (tgt := 18) d_X10_at_11 (by decide) (fun h6 => ?_) (fun h6 => ?_)
    · refine j_aload_n rfl d_X10_at_18 rfl ?_
      refine j_getr fl_Main_24 tg_0 rv_0_3 d_X10_at_19 ?_
      refine j_iload_n rfl d_X10_at_22 rfl ?_
      refine j_aald (v := (4 + a0)) (ty := (.array .int)) tg_3 (by decide) al_3 (by decide) rfl d_X10_at_23 (fun h1 h2 => (aa_3 _ h1 h2).1) (fun hi7 => ?_)
      refine j_iload_n rfl d_X10_at_24 rfl ?_
      refine j_iald ((aa_3 _ hi7.1 hi7.2).2.1) ((aa_3 _ hi7.1 hi7.2).2.2) d_X10_at_25 ?_
      refine j_i2l d_X10_at_26 ?_
      exact j_lret d_X10_at_27 rfl rfl ⟨rfl, rfl⟩
    · refine j_ldc2 (x := (-9223372036854775808)) ⟨by decide, by decide⟩ (show Cond.constantLong _ _ _ ∈ lw_tbl from wd_526) d_X10_at_14 ?_
      exact j_lret d_X10_at_17 rfl rfl ⟨rfl, rfl⟩
set_option maxHeartbeats 4000000 in
set_option maxRecDepth 100000 in
theorem c_X10_at (G : tp_G) (a0 : Int) (a1 : Int) (M0 : tp_M) (r : Int) (h : f_X10_at a0 a1 M0 = some r) (l : Launch) : Met l y_X10_at (tp_ws y_X10_at i_X10_at) (tp_rm 1) (tp_Pc G [.inr (.inr 0), .inl a0, .inl a1] tp_NC (tp_st M0)) (tp_Q G ((o_X10_at M0) r)) 0 0 (tp_A G) :=
  tp_met (I := i_X10_at) (y := y_X10_at) (by decide +kernel) (Eq.refl "TypesAtPrime") (Eq.refl "at") (lv := [some (.inr (.inr 0)), some (.inl a0), some (.inl a1)]) rfl (Nat.le_of_ble_eq_true rfl) (T_X10_at G a0 a1 M0) h l
def y_X10_isMonic : MethodName := ⟨"TypesAtPrime", "isMonic", "(I)Z"⟩
abbrev i_X10_isMonic : tp_I := (prog_1_method_39_code, "TypesAtPrime", (some .boolean), 3, "isMonic")
abbrev o_X10_isMonic (M : tp_M) : Int → tp_O := fun r => (some (.inl r), tp_NC, tp_st M)
theorem d_X10_isMonic_0 : decode prog_1_method_39_code 0 = .ok (.aload_n 0, 1) := by decide +kernel
theorem d_X10_isMonic_1 : decode prog_1_method_39_code 1 = .ok (.getfield 24, 3) := by decide +kernel
theorem d_X10_isMonic_4 : decode prog_1_method_39_code 4 = .ok (.iload_n 1, 1) := by decide +kernel
theorem d_X10_isMonic_5 : decode prog_1_method_39_code 5 = .ok (.aaload, 1) := by decide +kernel
theorem d_X10_isMonic_6 : decode prog_1_method_39_code 6 = .ok (.invokestatic 118, 3) := by decide +kernel
theorem d_X10_isMonic_9 : decode prog_1_method_39_code 9 = .ok (.istore_n 2, 1) := by decide +kernel
theorem d_X10_isMonic_10 : decode prog_1_method_39_code 10 = .ok (.iload_n 2, 1) := by decide +kernel
theorem d_X10_isMonic_11 : decode prog_1_method_39_code 11 = .ok (.iconst 1, 1) := by decide +kernel
theorem d_X10_isMonic_12 : decode prog_1_method_39_code 12 = .ok (.if_icmp .lt 19, 3) := by decide +kernel
theorem d_X10_isMonic_15 : decode prog_1_method_39_code 15 = .ok (.aload_n 0, 1) := by decide +kernel
theorem d_X10_isMonic_16 : decode prog_1_method_39_code 16 = .ok (.getfield 24, 3) := by decide +kernel
theorem d_X10_isMonic_19 : decode prog_1_method_39_code 19 = .ok (.iload_n 1, 1) := by decide +kernel
theorem d_X10_isMonic_20 : decode prog_1_method_39_code 20 = .ok (.aaload, 1) := by decide +kernel
theorem d_X10_isMonic_21 : decode prog_1_method_39_code 21 = .ok (.iload_n 2, 1) := by decide +kernel
theorem d_X10_isMonic_22 : decode prog_1_method_39_code 22 = .ok (.iaload, 1) := by decide +kernel
theorem d_X10_isMonic_23 : decode prog_1_method_39_code 23 = .ok (.iconst 1, 1) := by decide +kernel
theorem d_X10_isMonic_24 : decode prog_1_method_39_code 24 = .ok (.if_icmp .ne 7, 3) := by decide +kernel
theorem d_X10_isMonic_27 : decode prog_1_method_39_code 27 = .ok (.iconst 1, 1) := by decide +kernel
theorem d_X10_isMonic_28 : decode prog_1_method_39_code 28 = .ok (.goto 4, 3) := by decide +kernel
theorem d_X10_isMonic_31 : decode prog_1_method_39_code 31 = .ok (.iconst 0, 1) := by decide +kernel
theorem d_X10_isMonic_32 : decode prog_1_method_39_code 32 = .ok (.ireturn, 1) := by decide +kernel
def f_X10_isMonic (a0 : Int) (M0 : tp_M) : Option (Int) :=
  if 0 ≤ a0 ∧ a0 < 5 then
    (f_X10_degreeOf (4 + a0) M0).bind fun r2 =>
    if r2 < 1 then
      some 0
    else
      if 0 ≤ a0 ∧ a0 < 5 then
        if 0 ≤ r2 ∧ r2 < 9 then
          if ¬ (M0 (4 + a0) r2) = 1 then
            some 0
          else
            some 1 else none else none else none
set_option maxHeartbeats 4000000 in
set_option maxRecDepth 100000 in
theorem T_X10_isMonic (G : tp_G) (a0 : Int) (M0 : tp_M) : tp_J i_X10_isMonic (tp_rm 1) G 0 0 (o_X10_isMonic M0) tp_NC (tp_st M0) 0 0 [some (.inr (.inr 0)), some (.inl a0), none] 0 [] (f_X10_isMonic a0 M0) := by
  unfold f_X10_isMonic
  refine j_aload_n rfl d_X10_isMonic_0 rfl ?_
  refine j_getr fl_Main_24 tg_0 rv_0_3 d_X10_isMonic_1 ?_
  refine j_iload_n rfl d_X10_isMonic_4 rfl ?_
  refine j_aald (v := (4 + a0)) (ty := (.array .int)) tg_3 (by decide) al_3 (by decide) rfl d_X10_isMonic_5 (fun h1 h2 => (aa_3 _ h1 h2).1) (fun hi1 => ?_)
  refine j_bind (fun r2 h3 => ?_)
  refine j_callS (y := y_X10_degreeOf) (I' := i_X10_degreeOf) (avs := [.inr (.inr (4 + a0))]) (st := []) (c_X10_degreeOf G (4 + a0) M0 r2 h3) cs_Main_118 wd_516 wd_517 rfl rfl (Nat.le_of_ble_eq_true rfl) ⟨rfl, rfl⟩ ⟨by decide, by decide⟩ ⟨by decide, by decide⟩ d_X10_isMonic_6 ?_
  refine j_istore_n (lv' := [some (.inr (.inr 0)), some (.inl a0), some (.inl r2)]) rfl d_X10_isMonic_9 (Nat.le_of_ble_eq_true rfl) rfl ?_
  refine j_iload_n rfl d_X10_isMonic_10 rfl ?_
  refine j_iconst ⟨by decide, by decide⟩ d_X10_isMonic_11 ?_
  refine j_icmp_lt (tgt := 31) d_X10_isMonic_12 (by decide) (fun h4 => ?_) (fun h4 => ?_)
  · refine j_iconst ⟨by decide, by decide⟩ d_X10_isMonic_31 ?_
    exact j_zret d_X10_isMonic_32 rfl (Or.inl rfl) rfl ⟨rfl, rfl⟩
  · refine j_aload_n rfl d_X10_isMonic_15 rfl ?_
    refine j_getr fl_Main_24 tg_0 rv_0_3 d_X10_isMonic_16 ?_
    refine j_iload_n rfl d_X10_isMonic_19 rfl ?_
    refine j_aald (v := (4 + a0)) (ty := (.array .int)) tg_3 (by decide) al_3 (by decide) rfl d_X10_isMonic_20 (fun h1 h2 => (aa_3 _ h1 h2).1) (fun hi5 => ?_)
    refine j_iload_n rfl d_X10_isMonic_21 rfl ?_
    refine j_iald ((aa_3 _ hi5.1 hi5.2).2.1) ((aa_3 _ hi5.1 hi5.2).2.2) d_X10_isMonic_22 ?_
    refine j_iconst ⟨by decide, by decide⟩ d_X10_isMonic_23 ?_
    refine j_icmp_ne (tgt := 31) d_X10_isMonic_24 (by decide) (fun h6 => ?_) (fun h6 => ?_)
    · refine j_iconst ⟨by decide, by decide⟩ d_X10_isMonic_31 ?_
      exact j_zret d_X10_isMonic_32 rfl (Or.inl rfl) rfl ⟨rfl, rfl⟩
    · refine j_iconst ⟨by decide, by decide⟩ d_X10_isMonic_27 ?_
      refine j_goto (tgt := 32) d_X10_isMonic_28 (by decide) ?_
      exact j_zret d_X10_isMonic_32 rfl (Or.inr rfl) rfl ⟨rfl, rfl⟩
set_option maxHeartbeats 4000000 in
set_option maxRecDepth 100000 in
theorem c_X10_isMonic (G : tp_G) (a0 : Int) (M0 : tp_M) (r : Int) (h : f_X10_isMonic a0 M0 = some r) (l : Launch) : Met l y_X10_isMonic (tp_ws y_X10_isMonic i_X10_isMonic) (tp_rm 1) (tp_Pc G [.inr (.inr 0), .inl a0] tp_NC (tp_st M0)) (tp_Q G ((o_X10_isMonic M0) r)) 0 0 (tp_A G) :=
  tp_met (I := i_X10_isMonic) (y := y_X10_isMonic) (by decide +kernel) (Eq.refl "TypesAtPrime") (Eq.refl "isMonic") (lv := [some (.inr (.inr 0)), some (.inl a0), none]) rfl (Nat.le_of_ble_eq_true rfl) (T_X10_isMonic G a0 M0) h l
theorem wd_538 : (.code ⟨"TypesAtPrime", "isMonic", "(I)Z"⟩ prog_1_method_39_code 3 (some .boolean) : Cond) ∈ lw_tbl := List.mem_append_right _ (List.mem_of_getElem? (i := 538) (by decide +kernel))
theorem cs_Main_115 : tp_CS "TypesAtPrime" 115 y_X10_isMonic i_X10_isMonic 1 := ⟨wd_538, wd_1, by decide, by decide, by decide +kernel⟩
theorem wd_535 : (.methodLink "TypesAtPrime" 115 ⟨"TypesAtPrime", "isMonic", "(I)Z"⟩ : Cond) ∈ lw_tbl := List.mem_append_right _ (List.mem_of_getElem? (i := 535) (by decide +kernel))
theorem wd_537 : (.instanceMethod ⟨"TypesAtPrime", "isMonic", "(I)Z"⟩ : Cond) ∈ lw_tbl := List.mem_append_right _ (List.mem_of_getElem? (i := 537) (by decide +kernel))
theorem ws_6 : (.selects "TypesAtPrime" ⟨"TypesAtPrime", "isMonic", "(I)Z"⟩ ⟨"TypesAtPrime", "isMonic", "(I)Z"⟩ : Cond) ∈ lw_tbl := List.mem_append_left _ (List.mem_of_getElem? (i := 6) (by decide +kernel))
def y_X10_told : MethodName := ⟨"TypesAtPrime", "told", "(II)I"⟩
abbrev i_X10_told : tp_I := (prog_1_method_8_code, "TypesAtPrime", (some .int), 3, "told")
abbrev o_X10_told (M : tp_M) : Int → tp_O := fun r => (some (.inl r), tp_NC, tp_st M)
theorem d_X10_told_0 : decode prog_1_method_8_code 0 = .ok (.iload_n 1, 1) := by decide +kernel
theorem d_X10_told_1 : decode prog_1_method_8_code 1 = .ok (.invokestatic 89, 3) := by decide +kernel
theorem d_X10_told_4 : decode prog_1_method_8_code 4 = .ok (.ifCond .ne 5, 3) := by decide +kernel
theorem d_X10_told_7 : decode prog_1_method_8_code 7 = .ok (.iconst (-1), 1) := by decide +kernel
theorem d_X10_told_8 : decode prog_1_method_8_code 8 = .ok (.ireturn, 1) := by decide +kernel
theorem d_X10_told_9 : decode prog_1_method_8_code 9 = .ok (.iload_n 2, 1) := by decide +kernel
theorem d_X10_told_10 : decode prog_1_method_8_code 10 = .ok (.ifCond .ne 9, 3) := by decide +kernel
theorem d_X10_told_13 : decode prog_1_method_8_code 13 = .ok (.aload_n 0, 1) := by decide +kernel
theorem d_X10_told_14 : decode prog_1_method_8_code 14 = .ok (.iload_n 1, 1) := by decide +kernel
theorem d_X10_told_15 : decode prog_1_method_8_code 15 = .ok (.invokevirtual 102, 3) := by decide +kernel
theorem d_X10_told_18 : decode prog_1_method_8_code 18 = .ok (.ireturn, 1) := by decide +kernel
theorem d_X10_told_19 : decode prog_1_method_8_code 19 = .ok (.iload_n 2, 1) := by decide +kernel
theorem d_X10_told_20 : decode prog_1_method_8_code 20 = .ok (.iconst 1, 1) := by decide +kernel
theorem d_X10_told_21 : decode prog_1_method_8_code 21 = .ok (.if_icmp .ne 17, 3) := by decide +kernel
theorem d_X10_told_24 : decode prog_1_method_8_code 24 = .ok (.aload_n 0, 1) := by decide +kernel
theorem d_X10_told_25 : decode prog_1_method_8_code 25 = .ok (.iload_n 1, 1) := by decide +kernel
theorem d_X10_told_26 : decode prog_1_method_8_code 26 = .ok (.invokevirtual 115, 3) := by decide +kernel
theorem d_X10_told_29 : decode prog_1_method_8_code 29 = .ok (.ifCond .eq 7, 3) := by decide +kernel
theorem d_X10_told_32 : decode prog_1_method_8_code 32 = .ok (.iconst 1, 1) := by decide +kernel
theorem d_X10_told_33 : decode prog_1_method_8_code 33 = .ok (.goto 4, 3) := by decide +kernel
theorem d_X10_told_36 : decode prog_1_method_8_code 36 = .ok (.iconst 0, 1) := by decide +kernel
theorem d_X10_told_37 : decode prog_1_method_8_code 37 = .ok (.ireturn, 1) := by decide +kernel
theorem d_X10_told_38 : decode prog_1_method_8_code 38 = .ok (.iconst (-1), 1) := by decide +kernel
theorem d_X10_told_39 : decode prog_1_method_8_code 39 = .ok (.ireturn, 1) := by decide +kernel
def f_X10_told (a0 : Int) (a1 : Int) (M0 : tp_M) : Option (Int) :=
  (f_X10_isSlot a0 M0).bind fun r1 =>
  if ¬ r1 = 0 then
    if ¬ a1 = 0 then
      if ¬ a1 = 1 then
        some (-1)
      else
        (f_X10_isMonic a0 M0).bind fun r6 =>
        if r6 = 0 then
          some 0
        else
          some 1
    else
      (f_X10_toldDegree a0 M0).bind fun r9 =>
      some r9
  else
    some (-1)
set_option maxHeartbeats 4000000 in
set_option maxRecDepth 100000 in
theorem T_X10_told (G : tp_G) (a0 : Int) (a1 : Int) (M0 : tp_M) : tp_J i_X10_told (tp_rm 2) G 0 0 (o_X10_told M0) tp_NC (tp_st M0) 0 0 [some (.inr (.inr 0)), some (.inl a0), some (.inl a1)] 0 [] (f_X10_told a0 a1 M0) := by
  unfold f_X10_told
  refine j_iload_n rfl d_X10_told_0 rfl ?_
  refine j_bind (fun r1 h2 => ?_)
  refine j_callS (y := y_X10_isSlot) (I' := i_X10_isSlot) (avs := [.inl a0]) (st := []) (c_X10_isSlot G a0 M0 r1 h2) cs_Main_89 wd_474 wd_475 rfl rfl (Nat.le_of_ble_eq_true rfl) ⟨rfl, rfl⟩ ⟨by decide, by decide⟩ ⟨by decide, by decide⟩ d_X10_told_1 ?_
  refine j_if_ne (tgt := 9) d_X10_told_4 (by decide) (fun h3 => ?_) (fun h3 => ?_)
  · refine j_iload_n rfl d_X10_told_9 rfl ?_
    refine j_if_ne (tgt := 19) d_X10_told_10 (by decide) (fun h4 => ?_) (fun h4 => ?_)
    · refine j_iload_n rfl d_X10_told_19 rfl ?_
      refine j_iconst ⟨by decide, by decide⟩ d_X10_told_20 ?_
      refine j_icmp_ne (tgt := 38) d_X10_told_21 (by decide) (fun h5 => ?_) (fun h5 => ?_)
      · refine j_iconst ⟨by decide, by decide⟩ d_X10_told_38 ?_
        exact j_iret d_X10_told_39 rfl rfl ⟨rfl, rfl⟩
      · refine j_aload_n rfl d_X10_told_24 rfl ?_
        refine j_iload_n rfl d_X10_told_25 rfl ?_
        refine j_bind (fun r6 h7 => ?_)
        refine j_callV (y := y_X10_isMonic) (I' := i_X10_isMonic) (avs := [.inl a0]) (c := 0) (st := []) (c_X10_isMonic G a0 M0 r6 h7) cs_Main_115 wd_535 wd_537 ws_6 tg_0 rfl rfl rfl (Nat.le_of_ble_eq_true rfl) ⟨rfl, rfl⟩ ⟨by decide, by decide⟩ ⟨by decide, by decide⟩ d_X10_told_26 ?_
        refine j_if_eq (tgt := 36) d_X10_told_29 (by decide) (fun h8 => ?_) (fun h8 => ?_)
        · refine j_iconst ⟨by decide, by decide⟩ d_X10_told_36 ?_
          exact j_iret d_X10_told_37 rfl rfl ⟨rfl, rfl⟩
        · refine j_iconst ⟨by decide, by decide⟩ d_X10_told_32 ?_
          refine j_goto (tgt := 37) d_X10_told_33 (by decide) ?_
          exact j_iret d_X10_told_37 rfl rfl ⟨rfl, rfl⟩
    · refine j_aload_n rfl d_X10_told_13 rfl ?_
      refine j_iload_n rfl d_X10_told_14 rfl ?_
      refine j_bind (fun r9 h10 => ?_)
      refine j_callV (y := y_X10_toldDegree) (I' := i_X10_toldDegree) (avs := [.inl a0]) (c := 0) (st := []) (c_X10_toldDegree G a0 M0 r9 h10) cs_Main_102 wd_512 wd_514 ws_5 tg_0 rfl rfl rfl (Nat.le_of_ble_eq_true rfl) ⟨rfl, rfl⟩ ⟨by decide, by decide⟩ ⟨by decide, by decide⟩ d_X10_told_15 ?_
      exact j_iret d_X10_told_18 rfl rfl ⟨rfl, rfl⟩
  · refine j_iconst ⟨by decide, by decide⟩ d_X10_told_7 ?_
    exact j_iret d_X10_told_8 rfl rfl ⟨rfl, rfl⟩
set_option maxHeartbeats 4000000 in
set_option maxRecDepth 100000 in
theorem c_X10_told (G : tp_G) (a0 : Int) (a1 : Int) (M0 : tp_M) (r : Int) (h : f_X10_told a0 a1 M0 = some r) (l : Launch) : Met l y_X10_told (tp_ws y_X10_told i_X10_told) (tp_rm 2) (tp_Pc G [.inr (.inr 0), .inl a0, .inl a1] tp_NC (tp_st M0)) (tp_Q G ((o_X10_told M0) r)) 0 0 (tp_A G) :=
  tp_met (I := i_X10_told) (y := y_X10_told) (by decide +kernel) (Eq.refl "TypesAtPrime") (Eq.refl "told") (lv := [some (.inr (.inr 0)), some (.inl a0), some (.inl a1)]) rfl (Nat.le_of_ble_eq_true rfl) (T_X10_told G a0 a1 M0) h l
