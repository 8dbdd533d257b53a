theorem wd_20 : (.classLink "TypesAtPrimeLaw" 7 "TypesAtPrime" : Cond) ∈ lw_tbl := List.mem_append_right _ (List.mem_of_getElem? (i := 20) (by decide +kernel))
theorem wd_21 : (.instantiable "TypesAtPrime" 12 : Cond) ∈ lw_tbl := List.mem_append_right _ (List.mem_of_getElem? (i := 21) (by decide +kernel))
theorem wd_1018 : (.classLink "TypesAtPrimeLaw" 10 "TypesAtPrimeModel" : Cond) ∈ lw_tbl := List.mem_append_right _ (List.mem_of_getElem? (i := 1018) (by decide +kernel))
theorem wd_1019 : (.instantiable "TypesAtPrimeModel" 67 : Cond) ∈ lw_tbl := List.mem_append_right _ (List.mem_of_getElem? (i := 1019) (by decide +kernel))
theorem wd_24 : (.code ⟨"TypesAtPrime", "<init>", "()V"⟩ prog_1_method_1_code 2 (none : Option Jvm.ClassFile.FieldType) : Cond) ∈ lw_tbl := List.mem_append_right _ (List.mem_of_getElem? (i := 24) (by decide +kernel))
theorem cs_law_9 : tp_CS "TypesAtPrimeLaw" 9 y_X10_init i_X10_init 0 := ⟨wd_24, wd_1, by decide, by decide, by decide +kernel⟩
theorem wd_1022 : (.code ⟨"TypesAtPrimeModel", "<init>", "()V"⟩ prog_13_method_1_code 1 (none : Option Jvm.ClassFile.FieldType) : Cond) ∈ lw_tbl := List.mem_append_right _ (List.mem_of_getElem? (i := 1022) (by decide +kernel))
theorem cs_law_12 : tp_CS "TypesAtPrimeLaw" 12 y_X11_init i_X11_init 0 := ⟨wd_1022, wd_12, by decide, by decide, by decide +kernel⟩
theorem wd_22 : (.methodLink "TypesAtPrimeLaw" 9 ⟨"TypesAtPrime", "<init>", "()V"⟩ : Cond) ∈ lw_tbl := List.mem_append_right _ (List.mem_of_getElem? (i := 22) (by decide +kernel))
theorem wd_1020 : (.methodLink "TypesAtPrimeLaw" 12 ⟨"TypesAtPrimeModel", "<init>", "()V"⟩ : Cond) ∈ lw_tbl := List.mem_append_right _ (List.mem_of_getElem? (i := 1020) (by decide +kernel))
theorem wd_23 : (.instanceMethod ⟨"TypesAtPrime", "<init>", "()V"⟩ : Cond) ∈ lw_tbl := List.mem_append_right _ (List.mem_of_getElem? (i := 23) (by decide +kernel))
theorem wd_1021 : (.instanceMethod ⟨"TypesAtPrimeModel", "<init>", "()V"⟩ : Cond) ∈ lw_tbl := List.mem_append_right _ (List.mem_of_getElem? (i := 1021) (by decide +kernel))
section TPL
variable {I : tp_I} {R : Room} {G : tp_G} {mc ms : Nat} {ρ : Type} {out : ρ → tp_O} {k q : Nat} {lv : List (Option tp_V)} {pc : Nat} {st : List tp_V} {φ : Option ρ}
theorem j_eqf {n : Nat} {g : Nat → tp_C} {φ1 φ2 : Option ρ} (h : φ2 = φ1) (kk : tp_J I R G mc ms out n g k q lv pc st φ1) : tp_J I R G mc ms out n g k q lv pc st φ2 := by rw [h]; exact kk
theorem j_stat (kk : tp_J I R G mc ms out tp_NC (tp_st tp_M0) k q lv pc st φ) : tp_J I R G mc ms out tp_lay.length (tp_dy tp_lay) k q lv pc st φ := by
  intro r hr p l e s m args below meth c hC ls H locs hL hn hs hH hS
  exact kk r hr p l e s m args below meth c hC ls H locs hL hn hs (tp_M0_H hH) hS
end TPL
theorem tp_take_len : (tp_lay.take 483).length = 483 := by decide +kernel
theorem tp_take_tot : tp_tot (tp_lay.take 483) = 4649 := by decide +kernel
theorem tp_lay_tot : tp_tot tp_lay = 8334 := by decide +kernel
set_option maxHeartbeats 4000000 in
set_option maxRecDepth 100000 in
/-- the law, from its entry -/
theorem T_law (G : tp_G) (L : Int) (xs : Int → Int) (hL : (G.2.1 301 : Int) = L ∧ G.2.1 301 ≤ 3072) (hxs : ∀ i : Int, (Int32.ofNat (G.2.1 (302 + i.toNat))).toInt = xs i) (M1 : tp_M) (hp : f_L_law_18 L xs 0 tp_M0 = some (1, M1)) : tp_J i_L_law room_1 G 600000 7302250 o_L_law ([] : tp_D).length (tp_dy []) (([] : tp_D).length - 0) (tp_tot [] - 0) [some (.inr (.inr (-302))), none, none, none] 0 [] (some (1, M1)) := by
  refine j_eqf (φ1 := if tp_dc 0 0 600000 7302250 [] 1 12 = true then tp_hp ([] ++ [(10, bl_10)]) (fun _ => some ((1 : Int), M1)) else none) (by rw [if_pos (by decide +kernel)]; rfl) ?_
  refine k_new (ty0 := tyX10) (T := TX10) rfl rfl wd_20 wd_21 wd_1 tyX10_ok kd_10 ko_10 ⟨rfl, rfl⟩ d_L_law_0 (fun h1 e1 => ?_)
  subst e1
  refine j_dup d_L_law_3 (fun G => tp_cat G _) ?_
  refine j_eqf (φ1 := if 0 ≤ (0 : Int) ∧ tp_dk 0 0 600000 7302250 ([] ++ [(10, bl_10)]) (tp_lay.take 483) 482 4637 = true then some ((1 : Int), M1) else none) (by rw [if_pos ⟨by decide, by decide +kernel⟩]) ?_
  refine k_callI (y := y_X10_init) (I' := i_X10_init) (avs := []) (c := 0) (st := [.inr (.inr 0)]) (rm := tp_rmc 3 482 4637) (mc' := 482) (ms' := 4637) (h' := tp_lay.take 483) (cd_X10_init G 0 [(10, bl_10)] (tp_lay.take 483) tp_mk1) rfl cs_law_9 (Or.inl wd_22) wd_23 rfl rfl rfl (Nat.le_of_ble_eq_true rfl) ⟨rfl, rfl⟩ ⟨by decide, by decide⟩ ⟨rfl, rfl⟩ d_L_law_4 ?_
  refine j_astore_n (lv' := [some (.inr (.inr (-302))), some (.inr (.inr 0)), none, none]) rfl d_L_law_7 (Nat.le_of_ble_eq_true rfl) rfl ?_
  refine j_eqf (φ1 := if tp_dc 0 0 600000 7302250 (tp_lay.take 483) 1 67 = true then tp_hp (tp_lay.take 483 ++ [(11, bl_11)]) (fun _ => some ((1 : Int), M1)) else none) (by rw [if_pos (by decide +kernel)]; rfl) ?_
  refine k_new (ty0 := tyX11) (T := TX11) rfl rfl wd_1018 wd_1019 wd_12 tyX11_ok kd_11 ko_11 ⟨rfl, rfl⟩ d_L_law_8 (fun h1 e1 => ?_)
  subst e1
  rw [show (((tp_lay.take 483).length : Nat) : Int) = 483 by rw [tp_take_len]; rfl]
  refine j_dup d_L_law_11 (fun G => tp_cat G _) ?_
  refine j_eqf (φ1 := if 0 ≤ (483 : Int) ∧ tp_dk 0 0 600000 7302250 (tp_lay.take 483 ++ [(11, bl_11)]) tp_lay 51 3618 = true then some ((1 : Int), M1) else none) (by rw [if_pos ⟨by decide, by decide +kernel⟩]) ?_
  have hmk2 : df_X11_init (tp_lay.take 483 ++ [(11, bl_11)]).length (tp_tot (tp_lay.take 483 ++ [(11, bl_11)])) 483 (tp_lay.take 483 ++ [(11, bl_11)]) = some tp_lay := by
    rw [tp_app_len, tp_app_tot, tp_take_len, tp_take_tot]
    exact tp_mk2
  refine k_callI (y := y_X11_init) (I' := i_X11_init) (avs := []) (c := 483) (st := [.inr (.inr 483)]) (rm := tp_rmc 1 51 3618) (mc' := 51) (ms' := 3618) (h' := tp_lay) (cd_X11_init G 483 _ tp_lay hmk2) rfl cs_law_12 (Or.inl wd_1020) wd_1021 rfl rfl rfl (Nat.le_of_ble_eq_true rfl) ⟨rfl, rfl⟩ ⟨by decide, by decide⟩ ⟨rfl, rfl⟩ d_L_law_12 ?_
  refine j_astore_n (lv' := [some (.inr (.inr (-302))), some (.inr (.inr 0)), some (.inr (.inr 483)), none]) rfl d_L_law_15 (Nat.le_of_ble_eq_true rfl) rfl ?_
  refine j_iconst ⟨by decide, by decide⟩ d_L_law_16 ?_
  refine j_istore_n (lv' := [some (.inr (.inr (-302))), some (.inr (.inr 0)), some (.inr (.inr 483)), some (.inl 0)]) rfl d_L_law_17 (Nat.le_of_ble_eq_true rfl) rfl ?_
  refine j_stat ?_
  rw [tp_lay_tot, tp_lay_len]
  refine j_eqf hp.symm ?_
  exact T_L_law_18 G L xs hL hxs 0 tp_M0
