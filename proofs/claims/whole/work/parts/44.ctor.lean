def tp_dok (ty : FieldType) (z : Nat) (x : Int) : Bool := match ty, z with
  | .int, 0 => x == 0
  | .boolean, 0 => x == 0
  | .long, 1 => x == 0
  | .object _, 2 => x == -1
  | .object _, 3 => x == -1
  | .array _, 2 => x == -1
  | .array _, 3 => x == -1
  | _, _ => false
theorem tp_dok_of {ty : FieldType} {z : Nat} {x : Int} (G : tp_G) (h : tp_dok ty z x = true) : defaultValue ty = tp_enc G (tp_zv z x) := by
  unfold tp_dok at h
  split at h <;> first | (cases h; done) | (have := eq_of_beq h; subst this; rfl)
theorem tp_dfl {N t : Nat} {ty0 : Nat → FieldType} {bl : List Int} (h : (List.range N).all (fun j => tp_dok (ty0 j) (tp_ty t j) (bl.getD j 0)) = true) : ∀ (G : tp_G) (j : Nat), j < N → defaultValue (ty0 j) = tp_enc G (tp_tv t j (bl.getD j 0)) := fun G j hj => tp_dok_of G (List.all_eq_true.mp h j (List.mem_range.mpr hj))
theorem tp_okbl {t : Nat} {bl : List Int} (h : bl.all (fun x => x == 0 || x == -1) = true) : tp_okc (t, bl) := by
  intro k x hx
  have h1 := List.all_eq_true.mp h x (List.mem_of_getElem? hx)
  have h2 : x = 0 ∨ x = -1 := by simpa using h1
  show tp_ok (tp_zv (tp_ty t k) x)
  unfold tp_zv
  split
  · show tp_r x; unfold tp_r; omega
  · show tp_rl x; unfold tp_rl; omega
  · trivial
abbrev od_ : tp_D → tp_O := fun r => (none, r.length, tp_dy r)
def bl_10 : List Int := [(-1), (-1), 0, (-1), (-1), (-1), (-1), (-1), (-1), (-1), (-1), (-1)]
theorem kd_10 : ∀ (G : tp_G) (j : Nat), j < 12 → defaultValue (tyX10 j) = tp_enc G (tp_tv 10 j (bl_10.getD j 0)) := tp_dfl (by decide +kernel)
theorem ko_10 : tp_okc (10, bl_10) := tp_okbl (by decide +kernel)
def bl_11 : List Int := [0, 0, 0, (-1), (-1), 0, 0, (-1), (-1), (-1), (-1), 0, 0, (-1), (-1), (-1), (-1), (-1), 0, (-1), 0, 0, 0, 0, (-1), (-1), (-1), (-1), (-1), (-1), (-1), (-1), (-1), (-1), (-1), (-1), (-1), (-1), (-1), (-1), (-1), (-1), (-1), (-1), (-1), (-1), (-1), (-1), (-1), 0, (-1), (-1), (-1), (-1), (-1), (-1), 0, (-1), (-1), (-1), (-1), 0, (-1), 0, (-1), (-1), (-1)]
theorem kd_11 : ∀ (G : tp_G) (j : Nat), j < 67 → defaultValue (tyX11 j) = tp_enc G (tp_tv 11 j (bl_11.getD j 0)) := tp_dfl (by decide +kernel)
theorem ko_11 : tp_okc (11, bl_11) := tp_okbl (by decide +kernel)
theorem wd_97 : (.methodLink "TypesAtPrime$Factors" 3 ⟨"java/lang/Object", "<init>", "()V"⟩ : Cond) ∈ lw_tbl := List.mem_append_right _ (List.mem_of_getElem? (i := 97) (by decide +kernel))
theorem wd_26 : (.instanceMethod ⟨"java/lang/Object", "<init>", "()V"⟩ : Cond) ∈ lw_tbl := List.mem_append_right _ (List.mem_of_getElem? (i := 26) (by decide +kernel))
theorem wd_27 : (.code ⟨"java/lang/Object", "<init>", "()V"⟩ object_method_1_code 1 (none : Option Jvm.ClassFile.FieldType) : Cond) ∈ lw_tbl := List.mem_append_right _ (List.mem_of_getElem? (i := 27) (by decide +kernel))
theorem wd_71 : (.arrayClass .int : Cond) ∈ lw_tbl := List.mem_append_right _ (List.mem_of_getElem? (i := 71) (by decide +kernel))
theorem pd_0_1 (v : Int) : ∀ (C : String) (T : u_T) (N : Nat), vwCl[0]? = some (C, T, N) → (T 1).2.2.2 = true ∧ ∀ G : tp_G, ∃ ty, parseFieldDescriptor (T 1).2.2.1 = some ty ∧ narrow ty (tp_enc G (tp_zv 2 v)) = tp_enc G (tp_zv 2 v) ∧ fits ty (tp_enc G (tp_zv 2 v)) = true := by
  intro C T N h
  cases h
  refine ⟨rfl, fun G => ⟨_, tyX0_ok 1 (by decide), ?_⟩⟩
  show narrow _ (tp_ref G v) = tp_ref G v ∧ fits _ (tp_ref G v) = true
  rcases tp_refc G v with h | ⟨a, h⟩ <;> rw [h] <;> exact ⟨rfl, rfl⟩
theorem pd_0_2 (v : Int) : ∀ (C : String) (T : u_T) (N : Nat), vwCl[0]? = some (C, T, N) → (T 2).2.2.2 = true ∧ ∀ G : tp_G, ∃ ty, parseFieldDescriptor (T 2).2.2.1 = some ty ∧ narrow ty (tp_enc G (tp_zv 2 v)) = tp_enc G (tp_zv 2 v) ∧ fits ty (tp_enc G (tp_zv 2 v)) = true := by
  intro C T N h
  cases h
  refine ⟨rfl, fun G => ⟨_, tyX0_ok 2 (by decide), ?_⟩⟩
  show narrow _ (tp_ref G v) = tp_ref G v ∧ fits _ (tp_ref G v) = true
  rcases tp_refc G v with h | ⟨a, h⟩ <;> rw [h] <;> exact ⟨rfl, rfl⟩
theorem wd_98 : (.classLink "TypesAtPrime$Factors" 18 "[[I" : Cond) ∈ lw_tbl := List.mem_append_right _ (List.mem_of_getElem? (i := 98) (by decide +kernel))
theorem pd_0_3 (v : Int) : ∀ (C : String) (T : u_T) (N : Nat), vwCl[0]? = some (C, T, N) → (T 3).2.2.2 = true ∧ ∀ G : tp_G, ∃ ty, parseFieldDescriptor (T 3).2.2.1 = some ty ∧ narrow ty (tp_enc G (tp_zv 2 v)) = tp_enc G (tp_zv 2 v) ∧ fits ty (tp_enc G (tp_zv 2 v)) = true := by
  intro C T N h
  cases h
  refine ⟨rfl, fun G => ⟨_, tyX0_ok 3 (by decide), ?_⟩⟩
  show narrow _ (tp_ref G v) = tp_ref G v ∧ fits _ (tp_ref G v) = true
  rcases tp_refc G v with h | ⟨a, h⟩ <;> rw [h] <;> exact ⟨rfl, rfl⟩
theorem pd_0_5 (v : Int) : ∀ (C : String) (T : u_T) (N : Nat), vwCl[0]? = some (C, T, N) → (T 5).2.2.2 = true ∧ ∀ G : tp_G, ∃ ty, parseFieldDescriptor (T 5).2.2.1 = some ty ∧ narrow ty (tp_enc G (tp_zv 2 v)) = tp_enc G (tp_zv 2 v) ∧ fits ty (tp_enc G (tp_zv 2 v)) = true := by
  intro C T N h
  cases h
  refine ⟨rfl, fun G => ⟨_, tyX0_ok 5 (by decide), ?_⟩⟩
  show narrow _ (tp_ref G v) = tp_ref G v ∧ fits _ (tp_ref G v) = true
  rcases tp_refc G v with h | ⟨a, h⟩ <;> rw [h] <;> exact ⟨rfl, rfl⟩
theorem pd_0_6 (v : Int) : ∀ (C : String) (T : u_T) (N : Nat), vwCl[0]? = some (C, T, N) → (T 6).2.2.2 = true ∧ ∀ G : tp_G, ∃ ty, parseFieldDescriptor (T 6).2.2.1 = some ty ∧ narrow ty (tp_enc G (tp_zv 2 v)) = tp_enc G (tp_zv 2 v) ∧ fits ty (tp_enc G (tp_zv 2 v)) = true := by
  intro C T N h
  cases h
  refine ⟨rfl, fun G => ⟨_, tyX0_ok 6 (by decide), ?_⟩⟩
  show narrow _ (tp_ref G v) = tp_ref G v ∧ fits _ (tp_ref G v) = true
  rcases tp_refc G v with h | ⟨a, h⟩ <;> rw [h] <;> exact ⟨rfl, rfl⟩
theorem pd_0_7 (v : Int) : ∀ (C : String) (T : u_T) (N : Nat), vwCl[0]? = some (C, T, N) → (T 7).2.2.2 = true ∧ ∀ G : tp_G, ∃ ty, parseFieldDescriptor (T 7).2.2.1 = some ty ∧ narrow ty (tp_enc G (tp_zv 2 v)) = tp_enc G (tp_zv 2 v) ∧ fits ty (tp_enc G (tp_zv 2 v)) = true := by
  intro C T N h
  cases h
  refine ⟨rfl, fun G => ⟨_, tyX0_ok 7 (by decide), ?_⟩⟩
  show narrow _ (tp_ref G v) = tp_ref G v ∧ fits _ (tp_ref G v) = true
  rcases tp_refc G v with h | ⟨a, h⟩ <;> rw [h] <;> exact ⟨rfl, rfl⟩
theorem pd_0_8 (v : Int) : ∀ (C : String) (T : u_T) (N : Nat), vwCl[0]? = some (C, T, N) → (T 8).2.2.2 = true ∧ ∀ G : tp_G, ∃ ty, parseFieldDescriptor (T 8).2.2.1 = some ty ∧ narrow ty (tp_enc G (tp_zv 2 v)) = tp_enc G (tp_zv 2 v) ∧ fits ty (tp_enc G (tp_zv 2 v)) = true := by
  intro C T N h
  cases h
  refine ⟨rfl, fun G => ⟨_, tyX0_ok 8 (by decide), ?_⟩⟩
  show narrow _ (tp_ref G v) = tp_ref G v ∧ fits _ (tp_ref G v) = true
  rcases tp_refc G v with h | ⟨a, h⟩ <;> rw [h] <;> exact ⟨rfl, rfl⟩
theorem pd_0_9 (v : Int) : ∀ (C : String) (T : u_T) (N : Nat), vwCl[0]? = some (C, T, N) → (T 9).2.2.2 = true ∧ ∀ G : tp_G, ∃ ty, parseFieldDescriptor (T 9).2.2.1 = some ty ∧ narrow ty (tp_enc G (tp_zv 2 v)) = tp_enc G (tp_zv 2 v) ∧ fits ty (tp_enc G (tp_zv 2 v)) = true := by
  intro C T N h
  cases h
  refine ⟨rfl, fun G => ⟨_, tyX0_ok 9 (by decide), ?_⟩⟩
  show narrow _ (tp_ref G v) = tp_ref G v ∧ fits _ (tp_ref G v) = true
  rcases tp_refc G v with h | ⟨a, h⟩ <;> rw [h] <;> exact ⟨rfl, rfl⟩
theorem pd_0_10 (v : Int) : ∀ (C : String) (T : u_T) (N : Nat), vwCl[0]? = some (C, T, N) → (T 10).2.2.2 = true ∧ ∀ G : tp_G, ∃ ty, parseFieldDescriptor (T 10).2.2.1 = some ty ∧ narrow ty (tp_enc G (tp_zv 2 v)) = tp_enc G (tp_zv 2 v) ∧ fits ty (tp_enc G (tp_zv 2 v)) = true := by
  intro C T N h
  cases h
  refine ⟨rfl, fun G => ⟨_, tyX0_ok 10 (by decide), ?_⟩⟩
  show narrow _ (tp_ref G v) = tp_ref G v ∧ fits _ (tp_ref G v) = true
  rcases tp_refc G v with h | ⟨a, h⟩ <;> rw [h] <;> exact ⟨rfl, rfl⟩
theorem pd_0_11 (v : Int) : ∀ (C : String) (T : u_T) (N : Nat), vwCl[0]? = some (C, T, N) → (T 11).2.2.2 = true ∧ ∀ G : tp_G, ∃ ty, parseFieldDescriptor (T 11).2.2.1 = some ty ∧ narrow ty (tp_enc G (tp_zv 2 v)) = tp_enc G (tp_zv 2 v) ∧ fits ty (tp_enc G (tp_zv 2 v)) = true := by
  intro C T N h
  cases h
  refine ⟨rfl, fun G => ⟨_, tyX0_ok 11 (by decide), ?_⟩⟩
  show narrow _ (tp_ref G v) = tp_ref G v ∧ fits _ (tp_ref G v) = true
  rcases tp_refc G v with h | ⟨a, h⟩ <;> rw [h] <;> exact ⟨rfl, rfl⟩
theorem pd_0_12 (v : Int) : ∀ (C : String) (T : u_T) (N : Nat), vwCl[0]? = some (C, T, N) → (T 12).2.2.2 = true ∧ ∀ G : tp_G, ∃ ty, parseFieldDescriptor (T 12).2.2.1 = some ty ∧ narrow ty (tp_enc G (tp_zv 2 v)) = tp_enc G (tp_zv 2 v) ∧ fits ty (tp_enc G (tp_zv 2 v)) = true := by
  intro C T N h
  cases h
  refine ⟨rfl, fun G => ⟨_, tyX0_ok 12 (by decide), ?_⟩⟩
  show narrow _ (tp_ref G v) = tp_ref G v ∧ fits _ (tp_ref G v) = true
  rcases tp_refc G v with h | ⟨a, h⟩ <;> rw [h] <;> exact ⟨rfl, rfl⟩
def y_X0_init : MethodName := ⟨"TypesAtPrime$Factors", "<init>", "()V"⟩
abbrev i_X0_init : tp_I := (prog_2_method_1_code, "TypesAtPrime$Factors", none, 1, "<init>")
theorem d_X0_init_0 : decode prog_2_method_1_code 0 = .ok (.aload_n 0, 1) := by decide +kernel
theorem d_X0_init_1 : decode prog_2_method_1_code 1 = .ok (.invokespecial 3, 3) := by decide +kernel
theorem d_X0_init_4 : decode prog_2_method_1_code 4 = .ok (.aload_n 0, 1) := by decide +kernel
theorem d_X0_init_5 : decode prog_2_method_1_code 5 = .ok (.bipush 9, 2) := by decide +kernel
theorem d_X0_init_7 : decode prog_2_method_1_code 7 = .ok (.newarray .int, 2) := by decide +kernel
theorem d_X0_init_9 : decode prog_2_method_1_code 9 = .ok (.putfield 9, 3) := by decide +kernel
theorem d_X0_init_12 : decode prog_2_method_1_code 12 = .ok (.aload_n 0, 1) := by decide +kernel
theorem d_X0_init_13 : decode prog_2_method_1_code 13 = .ok (.bipush 9, 2) := by decide +kernel
theorem d_X0_init_15 : decode prog_2_method_1_code 15 = .ok (.newarray .int, 2) := by decide +kernel
theorem d_X0_init_17 : decode prog_2_method_1_code 17 = .ok (.putfield 15, 3) := by decide +kernel
theorem d_X0_init_20 : decode prog_2_method_1_code 20 = .ok (.aload_n 0, 1) := by decide +kernel
theorem d_X0_init_21 : decode prog_2_method_1_code 21 = .ok (.bipush 9, 2) := by decide +kernel
theorem d_X0_init_23 : decode prog_2_method_1_code 23 = .ok (.bipush 9, 2) := by decide +kernel
theorem d_X0_init_25 : decode prog_2_method_1_code 25 = .ok (.multianewarray 18 2, 4) := by decide +kernel
theorem d_X0_init_29 : decode prog_2_method_1_code 29 = .ok (.putfield 20, 3) := by decide +kernel
theorem d_X0_init_32 : decode prog_2_method_1_code 32 = .ok (.aload_n 0, 1) := by decide +kernel
theorem d_X0_init_33 : decode prog_2_method_1_code 33 = .ok (.bipush 9, 2) := by decide +kernel
theorem d_X0_init_35 : decode prog_2_method_1_code 35 = .ok (.newarray .int, 2) := by decide +kernel
theorem d_X0_init_37 : decode prog_2_method_1_code 37 = .ok (.putfield 23, 3) := by decide +kernel
theorem d_X0_init_40 : decode prog_2_method_1_code 40 = .ok (.aload_n 0, 1) := by decide +kernel
theorem d_X0_init_41 : decode prog_2_method_1_code 41 = .ok (.bipush 9, 2) := by decide +kernel
theorem d_X0_init_43 : decode prog_2_method_1_code 43 = .ok (.newarray .int, 2) := by decide +kernel
theorem d_X0_init_45 : decode prog_2_method_1_code 45 = .ok (.putfield 26, 3) := by decide +kernel
theorem d_X0_init_48 : decode prog_2_method_1_code 48 = .ok (.aload_n 0, 1) := by decide +kernel
theorem d_X0_init_49 : decode prog_2_method_1_code 49 = .ok (.bipush 9, 2) := by decide +kernel
theorem d_X0_init_51 : decode prog_2_method_1_code 51 = .ok (.newarray .int, 2) := by decide +kernel
theorem d_X0_init_53 : decode prog_2_method_1_code 53 = .ok (.putfield 29, 3) := by decide +kernel
theorem d_X0_init_56 : decode prog_2_method_1_code 56 = .ok (.aload_n 0, 1) := by decide +kernel
theorem d_X0_init_57 : decode prog_2_method_1_code 57 = .ok (.bipush 9, 2) := by decide +kernel
theorem d_X0_init_59 : decode prog_2_method_1_code 59 = .ok (.newarray .int, 2) := by decide +kernel
theorem d_X0_init_61 : decode prog_2_method_1_code 61 = .ok (.putfield 32, 3) := by decide +kernel
theorem d_X0_init_64 : decode prog_2_method_1_code 64 = .ok (.aload_n 0, 1) := by decide +kernel
theorem d_X0_init_65 : decode prog_2_method_1_code 65 = .ok (.bipush 9, 2) := by decide +kernel
theorem d_X0_init_67 : decode prog_2_method_1_code 67 = .ok (.newarray .int, 2) := by decide +kernel
theorem d_X0_init_69 : decode prog_2_method_1_code 69 = .ok (.putfield 35, 3) := by decide +kernel
theorem d_X0_init_72 : decode prog_2_method_1_code 72 = .ok (.aload_n 0, 1) := by decide +kernel
theorem d_X0_init_73 : decode prog_2_method_1_code 73 = .ok (.bipush 9, 2) := by decide +kernel
theorem d_X0_init_75 : decode prog_2_method_1_code 75 = .ok (.newarray .int, 2) := by decide +kernel
theorem d_X0_init_77 : decode prog_2_method_1_code 77 = .ok (.putfield 38, 3) := by decide +kernel
theorem d_X0_init_80 : decode prog_2_method_1_code 80 = .ok (.aload_n 0, 1) := by decide +kernel
theorem d_X0_init_81 : decode prog_2_method_1_code 81 = .ok (.bipush 9, 2) := by decide +kernel
theorem d_X0_init_83 : decode prog_2_method_1_code 83 = .ok (.newarray .int, 2) := by decide +kernel
theorem d_X0_init_85 : decode prog_2_method_1_code 85 = .ok (.putfield 41, 3) := by decide +kernel
theorem d_X0_init_88 : decode prog_2_method_1_code 88 = .ok (.aload_n 0, 1) := by decide +kernel
theorem d_X0_init_89 : decode prog_2_method_1_code 89 = .ok (.bipush 18, 2) := by decide +kernel
theorem d_X0_init_91 : decode prog_2_method_1_code 91 = .ok (.newarray .int, 2) := by decide +kernel
theorem d_X0_init_93 : decode prog_2_method_1_code 93 = .ok (.putfield 44, 3) := by decide +kernel
theorem d_X0_init_96 : decode prog_2_method_1_code 96 = .ok (.return_, 1) := by decide +kernel
set_option maxHeartbeats 4000000 in
set_option maxRecDepth 100000 in
def df_X0_init (n0 q0 : Nat) (c0 : Int) (H0 : tp_D) : Option tp_D :=
  if 0 ≤ c0 then
    if tp_dc n0 q0 20 189 H0 1 9 = true then
      tp_hp (H0 ++ [(21, List.replicate 9 0)]) fun h2 =>
      if tp_dt h2 c0 = 0 then
        tp_hp (tp_ds h2 c0 1 (H0.length : Int)) fun h3 =>
        if tp_dc n0 q0 20 189 h3 1 9 = true then
          tp_hp (h3 ++ [(21, List.replicate 9 0)]) fun h4 =>
          if tp_dt h4 c0 = 0 then
            tp_hp (tp_ds h4 c0 2 (h3.length : Int)) fun h5 =>
            if tp_dc n0 q0 20 189 h5 (1 + 9) (9 + 9 * 9) = true then
              tp_hp (tp_mn h5 23 21 9 9) fun h6 =>
              if tp_dt h6 c0 = 0 then
                tp_hp (tp_ds h6 c0 3 (h5.length : Int)) fun h7 =>
                if tp_dc n0 q0 20 189 h7 1 9 = true then
                  tp_hp (h7 ++ [(21, List.replicate 9 0)]) fun h8 =>
                  if tp_dt h8 c0 = 0 then
                    tp_hp (tp_ds h8 c0 5 (h7.length : Int)) fun h9 =>
                    if tp_dc n0 q0 20 189 h9 1 9 = true then
                      tp_hp (h9 ++ [(21, List.replicate 9 0)]) fun h10 =>
                      if tp_dt h10 c0 = 0 then
                        tp_hp (tp_ds h10 c0 6 (h9.length : Int)) fun h11 =>
                        if tp_dc n0 q0 20 189 h11 1 9 = true then
                          tp_hp (h11 ++ [(21, List.replicate 9 0)]) fun h12 =>
                          if tp_dt h12 c0 = 0 then
                            tp_hp (tp_ds h12 c0 7 (h11.length : Int)) fun h13 =>
                            if tp_dc n0 q0 20 189 h13 1 9 = true then
                              tp_hp (h13 ++ [(21, List.replicate 9 0)]) fun h14 =>
                              if tp_dt h14 c0 = 0 then
                                tp_hp (tp_ds h14 c0 8 (h13.length : Int)) fun h15 =>
                                if tp_dc n0 q0 20 189 h15 1 9 = true then
                                  tp_hp (h15 ++ [(21, List.replicate 9 0)]) fun h16 =>
                                  if tp_dt h16 c0 = 0 then
                                    tp_hp (tp_ds h16 c0 9 (h15.length : Int)) fun h17 =>
                                    if tp_dc n0 q0 20 189 h17 1 9 = true then
                                      tp_hp (h17 ++ [(21, List.replicate 9 0)]) fun h18 =>
                                      if tp_dt h18 c0 = 0 then
                                        tp_hp (tp_ds h18 c0 10 (h17.length : Int)) fun h19 =>
                                        if tp_dc n0 q0 20 189 h19 1 9 = true then
                                          tp_hp (h19 ++ [(21, List.replicate 9 0)]) fun h20 =>
                                          if tp_dt h20 c0 = 0 then
                                            tp_hp (tp_ds h20 c0 11 (h19.length : Int)) fun h21 =>
                                            if tp_dc n0 q0 20 189 h21 1 18 = true then
                                              tp_hp (h21 ++ [(21, List.replicate 18 0)]) fun h22 =>
                                              if tp_dt h22 c0 = 0 then
                                                tp_hp (tp_ds h22 c0 12 (h21.length : Int)) fun h23 =>
                                                if tp_de n0 q0 20 189 h23 = true then some h23 else none else none else none else none else none else none else none else none else none else none else none else none else none else none else none else none else none else none else none else none else none else none else none else none
set_option maxHeartbeats 4000000 in
set_option maxRecDepth 100000 in
theorem TD_X0_init (G : tp_G) (n0 q0 : Nat) (c0 : Int) (H0 : tp_D) : tp_J i_X0_init (tp_rmc 1 20 189) G 20 189 od_ H0.length (tp_dy H0) (H0.length - n0) (tp_tot H0 - q0) [some (.inr (.inr c0))] 0 [] (df_X0_init n0 q0 c0 H0) := by
  unfold df_X0_init
  refine j_aload_n rfl d_X0_init_0 rfl ?_
  refine tp_chk (fun g1 => ?_)
  refine j_obj g1 wd_97 wd_26 wd_27 ⟨by decide, by decide⟩ (Nat.le_of_ble_eq_true rfl) d_X0_init_1 ?_
  refine j_aload_n rfl d_X0_init_4 rfl ?_
  refine j_bipush ⟨by decide, by decide⟩ (by decide +kernel) d_X0_init_5 ?_
  refine k_newa (N := 9) (tag := 21) (ty := .int) rfl (by decide) rfl (by decide) (by decide) (by decide) wd_71 (fun _ _ => rfl) (fun _ => (⟨by decide, by decide⟩ : tp_r 0)) (fun _ _ h => h) ⟨rfl, rfl⟩ d_X0_init_7 (fun h2 eh2 => ?_)
  refine k_put (z := 2) (v := (H0.length : Int)) (fin := true) fl_Factors_9 (pd_0_1 _) (fun _ => ⟨rfl, fun C T N h => by cases h; rfl⟩) pt_0 d_X0_init_9 (fun h3 eh3 => ?_)
  refine j_aload_n rfl d_X0_init_12 rfl ?_
  refine j_bipush ⟨by decide, by decide⟩ (by decide +kernel) d_X0_init_13 ?_
  refine k_newa (N := 9) (tag := 21) (ty := .int) rfl (by decide) rfl (by decide) (by decide) (by decide) wd_71 (fun _ _ => rfl) (fun _ => (⟨by decide, by decide⟩ : tp_r 0)) (fun _ _ h => h) ⟨rfl, rfl⟩ d_X0_init_15 (fun h4 eh4 => ?_)
  refine k_put (z := 2) (v := (h3.length : Int)) (fin := true) fl_Factors_15 (pd_0_2 _) (fun _ => ⟨rfl, fun C T N h => by cases h; rfl⟩) pt_0 d_X0_init_17 (fun h5 eh5 => ?_)
  refine j_aload_n rfl d_X0_init_20 rfl ?_
  refine j_bipush ⟨by decide, by decide⟩ (by decide +kernel) d_X0_init_21 ?_
  refine j_bipush ⟨by decide, by decide⟩ (by decide +kernel) d_X0_init_23 ?_
  refine k_mna (N := 9) (K := 9) (tag := 23) (tag2 := 21) (ty := .int) rfl rfl ⟨by decide, by decide⟩ (by decide) (by decide) (by decide) (by decide) (fun _ _ h => h) (fun K hK => by show K * 4 ≤ _; omega) rfl rfl (fun _ _ => rfl) (fun _ => (⟨by decide, by decide⟩ : tp_r 0)) (by decide) wd_98 wd_71 ⟨rfl, rfl⟩ d_X0_init_25 (fun h6 eh6 => ?_)
  refine k_put (z := 2) (v := (h5.length : Int)) (fin := true) fl_Factors_20 (pd_0_3 _) (fun _ => ⟨rfl, fun C T N h => by cases h; rfl⟩) pt_0 d_X0_init_29 (fun h7 eh7 => ?_)
  refine j_aload_n rfl d_X0_init_32 rfl ?_
  refine j_bipush ⟨by decide, by decide⟩ (by decide +kernel) d_X0_init_33 ?_
  refine k_newa (N := 9) (tag := 21) (ty := .int) rfl (by decide) rfl (by decide) (by decide) (by decide) wd_71 (fun _ _ => rfl) (fun _ => (⟨by decide, by decide⟩ : tp_r 0)) (fun _ _ h => h) ⟨rfl, rfl⟩ d_X0_init_35 (fun h8 eh8 => ?_)
  refine k_put (z := 2) (v := (h7.length : Int)) (fin := true) fl_Factors_23 (pd_0_5 _) (fun _ => ⟨rfl, fun C T N h => by cases h; rfl⟩) pt_0 d_X0_init_37 (fun h9 eh9 => ?_)
  refine j_aload_n rfl d_X0_init_40 rfl ?_
  refine j_bipush ⟨by decide, by decide⟩ (by decide +kernel) d_X0_init_41 ?_
  refine k_newa (N := 9) (tag := 21) (ty := .int) rfl (by decide) rfl (by decide) (by decide) (by decide) wd_71 (fun _ _ => rfl) (fun _ => (⟨by decide, by decide⟩ : tp_r 0)) (fun _ _ h => h) ⟨rfl, rfl⟩ d_X0_init_43 (fun h10 eh10 => ?_)
  refine k_put (z := 2) (v := (h9.length : Int)) (fin := true) fl_Factors_26 (pd_0_6 _) (fun _ => ⟨rfl, fun C T N h => by cases h; rfl⟩) pt_0 d_X0_init_45 (fun h11 eh11 => ?_)
  refine j_aload_n rfl d_X0_init_48 rfl ?_
  refine j_bipush ⟨by decide, by decide⟩ (by decide +kernel) d_X0_init_49 ?_
  refine k_newa (N := 9) (tag := 21) (ty := .int) rfl (by decide) rfl (by decide) (by decide) (by decide) wd_71 (fun _ _ => rfl) (fun _ => (⟨by decide, by decide⟩ : tp_r 0)) (fun _ _ h => h) ⟨rfl, rfl⟩ d_X0_init_51 (fun h12 eh12 => ?_)
  refine k_put (z := 2) (v := (h11.length : Int)) (fin := true) fl_Factors_29 (pd_0_7 _) (fun _ => ⟨rfl, fun C T N h => by cases h; rfl⟩) pt_0 d_X0_init_53 (fun h13 eh13 => ?_)
  refine j_aload_n rfl d_X0_init_56 rfl ?_
  refine j_bipush ⟨by decide, by decide⟩ (by decide +kernel) d_X0_init_57 ?_
  refine k_newa (N := 9) (tag := 21) (ty := .int) rfl (by decide) rfl (by decide) (by decide) (by decide) wd_71 (fun _ _ => rfl) (fun _ => (⟨by decide, by decide⟩ : tp_r 0)) (fun _ _ h => h) ⟨rfl, rfl⟩ d_X0_init_59 (fun h14 eh14 => ?_)
  refine k_put (z := 2) (v := (h13.length : Int)) (fin := true) fl_Factors_32 (pd_0_8 _) (fun _ => ⟨rfl, fun C T N h => by cases h; rfl⟩) pt_0 d_X0_init_61 (fun h15 eh15 => ?_)
  refine j_aload_n rfl d_X0_init_64 rfl ?_
  refine j_bipush ⟨by decide, by decide⟩ (by decide +kernel) d_X0_init_65 ?_
  refine k_newa (N := 9) (tag := 21) (ty := .int) rfl (by decide) rfl (by decide) (by decide) (by decide) wd_71 (fun _ _ => rfl) (fun _ => (⟨by decide, by decide⟩ : tp_r 0)) (fun _ _ h => h) ⟨rfl, rfl⟩ d_X0_init_67 (fun h16 eh16 => ?_)
  refine k_put (z := 2) (v := (h15.length : Int)) (fin := true) fl_Factors_35 (pd_0_9 _) (fun _ => ⟨rfl, fun C T N h => by cases h; rfl⟩) pt_0 d_X0_init_69 (fun h17 eh17 => ?_)
  refine j_aload_n rfl d_X0_init_72 rfl ?_
  refine j_bipush ⟨by decide, by decide⟩ (by decide +kernel) d_X0_init_73 ?_
  refine k_newa (N := 9) (tag := 21) (ty := .int) rfl (by decide) rfl (by decide) (by decide) (by decide) wd_71 (fun _ _ => rfl) (fun _ => (⟨by decide, by decide⟩ : tp_r 0)) (fun _ _ h => h) ⟨rfl, rfl⟩ d_X0_init_75 (fun h18 eh18 => ?_)
  refine k_put (z := 2) (v := (h17.length : Int)) (fin := true) fl_Factors_38 (pd_0_10 _) (fun _ => ⟨rfl, fun C T N h => by cases h; rfl⟩) pt_0 d_X0_init_77 (fun h19 eh19 => ?_)
  refine j_aload_n rfl d_X0_init_80 rfl ?_
  refine j_bipush ⟨by decide, by decide⟩ (by decide +kernel) d_X0_init_81 ?_
  refine k_newa (N := 9) (tag := 21) (ty := .int) rfl (by decide) rfl (by decide) (by decide) (by decide) wd_71 (fun _ _ => rfl) (fun _ => (⟨by decide, by decide⟩ : tp_r 0)) (fun _ _ h => h) ⟨rfl, rfl⟩ d_X0_init_83 (fun h20 eh20 => ?_)
  refine k_put (z := 2) (v := (h19.length : Int)) (fin := true) fl_Factors_41 (pd_0_11 _) (fun _ => ⟨rfl, fun C T N h => by cases h; rfl⟩) pt_0 d_X0_init_85 (fun h21 eh21 => ?_)
  refine j_aload_n rfl d_X0_init_88 rfl ?_
  refine j_bipush ⟨by decide, by decide⟩ (by decide +kernel) d_X0_init_89 ?_
  refine k_newa (N := 18) (tag := 21) (ty := .int) rfl (by decide) rfl (by decide) (by decide) (by decide) wd_71 (fun _ _ => rfl) (fun _ => (⟨by decide, by decide⟩ : tp_r 0)) (fun _ _ h => h) ⟨rfl, rfl⟩ d_X0_init_91 (fun h22 eh22 => ?_)
  refine k_put (z := 2) (v := (h21.length : Int)) (fin := true) fl_Factors_44 (pd_0_12 _) (fun _ => ⟨rfl, fun C T N h => by cases h; rfl⟩) pt_0 d_X0_init_93 (fun h23 eh23 => ?_)
  exact k_vret d_X0_init_96 rfl rfl
set_option maxHeartbeats 4000000 in
set_option maxRecDepth 100000 in
theorem cd_X0_init (G : tp_G) (c0 : Int) (H0 r : tp_D) (h : df_X0_init H0.length (tp_tot H0) c0 H0 = some r) (l : Launch) : Met l y_X0_init (tp_ws y_X0_init i_X0_init) (tp_rmc 1 20 189) (tp_Pc G [.inr (.inr c0)] H0.length (tp_dy H0)) (tp_Q G (none, r.length, tp_dy r)) 20 189 (tp_A G) := by
  have hJ := TD_X0_init G H0.length (tp_tot H0) c0 H0
  rw [Nat.sub_self, Nat.sub_self] at hJ
  exact tp_met (I := i_X0_init) (y := y_X0_init) (by decide +kernel) (Eq.refl "TypesAtPrime$Factors") (Eq.refl "<init>") (lv := [some (.inr (.inr c0))]) rfl (Nat.le_of_ble_eq_true rfl) hJ h l
theorem wd_338 : (.methodLink "TypesAtPrime$Path" 3 ⟨"java/lang/Object", "<init>", "()V"⟩ : Cond) ∈ lw_tbl := List.mem_append_right _ (List.mem_of_getElem? (i := 338) (by decide +kernel))
theorem pd_5_0 (v : Int) : ∀ (C : String) (T : u_T) (N : Nat), vwCl[5]? = some (C, T, N) → (T 0).2.2.2 = true ∧ ∀ G : tp_G, ∃ ty, parseFieldDescriptor (T 0).2.2.1 = some ty ∧ narrow ty (tp_enc G (tp_zv 2 v)) = tp_enc G (tp_zv 2 v) ∧ fits ty (tp_enc G (tp_zv 2 v)) = true := by
  intro C T N h
  cases h
  refine ⟨rfl, fun G => ⟨_, tyX5_ok 0 (by decide), ?_⟩⟩
  show narrow _ (tp_ref G v) = tp_ref G v ∧ fits _ (tp_ref G v) = true
  rcases tp_refc G v with h | ⟨a, h⟩ <;> rw [h] <;> exact ⟨rfl, rfl⟩
theorem pt_5 : ∃ ty0 : Nat → FieldType, ∀ (C : String) (T : u_T) (N : Nat), vwCl[5]? = some (C, T, N) → (∀ k, k < N → parseFieldDescriptor (T k).2.2.1 = some (ty0 k)) ∧ ∀ a, a < N → ∀ b, b < N → a ≠ b → (T a).2.1 ≠ (T b).2.1 := ⟨tyX5, fun C T N h => by cases h; exact ⟨tyX5_ok, nmX5⟩⟩
theorem pd_5_1 (v : Int) : ∀ (C : String) (T : u_T) (N : Nat), vwCl[5]? = some (C, T, N) → (T 1).2.2.2 = true ∧ ∀ G : tp_G, ∃ ty, parseFieldDescriptor (T 1).2.2.1 = some ty ∧ narrow ty (tp_enc G (tp_zv 2 v)) = tp_enc G (tp_zv 2 v) ∧ fits ty (tp_enc G (tp_zv 2 v)) = true := by
  intro C T N h
  cases h
  refine ⟨rfl, fun G => ⟨_, tyX5_ok 1 (by decide), ?_⟩⟩
  show narrow _ (tp_ref G v) = tp_ref G v ∧ fits _ (tp_ref G v) = true
  rcases tp_refc G v with h | ⟨a, h⟩ <;> rw [h] <;> exact ⟨rfl, rfl⟩
theorem pd_5_2 (v : Int) : ∀ (C : String) (T : u_T) (N : Nat), vwCl[5]? = some (C, T, N) → (T 2).2.2.2 = true ∧ ∀ G : tp_G, ∃ ty, parseFieldDescriptor (T 2).2.2.1 = some ty ∧ narrow ty (tp_enc G (tp_zv 2 v)) = tp_enc G (tp_zv 2 v) ∧ fits ty (tp_enc G (tp_zv 2 v)) = true := by
  intro C T N h
  cases h
  refine ⟨rfl, fun G => ⟨_, tyX5_ok 2 (by decide), ?_⟩⟩
  show narrow _ (tp_ref G v) = tp_ref G v ∧ fits _ (tp_ref G v) = true
  rcases tp_refc G v with h | ⟨a, h⟩ <;> rw [h] <;> exact ⟨rfl, rfl⟩
theorem pd_5_3 (v : Int) : ∀ (C : String) (T : u_T) (N : Nat), vwCl[5]? = some (C, T, N) → (T 3).2.2.2 = true ∧ ∀ G : tp_G, ∃ ty, parseFieldDescriptor (T 3).2.2.1 = some ty ∧ narrow ty (tp_enc G (tp_zv 2 v)) = tp_enc G (tp_zv 2 v) ∧ fits ty (tp_enc G (tp_zv 2 v)) = true := by
  intro C T N h
  cases h
  refine ⟨rfl, fun G => ⟨_, tyX5_ok 3 (by decide), ?_⟩⟩
  show narrow _ (tp_ref G v) = tp_ref G v ∧ fits _ (tp_ref G v) = true
  rcases tp_refc G v with h | ⟨a, h⟩ <;> rw [h] <;> exact ⟨rfl, rfl⟩
theorem wd_339 : (.classLink "TypesAtPrime$Path" 24 "[[I" : Cond) ∈ lw_tbl := List.mem_append_right _ (List.mem_of_getElem? (i := 339) (by decide +kernel))
theorem pd_5_4 (v : Int) : ∀ (C : String) (T : u_T) (N : Nat), vwCl[5]? = some (C, T, N) → (T 4).2.2.2 = true ∧ ∀ G : tp_G, ∃ ty, parseFieldDescriptor (T 4).2.2.1 = some ty ∧ narrow ty (tp_enc G (tp_zv 2 v)) = tp_enc G (tp_zv 2 v) ∧ fits ty (tp_enc G (tp_zv 2 v)) = true := by
  intro C T N h
  cases h
  refine ⟨rfl, fun G => ⟨_, tyX5_ok 4 (by decide), ?_⟩⟩
  show narrow _ (tp_ref G v) = tp_ref G v ∧ fits _ (tp_ref G v) = true
  rcases tp_refc G v with h | ⟨a, h⟩ <;> rw [h] <;> exact ⟨rfl, rfl⟩
theorem wd_340 : (.classLink "TypesAtPrime$Path" 29 "[[J" : Cond) ∈ lw_tbl := List.mem_append_right _ (List.mem_of_getElem? (i := 340) (by decide +kernel))
theorem wd_217 : (.arrayClass .long : Cond) ∈ lw_tbl := List.mem_append_right _ (List.mem_of_getElem? (i := 217) (by decide +kernel))
theorem pd_5_5 (v : Int) : ∀ (C : String) (T : u_T) (N : Nat), vwCl[5]? = some (C, T, N) → (T 5).2.2.2 = true ∧ ∀ G : tp_G, ∃ ty, parseFieldDescriptor (T 5).2.2.1 = some ty ∧ narrow ty (tp_enc G (tp_zv 2 v)) = tp_enc G (tp_zv 2 v) ∧ fits ty (tp_enc G (tp_zv 2 v)) = true := by
  intro C T N h
  cases h
  refine ⟨rfl, fun G => ⟨_, tyX5_ok 5 (by decide), ?_⟩⟩
  show narrow _ (tp_ref G v) = tp_ref G v ∧ fits _ (tp_ref G v) = true
  rcases tp_refc G v with h | ⟨a, h⟩ <;> rw [h] <;> exact ⟨rfl, rfl⟩
def y_X5_init : MethodName := ⟨"TypesAtPrime$Path", "<init>", "()V"⟩
abbrev i_X5_init : tp_I := (prog_7_method_1_code, "TypesAtPrime$Path", none, 1, "<init>")
theorem d_X5_init_0 : decode prog_7_method_1_code 0 = .ok (.aload_n 0, 1) := by decide +kernel
theorem d_X5_init_1 : decode prog_7_method_1_code 1 = .ok (.invokespecial 3, 3) := by decide +kernel
theorem d_X5_init_4 : decode prog_7_method_1_code 4 = .ok (.aload_n 0, 1) := by decide +kernel
theorem d_X5_init_5 : decode prog_7_method_1_code 5 = .ok (.bipush 8, 2) := by decide +kernel
theorem d_X5_init_7 : decode prog_7_method_1_code 7 = .ok (.newarray .int, 2) := by decide +kernel
theorem d_X5_init_9 : decode prog_7_method_1_code 9 = .ok (.putfield 9, 3) := by decide +kernel
theorem d_X5_init_12 : decode prog_7_method_1_code 12 = .ok (.aload_n 0, 1) := by decide +kernel
theorem d_X5_init_13 : decode prog_7_method_1_code 13 = .ok (.bipush 8, 2) := by decide +kernel
theorem d_X5_init_15 : decode prog_7_method_1_code 15 = .ok (.newarray .int, 2) := by decide +kernel
theorem d_X5_init_17 : decode prog_7_method_1_code 17 = .ok (.putfield 15, 3) := by decide +kernel
theorem d_X5_init_20 : decode prog_7_method_1_code 20 = .ok (.aload_n 0, 1) := by decide +kernel
theorem d_X5_init_21 : decode prog_7_method_1_code 21 = .ok (.bipush 8, 2) := by decide +kernel
theorem d_X5_init_23 : decode prog_7_method_1_code 23 = .ok (.newarray .int, 2) := by decide +kernel
theorem d_X5_init_25 : decode prog_7_method_1_code 25 = .ok (.putfield 18, 3) := by decide +kernel
theorem d_X5_init_28 : decode prog_7_method_1_code 28 = .ok (.aload_n 0, 1) := by decide +kernel
theorem d_X5_init_29 : decode prog_7_method_1_code 29 = .ok (.bipush 8, 2) := by decide +kernel
theorem d_X5_init_31 : decode prog_7_method_1_code 31 = .ok (.newarray .int, 2) := by decide +kernel
theorem d_X5_init_33 : decode prog_7_method_1_code 33 = .ok (.putfield 21, 3) := by decide +kernel
theorem d_X5_init_36 : decode prog_7_method_1_code 36 = .ok (.aload_n 0, 1) := by decide +kernel
theorem d_X5_init_37 : decode prog_7_method_1_code 37 = .ok (.bipush 8, 2) := by decide +kernel
theorem d_X5_init_39 : decode prog_7_method_1_code 39 = .ok (.bipush 8, 2) := by decide +kernel
theorem d_X5_init_41 : decode prog_7_method_1_code 41 = .ok (.multianewarray 24 2, 4) := by decide +kernel
theorem d_X5_init_45 : decode prog_7_method_1_code 45 = .ok (.putfield 26, 3) := by decide +kernel
theorem d_X5_init_48 : decode prog_7_method_1_code 48 = .ok (.aload_n 0, 1) := by decide +kernel
theorem d_X5_init_49 : decode prog_7_method_1_code 49 = .ok (.bipush 8, 2) := by decide +kernel
theorem d_X5_init_51 : decode prog_7_method_1_code 51 = .ok (.bipush 9, 2) := by decide +kernel
theorem d_X5_init_53 : decode prog_7_method_1_code 53 = .ok (.multianewarray 29 2, 4) := by decide +kernel
theorem d_X5_init_57 : decode prog_7_method_1_code 57 = .ok (.putfield 31, 3) := by decide +kernel
theorem d_X5_init_60 : decode prog_7_method_1_code 60 = .ok (.return_, 1) := by decide +kernel
set_option maxHeartbeats 4000000 in
set_option maxRecDepth 100000 in
def df_X5_init (n0 q0 : Nat) (c0 : Int) (H0 : tp_D) : Option tp_D :=
  if 0 ≤ c0 then
    if tp_dc n0 q0 22 184 H0 1 8 = true then
      tp_hp (H0 ++ [(21, List.replicate 8 0)]) fun h2 =>
      if tp_dt h2 c0 = 5 then
        tp_hp (tp_ds h2 c0 0 (H0.length : Int)) fun h3 =>
        if tp_dc n0 q0 22 184 h3 1 8 = true then
          tp_hp (h3 ++ [(21, List.replicate 8 0)]) fun h4 =>
          if tp_dt h4 c0 = 5 then
            tp_hp (tp_ds h4 c0 1 (h3.length : Int)) fun h5 =>
            if tp_dc n0 q0 22 184 h5 1 8 = true then
              tp_hp (h5 ++ [(21, List.replicate 8 0)]) fun h6 =>
              if tp_dt h6 c0 = 5 then
                tp_hp (tp_ds h6 c0 2 (h5.length : Int)) fun h7 =>
                if tp_dc n0 q0 22 184 h7 1 8 = true then
                  tp_hp (h7 ++ [(21, List.replicate 8 0)]) fun h8 =>
                  if tp_dt h8 c0 = 5 then
                    tp_hp (tp_ds h8 c0 3 (h7.length : Int)) fun h9 =>
                    if tp_dc n0 q0 22 184 h9 (1 + 8) (8 + 8 * 8) = true then
                      tp_hp (tp_mn h9 23 21 8 8) fun h10 =>
                      if tp_dt h10 c0 = 5 then
                        tp_hp (tp_ds h10 c0 4 (h9.length : Int)) fun h11 =>
                        if tp_dc n0 q0 22 184 h11 (1 + 8) (8 + 8 * 9) = true then
                          tp_hp (tp_mn h11 24 22 8 9) fun h12 =>
                          if tp_dt h12 c0 = 5 then
                            tp_hp (tp_ds h12 c0 5 (h11.length : Int)) fun h13 =>
                            if tp_de n0 q0 22 184 h13 = true then some h13 else none else none else none else none else none else none else none else none else none else none else none else none else none else none
set_option maxHeartbeats 4000000 in
set_option maxRecDepth 100000 in
theorem TD_X5_init (G : tp_G) (n0 q0 : Nat) (c0 : Int) (H0 : tp_D) : tp_J i_X5_init (tp_rmc 1 22 184) G 22 184 od_ H0.length (tp_dy H0) (H0.length - n0) (tp_tot H0 - q0) [some (.inr (.inr c0))] 0 [] (df_X5_init n0 q0 c0 H0) := by
  unfold df_X5_init
  refine j_aload_n rfl d_X5_init_0 rfl ?_
  refine tp_chk (fun g1 => ?_)
  refine j_obj g1 wd_338 wd_26 wd_27 ⟨by decide, by decide⟩ (Nat.le_of_ble_eq_true rfl) d_X5_init_1 ?_
  refine j_aload_n rfl d_X5_init_4 rfl ?_
  refine j_bipush ⟨by decide, by decide⟩ (by decide +kernel) d_X5_init_5 ?_
  refine k_newa (N := 8) (tag := 21) (ty := .int) rfl (by decide) rfl (by decide) (by decide) (by decide) wd_71 (fun _ _ => rfl) (fun _ => (⟨by decide, by decide⟩ : tp_r 0)) (fun _ _ h => h) ⟨rfl, rfl⟩ d_X5_init_7 (fun h2 eh2 => ?_)
  refine k_put (z := 2) (v := (H0.length : Int)) (fin := true) fl_Path_9 (pd_5_0 _) (fun _ => ⟨rfl, fun C T N h => by cases h; rfl⟩) pt_5 d_X5_init_9 (fun h3 eh3 => ?_)
  refine j_aload_n rfl d_X5_init_12 rfl ?_
  refine j_bipush ⟨by decide, by decide⟩ (by decide +kernel) d_X5_init_13 ?_
  refine k_newa (N := 8) (tag := 21) (ty := .int) rfl (by decide) rfl (by decide) (by decide) (by decide) wd_71 (fun _ _ => rfl) (fun _ => (⟨by decide, by decide⟩ : tp_r 0)) (fun _ _ h => h) ⟨rfl, rfl⟩ d_X5_init_15 (fun h4 eh4 => ?_)
  refine k_put (z := 2) (v := (h3.length : Int)) (fin := true) fl_Path_15 (pd_5_1 _) (fun _ => ⟨rfl, fun C T N h => by cases h; rfl⟩) pt_5 d_X5_init_17 (fun h5 eh5 => ?_)
  refine j_aload_n rfl d_X5_init_20 rfl ?_
  refine j_bipush ⟨by decide, by decide⟩ (by decide +kernel) d_X5_init_21 ?_
  refine k_newa (N := 8) (tag := 21) (ty := .int) rfl (by decide) rfl (by decide) (by decide) (by decide) wd_71 (fun _ _ => rfl) (fun _ => (⟨by decide, by decide⟩ : tp_r 0)) (fun _ _ h => h) ⟨rfl, rfl⟩ d_X5_init_23 (fun h6 eh6 => ?_)
  refine k_put (z := 2) (v := (h5.length : Int)) (fin := true) fl_Path_18 (pd_5_2 _) (fun _ => ⟨rfl, fun C T N h => by cases h; rfl⟩) pt_5 d_X5_init_25 (fun h7 eh7 => ?_)
  refine j_aload_n rfl d_X5_init_28 rfl ?_
  refine j_bipush ⟨by decide, by decide⟩ (by decide +kernel) d_X5_init_29 ?_
  refine k_newa (N := 8) (tag := 21) (ty := .int) rfl (by decide) rfl (by decide) (by decide) (by decide) wd_71 (fun _ _ => rfl) (fun _ => (⟨by decide, by decide⟩ : tp_r 0)) (fun _ _ h => h) ⟨rfl, rfl⟩ d_X5_init_31 (fun h8 eh8 => ?_)
  refine k_put (z := 2) (v := (h7.length : Int)) (fin := true) fl_Path_21 (pd_5_3 _) (fun _ => ⟨rfl, fun C T N h => by cases h; rfl⟩) pt_5 d_X5_init_33 (fun h9 eh9 => ?_)
  refine j_aload_n rfl d_X5_init_36 rfl ?_
  refine j_bipush ⟨by decide, by decide⟩ (by decide +kernel) d_X5_init_37 ?_
  refine j_bipush ⟨by decide, by decide⟩ (by decide +kernel) d_X5_init_39 ?_
  refine k_mna (N := 8) (K := 8) (tag := 23) (tag2 := 21) (ty := .int) rfl rfl ⟨by decide, by decide⟩ (by decide) (by decide) (by decide) (by decide) (fun _ _ h => h) (fun K hK => by show K * 4 ≤ _; omega) rfl rfl (fun _ _ => rfl) (fun _ => (⟨by decide, by decide⟩ : tp_r 0)) (by decide) wd_339 wd_71 ⟨rfl, rfl⟩ d_X5_init_41 (fun h10 eh10 => ?_)
  refine k_put (z := 2) (v := (h9.length : Int)) (fin := true) fl_Path_26 (pd_5_4 _) (fun _ => ⟨rfl, fun C T N h => by cases h; rfl⟩) pt_5 d_X5_init_45 (fun h11 eh11 => ?_)
  refine j_aload_n rfl d_X5_init_48 rfl ?_
  refine j_bipush ⟨by decide, by decide⟩ (by decide +kernel) d_X5_init_49 ?_
  refine j_bipush ⟨by decide, by decide⟩ (by decide +kernel) d_X5_init_51 ?_
  refine k_mna (N := 8) (K := 9) (tag := 24) (tag2 := 22) (ty := .long) rfl rfl ⟨by decide, by decide⟩ (by decide) (by decide) (by decide) (by decide) (fun _ _ h => h) (fun K hK => by show K * 8 ≤ _; omega) rfl rfl (fun _ _ => rfl) (fun _ => (⟨by decide, by decide⟩ : tp_rl 0)) (by decide) wd_340 wd_217 ⟨rfl, rfl⟩ d_X5_init_53 (fun h12 eh12 => ?_)
  refine k_put (z := 2) (v := (h11.length : Int)) (fin := true) fl_Path_31 (pd_5_5 _) (fun _ => ⟨rfl, fun C T N h => by cases h; rfl⟩) pt_5 d_X5_init_57 (fun h13 eh13 => ?_)
  exact k_vret d_X5_init_60 rfl rfl
set_option maxHeartbeats 4000000 in
set_option maxRecDepth 100000 in
theorem cd_X5_init (G : tp_G) (c0 : Int) (H0 r : tp_D) (h : df_X5_init H0.length (tp_tot H0) c0 H0 = some r) (l : Launch) : Met l y_X5_init (tp_ws y_X5_init i_X5_init) (tp_rmc 1 22 184) (tp_Pc G [.inr (.inr c0)] H0.length (tp_dy H0)) (tp_Q G (none, r.length, tp_dy r)) 22 184 (tp_A G) := by
  have hJ := TD_X5_init G H0.length (tp_tot H0) c0 H0
  rw [Nat.sub_self, Nat.sub_self] at hJ
  exact tp_met (I := i_X5_init) (y := y_X5_init) (by decide +kernel) (Eq.refl "TypesAtPrime$Path") (Eq.refl "<init>") (lv := [some (.inr (.inr c0))]) rfl (Nat.le_of_ble_eq_true rfl) hJ h l
theorem wd_332 : (.methodLink "TypesAtPrime$Grower" 3 ⟨"java/lang/Object", "<init>", "()V"⟩ : Cond) ∈ lw_tbl := List.mem_append_right _ (List.mem_of_getElem? (i := 332) (by decide +kernel))
def bl_5 : List Int := [(-1), (-1), (-1), (-1), (-1), (-1)]
theorem kd_5 : ∀ (G : tp_G) (j : Nat), j < 6 → defaultValue (tyX5 j) = tp_enc G (tp_tv 5 j (bl_5.getD j 0)) := tp_dfl (by decide +kernel)
theorem ko_5 : tp_okc (5, bl_5) := tp_okbl (by decide +kernel)
theorem wd_333 : (.classLink "TypesAtPrime$Grower" 9 "TypesAtPrime$Path" : Cond) ∈ lw_tbl := List.mem_append_right _ (List.mem_of_getElem? (i := 333) (by decide +kernel))
theorem wd_334 : (.instantiable "TypesAtPrime$Path" 6 : Cond) ∈ lw_tbl := List.mem_append_right _ (List.mem_of_getElem? (i := 334) (by decide +kernel))
theorem wd_337 : (.code ⟨"TypesAtPrime$Path", "<init>", "()V"⟩ prog_7_method_1_code 1 (none : Option Jvm.ClassFile.FieldType) : Cond) ∈ lw_tbl := List.mem_append_right _ (List.mem_of_getElem? (i := 337) (by decide +kernel))
theorem cs_Grower_11 : tp_CS "TypesAtPrime$Grower" 11 y_X5_init i_X5_init 0 := ⟨wd_337, wd_11, by decide, by decide, by decide +kernel⟩
theorem wd_336 : (.instanceMethod ⟨"TypesAtPrime$Path", "<init>", "()V"⟩ : Cond) ∈ lw_tbl := List.mem_append_right _ (List.mem_of_getElem? (i := 336) (by decide +kernel))
theorem pd_1_2 (v : Int) : ∀ (C : String) (T : u_T) (N : Nat), vwCl[1]? = some (C, T, N) → (T 2).2.2.2 = true ∧ ∀ G : tp_G, ∃ ty, parseFieldDescriptor (T 2).2.2.1 = some ty ∧ narrow ty (tp_enc G (tp_zv 2 v)) = tp_enc G (tp_zv 2 v) ∧ fits ty (tp_enc G (tp_zv 2 v)) = true := by
  intro C T N h
  cases h
  refine ⟨rfl, fun G => ⟨_, tyX1_ok 2 (by decide), ?_⟩⟩
  show narrow _ (tp_ref G v) = tp_ref G v ∧ fits _ (tp_ref G v) = true
  rcases tp_refc G v with h | ⟨a, h⟩ <;> rw [h] <;> exact ⟨rfl, rfl⟩
theorem pt_1 : ∃ ty0 : Nat → FieldType, ∀ (C : String) (T : u_T) (N : Nat), vwCl[1]? = some (C, T, N) → (∀ k, k < N → parseFieldDescriptor (T k).2.2.1 = some (ty0 k)) ∧ ∀ a, a < N → ∀ b, b < N → a ≠ b → (T a).2.1 ≠ (T b).2.1 := ⟨tyX1, fun C T N h => by cases h; exact ⟨tyX1_ok, nmX1⟩⟩
theorem wd_366 : (.classLink "TypesAtPrime$Grower" 18 "TypesAtPrime$Factors" : Cond) ∈ lw_tbl := List.mem_append_right _ (List.mem_of_getElem? (i := 366) (by decide +kernel))
theorem pd_1_3 (v : Int) : ∀ (C : String) (T : u_T) (N : Nat), vwCl[1]? = some (C, T, N) → (T 3).2.2.2 = true ∧ ∀ G : tp_G, ∃ ty, parseFieldDescriptor (T 3).2.2.1 = some ty ∧ narrow ty (tp_enc G (tp_zv 2 v)) = tp_enc G (tp_zv 2 v) ∧ fits ty (tp_enc G (tp_zv 2 v)) = true := by
  intro C T N h
  cases h
  refine ⟨rfl, fun G => ⟨_, tyX1_ok 3 (by decide), ?_⟩⟩
  show narrow _ (tp_ref G v) = tp_ref G v ∧ fits _ (tp_ref G v) = true
  rcases tp_refc G v with h | ⟨a, h⟩ <;> rw [h] <;> exact ⟨rfl, rfl⟩
theorem pd_1_4 (v : Int) : ∀ (C : String) (T : u_T) (N : Nat), vwCl[1]? = some (C, T, N) → (T 4).2.2.2 = true ∧ ∀ G : tp_G, ∃ ty, parseFieldDescriptor (T 4).2.2.1 = some ty ∧ narrow ty (tp_enc G (tp_zv 2 v)) = tp_enc G (tp_zv 2 v) ∧ fits ty (tp_enc G (tp_zv 2 v)) = true := by
  intro C T N h
  cases h
  refine ⟨rfl, fun G => ⟨_, tyX1_ok 4 (by decide), ?_⟩⟩
  show narrow _ (tp_ref G v) = tp_ref G v ∧ fits _ (tp_ref G v) = true
  rcases tp_refc G v with h | ⟨a, h⟩ <;> rw [h] <;> exact ⟨rfl, rfl⟩
theorem pd_1_5 (v : Int) : ∀ (C : String) (T : u_T) (N : Nat), vwCl[1]? = some (C, T, N) → (T 5).2.2.2 = true ∧ ∀ G : tp_G, ∃ ty, parseFieldDescriptor (T 5).2.2.1 = some ty ∧ narrow ty (tp_enc G (tp_zv 2 v)) = tp_enc G (tp_zv 2 v) ∧ fits ty (tp_enc G (tp_zv 2 v)) = true := by
  intro C T N h
  cases h
  refine ⟨rfl, fun G => ⟨_, tyX1_ok 5 (by decide), ?_⟩⟩
  show narrow _ (tp_ref G v) = tp_ref G v ∧ fits _ (tp_ref G v) = true
  rcases tp_refc G v with h | ⟨a, h⟩ <;> rw [h] <;> exact ⟨rfl, rfl⟩
theorem pd_1_6 (v : Int) : ∀ (C : String) (T : u_T) (N : Nat), vwCl[1]? = some (C, T, N) → (T 6).2.2.2 = true ∧ ∀ G : tp_G, ∃ ty, parseFieldDescriptor (T 6).2.2.1 = some ty ∧ narrow ty (tp_enc G (tp_zv 2 v)) = tp_enc G (tp_zv 2 v) ∧ fits ty (tp_enc G (tp_zv 2 v)) = true := by
  intro C T N h
  cases h
  refine ⟨rfl, fun G => ⟨_, tyX1_ok 6 (by decide), ?_⟩⟩
  show narrow _ (tp_ref G v) = tp_ref G v ∧ fits _ (tp_ref G v) = true
  rcases tp_refc G v with h | ⟨a, h⟩ <;> rw [h] <;> exact ⟨rfl, rfl⟩
theorem pd_1_7 (v : Int) : ∀ (C : String) (T : u_T) (N : Nat), vwCl[1]? = some (C, T, N) → (T 7).2.2.2 = true ∧ ∀ G : tp_G, ∃ ty, parseFieldDescriptor (T 7).2.2.1 = some ty ∧ narrow ty (tp_enc G (tp_zv 2 v)) = tp_enc G (tp_zv 2 v) ∧ fits ty (tp_enc G (tp_zv 2 v)) = true := by
  intro C T N h
  cases h
  refine ⟨rfl, fun G => ⟨_, tyX1_ok 7 (by decide), ?_⟩⟩
  show narrow _ (tp_ref G v) = tp_ref G v ∧ fits _ (tp_ref G v) = true
  rcases tp_refc G v with h | ⟨a, h⟩ <;> rw [h] <;> exact ⟨rfl, rfl⟩
theorem pd_1_8 (v : Int) : ∀ (C : String) (T : u_T) (N : Nat), vwCl[1]? = some (C, T, N) → (T 8).2.2.2 = true ∧ ∀ G : tp_G, ∃ ty, parseFieldDescriptor (T 8).2.2.1 = some ty ∧ narrow ty (tp_enc G (tp_zv 2 v)) = tp_enc G (tp_zv 2 v) ∧ fits ty (tp_enc G (tp_zv 2 v)) = true := by
  intro C T N h
  cases h
  refine ⟨rfl, fun G => ⟨_, tyX1_ok 8 (by decide), ?_⟩⟩
  show narrow _ (tp_ref G v) = tp_ref G v ∧ fits _ (tp_ref G v) = true
  rcases tp_refc G v with h | ⟨a, h⟩ <;> rw [h] <;> exact ⟨rfl, rfl⟩
theorem pd_1_9 (v : Int) : ∀ (C : String) (T : u_T) (N : Nat), vwCl[1]? = some (C, T, N) → (T 9).2.2.2 = true ∧ ∀ G : tp_G, ∃ ty, parseFieldDescriptor (T 9).2.2.1 = some ty ∧ narrow ty (tp_enc G (tp_zv 2 v)) = tp_enc G (tp_zv 2 v) ∧ fits ty (tp_enc G (tp_zv 2 v)) = true := by
  intro C T N h
  cases h
  refine ⟨rfl, fun G => ⟨_, tyX1_ok 9 (by decide), ?_⟩⟩
  show narrow _ (tp_ref G v) = tp_ref G v ∧ fits _ (tp_ref G v) = true
  rcases tp_refc G v with h | ⟨a, h⟩ <;> rw [h] <;> exact ⟨rfl, rfl⟩
theorem pd_1_10 (v : Int) : ∀ (C : String) (T : u_T) (N : Nat), vwCl[1]? = some (C, T, N) → (T 10).2.2.2 = true ∧ ∀ G : tp_G, ∃ ty, parseFieldDescriptor (T 10).2.2.1 = some ty ∧ narrow ty (tp_enc G (tp_zv 2 v)) = tp_enc G (tp_zv 2 v) ∧ fits ty (tp_enc G (tp_zv 2 v)) = true := by
  intro C T N h
  cases h
  refine ⟨rfl, fun G => ⟨_, tyX1_ok 10 (by decide), ?_⟩⟩
  show narrow _ (tp_ref G v) = tp_ref G v ∧ fits _ (tp_ref G v) = true
  rcases tp_refc G v with h | ⟨a, h⟩ <;> rw [h] <;> exact ⟨rfl, rfl⟩
theorem pd_1_11 (v : Int) : ∀ (C : String) (T : u_T) (N : Nat), vwCl[1]? = some (C, T, N) → (T 11).2.2.2 = true ∧ ∀ G : tp_G, ∃ ty, parseFieldDescriptor (T 11).2.2.1 = some ty ∧ narrow ty (tp_enc G (tp_zv 2 v)) = tp_enc G (tp_zv 2 v) ∧ fits ty (tp_enc G (tp_zv 2 v)) = true := by
  intro C T N h
  cases h
  refine ⟨rfl, fun G => ⟨_, tyX1_ok 11 (by decide), ?_⟩⟩
  show narrow _ (tp_ref G v) = tp_ref G v ∧ fits _ (tp_ref G v) = true
  rcases tp_refc G v with h | ⟨a, h⟩ <;> rw [h] <;> exact ⟨rfl, rfl⟩
theorem pd_1_12 (v : Int) : ∀ (C : String) (T : u_T) (N : Nat), vwCl[1]? = some (C, T, N) → (T 12).2.2.2 = true ∧ ∀ G : tp_G, ∃ ty, parseFieldDescriptor (T 12).2.2.1 = some ty ∧ narrow ty (tp_enc G (tp_zv 2 v)) = tp_enc G (tp_zv 2 v) ∧ fits ty (tp_enc G (tp_zv 2 v)) = true := by
  intro C T N h
  cases h
  refine ⟨rfl, fun G => ⟨_, tyX1_ok 12 (by decide), ?_⟩⟩
  show narrow _ (tp_ref G v) = tp_ref G v ∧ fits _ (tp_ref G v) = true
  rcases tp_refc G v with h | ⟨a, h⟩ <;> rw [h] <;> exact ⟨rfl, rfl⟩
theorem pd_1_0 (v : Int) : ∀ (C : String) (T : u_T) (N : Nat), vwCl[1]? = some (C, T, N) → (T 0).2.2.2 = true ∧ ∀ G : tp_G, ∃ ty, parseFieldDescriptor (T 0).2.2.1 = some ty ∧ narrow ty (tp_enc G (tp_zv 2 v)) = tp_enc G (tp_zv 2 v) ∧ fits ty (tp_enc G (tp_zv 2 v)) = true := by
  intro C T N h
  cases h
  refine ⟨rfl, fun G => ⟨_, tyX1_ok 0 (by decide), ?_⟩⟩
  show narrow _ (tp_ref G v) = tp_ref G v ∧ fits _ (tp_ref G v) = true
  rcases tp_refc G v with h | ⟨a, h⟩ <;> rw [h] <;> exact ⟨rfl, rfl⟩
theorem pd_1_1 (v : Int) : ∀ (C : String) (T : u_T) (N : Nat), vwCl[1]? = some (C, T, N) → (T 1).2.2.2 = true ∧ ∀ G : tp_G, ∃ ty, parseFieldDescriptor (T 1).2.2.1 = some ty ∧ narrow ty (tp_enc G (tp_zv 2 v)) = tp_enc G (tp_zv 2 v) ∧ fits ty (tp_enc G (tp_zv 2 v)) = true := by
  intro C T N h
  cases h
  refine ⟨rfl, fun G => ⟨_, tyX1_ok 1 (by decide), ?_⟩⟩
  show narrow _ (tp_ref G v) = tp_ref G v ∧ fits _ (tp_ref G v) = true
  rcases tp_refc G v with h | ⟨a, h⟩ <;> rw [h] <;> exact ⟨rfl, rfl⟩
def bl_0 : List Int := [0, (-1), (-1), (-1), 0, (-1), (-1), (-1), (-1), (-1), (-1), (-1), (-1)]
theorem kd_0 : ∀ (G : tp_G) (j : Nat), j < 13 → defaultValue (tyX0 j) = tp_enc G (tp_tv 0 j (bl_0.getD j 0)) := tp_dfl (by decide +kernel)
theorem ko_0 : tp_okc (0, bl_0) := tp_okbl (by decide +kernel)
theorem wd_93 : (.instantiable "TypesAtPrime$Factors" 13 : Cond) ∈ lw_tbl := List.mem_append_right _ (List.mem_of_getElem? (i := 93) (by decide +kernel))
theorem wd_96 : (.code ⟨"TypesAtPrime$Factors", "<init>", "()V"⟩ prog_2_method_1_code 1 (none : Option Jvm.ClassFile.FieldType) : Cond) ∈ lw_tbl := List.mem_append_right _ (List.mem_of_getElem? (i := 96) (by decide +kernel))
theorem cs_Grower_61 : tp_CS "TypesAtPrime$Grower" 61 y_X0_init i_X0_init 0 := ⟨wd_96, wd_5, by decide, by decide, by decide +kernel⟩
theorem wd_95 : (.instanceMethod ⟨"TypesAtPrime$Factors", "<init>", "()V"⟩ : Cond) ∈ lw_tbl := List.mem_append_right _ (List.mem_of_getElem? (i := 95) (by decide +kernel))
def y_X1_init : MethodName := ⟨"TypesAtPrime$Grower", "<init>", "(LTypesAtPrime$Numbers;LTypesAtPrime$Tree;)V"⟩
abbrev i_X1_init : tp_I := (prog_3_method_1_code, "TypesAtPrime$Grower", none, 4, "<init>")
theorem d_X1_init_0 : decode prog_3_method_1_code 0 = .ok (.aload_n 0, 1) := by decide +kernel
theorem d_X1_init_1 : decode prog_3_method_1_code 1 = .ok (.invokespecial 3, 3) := by decide +kernel
theorem d_X1_init_4 : decode prog_3_method_1_code 4 = .ok (.aload_n 0, 1) := by decide +kernel
theorem d_X1_init_5 : decode prog_3_method_1_code 5 = .ok (.new 9, 3) := by decide +kernel
theorem d_X1_init_8 : decode prog_3_method_1_code 8 = .ok (.dup, 1) := by decide +kernel
theorem d_X1_init_9 : decode prog_3_method_1_code 9 = .ok (.invokespecial 11, 3) := by decide +kernel
theorem d_X1_init_12 : decode prog_3_method_1_code 12 = .ok (.putfield 12, 3) := by decide +kernel
theorem d_X1_init_15 : decode prog_3_method_1_code 15 = .ok (.aload_n 0, 1) := by decide +kernel
theorem d_X1_init_16 : decode prog_3_method_1_code 16 = .ok (.bipush 8, 2) := by decide +kernel
theorem d_X1_init_18 : decode prog_3_method_1_code 18 = .ok (.anewarray 18, 3) := by decide +kernel
theorem d_X1_init_21 : decode prog_3_method_1_code 21 = .ok (.putfield 20, 3) := by decide +kernel
theorem d_X1_init_24 : decode prog_3_method_1_code 24 = .ok (.aload_n 0, 1) := by decide +kernel
theorem d_X1_init_25 : decode prog_3_method_1_code 25 = .ok (.bipush 9, 2) := by decide +kernel
theorem d_X1_init_27 : decode prog_3_method_1_code 27 = .ok (.newarray .long, 2) := by decide +kernel
theorem d_X1_init_29 : decode prog_3_method_1_code 29 = .ok (.putfield 24, 3) := by decide +kernel
theorem d_X1_init_32 : decode prog_3_method_1_code 32 = .ok (.aload_n 0, 1) := by decide +kernel
theorem d_X1_init_33 : decode prog_3_method_1_code 33 = .ok (.bipush 18, 2) := by decide +kernel
theorem d_X1_init_35 : decode prog_3_method_1_code 35 = .ok (.newarray .long, 2) := by decide +kernel
theorem d_X1_init_37 : decode prog_3_method_1_code 37 = .ok (.putfield 28, 3) := by decide +kernel
theorem d_X1_init_40 : decode prog_3_method_1_code 40 = .ok (.aload_n 0, 1) := by decide +kernel
theorem d_X1_init_41 : decode prog_3_method_1_code 41 = .ok (.bipush 9, 2) := by decide +kernel
theorem d_X1_init_43 : decode prog_3_method_1_code 43 = .ok (.newarray .long, 2) := by decide +kernel
theorem d_X1_init_45 : decode prog_3_method_1_code 45 = .ok (.putfield 31, 3) := by decide +kernel
theorem d_X1_init_48 : decode prog_3_method_1_code 48 = .ok (.aload_n 0, 1) := by decide +kernel
theorem d_X1_init_49 : decode prog_3_method_1_code 49 = .ok (.bipush 9, 2) := by decide +kernel
theorem d_X1_init_51 : decode prog_3_method_1_code 51 = .ok (.newarray .long, 2) := by decide +kernel
theorem d_X1_init_53 : decode prog_3_method_1_code 53 = .ok (.putfield 34, 3) := by decide +kernel
theorem d_X1_init_56 : decode prog_3_method_1_code 56 = .ok (.aload_n 0, 1) := by decide +kernel
theorem d_X1_init_57 : decode prog_3_method_1_code 57 = .ok (.bipush 9, 2) := by decide +kernel
theorem d_X1_init_59 : decode prog_3_method_1_code 59 = .ok (.newarray .int, 2) := by decide +kernel
theorem d_X1_init_61 : decode prog_3_method_1_code 61 = .ok (.putfield 37, 3) := by decide +kernel
theorem d_X1_init_64 : decode prog_3_method_1_code 64 = .ok (.aload_n 0, 1) := by decide +kernel
theorem d_X1_init_65 : decode prog_3_method_1_code 65 = .ok (.bipush 9, 2) := by decide +kernel
theorem d_X1_init_67 : decode prog_3_method_1_code 67 = .ok (.newarray .int, 2) := by decide +kernel
theorem d_X1_init_69 : decode prog_3_method_1_code 69 = .ok (.putfield 41, 3) := by decide +kernel
theorem d_X1_init_72 : decode prog_3_method_1_code 72 = .ok (.aload_n 0, 1) := by decide +kernel
theorem d_X1_init_73 : decode prog_3_method_1_code 73 = .ok (.bipush 9, 2) := by decide +kernel
theorem d_X1_init_75 : decode prog_3_method_1_code 75 = .ok (.newarray .int, 2) := by decide +kernel
theorem d_X1_init_77 : decode prog_3_method_1_code 77 = .ok (.putfield 44, 3) := by decide +kernel
theorem d_X1_init_80 : decode prog_3_method_1_code 80 = .ok (.aload_n 0, 1) := by decide +kernel
theorem d_X1_init_81 : decode prog_3_method_1_code 81 = .ok (.bipush 9, 2) := by decide +kernel
theorem d_X1_init_83 : decode prog_3_method_1_code 83 = .ok (.newarray .int, 2) := by decide +kernel
theorem d_X1_init_85 : decode prog_3_method_1_code 85 = .ok (.putfield 47, 3) := by decide +kernel
theorem d_X1_init_88 : decode prog_3_method_1_code 88 = .ok (.aload_n 0, 1) := by decide +kernel
theorem d_X1_init_89 : decode prog_3_method_1_code 89 = .ok (.bipush 8, 2) := by decide +kernel
theorem d_X1_init_91 : decode prog_3_method_1_code 91 = .ok (.newarray .int, 2) := by decide +kernel
theorem d_X1_init_93 : decode prog_3_method_1_code 93 = .ok (.putfield 50, 3) := by decide +kernel
theorem d_X1_init_96 : decode prog_3_method_1_code 96 = .ok (.aload_n 0, 1) := by decide +kernel
theorem d_X1_init_97 : decode prog_3_method_1_code 97 = .ok (.aload_n 1, 1) := by decide +kernel
theorem d_X1_init_98 : decode prog_3_method_1_code 98 = .ok (.putfield 53, 3) := by decide +kernel
theorem d_X1_init_101 : decode prog_3_method_1_code 101 = .ok (.aload_n 0, 1) := by decide +kernel
theorem d_X1_init_102 : decode prog_3_method_1_code 102 = .ok (.aload_n 2, 1) := by decide +kernel
theorem d_X1_init_103 : decode prog_3_method_1_code 103 = .ok (.putfield 57, 3) := by decide +kernel
theorem d_X1_init_106 : decode prog_3_method_1_code 106 = .ok (.iconst 0, 1) := by decide +kernel
theorem d_X1_init_107 : decode prog_3_method_1_code 107 = .ok (.istore_n 3, 1) := by decide +kernel
theorem d_X1_init_108 : decode prog_3_method_1_code 108 = .ok (.iload_n 3, 1) := by decide +kernel
theorem d_X1_init_109 : decode prog_3_method_1_code 109 = .ok (.bipush 8, 2) := by decide +kernel
theorem d_X1_init_111 : decode prog_3_method_1_code 111 = .ok (.if_icmp .ge 22, 3) := by decide +kernel
theorem d_X1_init_114 : decode prog_3_method_1_code 114 = .ok (.aload_n 0, 1) := by decide +kernel
theorem d_X1_init_115 : decode prog_3_method_1_code 115 = .ok (.getfield 20, 3) := by decide +kernel
theorem d_X1_init_118 : decode prog_3_method_1_code 118 = .ok (.iload_n 3, 1) := by decide +kernel
theorem d_X1_init_119 : decode prog_3_method_1_code 119 = .ok (.new 18, 3) := by decide +kernel
theorem d_X1_init_122 : decode prog_3_method_1_code 122 = .ok (.dup, 1) := by decide +kernel
theorem d_X1_init_123 : decode prog_3_method_1_code 123 = .ok (.invokespecial 61, 3) := by decide +kernel
theorem d_X1_init_126 : decode prog_3_method_1_code 126 = .ok (.aastore, 1) := by decide +kernel
theorem d_X1_init_127 : decode prog_3_method_1_code 127 = .ok (.iinc 3 1, 3) := by decide +kernel
theorem d_X1_init_130 : decode prog_3_method_1_code 130 = .ok (.goto (-22), 3) := by decide +kernel
theorem d_X1_init_133 : decode prog_3_method_1_code 133 = .ok (.return_, 1) := by decide +kernel
def df_X1_init_108B (n0 q0 : Nat) (x0 : Int) (rec_108 : Int → tp_D → Option (tp_D)) (x3 : Int) (H0 : tp_D) : Option (tp_D) :=
  if 8 ≤ x3 then
    if tp_de n0 q0 201 1903 H0 = true then some H0 else none
  else
    if tp_dt H0 x0 = 1 then
      if tp_dc n0 q0 201 1903 H0 1 13 = true then
        tp_hp (H0 ++ [(0, bl_0)]) fun h29 =>
        (df_X0_init h29.length (tp_tot h29) (H0.length : Int) h29).bind fun h30 =>
        if 0 ≤ (H0.length : Int) ∧ tp_dk n0 q0 201 1903 h29 h30 20 189 = true then
          if tp_dt h30 (tp_dv H0 x0 3) = 25 ∧ tp_dt h30 (H0.length : Int) = 0 ∧ 0 ≤ x3 ∧ x3 < tp_dl h30 (tp_dv H0 x0 3) then
            tp_hp (tp_ds h30 (tp_dv H0 x0 3) x3 (H0.length : Int)) fun h32 =>
            tp_lt (tp_w (x3 + 1)) fun y33 =>
            rec_108 y33 h32 else none else none else none else none
set_option maxHeartbeats 4000000 in
set_option maxRecDepth 100000 in
theorem TD_X1_init_108B (G : tp_G) (n0 q0 : Nat) (x0 : Int) (rec_108 : Int → tp_D → Option (tp_D)) (hrec_108 : ∀ (x3' : Int) (M' : tp_D), tp_J i_X1_init (tp_rmc 2 201 1903) G 201 1903 od_ M'.length (tp_dy M') (M'.length - n0) (tp_tot M' - q0) [some (.inr (.inr x0)), none, none, some (.inl (x3'))] 108 [] (rec_108 x3' M')) (x3 : Int) (H0 : tp_D) : tp_J i_X1_init (tp_rmc 2 201 1903) G 201 1903 od_ H0.length (tp_dy H0) (H0.length - n0) (tp_tot H0 - q0) [some (.inr (.inr x0)), none, none, some (.inl x3)] 108 [] (df_X1_init_108B n0 q0 x0 rec_108 x3 H0) := by
  unfold df_X1_init_108B
  refine j_iload_n rfl d_X1_init_108 rfl ?_
  refine j_bipush ⟨by decide, by decide⟩ (by decide +kernel) d_X1_init_109 ?_
  refine j_icmp_ge (tgt := 133) d_X1_init_111 (by decide) (fun h28 => ?_) (fun h28 => ?_)
  · exact k_vret d_X1_init_133 rfl rfl
  · refine j_aload_n rfl d_X1_init_114 rfl ?_
    refine k_get fl_Grower_20 d_X1_init_115 ?_
    refine j_iload_n rfl d_X1_init_118 rfl ?_
    refine k_new (ty0 := tyX0) rfl rfl wd_366 wd_93 wd_5 tyX0_ok kd_0 ko_0 ⟨rfl, rfl⟩ d_X1_init_119 (fun h29 eh29 => ?_)
    refine j_dup d_X1_init_122 (fun G => tp_cat G _) ?_
    refine j_bind (fun h30 e31 => ?_)
    refine k_callI (y := y_X0_init) (I' := i_X0_init) (avs := []) (c := (H0.length : Int)) (st := [.inr (.inr (H0.length : Int)), .inl x3, .inr (.inr (tp_dv H0 x0 3))]) (rm := tp_rmc 1 20 189) (mc' := 20) (ms' := 189) (cd_X0_init G (H0.length : Int) h29 h30 e31) rfl cs_Grower_61 (Or.inr ⟨_, (by decide +kernel : (.methodLinkNest "TypesAtPrime$Grower" 61 ⟨"TypesAtPrime$Factors", "<init>", "()V"⟩ "TypesAtPrime" : Cond) ∈ tp_nest)⟩) wd_95 rfl rfl rfl (Nat.le_of_ble_eq_true rfl) ⟨rfl, rfl⟩ ⟨by decide, by decide⟩ ⟨rfl, rfl⟩ d_X1_init_123 ?_
    refine k_aast (tag := 25) (t2 := 0) (C := "TypesAtPrime$Factors") (by decide) (by decide) rfl d_X1_init_126 (fun h32 eh32 => ?_)
    refine j_iincN (lv' := fun y33 => [some (.inr (.inr x0)), none, none, some (.inl y33)]) d_X1_init_127 rfl (Nat.le_of_ble_eq_true rfl) (fun _ => rfl) (fun y33 hy33 => ?_)
    refine j_goto (tgt := 108) d_X1_init_130 (by decide) ?_
    exact j_wk [true, false, false, true] rfl rfl (hrec_108 y33 h32)
def df_X1_init_108 (n0 q0 : Nat) (x0 : Int) (x3 : Int) (H0 : tp_D) : Option (tp_D) := tp_lp (σ := Int × tp_D) (fun rec_ u => df_X1_init_108B n0 q0 x0 (fun x3' H0' => rec_ (x3', H0')) u.1 u.2) tp_N (x3, H0)
set_option maxHeartbeats 4000000 in
set_option maxRecDepth 100000 in
theorem TD_X1_init_108 (G : tp_G) (n0 q0 : Nat) (x0 : Int) (x3 : Int) (H0 : tp_D) : tp_J i_X1_init (tp_rmc 2 201 1903) G 201 1903 od_ H0.length (tp_dy H0) (H0.length - n0) (tp_tot H0 - q0) [some (.inr (.inr x0)), none, none, some (.inl x3)] 108 [] (df_X1_init_108 n0 q0 x0 x3 H0) := by
  unfold df_X1_init_108
  exact j_lp (σ := Int × tp_D) (n' := fun u => u.2.length) (g' := fun u => tp_dy u.2) (k' := fun u => u.2.length - n0) (q' := fun u => tp_tot u.2 - q0) (lv' := fun u => [some (.inr (.inr x0)), none, none, some (.inl u.1)]) (fun rec_ hrec u => TD_X1_init_108B G n0 q0 x0 (fun x3' H0' => rec_ (x3', H0')) (fun x3' H0' => hrec (x3', H0')) u.1 u.2) tp_N (x3, H0)
set_option maxHeartbeats 4000000 in
set_option maxRecDepth 100000 in
def df_X1_init (n0 q0 : Nat) (c0 : Int) (a0 : Int) (a1 : Int) (H0 : tp_D) : Option tp_D :=
  if 0 ≤ c0 then
    if tp_dc n0 q0 201 1903 H0 1 6 = true then
      tp_hp (H0 ++ [(5, bl_5)]) fun h2 =>
      (df_X5_init h2.length (tp_tot h2) (H0.length : Int) h2).bind fun h3 =>
      if 0 ≤ (H0.length : Int) ∧ tp_dk n0 q0 201 1903 h2 h3 22 184 = true then
        if tp_dt h3 c0 = 1 then
          tp_hp (tp_ds h3 c0 2 (H0.length : Int)) fun h5 =>
          if tp_dc n0 q0 201 1903 h5 1 8 = true then
            tp_hp (h5 ++ [(25, List.replicate 8 (-1))]) fun h6 =>
            if tp_dt h6 c0 = 1 then
              tp_hp (tp_ds h6 c0 3 (h5.length : Int)) fun h7 =>
              if tp_dc n0 q0 201 1903 h7 1 9 = true then
                tp_hp (h7 ++ [(22, List.replicate 9 0)]) fun h8 =>
                if tp_dt h8 c0 = 1 then
                  tp_hp (tp_ds h8 c0 4 (h7.length : Int)) fun h9 =>
                  if tp_dc n0 q0 201 1903 h9 1 18 = true then
                    tp_hp (h9 ++ [(22, List.replicate 18 0)]) fun h10 =>
                    if tp_dt h10 c0 = 1 then
                      tp_hp (tp_ds h10 c0 5 (h9.length : Int)) fun h11 =>
                      if tp_dc n0 q0 201 1903 h11 1 9 = true then
                        tp_hp (h11 ++ [(22, List.replicate 9 0)]) fun h12 =>
                        if tp_dt h12 c0 = 1 then
                          tp_hp (tp_ds h12 c0 6 (h11.length : Int)) fun h13 =>
                          if tp_dc n0 q0 201 1903 h13 1 9 = true then
                            tp_hp (h13 ++ [(22, List.replicate 9 0)]) fun h14 =>
                            if tp_dt h14 c0 = 1 then
                              tp_hp (tp_ds h14 c0 7 (h13.length : Int)) fun h15 =>
                              if tp_dc n0 q0 201 1903 h15 1 9 = true then
                                tp_hp (h15 ++ [(21, List.replicate 9 0)]) fun h16 =>
                                if tp_dt h16 c0 = 1 then
                                  tp_hp (tp_ds h16 c0 8 (h15.length : Int)) fun h17 =>
                                  if tp_dc n0 q0 201 1903 h17 1 9 = true then
                                    tp_hp (h17 ++ [(21, List.replicate 9 0)]) fun h18 =>
                                    if tp_dt h18 c0 = 1 then
                                      tp_hp (tp_ds h18 c0 9 (h17.length : Int)) fun h19 =>
                                      if tp_dc n0 q0 201 1903 h19 1 9 = true then
                                        tp_hp (h19 ++ [(21, List.replicate 9 0)]) fun h20 =>
                                        if tp_dt h20 c0 = 1 then
                                          tp_hp (tp_ds h20 c0 10 (h19.length : Int)) fun h21 =>
                                          if tp_dc n0 q0 201 1903 h21 1 9 = true then
                                            tp_hp (h21 ++ [(21, List.replicate 9 0)]) fun h22 =>
                                            if tp_dt h22 c0 = 1 then
                                              tp_hp (tp_ds h22 c0 11 (h21.length : Int)) fun h23 =>
                                              if tp_dc n0 q0 201 1903 h23 1 8 = true then
                                                tp_hp (h23 ++ [(21, List.replicate 8 0)]) fun h24 =>
                                                if tp_dt h24 c0 = 1 then
                                                  tp_hp (tp_ds h24 c0 12 (h23.length : Int)) fun h25 =>
                                                  if tp_dt h25 c0 = 1 then
                                                    tp_hp (tp_ds h25 c0 0 a0) fun h26 =>
                                                    if tp_dt h26 c0 = 1 then
                                                      tp_hp (tp_ds h26 c0 1 a1) fun h27 =>
                                                      df_X1_init_108 n0 q0 c0 0 h27 else none else none else none else none else none else none else none else none else none else none else none else none else none else none else none else none else none else none else none else none else none else none else none else none else none else none
set_option maxHeartbeats 4000000 in
set_option maxRecDepth 100000 in
theorem TD_X1_init (G : tp_G) (n0 q0 : Nat) (c0 : Int) (a0 : Int) (a1 : Int) (H0 : tp_D) : tp_J i_X1_init (tp_rmc 2 201 1903) G 201 1903 od_ H0.length (tp_dy H0) (H0.length - n0) (tp_tot H0 - q0) [some (.inr (.inr c0)), some (.inr (.inr a0)), some (.inr (.inr a1)), none] 0 [] (df_X1_init n0 q0 c0 a0 a1 H0) := by
  unfold df_X1_init
  refine j_aload_n rfl d_X1_init_0 rfl ?_
  refine tp_chk (fun g1 => ?_)
  refine j_obj g1 wd_332 wd_26 wd_27 ⟨by decide, by decide⟩ (Nat.le_of_ble_eq_true rfl) d_X1_init_1 ?_
  refine j_aload_n rfl d_X1_init_4 rfl ?_
  refine k_new (ty0 := tyX5) rfl rfl wd_333 wd_334 wd_11 tyX5_ok kd_5 ko_5 ⟨rfl, rfl⟩ d_X1_init_5 (fun h2 eh2 => ?_)
  refine j_dup d_X1_init_8 (fun G => tp_cat G _) ?_
  refine j_bind (fun h3 e4 => ?_)
  refine k_callI (y := y_X5_init) (I' := i_X5_init) (avs := []) (c := (H0.length : Int)) (st := [.inr (.inr (H0.length : Int)), .inr (.inr c0)]) (rm := tp_rmc 1 22 184) (mc' := 22) (ms' := 184) (cd_X5_init G (H0.length : Int) h2 h3 e4) rfl cs_Grower_11 (Or.inr ⟨_, (by decide +kernel : (.methodLinkNest "TypesAtPrime$Grower" 11 ⟨"TypesAtPrime$Path", "<init>", "()V"⟩ "TypesAtPrime" : Cond) ∈ tp_nest)⟩) wd_336 rfl rfl rfl (Nat.le_of_ble_eq_true rfl) ⟨rfl, rfl⟩ ⟨by decide, by decide⟩ ⟨rfl, rfl⟩ d_X1_init_9 ?_
  refine k_put (z := 2) (v := (H0.length : Int)) (fin := true) fl_Grower_12 (pd_1_2 _) (fun _ => ⟨rfl, fun C T N h => by cases h; rfl⟩) pt_1 d_X1_init_12 (fun h5 eh5 => ?_)
  refine j_aload_n rfl d_X1_init_15 rfl ?_
  refine j_bipush ⟨by decide, by decide⟩ (by decide +kernel) d_X1_init_16 ?_
  refine k_anew (N := 8) (tag := 25) (C := "TypesAtPrime$Factors") rfl (by decide) (by decide) (by decide) (by decide) wd_366 ⟨rfl, rfl⟩ d_X1_init_18 (fun h6 eh6 => ?_)
  refine k_put (z := 2) (v := (h5.length : Int)) (fin := true) fl_Grower_20 (pd_1_3 _) (fun _ => ⟨rfl, fun C T N h => by cases h; rfl⟩) pt_1 d_X1_init_21 (fun h7 eh7 => ?_)
  refine j_aload_n rfl d_X1_init_24 rfl ?_
  refine j_bipush ⟨by decide, by decide⟩ (by decide +kernel) d_X1_init_25 ?_
  refine k_newa (N := 9) (tag := 22) (ty := .long) rfl (by decide) rfl (by decide) (by decide) (by decide) wd_217 (fun _ _ => rfl) (fun _ => (⟨by decide, by decide⟩ : tp_rl 0)) (fun _ _ h => h) ⟨rfl, rfl⟩ d_X1_init_27 (fun h8 eh8 => ?_)
  refine k_put (z := 2) (v := (h7.length : Int)) (fin := true) fl_Grower_24 (pd_1_4 _) (fun _ => ⟨rfl, fun C T N h => by cases h; rfl⟩) pt_1 d_X1_init_29 (fun h9 eh9 => ?_)
  refine j_aload_n rfl d_X1_init_32 rfl ?_
  refine j_bipush ⟨by decide, by decide⟩ (by decide +kernel) d_X1_init_33 ?_
  refine k_newa (N := 18) (tag := 22) (ty := .long) rfl (by decide) rfl (by decide) (by decide) (by decide) wd_217 (fun _ _ => rfl) (fun _ => (⟨by decide, by decide⟩ : tp_rl 0)) (fun _ _ h => h) ⟨rfl, rfl⟩ d_X1_init_35 (fun h10 eh10 => ?_)
  refine k_put (z := 2) (v := (h9.length : Int)) (fin := true) fl_Grower_28 (pd_1_5 _) (fun _ => ⟨rfl, fun C T N h => by cases h; rfl⟩) pt_1 d_X1_init_37 (fun h11 eh11 => ?_)
  refine j_aload_n rfl d_X1_init_40 rfl ?_
  refine j_bipush ⟨by decide, by decide⟩ (by decide +kernel) d_X1_init_41 ?_
  refine k_newa (N := 9) (tag := 22) (ty := .long) rfl (by decide) rfl (by decide) (by decide) (by decide) wd_217 (fun _ _ => rfl) (fun _ => (⟨by decide, by decide⟩ : tp_rl 0)) (fun _ _ h => h) ⟨rfl, rfl⟩ d_X1_init_43 (fun h12 eh12 => ?_)
  refine k_put (z := 2) (v := (h11.length : Int)) (fin := true) fl_Grower_31 (pd_1_6 _) (fun _ => ⟨rfl, fun C T N h => by cases h; rfl⟩) pt_1 d_X1_init_45 (fun h13 eh13 => ?_)
  refine j_aload_n rfl d_X1_init_48 rfl ?_
  refine j_bipush ⟨by decide, by decide⟩ (by decide +kernel) d_X1_init_49 ?_
  refine k_newa (N := 9) (tag := 22) (ty := .long) rfl (by decide) rfl (by decide) (by decide) (by decide) wd_217 (fun _ _ => rfl) (fun _ => (⟨by decide, by decide⟩ : tp_rl 0)) (fun _ _ h => h) ⟨rfl, rfl⟩ d_X1_init_51 (fun h14 eh14 => ?_)
  refine k_put (z := 2) (v := (h13.length : Int)) (fin := true) fl_Grower_34 (pd_1_7 _) (fun _ => ⟨rfl, fun C T N h => by cases h; rfl⟩) pt_1 d_X1_init_53 (fun h15 eh15 => ?_)
  refine j_aload_n rfl d_X1_init_56 rfl ?_
  refine j_bipush ⟨by decide, by decide⟩ (by decide +kernel) d_X1_init_57 ?_
  refine k_newa (N := 9) (tag := 21) (ty := .int) rfl (by decide) rfl (by decide) (by decide) (by decide) wd_71 (fun _ _ => rfl) (fun _ => (⟨by decide, by decide⟩ : tp_r 0)) (fun _ _ h => h) ⟨rfl, rfl⟩ d_X1_init_59 (fun h16 eh16 => ?_)
  refine k_put (z := 2) (v := (h15.length : Int)) (fin := true) fl_Grower_37 (pd_1_8 _) (fun _ => ⟨rfl, fun C T N h => by cases h; rfl⟩) pt_1 d_X1_init_61 (fun h17 eh17 => ?_)
  refine j_aload_n rfl d_X1_init_64 rfl ?_
  refine j_bipush ⟨by decide, by decide⟩ (by decide +kernel) d_X1_init_65 ?_
  refine k_newa (N := 9) (tag := 21) (ty := .int) rfl (by decide) rfl (by decide) (by decide) (by decide) wd_71 (fun _ _ => rfl) (fun _ => (⟨by decide, by decide⟩ : tp_r 0)) (fun _ _ h => h) ⟨rfl, rfl⟩ d_X1_init_67 (fun h18 eh18 => ?_)
  refine k_put (z := 2) (v := (h17.length : Int)) (fin := true) fl_Grower_41 (pd_1_9 _) (fun _ => ⟨rfl, fun C T N h => by cases h; rfl⟩) pt_1 d_X1_init_69 (fun h19 eh19 => ?_)
  refine j_aload_n rfl d_X1_init_72 rfl ?_
  refine j_bipush ⟨by decide, by decide⟩ (by decide +kernel) d_X1_init_73 ?_
  refine k_newa (N := 9) (tag := 21) (ty := .int) rfl (by decide) rfl (by decide) (by decide) (by decide) wd_71 (fun _ _ => rfl) (fun _ => (⟨by decide, by decide⟩ : tp_r 0)) (fun _ _ h => h) ⟨rfl, rfl⟩ d_X1_init_75 (fun h20 eh20 => ?_)
  refine k_put (z := 2) (v := (h19.length : Int)) (fin := true) fl_Grower_44 (pd_1_10 _) (fun _ => ⟨rfl, fun C T N h => by cases h; rfl⟩) pt_1 d_X1_init_77 (fun h21 eh21 => ?_)
  refine j_aload_n rfl d_X1_init_80 rfl ?_
  refine j_bipush ⟨by decide, by decide⟩ (by decide +kernel) d_X1_init_81 ?_
  refine k_newa (N := 9) (tag := 21) (ty := .int) rfl (by decide) rfl (by decide) (by decide) (by decide) wd_71 (fun _ _ => rfl) (fun _ => (⟨by decide, by decide⟩ : tp_r 0)) (fun _ _ h => h) ⟨rfl, rfl⟩ d_X1_init_83 (fun h22 eh22 => ?_)
  refine k_put (z := 2) (v := (h21.length : Int)) (fin := true) fl_Grower_47 (pd_1_11 _) (fun _ => ⟨rfl, fun C T N h => by cases h; rfl⟩) pt_1 d_X1_init_85 (fun h23 eh23 => ?_)
  refine j_aload_n rfl d_X1_init_88 rfl ?_
  refine j_bipush ⟨by decide, by decide⟩ (by decide +kernel) d_X1_init_89 ?_
  refine k_newa (N := 8) (tag := 21) (ty := .int) rfl (by decide) rfl (by decide) (by decide) (by decide) wd_71 (fun _ _ => rfl) (fun _ => (⟨by decide, by decide⟩ : tp_r 0)) (fun _ _ h => h) ⟨rfl, rfl⟩ d_X1_init_91 (fun h24 eh24 => ?_)
  refine k_put (z := 2) (v := (h23.length : Int)) (fin := true) fl_Grower_50 (pd_1_12 _) (fun _ => ⟨rfl, fun C T N h => by cases h; rfl⟩) pt_1 d_X1_init_93 (fun h25 eh25 => ?_)
  refine j_aload_n rfl d_X1_init_96 rfl ?_
  refine j_aload_n rfl d_X1_init_97 rfl ?_
  refine k_put (z := 2) (v := a0) (fin := true) fl_Grower_53 (pd_1_0 _) (fun _ => ⟨rfl, fun C T N h => by cases h; rfl⟩) pt_1 d_X1_init_98 (fun h26 eh26 => ?_)
  refine j_aload_n rfl d_X1_init_101 rfl ?_
  refine j_aload_n rfl d_X1_init_102 rfl ?_
  refine k_put (z := 2) (v := a1) (fin := true) fl_Grower_57 (pd_1_1 _) (fun _ => ⟨rfl, fun C T N h => by cases h; rfl⟩) pt_1 d_X1_init_103 (fun h27 eh27 => ?_)
  refine j_iconst ⟨by decide, by decide⟩ d_X1_init_106 ?_
  refine j_istore_n (lv' := [some (.inr (.inr c0)), some (.inr (.inr a0)), some (.inr (.inr a1)), some (.inl 0)]) rfl d_X1_init_107 (Nat.le_of_ble_eq_true rfl) rfl ?_
  exact j_wk [true, false, false, true] rfl rfl (TD_X1_init_108 G n0 q0 c0 0 h27)
set_option maxHeartbeats 4000000 in
set_option maxRecDepth 100000 in
theorem cd_X1_init (G : tp_G) (c0 : Int) (a0 : Int) (a1 : Int) (H0 r : tp_D) (h : df_X1_init H0.length (tp_tot H0) c0 a0 a1 H0 = some r) (l : Launch) : Met l y_X1_init (tp_ws y_X1_init i_X1_init) (tp_rmc 2 201 1903) (tp_Pc G [.inr (.inr c0), .inr (.inr a0), .inr (.inr a1)] H0.length (tp_dy H0)) (tp_Q G (none, r.length, tp_dy r)) 201 1903 (tp_A G) := by
  have hJ := TD_X1_init G H0.length (tp_tot H0) c0 a0 a1 H0
  rw [Nat.sub_self, Nat.sub_self] at hJ
  exact tp_met (I := i_X1_init) (y := y_X1_init) (by decide +kernel) (Eq.refl "TypesAtPrime$Grower") (Eq.refl "<init>") (lv := [some (.inr (.inr c0)), some (.inr (.inr a0)), some (.inr (.inr a1)), none]) rfl (Nat.le_of_ble_eq_true rfl) hJ h l
theorem wd_163 : (.methodLink "TypesAtPrime$Knot" 3 ⟨"java/lang/Object", "<init>", "()V"⟩ : Cond) ∈ lw_tbl := List.mem_append_right _ (List.mem_of_getElem? (i := 163) (by decide +kernel))
theorem wd_187 : (.fieldLink "TypesAtPrime$Knot" 9 "TypesAtPrime$Knot" "key" "[J" : Cond) ∈ lw_tbl := List.mem_append_right _ (List.mem_of_getElem? (i := 187) (by decide +kernel))
theorem fl_Knot_9 : tp_F "TypesAtPrime$Knot" 9 2 8 2 := ⟨_, _, _, rfl, by decide, rfl, wd_187, rfl, by decide⟩
theorem pd_2_8 (v : Int) : ∀ (C : String) (T : u_T) (N : Nat), vwCl[2]? = some (C, T, N) → (T 8).2.2.2 = true ∧ ∀ G : tp_G, ∃ ty, parseFieldDescriptor (T 8).2.2.1 = some ty ∧ narrow ty (tp_enc G (tp_zv 2 v)) = tp_enc G (tp_zv 2 v) ∧ fits ty (tp_enc G (tp_zv 2 v)) = true := by
  intro C T N h
  cases h
  refine ⟨rfl, fun G => ⟨_, tyX2_ok 8 (by decide), ?_⟩⟩
  show narrow _ (tp_ref G v) = tp_ref G v ∧ fits _ (tp_ref G v) = true
  rcases tp_refc G v with h | ⟨a, h⟩ <;> rw [h] <;> exact ⟨rfl, rfl⟩
theorem wd_192 : (.fieldLink "TypesAtPrime$Knot" 15 "TypesAtPrime$Knot" "points" "[I" : Cond) ∈ lw_tbl := List.mem_append_right _ (List.mem_of_getElem? (i := 192) (by decide +kernel))
theorem fl_Knot_15 : tp_F "TypesAtPrime$Knot" 15 2 9 2 := ⟨_, _, _, rfl, by decide, rfl, wd_192, rfl, by decide⟩
theorem pd_2_9 (v : Int) : ∀ (C : String) (T : u_T) (N : Nat), vwCl[2]? = some (C, T, N) → (T 9).2.2.2 = true ∧ ∀ G : tp_G, ∃ ty, parseFieldDescriptor (T 9).2.2.1 = some ty ∧ narrow ty (tp_enc G (tp_zv 2 v)) = tp_enc G (tp_zv 2 v) ∧ fits ty (tp_enc G (tp_zv 2 v)) = true := by
  intro C T N h
  cases h
  refine ⟨rfl, fun G => ⟨_, tyX2_ok 9 (by decide), ?_⟩⟩
  show narrow _ (tp_ref G v) = tp_ref G v ∧ fits _ (tp_ref G v) = true
  rcases tp_refc G v with h | ⟨a, h⟩ <;> rw [h] <;> exact ⟨rfl, rfl⟩
def y_X2_init : MethodName := ⟨"TypesAtPrime$Knot", "<init>", "()V"⟩
abbrev i_X2_init : tp_I := (prog_4_method_1_code, "TypesAtPrime$Knot", none, 1, "<init>")
theorem d_X2_init_0 : decode prog_4_method_1_code 0 = .ok (.aload_n 0, 1) := by decide +kernel
theorem d_X2_init_1 : decode prog_4_method_1_code 1 = .ok (.invokespecial 3, 3) := by decide +kernel
theorem d_X2_init_4 : decode prog_4_method_1_code 4 = .ok (.aload_n 0, 1) := by decide +kernel
theorem d_X2_init_5 : decode prog_4_method_1_code 5 = .ok (.bipush 9, 2) := by decide +kernel
theorem d_X2_init_7 : decode prog_4_method_1_code 7 = .ok (.newarray .long, 2) := by decide +kernel
theorem d_X2_init_9 : decode prog_4_method_1_code 9 = .ok (.putfield 9, 3) := by decide +kernel
theorem d_X2_init_12 : decode prog_4_method_1_code 12 = .ok (.aload_n 0, 1) := by decide +kernel
theorem d_X2_init_13 : decode prog_4_method_1_code 13 = .ok (.bipush 9, 2) := by decide +kernel
theorem d_X2_init_15 : decode prog_4_method_1_code 15 = .ok (.newarray .int, 2) := by decide +kernel
theorem d_X2_init_17 : decode prog_4_method_1_code 17 = .ok (.putfield 15, 3) := by decide +kernel
theorem d_X2_init_20 : decode prog_4_method_1_code 20 = .ok (.return_, 1) := by decide +kernel
set_option maxHeartbeats 4000000 in
set_option maxRecDepth 100000 in
def df_X2_init (n0 q0 : Nat) (c0 : Int) (H0 : tp_D) : Option tp_D :=
  if 0 ≤ c0 then
    if tp_dc n0 q0 2 18 H0 1 9 = true then
      tp_hp (H0 ++ [(22, List.replicate 9 0)]) fun h2 =>
      if tp_dt h2 c0 = 2 then
        tp_hp (tp_ds h2 c0 8 (H0.length : Int)) fun h3 =>
        if tp_dc n0 q0 2 18 h3 1 9 = true then
          tp_hp (h3 ++ [(21, List.replicate 9 0)]) fun h4 =>
          if tp_dt h4 c0 = 2 then
            tp_hp (tp_ds h4 c0 9 (h3.length : Int)) fun h5 =>
            if tp_de n0 q0 2 18 h5 = true then some h5 else none else none else none else none else none else none
set_option maxHeartbeats 4000000 in
set_option maxRecDepth 100000 in
theorem TD_X2_init (G : tp_G) (n0 q0 : Nat) (c0 : Int) (H0 : tp_D) : tp_J i_X2_init (tp_rmc 1 2 18) G 2 18 od_ H0.length (tp_dy H0) (H0.length - n0) (tp_tot H0 - q0) [some (.inr (.inr c0))] 0 [] (df_X2_init n0 q0 c0 H0) := by
  unfold df_X2_init
  refine j_aload_n rfl d_X2_init_0 rfl ?_
  refine tp_chk (fun g1 => ?_)
  refine j_obj g1 wd_163 wd_26 wd_27 ⟨by decide, by decide⟩ (Nat.le_of_ble_eq_true rfl) d_X2_init_1 ?_
  refine j_aload_n rfl d_X2_init_4 rfl ?_
  refine j_bipush ⟨by decide, by decide⟩ (by decide +kernel) d_X2_init_5 ?_
  refine k_newa (N := 9) (tag := 22) (ty := .long) rfl (by decide) rfl (by decide) (by decide) (by decide) wd_217 (fun _ _ => rfl) (fun _ => (⟨by decide, by decide⟩ : tp_rl 0)) (fun _ _ h => h) ⟨rfl, rfl⟩ d_X2_init_7 (fun h2 eh2 => ?_)
  refine k_put (z := 2) (v := (H0.length : Int)) (fin := true) fl_Knot_9 (pd_2_8 _) (fun _ => ⟨rfl, fun C T N h => by cases h; rfl⟩) pt_2 d_X2_init_9 (fun h3 eh3 => ?_)
  refine j_aload_n rfl d_X2_init_12 rfl ?_
  refine j_bipush ⟨by decide, by decide⟩ (by decide +kernel) d_X2_init_13 ?_
  refine k_newa (N := 9) (tag := 21) (ty := .int) rfl (by decide) rfl (by decide) (by decide) (by decide) wd_71 (fun _ _ => rfl) (fun _ => (⟨by decide, by decide⟩ : tp_r 0)) (fun _ _ h => h) ⟨rfl, rfl⟩ d_X2_init_15 (fun h4 eh4 => ?_)
  refine k_put (z := 2) (v := (h3.length : Int)) (fin := true) fl_Knot_15 (pd_2_9 _) (fun _ => ⟨rfl, fun C T N h => by cases h; rfl⟩) pt_2 d_X2_init_17 (fun h5 eh5 => ?_)
  exact k_vret d_X2_init_20 rfl rfl
set_option maxHeartbeats 4000000 in
set_option maxRecDepth 100000 in
theorem cd_X2_init (G : tp_G) (c0 : Int) (H0 r : tp_D) (h : df_X2_init H0.length (tp_tot H0) c0 H0 = some r) (l : Launch) : Met l y_X2_init (tp_ws y_X2_init i_X2_init) (tp_rmc 1 2 18) (tp_Pc G [.inr (.inr c0)] H0.length (tp_dy H0)) (tp_Q G (none, r.length, tp_dy r)) 2 18 (tp_A G) := by
  have hJ := TD_X2_init G H0.length (tp_tot H0) c0 H0
  rw [Nat.sub_self, Nat.sub_self] at hJ
  exact tp_met (I := i_X2_init) (y := y_X2_init) (by decide +kernel) (Eq.refl "TypesAtPrime$Knot") (Eq.refl "<init>") (lv := [some (.inr (.inr c0))]) rfl (Nat.le_of_ble_eq_true rfl) hJ h l
theorem wd_265 : (.methodLink "TypesAtPrime$Leaf" 1 ⟨"java/lang/Object", "<init>", "()V"⟩ : Cond) ∈ lw_tbl := List.mem_append_right _ (List.mem_of_getElem? (i := 265) (by decide +kernel))
def y_X3_init : MethodName := ⟨"TypesAtPrime$Leaf", "<init>", "()V"⟩
abbrev i_X3_init : tp_I := (prog_5_method_1_code, "TypesAtPrime$Leaf", none, 1, "<init>")
theorem d_X3_init_0 : decode prog_5_method_1_code 0 = .ok (.aload_n 0, 1) := by decide +kernel
theorem d_X3_init_1 : decode prog_5_method_1_code 1 = .ok (.invokespecial 1, 3) := by decide +kernel
theorem d_X3_init_4 : decode prog_5_method_1_code 4 = .ok (.return_, 1) := by decide +kernel
set_option maxHeartbeats 4000000 in
set_option maxRecDepth 100000 in
def df_X3_init (n0 q0 : Nat) (c0 : Int) (H0 : tp_D) : Option tp_D :=
  if 0 ≤ c0 then
    if tp_de n0 q0 0 0 H0 = true then some H0 else none else none
set_option maxHeartbeats 4000000 in
set_option maxRecDepth 100000 in
theorem TD_X3_init (G : tp_G) (n0 q0 : Nat) (c0 : Int) (H0 : tp_D) : tp_J i_X3_init (tp_rmc 1 0 0) G 0 0 od_ H0.length (tp_dy H0) (H0.length - n0) (tp_tot H0 - q0) [some (.inr (.inr c0))] 0 [] (df_X3_init n0 q0 c0 H0) := by
  unfold df_X3_init
  refine j_aload_n rfl d_X3_init_0 rfl ?_
  refine tp_chk (fun g1 => ?_)
  refine j_obj g1 wd_265 wd_26 wd_27 ⟨by decide, by decide⟩ (Nat.le_of_ble_eq_true rfl) d_X3_init_1 ?_
  exact k_vret d_X3_init_4 rfl rfl
set_option maxHeartbeats 4000000 in
set_option maxRecDepth 100000 in
theorem cd_X3_init (G : tp_G) (c0 : Int) (H0 r : tp_D) (h : df_X3_init H0.length (tp_tot H0) c0 H0 = some r) (l : Launch) : Met l y_X3_init (tp_ws y_X3_init i_X3_init) (tp_rmc 1 0 0) (tp_Pc G [.inr (.inr c0)] H0.length (tp_dy H0)) (tp_Q G (none, r.length, tp_dy r)) 0 0 (tp_A G) := by
  have hJ := TD_X3_init G H0.length (tp_tot H0) c0 H0
  rw [Nat.sub_self, Nat.sub_self] at hJ
  exact tp_met (I := i_X3_init) (y := y_X3_init) (by decide +kernel) (Eq.refl "TypesAtPrime$Leaf") (Eq.refl "<init>") (lv := [some (.inr (.inr c0))]) rfl (Nat.le_of_ble_eq_true rfl) hJ h l
theorem wd_33 : (.methodLink "TypesAtPrime$Numbers" 1 ⟨"java/lang/Object", "<init>", "()V"⟩ : Cond) ∈ lw_tbl := List.mem_append_right _ (List.mem_of_getElem? (i := 33) (by decide +kernel))
theorem pd_4_0 (v : Int) : ∀ (C : String) (T : u_T) (N : Nat), vwCl[4]? = some (C, T, N) → (T 0).2.2.2 = false ∧ ∀ G : tp_G, ∃ ty, parseFieldDescriptor (T 0).2.2.1 = some ty ∧ narrow ty (tp_enc G (tp_zv 0 v)) = tp_enc G (tp_zv 0 v) ∧ fits ty (tp_enc G (tp_zv 0 v)) = true := by
  intro C T N h
  cases h
  exact ⟨rfl, fun G => ⟨_, tyX4_ok 0 (by decide), rfl, rfl⟩⟩
theorem pd_4_1 (v : Int) : ∀ (C : String) (T : u_T) (N : Nat), vwCl[4]? = some (C, T, N) → (T 1).2.2.2 = false ∧ ∀ G : tp_G, ∃ ty, parseFieldDescriptor (T 1).2.2.1 = some ty ∧ narrow ty (tp_enc G (tp_zv 0 v)) = tp_enc G (tp_zv 0 v) ∧ fits ty (tp_enc G (tp_zv 0 v)) = true := by
  intro C T N h
  cases h
  exact ⟨rfl, fun G => ⟨_, tyX4_ok 1 (by decide), rfl, rfl⟩⟩
theorem wd_34 : (.constantLong "TypesAtPrime$Numbers" 16 387420489 : Cond) ∈ lw_tbl := List.mem_append_right _ (List.mem_of_getElem? (i := 34) (by decide +kernel))
theorem pd_4_2 (v : Int) : ∀ (C : String) (T : u_T) (N : Nat), vwCl[4]? = some (C, T, N) → (T 2).2.2.2 = false ∧ ∀ G : tp_G, ∃ ty, parseFieldDescriptor (T 2).2.2.1 = some ty ∧ narrow ty (tp_enc G (tp_zv 1 v)) = tp_enc G (tp_zv 1 v) ∧ fits ty (tp_enc G (tp_zv 1 v)) = true := by
  intro C T N h
  cases h
  exact ⟨rfl, fun G => ⟨_, tyX4_ok 2 (by decide), rfl, rfl⟩⟩
def y_X4_init : MethodName := ⟨"TypesAtPrime$Numbers", "<init>", "()V"⟩
abbrev i_X4_init : tp_I := (prog_6_method_1_code, "TypesAtPrime$Numbers", none, 1, "<init>")
theorem d_X4_init_0 : decode prog_6_method_1_code 0 = .ok (.aload_n 0, 1) := by decide +kernel
theorem d_X4_init_1 : decode prog_6_method_1_code 1 = .ok (.invokespecial 1, 3) := by decide +kernel
theorem d_X4_init_4 : decode prog_6_method_1_code 4 = .ok (.aload_n 0, 1) := by decide +kernel
theorem d_X4_init_5 : decode prog_6_method_1_code 5 = .ok (.iconst 3, 1) := by decide +kernel
theorem d_X4_init_6 : decode prog_6_method_1_code 6 = .ok (.putfield 7, 3) := by decide +kernel
theorem d_X4_init_9 : decode prog_6_method_1_code 9 = .ok (.aload_n 0, 1) := by decide +kernel
theorem d_X4_init_10 : decode prog_6_method_1_code 10 = .ok (.bipush 18, 2) := by decide +kernel
theorem d_X4_init_12 : decode prog_6_method_1_code 12 = .ok (.putfield 13, 3) := by decide +kernel
theorem d_X4_init_15 : decode prog_6_method_1_code 15 = .ok (.aload_n 0, 1) := by decide +kernel
theorem d_X4_init_16 : decode prog_6_method_1_code 16 = .ok (.ldc2_w 16, 3) := by decide +kernel
theorem d_X4_init_19 : decode prog_6_method_1_code 19 = .ok (.putfield 18, 3) := by decide +kernel
theorem d_X4_init_22 : decode prog_6_method_1_code 22 = .ok (.return_, 1) := by decide +kernel
set_option maxHeartbeats 4000000 in
set_option maxRecDepth 100000 in
def df_X4_init (n0 q0 : Nat) (c0 : Int) (H0 : tp_D) : Option tp_D :=
  if 0 ≤ c0 then
    if tp_dt H0 c0 = 4 then
      tp_hp (tp_ds H0 c0 0 3) fun h2 =>
      if tp_dt h2 c0 = 4 then
        tp_hp (tp_ds h2 c0 1 18) fun h3 =>
        if tp_dt h3 c0 = 4 then
          tp_hp (tp_ds h3 c0 2 387420489) fun h4 =>
          if tp_de n0 q0 0 0 h4 = true then some h4 else none else none else none else none else none
set_option maxHeartbeats 4000000 in
set_option maxRecDepth 100000 in
theorem TD_X4_init (G : tp_G) (n0 q0 : Nat) (c0 : Int) (H0 : tp_D) : tp_J i_X4_init (tp_rmc 1 0 0) G 0 0 od_ H0.length (tp_dy H0) (H0.length - n0) (tp_tot H0 - q0) [some (.inr (.inr c0))] 0 [] (df_X4_init n0 q0 c0 H0) := by
  unfold df_X4_init
  refine j_aload_n rfl d_X4_init_0 rfl ?_
  refine tp_chk (fun g1 => ?_)
  refine j_obj g1 wd_33 wd_26 wd_27 ⟨by decide, by decide⟩ (Nat.le_of_ble_eq_true rfl) d_X4_init_1 ?_
  refine j_aload_n rfl d_X4_init_4 rfl ?_
  refine j_iconst ⟨by decide, by decide⟩ d_X4_init_5 ?_
  refine k_put (z := 0) (v := 3) (fin := false) fl_Numbers_7 (pd_4_0 _) (fun h => by cases h) pt_4 d_X4_init_6 (fun h2 eh2 => ?_)
  refine j_aload_n rfl d_X4_init_9 rfl ?_
  refine j_bipush ⟨by decide, by decide⟩ (by decide +kernel) d_X4_init_10 ?_
  refine k_put (z := 0) (v := 18) (fin := false) fl_Numbers_13 (pd_4_1 _) (fun h => by cases h) pt_4 d_X4_init_12 (fun h3 eh3 => ?_)
  refine j_aload_n rfl d_X4_init_15 rfl ?_
  refine j_ldc2 (x := 387420489) ⟨by decide, by decide⟩ (show Cond.constantLong _ _ _ ∈ lw_tbl from wd_34) d_X4_init_16 ?_
  refine k_put (z := 1) (v := 387420489) (fin := false) fl_Numbers_18 (pd_4_2 _) (fun h => by cases h) pt_4 d_X4_init_19 (fun h4 eh4 => ?_)
  exact k_vret d_X4_init_22 rfl rfl
set_option maxHeartbeats 4000000 in
set_option maxRecDepth 100000 in
theorem cd_X4_init (G : tp_G) (c0 : Int) (H0 r : tp_D) (h : df_X4_init H0.length (tp_tot H0) c0 H0 = some r) (l : Launch) : Met l y_X4_init (tp_ws y_X4_init i_X4_init) (tp_rmc 1 0 0) (tp_Pc G [.inr (.inr c0)] H0.length (tp_dy H0)) (tp_Q G (none, r.length, tp_dy r)) 0 0 (tp_A G) := by
  have hJ := TD_X4_init G H0.length (tp_tot H0) c0 H0
  rw [Nat.sub_self, Nat.sub_self] at hJ
  exact tp_met (I := i_X4_init) (y := y_X4_init) (by decide +kernel) (Eq.refl "TypesAtPrime$Numbers") (Eq.refl "<init>") (lv := [some (.inr (.inr c0))]) rfl (Nat.le_of_ble_eq_true rfl) hJ h l
theorem wd_56 : (.methodLink "TypesAtPrime$Sheet" 3 ⟨"java/lang/Object", "<init>", "()V"⟩ : Cond) ∈ lw_tbl := List.mem_append_right _ (List.mem_of_getElem? (i := 56) (by decide +kernel))
theorem pd_6_0 (v : Int) : ∀ (C : String) (T : u_T) (N : Nat), vwCl[6]? = some (C, T, N) → (T 0).2.2.2 = false ∧ ∀ G : tp_G, ∃ ty, parseFieldDescriptor (T 0).2.2.1 = some ty ∧ narrow ty (tp_enc G (tp_zv 0 v)) = tp_enc G (tp_zv 0 v) ∧ fits ty (tp_enc G (tp_zv 0 v)) = true := by
  intro C T N h
  cases h
  exact ⟨rfl, fun G => ⟨_, tyX6_ok 0 (by decide), rfl, rfl⟩⟩
theorem pd_6_2 (v : Int) : ∀ (C : String) (T : u_T) (N : Nat), vwCl[6]? = some (C, T, N) → (T 2).2.2.2 = true ∧ ∀ G : tp_G, ∃ ty, parseFieldDescriptor (T 2).2.2.1 = some ty ∧ narrow ty (tp_enc G (tp_zv 2 v)) = tp_enc G (tp_zv 2 v) ∧ fits ty (tp_enc G (tp_zv 2 v)) = true := by
  intro C T N h
  cases h
  refine ⟨rfl, fun G => ⟨_, tyX6_ok 2 (by decide), ?_⟩⟩
  show narrow _ (tp_ref G v) = tp_ref G v ∧ fits _ (tp_ref G v) = true
  rcases tp_refc G v with h | ⟨a, h⟩ <;> rw [h] <;> exact ⟨rfl, rfl⟩
def y_X6_init : MethodName := ⟨"TypesAtPrime$Sheet", "<init>", "()V"⟩
abbrev i_X6_init : tp_I := (prog_8_method_1_code, "TypesAtPrime$Sheet", none, 1, "<init>")
theorem d_X6_init_0 : decode prog_8_method_1_code 0 = .ok (.aload_n 0, 1) := by decide +kernel
theorem d_X6_init_1 : decode prog_8_method_1_code 1 = .ok (.invokespecial 3, 3) := by decide +kernel
theorem d_X6_init_4 : decode prog_8_method_1_code 4 = .ok (.aload_n 0, 1) := by decide +kernel
theorem d_X6_init_5 : decode prog_8_method_1_code 5 = .ok (.iconst (-1), 1) := by decide +kernel
theorem d_X6_init_6 : decode prog_8_method_1_code 6 = .ok (.putfield 9, 3) := by decide +kernel
theorem d_X6_init_9 : decode prog_8_method_1_code 9 = .ok (.aload_n 0, 1) := by decide +kernel
theorem d_X6_init_10 : decode prog_8_method_1_code 10 = .ok (.bipush 40, 2) := by decide +kernel
theorem d_X6_init_12 : decode prog_8_method_1_code 12 = .ok (.newarray .int, 2) := by decide +kernel
theorem d_X6_init_14 : decode prog_8_method_1_code 14 = .ok (.putfield 15, 3) := by decide +kernel
theorem d_X6_init_17 : decode prog_8_method_1_code 17 = .ok (.return_, 1) := by decide +kernel
set_option maxHeartbeats 4000000 in
set_option maxRecDepth 100000 in
def df_X6_init (n0 q0 : Nat) (c0 : Int) (H0 : tp_D) : Option tp_D :=
  if 0 ≤ c0 then
    if tp_dt H0 c0 = 6 then
      tp_hp (tp_ds H0 c0 0 (-1)) fun h2 =>
      if tp_dc n0 q0 1 40 h2 1 40 = true then
        tp_hp (h2 ++ [(21, List.replicate 40 0)]) fun h3 =>
        if tp_dt h3 c0 = 6 then
          tp_hp (tp_ds h3 c0 2 (h2.length : Int)) fun h4 =>
          if tp_de n0 q0 1 40 h4 = true then some h4 else none else none else none else none else none
set_option maxHeartbeats 4000000 in
set_option maxRecDepth 100000 in
theorem TD_X6_init (G : tp_G) (n0 q0 : Nat) (c0 : Int) (H0 : tp_D) : tp_J i_X6_init (tp_rmc 1 1 40) G 1 40 od_ H0.length (tp_dy H0) (H0.length - n0) (tp_tot H0 - q0) [some (.inr (.inr c0))] 0 [] (df_X6_init n0 q0 c0 H0) := by
  unfold df_X6_init
  refine j_aload_n rfl d_X6_init_0 rfl ?_
  refine tp_chk (fun g1 => ?_)
  refine j_obj g1 wd_56 wd_26 wd_27 ⟨by decide, by decide⟩ (Nat.le_of_ble_eq_true rfl) d_X6_init_1 ?_
  refine j_aload_n rfl d_X6_init_4 rfl ?_
  refine j_iconst ⟨by decide, by decide⟩ d_X6_init_5 ?_
  refine k_put (z := 0) (v := (-1)) (fin := false) fl_Sheet_9 (pd_6_0 _) (fun h => by cases h) pt_6 d_X6_init_6 (fun h2 eh2 => ?_)
  refine j_aload_n rfl d_X6_init_9 rfl ?_
  refine j_bipush ⟨by decide, by decide⟩ (by decide +kernel) d_X6_init_10 ?_
  refine k_newa (N := 40) (tag := 21) (ty := .int) rfl (by decide) rfl (by decide) (by decide) (by decide) wd_71 (fun _ _ => rfl) (fun _ => (⟨by decide, by decide⟩ : tp_r 0)) (fun _ _ h => h) ⟨rfl, rfl⟩ d_X6_init_12 (fun h3 eh3 => ?_)
  refine k_put (z := 2) (v := (h2.length : Int)) (fin := true) fl_Sheet_15 (pd_6_2 _) (fun _ => ⟨rfl, fun C T N h => by cases h; rfl⟩) pt_6 d_X6_init_14 (fun h4 eh4 => ?_)
  exact k_vret d_X6_init_17 rfl rfl
set_option maxHeartbeats 4000000 in
set_option maxRecDepth 100000 in
theorem cd_X6_init (G : tp_G) (c0 : Int) (H0 r : tp_D) (h : df_X6_init H0.length (tp_tot H0) c0 H0 = some r) (l : Launch) : Met l y_X6_init (tp_ws y_X6_init i_X6_init) (tp_rmc 1 1 40) (tp_Pc G [.inr (.inr c0)] H0.length (tp_dy H0)) (tp_Q G (none, r.length, tp_dy r)) 1 40 (tp_A G) := by
  have hJ := TD_X6_init G H0.length (tp_tot H0) c0 H0
  rw [Nat.sub_self, Nat.sub_self] at hJ
  exact tp_met (I := i_X6_init) (y := y_X6_init) (by decide +kernel) (Eq.refl "TypesAtPrime$Sheet") (Eq.refl "<init>") (lv := [some (.inr (.inr c0))]) rfl (Nat.le_of_ble_eq_true rfl) hJ h l
theorem wd_222 : (.methodLink "TypesAtPrime$Side" 3 ⟨"java/lang/Object", "<init>", "()V"⟩ : Cond) ∈ lw_tbl := List.mem_append_right _ (List.mem_of_getElem? (i := 222) (by decide +kernel))
theorem wd_237 : (.fieldLink "TypesAtPrime$Side" 9 "TypesAtPrime$Side" "monomial" "[I" : Cond) ∈ lw_tbl := List.mem_append_right _ (List.mem_of_getElem? (i := 237) (by decide +kernel))
theorem fl_Side_9 : tp_F "TypesAtPrime$Side" 9 7 6 2 := ⟨_, _, _, rfl, by decide, rfl, wd_237, rfl, by decide⟩
theorem pd_7_6 (v : Int) : ∀ (C : String) (T : u_T) (N : Nat), vwCl[7]? = some (C, T, N) → (T 6).2.2.2 = true ∧ ∀ G : tp_G, ∃ ty, parseFieldDescriptor (T 6).2.2.1 = some ty ∧ narrow ty (tp_enc G (tp_zv 2 v)) = tp_enc G (tp_zv 2 v) ∧ fits ty (tp_enc G (tp_zv 2 v)) = true := by
  intro C T N h
  cases h
  refine ⟨rfl, fun G => ⟨_, tyX7_ok 6 (by decide), ?_⟩⟩
  show narrow _ (tp_ref G v) = tp_ref G v ∧ fits _ (tp_ref G v) = true
  rcases tp_refc G v with h | ⟨a, h⟩ <;> rw [h] <;> exact ⟨rfl, rfl⟩
theorem wd_241 : (.fieldLink "TypesAtPrime$Side" 15 "TypesAtPrime$Side" "residual" "[I" : Cond) ∈ lw_tbl := List.mem_append_right _ (List.mem_of_getElem? (i := 241) (by decide +kernel))
theorem fl_Side_15 : tp_F "TypesAtPrime$Side" 15 7 7 2 := ⟨_, _, _, rfl, by decide, rfl, wd_241, rfl, by decide⟩
theorem pd_7_7 (v : Int) : ∀ (C : String) (T : u_T) (N : Nat), vwCl[7]? = some (C, T, N) → (T 7).2.2.2 = true ∧ ∀ G : tp_G, ∃ ty, parseFieldDescriptor (T 7).2.2.1 = some ty ∧ narrow ty (tp_enc G (tp_zv 2 v)) = tp_enc G (tp_zv 2 v) ∧ fits ty (tp_enc G (tp_zv 2 v)) = true := by
  intro C T N h
  cases h
  refine ⟨rfl, fun G => ⟨_, tyX7_ok 7 (by decide), ?_⟩⟩
  show narrow _ (tp_ref G v) = tp_ref G v ∧ fits _ (tp_ref G v) = true
  rcases tp_refc G v with h | ⟨a, h⟩ <;> rw [h] <;> exact ⟨rfl, rfl⟩
def y_X7_init : MethodName := ⟨"TypesAtPrime$Side", "<init>", "()V"⟩
abbrev i_X7_init : tp_I := (prog_9_method_1_code, "TypesAtPrime$Side", none, 1, "<init>")
theorem d_X7_init_0 : decode prog_9_method_1_code 0 = .ok (.aload_n 0, 1) := by decide +kernel
theorem d_X7_init_1 : decode prog_9_method_1_code 1 = .ok (.invokespecial 3, 3) := by decide +kernel
theorem d_X7_init_4 : decode prog_9_method_1_code 4 = .ok (.aload_n 0, 1) := by decide +kernel
theorem d_X7_init_5 : decode prog_9_method_1_code 5 = .ok (.bipush 8, 2) := by decide +kernel
theorem d_X7_init_7 : decode prog_9_method_1_code 7 = .ok (.newarray .int, 2) := by decide +kernel
theorem d_X7_init_9 : decode prog_9_method_1_code 9 = .ok (.putfield 9, 3) := by decide +kernel
theorem d_X7_init_12 : decode prog_9_method_1_code 12 = .ok (.aload_n 0, 1) := by decide +kernel
theorem d_X7_init_13 : decode prog_9_method_1_code 13 = .ok (.bipush 9, 2) := by decide +kernel
theorem d_X7_init_15 : decode prog_9_method_1_code 15 = .ok (.newarray .int, 2) := by decide +kernel
theorem d_X7_init_17 : decode prog_9_method_1_code 17 = .ok (.putfield 15, 3) := by decide +kernel
theorem d_X7_init_20 : decode prog_9_method_1_code 20 = .ok (.return_, 1) := by decide +kernel
set_option maxHeartbeats 4000000 in
set_option maxRecDepth 100000 in
def df_X7_init (n0 q0 : Nat) (c0 : Int) (H0 : tp_D) : Option tp_D :=
  if 0 ≤ c0 then
    if tp_dc n0 q0 2 17 H0 1 8 = true then
      tp_hp (H0 ++ [(21, List.replicate 8 0)]) fun h2 =>
      if tp_dt h2 c0 = 7 then
        tp_hp (tp_ds h2 c0 6 (H0.length : Int)) fun h3 =>
        if tp_dc n0 q0 2 17 h3 1 9 = true then
          tp_hp (h3 ++ [(21, List.replicate 9 0)]) fun h4 =>
          if tp_dt h4 c0 = 7 then
            tp_hp (tp_ds h4 c0 7 (h3.length : Int)) fun h5 =>
            if tp_de n0 q0 2 17 h5 = true then some h5 else none else none else none else none else none else none
set_option maxHeartbeats 4000000 in
set_option maxRecDepth 100000 in
theorem TD_X7_init (G : tp_G) (n0 q0 : Nat) (c0 : Int) (H0 : tp_D) : tp_J i_X7_init (tp_rmc 1 2 17) G 2 17 od_ H0.length (tp_dy H0) (H0.length - n0) (tp_tot H0 - q0) [some (.inr (.inr c0))] 0 [] (df_X7_init n0 q0 c0 H0) := by
  unfold df_X7_init
  refine j_aload_n rfl d_X7_init_0 rfl ?_
  refine tp_chk (fun g1 => ?_)
  refine j_obj g1 wd_222 wd_26 wd_27 ⟨by decide, by decide⟩ (Nat.le_of_ble_eq_true rfl) d_X7_init_1 ?_
  refine j_aload_n rfl d_X7_init_4 rfl ?_
  refine j_bipush ⟨by decide, by decide⟩ (by decide +kernel) d_X7_init_5 ?_
  refine k_newa (N := 8) (tag := 21) (ty := .int) rfl (by decide) rfl (by decide) (by decide) (by decide) wd_71 (fun _ _ => rfl) (fun _ => (⟨by decide, by decide⟩ : tp_r 0)) (fun _ _ h => h) ⟨rfl, rfl⟩ d_X7_init_7 (fun h2 eh2 => ?_)
  refine k_put (z := 2) (v := (H0.length : Int)) (fin := true) fl_Side_9 (pd_7_6 _) (fun _ => ⟨rfl, fun C T N h => by cases h; rfl⟩) pt_7 d_X7_init_9 (fun h3 eh3 => ?_)
  refine j_aload_n rfl d_X7_init_12 rfl ?_
  refine j_bipush ⟨by decide, by decide⟩ (by decide +kernel) d_X7_init_13 ?_
  refine k_newa (N := 9) (tag := 21) (ty := .int) rfl (by decide) rfl (by decide) (by decide) (by decide) wd_71 (fun _ _ => rfl) (fun _ => (⟨by decide, by decide⟩ : tp_r 0)) (fun _ _ h => h) ⟨rfl, rfl⟩ d_X7_init_15 (fun h4 eh4 => ?_)
  refine k_put (z := 2) (v := (h3.length : Int)) (fin := true) fl_Side_15 (pd_7_7 _) (fun _ => ⟨rfl, fun C T N h => by cases h; rfl⟩) pt_7 d_X7_init_17 (fun h5 eh5 => ?_)
  exact k_vret d_X7_init_20 rfl rfl
set_option maxHeartbeats 4000000 in
set_option maxRecDepth 100000 in
theorem cd_X7_init (G : tp_G) (c0 : Int) (H0 r : tp_D) (h : df_X7_init H0.length (tp_tot H0) c0 H0 = some r) (l : Launch) : Met l y_X7_init (tp_ws y_X7_init i_X7_init) (tp_rmc 1 2 17) (tp_Pc G [.inr (.inr c0)] H0.length (tp_dy H0)) (tp_Q G (none, r.length, tp_dy r)) 2 17 (tp_A G) := by
  have hJ := TD_X7_init G H0.length (tp_tot H0) c0 H0
  rw [Nat.sub_self, Nat.sub_self] at hJ
  exact tp_met (I := i_X7_init) (y := y_X7_init) (by decide +kernel) (Eq.refl "TypesAtPrime$Side") (Eq.refl "<init>") (lv := [some (.inr (.inr c0))]) rfl (Nat.le_of_ble_eq_true rfl) hJ h l
theorem wd_77 : (.methodLink "TypesAtPrime$TextReader" 3 ⟨"java/lang/Object", "<init>", "()V"⟩ : Cond) ∈ lw_tbl := List.mem_append_right _ (List.mem_of_getElem? (i := 77) (by decide +kernel))
theorem pd_8_0 (v : Int) : ∀ (C : String) (T : u_T) (N : Nat), vwCl[8]? = some (C, T, N) → (T 0).2.2.2 = true ∧ ∀ G : tp_G, ∃ ty, parseFieldDescriptor (T 0).2.2.1 = some ty ∧ narrow ty (tp_enc G (tp_zv 2 v)) = tp_enc G (tp_zv 2 v) ∧ fits ty (tp_enc G (tp_zv 2 v)) = true := by
  intro C T N h
  cases h
  refine ⟨rfl, fun G => ⟨_, tyX8_ok 0 (by decide), ?_⟩⟩
  show narrow _ (tp_ref G v) = tp_ref G v ∧ fits _ (tp_ref G v) = true
  rcases tp_refc G v with h | ⟨a, h⟩ <;> rw [h] <;> exact ⟨rfl, rfl⟩
def y_X8_init : MethodName := ⟨"TypesAtPrime$TextReader", "<init>", "()V"⟩
abbrev i_X8_init : tp_I := (prog_10_method_1_code, "TypesAtPrime$TextReader", none, 1, "<init>")
theorem d_X8_init_0 : decode prog_10_method_1_code 0 = .ok (.aload_n 0, 1) := by decide +kernel
theorem d_X8_init_1 : decode prog_10_method_1_code 1 = .ok (.invokespecial 3, 3) := by decide +kernel
theorem d_X8_init_4 : decode prog_10_method_1_code 4 = .ok (.aload_n 0, 1) := by decide +kernel
theorem d_X8_init_5 : decode prog_10_method_1_code 5 = .ok (.bipush 9, 2) := by decide +kernel
theorem d_X8_init_7 : decode prog_10_method_1_code 7 = .ok (.newarray .int, 2) := by decide +kernel
theorem d_X8_init_9 : decode prog_10_method_1_code 9 = .ok (.putfield 9, 3) := by decide +kernel
theorem d_X8_init_12 : decode prog_10_method_1_code 12 = .ok (.return_, 1) := by decide +kernel
set_option maxHeartbeats 4000000 in
set_option maxRecDepth 100000 in
def df_X8_init (n0 q0 : Nat) (c0 : Int) (H0 : tp_D) : Option tp_D :=
  if 0 ≤ c0 then
    if tp_dc n0 q0 1 9 H0 1 9 = true then
      tp_hp (H0 ++ [(21, List.replicate 9 0)]) fun h2 =>
      if tp_dt h2 c0 = 8 then
        tp_hp (tp_ds h2 c0 0 (H0.length : Int)) fun h3 =>
        if tp_de n0 q0 1 9 h3 = true then some h3 else none else none else none else none
set_option maxHeartbeats 4000000 in
set_option maxRecDepth 100000 in
theorem TD_X8_init (G : tp_G) (n0 q0 : Nat) (c0 : Int) (H0 : tp_D) : tp_J i_X8_init (tp_rmc 1 1 9) G 1 9 od_ H0.length (tp_dy H0) (H0.length - n0) (tp_tot H0 - q0) [some (.inr (.inr c0))] 0 [] (df_X8_init n0 q0 c0 H0) := by
  unfold df_X8_init
  refine j_aload_n rfl d_X8_init_0 rfl ?_
  refine tp_chk (fun g1 => ?_)
  refine j_obj g1 wd_77 wd_26 wd_27 ⟨by decide, by decide⟩ (Nat.le_of_ble_eq_true rfl) d_X8_init_1 ?_
  refine j_aload_n rfl d_X8_init_4 rfl ?_
  refine j_bipush ⟨by decide, by decide⟩ (by decide +kernel) d_X8_init_5 ?_
  refine k_newa (N := 9) (tag := 21) (ty := .int) rfl (by decide) rfl (by decide) (by decide) (by decide) wd_71 (fun _ _ => rfl) (fun _ => (⟨by decide, by decide⟩ : tp_r 0)) (fun _ _ h => h) ⟨rfl, rfl⟩ d_X8_init_7 (fun h2 eh2 => ?_)
  refine k_put (z := 2) (v := (H0.length : Int)) (fin := true) fl_TextReader_9 (pd_8_0 _) (fun _ => ⟨rfl, fun C T N h => by cases h; rfl⟩) pt_8 d_X8_init_9 (fun h3 eh3 => ?_)
  exact k_vret d_X8_init_12 rfl rfl
set_option maxHeartbeats 4000000 in
set_option maxRecDepth 100000 in
theorem cd_X8_init (G : tp_G) (c0 : Int) (H0 r : tp_D) (h : df_X8_init H0.length (tp_tot H0) c0 H0 = some r) (l : Launch) : Met l y_X8_init (tp_ws y_X8_init i_X8_init) (tp_rmc 1 1 9) (tp_Pc G [.inr (.inr c0)] H0.length (tp_dy H0)) (tp_Q G (none, r.length, tp_dy r)) 1 9 (tp_A G) := by
  have hJ := TD_X8_init G H0.length (tp_tot H0) c0 H0
  rw [Nat.sub_self, Nat.sub_self] at hJ
  exact tp_met (I := i_X8_init) (y := y_X8_init) (by decide +kernel) (Eq.refl "TypesAtPrime$TextReader") (Eq.refl "<init>") (lv := [some (.inr (.inr c0))]) rfl (Nat.le_of_ble_eq_true rfl) hJ h l
theorem wd_152 : (.methodLink "TypesAtPrime$Tree" 3 ⟨"java/lang/Object", "<init>", "()V"⟩ : Cond) ∈ lw_tbl := List.mem_append_right _ (List.mem_of_getElem? (i := 152) (by decide +kernel))
theorem wd_70 : (.arrayClass .byte : Cond) ∈ lw_tbl := List.mem_append_right _ (List.mem_of_getElem? (i := 70) (by decide +kernel))
theorem pd_9_5 (v : Int) : ∀ (C : String) (T : u_T) (N : Nat), vwCl[9]? = some (C, T, N) → (T 5).2.2.2 = true ∧ ∀ G : tp_G, ∃ ty, parseFieldDescriptor (T 5).2.2.1 = some ty ∧ narrow ty (tp_enc G (tp_zv 2 v)) = tp_enc G (tp_zv 2 v) ∧ fits ty (tp_enc G (tp_zv 2 v)) = true := by
  intro C T N h
  cases h
  refine ⟨rfl, fun G => ⟨_, tyX9_ok 5 (by decide), ?_⟩⟩
  show narrow _ (tp_ref G v) = tp_ref G v ∧ fits _ (tp_ref G v) = true
  rcases tp_refc G v with h | ⟨a, h⟩ <;> rw [h] <;> exact ⟨rfl, rfl⟩
theorem wd_153 : (.classLink "TypesAtPrime$Tree" 15 "TypesAtPrime$Knot" : Cond) ∈ lw_tbl := List.mem_append_right _ (List.mem_of_getElem? (i := 153) (by decide +kernel))
theorem pd_9_7 (v : Int) : ∀ (C : String) (T : u_T) (N : Nat), vwCl[9]? = some (C, T, N) → (T 7).2.2.2 = true ∧ ∀ G : tp_G, ∃ ty, parseFieldDescriptor (T 7).2.2.1 = some ty ∧ narrow ty (tp_enc G (tp_zv 2 v)) = tp_enc G (tp_zv 2 v) ∧ fits ty (tp_enc G (tp_zv 2 v)) = true := by
  intro C T N h
  cases h
  refine ⟨rfl, fun G => ⟨_, tyX9_ok 7 (by decide), ?_⟩⟩
  show narrow _ (tp_ref G v) = tp_ref G v ∧ fits _ (tp_ref G v) = true
  rcases tp_refc G v with h | ⟨a, h⟩ <;> rw [h] <;> exact ⟨rfl, rfl⟩
theorem wd_155 : (.classLink "TypesAtPrime$Tree" 21 "TypesAtPrime$Side" : Cond) ∈ lw_tbl := List.mem_append_right _ (List.mem_of_getElem? (i := 155) (by decide +kernel))
theorem pd_9_8 (v : Int) : ∀ (C : String) (T : u_T) (N : Nat), vwCl[9]? = some (C, T, N) → (T 8).2.2.2 = true ∧ ∀ G : tp_G, ∃ ty, parseFieldDescriptor (T 8).2.2.1 = some ty ∧ narrow ty (tp_enc G (tp_zv 2 v)) = tp_enc G (tp_zv 2 v) ∧ fits ty (tp_enc G (tp_zv 2 v)) = true := by
  intro C T N h
  cases h
  refine ⟨rfl, fun G => ⟨_, tyX9_ok 8 (by decide), ?_⟩⟩
  show narrow _ (tp_ref G v) = tp_ref G v ∧ fits _ (tp_ref G v) = true
  rcases tp_refc G v with h | ⟨a, h⟩ <;> rw [h] <;> exact ⟨rfl, rfl⟩
theorem wd_157 : (.classLink "TypesAtPrime$Tree" 27 "TypesAtPrime$Leaf" : Cond) ∈ lw_tbl := List.mem_append_right _ (List.mem_of_getElem? (i := 157) (by decide +kernel))
theorem pd_9_9 (v : Int) : ∀ (C : String) (T : u_T) (N : Nat), vwCl[9]? = some (C, T, N) → (T 9).2.2.2 = true ∧ ∀ G : tp_G, ∃ ty, parseFieldDescriptor (T 9).2.2.1 = some ty ∧ narrow ty (tp_enc G (tp_zv 2 v)) = tp_enc G (tp_zv 2 v) ∧ fits ty (tp_enc G (tp_zv 2 v)) = true := by
  intro C T N h
  cases h
  refine ⟨rfl, fun G => ⟨_, tyX9_ok 9 (by decide), ?_⟩⟩
  show narrow _ (tp_ref G v) = tp_ref G v ∧ fits _ (tp_ref G v) = true
  rcases tp_refc G v with h | ⟨a, h⟩ <;> rw [h] <;> exact ⟨rfl, rfl⟩
def bl_3 : List Int := [0, 0, 0, 0, 0]
theorem kd_3 : ∀ (G : tp_G) (j : Nat), j < 5 → defaultValue (tyX3 j) = tp_enc G (tp_tv 3 j (bl_3.getD j 0)) := tp_dfl (by decide +kernel)
theorem ko_3 : tp_okc (3, bl_3) := tp_okbl (by decide +kernel)
theorem wd_261 : (.instantiable "TypesAtPrime$Leaf" 5 : Cond) ∈ lw_tbl := List.mem_append_right _ (List.mem_of_getElem? (i := 261) (by decide +kernel))
theorem wd_9 : (.initialized "TypesAtPrime$Leaf" : Cond) ∈ lw_tbl := List.mem_append_right _ (List.mem_of_getElem? (i := 9) (by decide +kernel))
theorem wd_264 : (.code ⟨"TypesAtPrime$Leaf", "<init>", "()V"⟩ prog_5_method_1_code 1 (none : Option Jvm.ClassFile.FieldType) : Cond) ∈ lw_tbl := List.mem_append_right _ (List.mem_of_getElem? (i := 264) (by decide +kernel))
theorem cs_Tree_35 : tp_CS "TypesAtPrime$Tree" 35 y_X3_init i_X3_init 0 := ⟨wd_264, wd_9, by decide, by decide, by decide +kernel⟩
theorem wd_263 : (.instanceMethod ⟨"TypesAtPrime$Leaf", "<init>", "()V"⟩ : Cond) ∈ lw_tbl := List.mem_append_right _ (List.mem_of_getElem? (i := 263) (by decide +kernel))
def bl_7 : List Int := [0, 0, 0, 0, 0, 0, (-1), (-1)]
theorem kd_7 : ∀ (G : tp_G) (j : Nat), j < 8 → defaultValue (tyX7 j) = tp_enc G (tp_tv 7 j (bl_7.getD j 0)) := tp_dfl (by decide +kernel)
theorem ko_7 : tp_okc (7, bl_7) := tp_okbl (by decide +kernel)
theorem wd_218 : (.instantiable "TypesAtPrime$Side" 8 : Cond) ∈ lw_tbl := List.mem_append_right _ (List.mem_of_getElem? (i := 218) (by decide +kernel))
theorem wd_8 : (.initialized "TypesAtPrime$Side" : Cond) ∈ lw_tbl := List.mem_append_right _ (List.mem_of_getElem? (i := 8) (by decide +kernel))
theorem wd_221 : (.code ⟨"TypesAtPrime$Side", "<init>", "()V"⟩ prog_9_method_1_code 1 (none : Option Jvm.ClassFile.FieldType) : Cond) ∈ lw_tbl := List.mem_append_right _ (List.mem_of_getElem? (i := 221) (by decide +kernel))
theorem cs_Tree_34 : tp_CS "TypesAtPrime$Tree" 34 y_X7_init i_X7_init 0 := ⟨wd_221, wd_8, by decide, by decide, by decide +kernel⟩
theorem wd_220 : (.instanceMethod ⟨"TypesAtPrime$Side", "<init>", "()V"⟩ : Cond) ∈ lw_tbl := List.mem_append_right _ (List.mem_of_getElem? (i := 220) (by decide +kernel))
def bl_2 : List Int := [0, 0, 0, 0, 0, 0, 0, 0, (-1), (-1)]
theorem kd_2 : ∀ (G : tp_G) (j : Nat), j < 10 → defaultValue (tyX2 j) = tp_enc G (tp_tv 2 j (bl_2.getD j 0)) := tp_dfl (by decide +kernel)
theorem ko_2 : tp_okc (2, bl_2) := tp_okbl (by decide +kernel)
theorem wd_159 : (.instantiable "TypesAtPrime$Knot" 10 : Cond) ∈ lw_tbl := List.mem_append_right _ (List.mem_of_getElem? (i := 159) (by decide +kernel))
theorem wd_7 : (.initialized "TypesAtPrime$Knot" : Cond) ∈ lw_tbl := List.mem_append_right _ (List.mem_of_getElem? (i := 7) (by decide +kernel))
theorem wd_162 : (.code ⟨"TypesAtPrime$Knot", "<init>", "()V"⟩ prog_4_method_1_code 1 (none : Option Jvm.ClassFile.FieldType) : Cond) ∈ lw_tbl := List.mem_append_right _ (List.mem_of_getElem? (i := 162) (by decide +kernel))
theorem cs_Tree_33 : tp_CS "TypesAtPrime$Tree" 33 y_X2_init i_X2_init 0 := ⟨wd_162, wd_7, by decide, by decide, by decide +kernel⟩
theorem wd_161 : (.instanceMethod ⟨"TypesAtPrime$Knot", "<init>", "()V"⟩ : Cond) ∈ lw_tbl := List.mem_append_right _ (List.mem_of_getElem? (i := 161) (by decide +kernel))
def y_X9_init : MethodName := ⟨"TypesAtPrime$Tree", "<init>", "()V"⟩
abbrev i_X9_init : tp_I := (prog_11_method_1_code, "TypesAtPrime$Tree", none, 2, "<init>")
theorem d_X9_init_0 : decode prog_11_method_1_code 0 = .ok (.aload_n 0, 1) := by decide +kernel
theorem d_X9_init_1 : decode prog_11_method_1_code 1 = .ok (.invokespecial 3, 3) := by decide +kernel
theorem d_X9_init_4 : decode prog_11_method_1_code 4 = .ok (.aload_n 0, 1) := by decide +kernel
theorem d_X9_init_5 : decode prog_11_method_1_code 5 = .ok (.bipush 80, 2) := by decide +kernel
theorem d_X9_init_7 : decode prog_11_method_1_code 7 = .ok (.newarray .byte, 2) := by decide +kernel
theorem d_X9_init_9 : decode prog_11_method_1_code 9 = .ok (.putfield 9, 3) := by decide +kernel
theorem d_X9_init_12 : decode prog_11_method_1_code 12 = .ok (.aload_n 0, 1) := by decide +kernel
theorem d_X9_init_13 : decode prog_11_method_1_code 13 = .ok (.bipush 24, 2) := by decide +kernel
theorem d_X9_init_15 : decode prog_11_method_1_code 15 = .ok (.anewarray 15, 3) := by decide +kernel
theorem d_X9_init_18 : decode prog_11_method_1_code 18 = .ok (.putfield 17, 3) := by decide +kernel
theorem d_X9_init_21 : decode prog_11_method_1_code 21 = .ok (.aload_n 0, 1) := by decide +kernel
theorem d_X9_init_22 : decode prog_11_method_1_code 22 = .ok (.bipush 48, 2) := by decide +kernel
theorem d_X9_init_24 : decode prog_11_method_1_code 24 = .ok (.anewarray 21, 3) := by decide +kernel
theorem d_X9_init_27 : decode prog_11_method_1_code 27 = .ok (.putfield 23, 3) := by decide +kernel
theorem d_X9_init_30 : decode prog_11_method_1_code 30 = .ok (.aload_n 0, 1) := by decide +kernel
theorem d_X9_init_31 : decode prog_11_method_1_code 31 = .ok (.bipush 16, 2) := by decide +kernel
theorem d_X9_init_33 : decode prog_11_method_1_code 33 = .ok (.anewarray 27, 3) := by decide +kernel
theorem d_X9_init_36 : decode prog_11_method_1_code 36 = .ok (.putfield 29, 3) := by decide +kernel
theorem d_X9_init_39 : decode prog_11_method_1_code 39 = .ok (.iconst 0, 1) := by decide +kernel
theorem d_X9_init_40 : decode prog_11_method_1_code 40 = .ok (.istore_n 1, 1) := by decide +kernel
theorem d_X9_init_41 : decode prog_11_method_1_code 41 = .ok (.iload_n 1, 1) := by decide +kernel
theorem d_X9_init_42 : decode prog_11_method_1_code 42 = .ok (.bipush 24, 2) := by decide +kernel
theorem d_X9_init_44 : decode prog_11_method_1_code 44 = .ok (.if_icmp .ge 22, 3) := by decide +kernel
theorem d_X9_init_47 : decode prog_11_method_1_code 47 = .ok (.aload_n 0, 1) := by decide +kernel
theorem d_X9_init_48 : decode prog_11_method_1_code 48 = .ok (.getfield 17, 3) := by decide +kernel
theorem d_X9_init_51 : decode prog_11_method_1_code 51 = .ok (.iload_n 1, 1) := by decide +kernel
theorem d_X9_init_52 : decode prog_11_method_1_code 52 = .ok (.new 15, 3) := by decide +kernel
theorem d_X9_init_55 : decode prog_11_method_1_code 55 = .ok (.dup, 1) := by decide +kernel
theorem d_X9_init_56 : decode prog_11_method_1_code 56 = .ok (.invokespecial 33, 3) := by decide +kernel
theorem d_X9_init_59 : decode prog_11_method_1_code 59 = .ok (.aastore, 1) := by decide +kernel
theorem d_X9_init_60 : decode prog_11_method_1_code 60 = .ok (.iinc 1 1, 3) := by decide +kernel
theorem d_X9_init_63 : decode prog_11_method_1_code 63 = .ok (.goto (-22), 3) := by decide +kernel
theorem d_X9_init_66 : decode prog_11_method_1_code 66 = .ok (.iconst 0, 1) := by decide +kernel
theorem d_X9_init_67 : decode prog_11_method_1_code 67 = .ok (.istore_n 1, 1) := by decide +kernel
theorem d_X9_init_68 : decode prog_11_method_1_code 68 = .ok (.iload_n 1, 1) := by decide +kernel
theorem d_X9_init_69 : decode prog_11_method_1_code 69 = .ok (.bipush 48, 2) := by decide +kernel
theorem d_X9_init_71 : decode prog_11_method_1_code 71 = .ok (.if_icmp .ge 22, 3) := by decide +kernel
theorem d_X9_init_74 : decode prog_11_method_1_code 74 = .ok (.aload_n 0, 1) := by decide +kernel
theorem d_X9_init_75 : decode prog_11_method_1_code 75 = .ok (.getfield 23, 3) := by decide +kernel
theorem d_X9_init_78 : decode prog_11_method_1_code 78 = .ok (.iload_n 1, 1) := by decide +kernel
theorem d_X9_init_79 : decode prog_11_method_1_code 79 = .ok (.new 21, 3) := by decide +kernel
theorem d_X9_init_82 : decode prog_11_method_1_code 82 = .ok (.dup, 1) := by decide +kernel
theorem d_X9_init_83 : decode prog_11_method_1_code 83 = .ok (.invokespecial 34, 3) := by decide +kernel
theorem d_X9_init_86 : decode prog_11_method_1_code 86 = .ok (.aastore, 1) := by decide +kernel
theorem d_X9_init_87 : decode prog_11_method_1_code 87 = .ok (.iinc 1 1, 3) := by decide +kernel
theorem d_X9_init_90 : decode prog_11_method_1_code 90 = .ok (.goto (-22), 3) := by decide +kernel
theorem d_X9_init_93 : decode prog_11_method_1_code 93 = .ok (.iconst 0, 1) := by decide +kernel
theorem d_X9_init_94 : decode prog_11_method_1_code 94 = .ok (.istore_n 1, 1) := by decide +kernel
theorem d_X9_init_95 : decode prog_11_method_1_code 95 = .ok (.iload_n 1, 1) := by decide +kernel
theorem d_X9_init_96 : decode prog_11_method_1_code 96 = .ok (.bipush 16, 2) := by decide +kernel
theorem d_X9_init_98 : decode prog_11_method_1_code 98 = .ok (.if_icmp .ge 22, 3) := by decide +kernel
theorem d_X9_init_101 : decode prog_11_method_1_code 101 = .ok (.aload_n 0, 1) := by decide +kernel
theorem d_X9_init_102 : decode prog_11_method_1_code 102 = .ok (.getfield 29, 3) := by decide +kernel
theorem d_X9_init_105 : decode prog_11_method_1_code 105 = .ok (.iload_n 1, 1) := by decide +kernel
theorem d_X9_init_106 : decode prog_11_method_1_code 106 = .ok (.new 27, 3) := by decide +kernel
theorem d_X9_init_109 : decode prog_11_method_1_code 109 = .ok (.dup, 1) := by decide +kernel
theorem d_X9_init_110 : decode prog_11_method_1_code 110 = .ok (.invokespecial 35, 3) := by decide +kernel
theorem d_X9_init_113 : decode prog_11_method_1_code 113 = .ok (.aastore, 1) := by decide +kernel
theorem d_X9_init_114 : decode prog_11_method_1_code 114 = .ok (.iinc 1 1, 3) := by decide +kernel
theorem d_X9_init_117 : decode prog_11_method_1_code 117 = .ok (.goto (-22), 3) := by decide +kernel
theorem d_X9_init_120 : decode prog_11_method_1_code 120 = .ok (.return_, 1) := by decide +kernel
def df_X9_init_95B (n0 q0 : Nat) (x0 : Int) (rec_95 : Int → tp_D → Option (tp_D)) (x1 : Int) (H0 : tp_D) : Option (tp_D) :=
  if 16 ≤ x1 then
    if tp_de n0 q0 236 2120 H0 = true then some H0 else none
  else
    if tp_dt H0 x0 = 9 then
      if tp_dc n0 q0 236 2120 H0 1 5 = true then
        tp_hp (H0 ++ [(3, bl_3)]) fun h13 =>
        (df_X3_init h13.length (tp_tot h13) (H0.length : Int) h13).bind fun h14 =>
        if 0 ≤ (H0.length : Int) ∧ tp_dk n0 q0 236 2120 h13 h14 0 0 = true then
          if tp_dt h14 (tp_dv H0 x0 9) = 27 ∧ tp_dt h14 (H0.length : Int) = 3 ∧ 0 ≤ x1 ∧ x1 < tp_dl h14 (tp_dv H0 x0 9) then
            tp_hp (tp_ds h14 (tp_dv H0 x0 9) x1 (H0.length : Int)) fun h16 =>
            tp_lt (tp_w (x1 + 1)) fun y17 =>
            rec_95 y17 h16 else none else none else none else none
set_option maxHeartbeats 4000000 in
set_option maxRecDepth 100000 in
theorem TD_X9_init_95B (G : tp_G) (n0 q0 : Nat) (x0 : Int) (rec_95 : Int → tp_D → Option (tp_D)) (hrec_95 : ∀ (x1' : Int) (M' : tp_D), tp_J i_X9_init (tp_rmc 2 236 2120) G 236 2120 od_ M'.length (tp_dy M') (M'.length - n0) (tp_tot M' - q0) [some (.inr (.inr x0)), some (.inl (x1'))] 95 [] (rec_95 x1' M')) (x1 : Int) (H0 : tp_D) : tp_J i_X9_init (tp_rmc 2 236 2120) G 236 2120 od_ H0.length (tp_dy H0) (H0.length - n0) (tp_tot H0 - q0) [some (.inr (.inr x0)), some (.inl x1)] 95 [] (df_X9_init_95B n0 q0 x0 rec_95 x1 H0) := by
  unfold df_X9_init_95B
  refine j_iload_n rfl d_X9_init_95 rfl ?_
  refine j_bipush ⟨by decide, by decide⟩ (by decide +kernel) d_X9_init_96 ?_
  refine j_icmp_ge (tgt := 120) d_X9_init_98 (by decide) (fun h12 => ?_) (fun h12 => ?_)
  · exact k_vret d_X9_init_120 rfl rfl
  · refine j_aload_n rfl d_X9_init_101 rfl ?_
    refine k_get fl_Tree_29 d_X9_init_102 ?_
    refine j_iload_n rfl d_X9_init_105 rfl ?_
    refine k_new (ty0 := tyX3) rfl rfl wd_157 wd_261 wd_9 tyX3_ok kd_3 ko_3 ⟨rfl, rfl⟩ d_X9_init_106 (fun h13 eh13 => ?_)
    refine j_dup d_X9_init_109 (fun G => tp_cat G _) ?_
    refine j_bind (fun h14 e15 => ?_)
    refine k_callI (y := y_X3_init) (I' := i_X3_init) (avs := []) (c := (H0.length : Int)) (st := [.inr (.inr (H0.length : Int)), .inl x1, .inr (.inr (tp_dv H0 x0 9))]) (rm := tp_rmc 1 0 0) (mc' := 0) (ms' := 0) (cd_X3_init G (H0.length : Int) h13 h14 e15) rfl cs_Tree_35 (Or.inr ⟨_, (by decide +kernel : (.methodLinkNest "TypesAtPrime$Tree" 35 ⟨"TypesAtPrime$Leaf", "<init>", "()V"⟩ "TypesAtPrime" : Cond) ∈ tp_nest)⟩) wd_263 rfl rfl rfl (Nat.le_of_ble_eq_true rfl) ⟨rfl, rfl⟩ ⟨by decide, by decide⟩ ⟨rfl, rfl⟩ d_X9_init_110 ?_
    refine k_aast (tag := 27) (t2 := 3) (C := "TypesAtPrime$Leaf") (by decide) (by decide) rfl d_X9_init_113 (fun h16 eh16 => ?_)
    refine j_iincN (lv' := fun y17 => [some (.inr (.inr x0)), some (.inl y17)]) d_X9_init_114 rfl (Nat.le_of_ble_eq_true rfl) (fun _ => rfl) (fun y17 hy17 => ?_)
    refine j_goto (tgt := 95) d_X9_init_117 (by decide) ?_
    exact j_wk [true, true] rfl rfl (hrec_95 y17 h16)
def df_X9_init_95 (n0 q0 : Nat) (x0 : Int) (x1 : Int) (H0 : tp_D) : Option (tp_D) := tp_lp (σ := Int × tp_D) (fun rec_ u => df_X9_init_95B n0 q0 x0 (fun x1' H0' => rec_ (x1', H0')) u.1 u.2) tp_N (x1, H0)
set_option maxHeartbeats 4000000 in
set_option maxRecDepth 100000 in
theorem TD_X9_init_95 (G : tp_G) (n0 q0 : Nat) (x0 : Int) (x1 : Int) (H0 : tp_D) : tp_J i_X9_init (tp_rmc 2 236 2120) G 236 2120 od_ H0.length (tp_dy H0) (H0.length - n0) (tp_tot H0 - q0) [some (.inr (.inr x0)), some (.inl x1)] 95 [] (df_X9_init_95 n0 q0 x0 x1 H0) := by
  unfold df_X9_init_95
  exact j_lp (σ := Int × tp_D) (n' := fun u => u.2.length) (g' := fun u => tp_dy u.2) (k' := fun u => u.2.length - n0) (q' := fun u => tp_tot u.2 - q0) (lv' := fun u => [some (.inr (.inr x0)), some (.inl u.1)]) (fun rec_ hrec u => TD_X9_init_95B G n0 q0 x0 (fun x1' H0' => rec_ (x1', H0')) (fun x1' H0' => hrec (x1', H0')) u.1 u.2) tp_N (x1, H0)
def df_X9_init_68B (n0 q0 : Nat) (x0 : Int) (rec_68 : Int → tp_D → Option (tp_D)) (x1 : Int) (H0 : tp_D) : Option (tp_D) :=
  if 48 ≤ x1 then
    df_X9_init_95 n0 q0 x0 0 H0
  else
    if tp_dt H0 x0 = 9 then
      if tp_dc n0 q0 236 2120 H0 1 8 = true then
        tp_hp (H0 ++ [(7, bl_7)]) fun h18 =>
        (df_X7_init h18.length (tp_tot h18) (H0.length : Int) h18).bind fun h19 =>
        if 0 ≤ (H0.length : Int) ∧ tp_dk n0 q0 236 2120 h18 h19 2 17 = true then
          if tp_dt h19 (tp_dv H0 x0 8) = 29 ∧ tp_dt h19 (H0.length : Int) = 7 ∧ 0 ≤ x1 ∧ x1 < tp_dl h19 (tp_dv H0 x0 8) then
            tp_hp (tp_ds h19 (tp_dv H0 x0 8) x1 (H0.length : Int)) fun h21 =>
            tp_lt (tp_w (x1 + 1)) fun y22 =>
            rec_68 y22 h21 else none else none else none else none
set_option maxHeartbeats 4000000 in
set_option maxRecDepth 100000 in
theorem TD_X9_init_68B (G : tp_G) (n0 q0 : Nat) (x0 : Int) (rec_68 : Int → tp_D → Option (tp_D)) (hrec_68 : ∀ (x1' : Int) (M' : tp_D), tp_J i_X9_init (tp_rmc 2 236 2120) G 236 2120 od_ M'.length (tp_dy M') (M'.length - n0) (tp_tot M' - q0) [some (.inr (.inr x0)), some (.inl (x1'))] 68 [] (rec_68 x1' M')) (x1 : Int) (H0 : tp_D) : tp_J i_X9_init (tp_rmc 2 236 2120) G 236 2120 od_ H0.length (tp_dy H0) (H0.length - n0) (tp_tot H0 - q0) [some (.inr (.inr x0)), some (.inl x1)] 68 [] (df_X9_init_68B n0 q0 x0 rec_68 x1 H0) := by
  unfold df_X9_init_68B
  refine j_iload_n rfl d_X9_init_68 rfl ?_
  refine j_bipush ⟨by decide, by decide⟩ (by decide +kernel) d_X9_init_69 ?_
  refine j_icmp_ge (tgt := 93) d_X9_init_71 (by decide) (fun h11 => ?_) (fun h11 => ?_)
  · refine j_iconst ⟨by decide, by decide⟩ d_X9_init_93 ?_
    refine j_istore_n (lv' := [some (.inr (.inr x0)), some (.inl 0)]) rfl d_X9_init_94 (Nat.le_of_ble_eq_true rfl) rfl ?_
    exact j_wk [true, true] rfl rfl (TD_X9_init_95 G n0 q0 x0 0 H0)
  · refine j_aload_n rfl d_X9_init_74 rfl ?_
    refine k_get fl_Tree_23 d_X9_init_75 ?_
    refine j_iload_n rfl d_X9_init_78 rfl ?_
    refine k_new (ty0 := tyX7) rfl rfl wd_155 wd_218 wd_8 tyX7_ok kd_7 ko_7 ⟨rfl, rfl⟩ d_X9_init_79 (fun h18 eh18 => ?_)
    refine j_dup d_X9_init_82 (fun G => tp_cat G _) ?_
    refine j_bind (fun h19 e20 => ?_)
    refine k_callI (y := y_X7_init) (I' := i_X7_init) (avs := []) (c := (H0.length : Int)) (st := [.inr (.inr (H0.length : Int)), .inl x1, .inr (.inr (tp_dv H0 x0 8))]) (rm := tp_rmc 1 2 17) (mc' := 2) (ms' := 17) (cd_X7_init G (H0.length : Int) h18 h19 e20) rfl cs_Tree_34 (Or.inr ⟨_, (by decide +kernel : (.methodLinkNest "TypesAtPrime$Tree" 34 ⟨"TypesAtPrime$Side", "<init>", "()V"⟩ "TypesAtPrime" : Cond) ∈ tp_nest)⟩) wd_220 rfl rfl rfl (Nat.le_of_ble_eq_true rfl) ⟨rfl, rfl⟩ ⟨by decide, by decide⟩ ⟨rfl, rfl⟩ d_X9_init_83 ?_
    refine k_aast (tag := 29) (t2 := 7) (C := "TypesAtPrime$Side") (by decide) (by decide) rfl d_X9_init_86 (fun h21 eh21 => ?_)
    refine j_iincN (lv' := fun y22 => [some (.inr (.inr x0)), some (.inl y22)]) d_X9_init_87 rfl (Nat.le_of_ble_eq_true rfl) (fun _ => rfl) (fun y22 hy22 => ?_)
    refine j_goto (tgt := 68) d_X9_init_90 (by decide) ?_
    exact j_wk [true, true] rfl rfl (hrec_68 y22 h21)
def df_X9_init_68 (n0 q0 : Nat) (x0 : Int) (x1 : Int) (H0 : tp_D) : Option (tp_D) := tp_lp (σ := Int × tp_D) (fun rec_ u => df_X9_init_68B n0 q0 x0 (fun x1' H0' => rec_ (x1', H0')) u.1 u.2) tp_N (x1, H0)
set_option maxHeartbeats 4000000 in
set_option maxRecDepth 100000 in
theorem TD_X9_init_68 (G : tp_G) (n0 q0 : Nat) (x0 : Int) (x1 : Int) (H0 : tp_D) : tp_J i_X9_init (tp_rmc 2 236 2120) G 236 2120 od_ H0.length (tp_dy H0) (H0.length - n0) (tp_tot H0 - q0) [some (.inr (.inr x0)), some (.inl x1)] 68 [] (df_X9_init_68 n0 q0 x0 x1 H0) := by
  unfold df_X9_init_68
  exact j_lp (σ := Int × tp_D) (n' := fun u => u.2.length) (g' := fun u => tp_dy u.2) (k' := fun u => u.2.length - n0) (q' := fun u => tp_tot u.2 - q0) (lv' := fun u => [some (.inr (.inr x0)), some (.inl u.1)]) (fun rec_ hrec u => TD_X9_init_68B G n0 q0 x0 (fun x1' H0' => rec_ (x1', H0')) (fun x1' H0' => hrec (x1', H0')) u.1 u.2) tp_N (x1, H0)
def df_X9_init_41B (n0 q0 : Nat) (x0 : Int) (rec_41 : Int → tp_D → Option (tp_D)) (x1 : Int) (H0 : tp_D) : Option (tp_D) :=
  if 24 ≤ x1 then
    df_X9_init_68 n0 q0 x0 0 H0
  else
    if tp_dt H0 x0 = 9 then
      if tp_dc n0 q0 236 2120 H0 1 10 = true then
        tp_hp (H0 ++ [(2, bl_2)]) fun h23 =>
        (df_X2_init h23.length (tp_tot h23) (H0.length : Int) h23).bind fun h24 =>
        if 0 ≤ (H0.length : Int) ∧ tp_dk n0 q0 236 2120 h23 h24 2 18 = true then
          if tp_dt h24 (tp_dv H0 x0 7) = 26 ∧ tp_dt h24 (H0.length : Int) = 2 ∧ 0 ≤ x1 ∧ x1 < tp_dl h24 (tp_dv H0 x0 7) then
            tp_hp (tp_ds h24 (tp_dv H0 x0 7) x1 (H0.length : Int)) fun h26 =>
            tp_lt (tp_w (x1 + 1)) fun y27 =>
            rec_41 y27 h26 else none else none else none else none
set_option maxHeartbeats 4000000 in
set_option maxRecDepth 100000 in
theorem TD_X9_init_41B (G : tp_G) (n0 q0 : Nat) (x0 : Int) (rec_41 : Int → tp_D → Option (tp_D)) (hrec_41 : ∀ (x1' : Int) (M' : tp_D), tp_J i_X9_init (tp_rmc 2 236 2120) G 236 2120 od_ M'.length (tp_dy M') (M'.length - n0) (tp_tot M' - q0) [some (.inr (.inr x0)), some (.inl (x1'))] 41 [] (rec_41 x1' M')) (x1 : Int) (H0 : tp_D) : tp_J i_X9_init (tp_rmc 2 236 2120) G 236 2120 od_ H0.length (tp_dy H0) (H0.length - n0) (tp_tot H0 - q0) [some (.inr (.inr x0)), some (.inl x1)] 41 [] (df_X9_init_41B n0 q0 x0 rec_41 x1 H0) := by
  unfold df_X9_init_41B
  refine j_iload_n rfl d_X9_init_41 rfl ?_
  refine j_bipush ⟨by decide, by decide⟩ (by decide +kernel) d_X9_init_42 ?_
  refine j_icmp_ge (tgt := 66) d_X9_init_44 (by decide) (fun h10 => ?_) (fun h10 => ?_)
  · refine j_iconst ⟨by decide, by decide⟩ d_X9_init_66 ?_
    refine j_istore_n (lv' := [some (.inr (.inr x0)), some (.inl 0)]) rfl d_X9_init_67 (Nat.le_of_ble_eq_true rfl) rfl ?_
    exact j_wk [true, true] rfl rfl (TD_X9_init_68 G n0 q0 x0 0 H0)
  · refine j_aload_n rfl d_X9_init_47 rfl ?_
    refine k_get fl_Tree_17 d_X9_init_48 ?_
    refine j_iload_n rfl d_X9_init_51 rfl ?_
    refine k_new (ty0 := tyX2) rfl rfl wd_153 wd_159 wd_7 tyX2_ok kd_2 ko_2 ⟨rfl, rfl⟩ d_X9_init_52 (fun h23 eh23 => ?_)
    refine j_dup d_X9_init_55 (fun G => tp_cat G _) ?_
    refine j_bind (fun h24 e25 => ?_)
    refine k_callI (y := y_X2_init) (I' := i_X2_init) (avs := []) (c := (H0.length : Int)) (st := [.inr (.inr (H0.length : Int)), .inl x1, .inr (.inr (tp_dv H0 x0 7))]) (rm := tp_rmc 1 2 18) (mc' := 2) (ms' := 18) (cd_X2_init G (H0.length : Int) h23 h24 e25) rfl cs_Tree_33 (Or.inr ⟨_, (by decide +kernel : (.methodLinkNest "TypesAtPrime$Tree" 33 ⟨"TypesAtPrime$Knot", "<init>", "()V"⟩ "TypesAtPrime" : Cond) ∈ tp_nest)⟩) wd_161 rfl rfl rfl (Nat.le_of_ble_eq_true rfl) ⟨rfl, rfl⟩ ⟨by decide, by decide⟩ ⟨rfl, rfl⟩ d_X9_init_56 ?_
    refine k_aast (tag := 26) (t2 := 2) (C := "TypesAtPrime$Knot") (by decide) (by decide) rfl d_X9_init_59 (fun h26 eh26 => ?_)
    refine j_iincN (lv' := fun y27 => [some (.inr (.inr x0)), some (.inl y27)]) d_X9_init_60 rfl (Nat.le_of_ble_eq_true rfl) (fun _ => rfl) (fun y27 hy27 => ?_)
    refine j_goto (tgt := 41) d_X9_init_63 (by decide) ?_
    exact j_wk [true, true] rfl rfl (hrec_41 y27 h26)
def df_X9_init_41 (n0 q0 : Nat) (x0 : Int) (x1 : Int) (H0 : tp_D) : Option (tp_D) := tp_lp (σ := Int × tp_D) (fun rec_ u => df_X9_init_41B n0 q0 x0 (fun x1' H0' => rec_ (x1', H0')) u.1 u.2) tp_N (x1, H0)
set_option maxHeartbeats 4000000 in
set_option maxRecDepth 100000 in
theorem TD_X9_init_41 (G : tp_G) (n0 q0 : Nat) (x0 : Int) (x1 : Int) (H0 : tp_D) : tp_J i_X9_init (tp_rmc 2 236 2120) G 236 2120 od_ H0.length (tp_dy H0) (H0.length - n0) (tp_tot H0 - q0) [some (.inr (.inr x0)), some (.inl x1)] 41 [] (df_X9_init_41 n0 q0 x0 x1 H0) := by
  unfold df_X9_init_41
  exact j_lp (σ := Int × tp_D) (n' := fun u => u.2.length) (g' := fun u => tp_dy u.2) (k' := fun u => u.2.length - n0) (q' := fun u => tp_tot u.2 - q0) (lv' := fun u => [some (.inr (.inr x0)), some (.inl u.1)]) (fun rec_ hrec u => TD_X9_init_41B G n0 q0 x0 (fun x1' H0' => rec_ (x1', H0')) (fun x1' H0' => hrec (x1', H0')) u.1 u.2) tp_N (x1, H0)
set_option maxHeartbeats 4000000 in
set_option maxRecDepth 100000 in
def df_X9_init (n0 q0 : Nat) (c0 : Int) (H0 : tp_D) : Option tp_D :=
  if 0 ≤ c0 then
    if tp_dc n0 q0 236 2120 H0 1 80 = true then
      tp_hp (H0 ++ [(20, List.replicate 80 0)]) fun h2 =>
      if tp_dt h2 c0 = 9 then
        tp_hp (tp_ds h2 c0 5 (H0.length : Int)) fun h3 =>
        if tp_dc n0 q0 236 2120 h3 1 24 = true then
          tp_hp (h3 ++ [(26, List.replicate 24 (-1))]) fun h4 =>
          if tp_dt h4 c0 = 9 then
            tp_hp (tp_ds h4 c0 7 (h3.length : Int)) fun h5 =>
            if tp_dc n0 q0 236 2120 h5 1 48 = true then
              tp_hp (h5 ++ [(29, List.replicate 48 (-1))]) fun h6 =>
              if tp_dt h6 c0 = 9 then
                tp_hp (tp_ds h6 c0 8 (h5.length : Int)) fun h7 =>
                if tp_dc n0 q0 236 2120 h7 1 16 = true then
                  tp_hp (h7 ++ [(27, List.replicate 16 (-1))]) fun h8 =>
                  if tp_dt h8 c0 = 9 then
                    tp_hp (tp_ds h8 c0 9 (h7.length : Int)) fun h9 =>
                    df_X9_init_41 n0 q0 c0 0 h9 else none else none else none else none else none else none else none else none else none
set_option maxHeartbeats 4000000 in
set_option maxRecDepth 100000 in
theorem TD_X9_init (G : tp_G) (n0 q0 : Nat) (c0 : Int) (H0 : tp_D) : tp_J i_X9_init (tp_rmc 2 236 2120) G 236 2120 od_ H0.length (tp_dy H0) (H0.length - n0) (tp_tot H0 - q0) [some (.inr (.inr c0)), none] 0 [] (df_X9_init n0 q0 c0 H0) := by
  unfold df_X9_init
  refine j_aload_n rfl d_X9_init_0 rfl ?_
  refine tp_chk (fun g1 => ?_)
  refine j_obj g1 wd_152 wd_26 wd_27 ⟨by decide, by decide⟩ (Nat.le_of_ble_eq_true rfl) d_X9_init_1 ?_
  refine j_aload_n rfl d_X9_init_4 rfl ?_
  refine j_bipush ⟨by decide, by decide⟩ (by decide +kernel) d_X9_init_5 ?_
  refine k_newa (N := 80) (tag := 20) (ty := .byte) rfl (by decide) rfl (by decide) (by decide) (by decide) wd_70 (fun _ _ => rfl) (fun _ => (⟨by decide, by decide⟩ : tp_r 0)) (fun _ _ h => h) ⟨rfl, rfl⟩ d_X9_init_7 (fun h2 eh2 => ?_)
  refine k_put (z := 2) (v := (H0.length : Int)) (fin := true) fl_Tree_9 (pd_9_5 _) (fun _ => ⟨rfl, fun C T N h => by cases h; rfl⟩) pt_9 d_X9_init_9 (fun h3 eh3 => ?_)
  refine j_aload_n rfl d_X9_init_12 rfl ?_
  refine j_bipush ⟨by decide, by decide⟩ (by decide +kernel) d_X9_init_13 ?_
  refine k_anew (N := 24) (tag := 26) (C := "TypesAtPrime$Knot") rfl (by decide) (by decide) (by decide) (by decide) wd_153 ⟨rfl, rfl⟩ d_X9_init_15 (fun h4 eh4 => ?_)
  refine k_put (z := 2) (v := (h3.length : Int)) (fin := true) fl_Tree_17 (pd_9_7 _) (fun _ => ⟨rfl, fun C T N h => by cases h; rfl⟩) pt_9 d_X9_init_18 (fun h5 eh5 => ?_)
  refine j_aload_n rfl d_X9_init_21 rfl ?_
  refine j_bipush ⟨by decide, by decide⟩ (by decide +kernel) d_X9_init_22 ?_
  refine k_anew (N := 48) (tag := 29) (C := "TypesAtPrime$Side") rfl (by decide) (by decide) (by decide) (by decide) wd_155 ⟨rfl, rfl⟩ d_X9_init_24 (fun h6 eh6 => ?_)
  refine k_put (z := 2) (v := (h5.length : Int)) (fin := true) fl_Tree_23 (pd_9_8 _) (fun _ => ⟨rfl, fun C T N h => by cases h; rfl⟩) pt_9 d_X9_init_27 (fun h7 eh7 => ?_)
  refine j_aload_n rfl d_X9_init_30 rfl ?_
  refine j_bipush ⟨by decide, by decide⟩ (by decide +kernel) d_X9_init_31 ?_
  refine k_anew (N := 16) (tag := 27) (C := "TypesAtPrime$Leaf") rfl (by decide) (by decide) (by decide) (by decide) wd_157 ⟨rfl, rfl⟩ d_X9_init_33 (fun h8 eh8 => ?_)
  refine k_put (z := 2) (v := (h7.length : Int)) (fin := true) fl_Tree_29 (pd_9_9 _) (fun _ => ⟨rfl, fun C T N h => by cases h; rfl⟩) pt_9 d_X9_init_36 (fun h9 eh9 => ?_)
  refine j_iconst ⟨by decide, by decide⟩ d_X9_init_39 ?_
  refine j_istore_n (lv' := [some (.inr (.inr c0)), some (.inl 0)]) rfl d_X9_init_40 (Nat.le_of_ble_eq_true rfl) rfl ?_
  exact j_wk [true, true] rfl rfl (TD_X9_init_41 G n0 q0 c0 0 h9)
set_option maxHeartbeats 4000000 in
set_option maxRecDepth 100000 in
theorem cd_X9_init (G : tp_G) (c0 : Int) (H0 r : tp_D) (h : df_X9_init H0.length (tp_tot H0) c0 H0 = some r) (l : Launch) : Met l y_X9_init (tp_ws y_X9_init i_X9_init) (tp_rmc 2 236 2120) (tp_Pc G [.inr (.inr c0)] H0.length (tp_dy H0)) (tp_Q G (none, r.length, tp_dy r)) 236 2120 (tp_A G) := by
  have hJ := TD_X9_init G H0.length (tp_tot H0) c0 H0
  rw [Nat.sub_self, Nat.sub_self] at hJ
  exact tp_met (I := i_X9_init) (y := y_X9_init) (by decide +kernel) (Eq.refl "TypesAtPrime$Tree") (Eq.refl "<init>") (lv := [some (.inr (.inr c0)), none]) rfl (Nat.le_of_ble_eq_true rfl) hJ h l
theorem wd_25 : (.methodLink "TypesAtPrime" 3 ⟨"java/lang/Object", "<init>", "()V"⟩ : Cond) ∈ lw_tbl := List.mem_append_right _ (List.mem_of_getElem? (i := 25) (by decide +kernel))
def bl_4 : List Int := [0, 0, 0]
theorem kd_4 : ∀ (G : tp_G) (j : Nat), j < 3 → defaultValue (tyX4 j) = tp_enc G (tp_tv 4 j (bl_4.getD j 0)) := tp_dfl (by decide +kernel)
theorem ko_4 : tp_okc (4, bl_4) := tp_okbl (by decide +kernel)
theorem wd_28 : (.classLink "TypesAtPrime" 9 "TypesAtPrime$Numbers" : Cond) ∈ lw_tbl := List.mem_append_right _ (List.mem_of_getElem? (i := 28) (by decide +kernel))
theorem wd_29 : (.instantiable "TypesAtPrime$Numbers" 3 : Cond) ∈ lw_tbl := List.mem_append_right _ (List.mem_of_getElem? (i := 29) (by decide +kernel))
theorem wd_32 : (.code ⟨"TypesAtPrime$Numbers", "<init>", "()V"⟩ prog_6_method_1_code 1 (none : Option Jvm.ClassFile.FieldType) : Cond) ∈ lw_tbl := List.mem_append_right _ (List.mem_of_getElem? (i := 32) (by decide +kernel))
theorem cs_Main_11 : tp_CS "TypesAtPrime" 11 y_X4_init i_X4_init 0 := ⟨wd_32, wd_2, by decide, by decide, by decide +kernel⟩
theorem wd_31 : (.instanceMethod ⟨"TypesAtPrime$Numbers", "<init>", "()V"⟩ : Cond) ∈ lw_tbl := List.mem_append_right _ (List.mem_of_getElem? (i := 31) (by decide +kernel))
theorem pd_10_0 (v : Int) : ∀ (C : String) (T : u_T) (N : Nat), vwCl[10]? = some (C, T, N) → (T 0).2.2.2 = true ∧ ∀ G : tp_G, ∃ ty, parseFieldDescriptor (T 0).2.2.1 = some ty ∧ narrow ty (tp_enc G (tp_zv 2 v)) = tp_enc G (tp_zv 2 v) ∧ fits ty (tp_enc G (tp_zv 2 v)) = true := by
  intro C T N h
  cases h
  refine ⟨rfl, fun G => ⟨_, tyX10_ok 0 (by decide), ?_⟩⟩
  show narrow _ (tp_ref G v) = tp_ref G v ∧ fits _ (tp_ref G v) = true
  rcases tp_refc G v with h | ⟨a, h⟩ <;> rw [h] <;> exact ⟨rfl, rfl⟩
theorem pd_10_1 (v : Int) : ∀ (C : String) (T : u_T) (N : Nat), vwCl[10]? = some (C, T, N) → (T 1).2.2.2 = true ∧ ∀ G : tp_G, ∃ ty, parseFieldDescriptor (T 1).2.2.1 = some ty ∧ narrow ty (tp_enc G (tp_zv 2 v)) = tp_enc G (tp_zv 2 v) ∧ fits ty (tp_enc G (tp_zv 2 v)) = true := by
  intro C T N h
  cases h
  refine ⟨rfl, fun G => ⟨_, tyX10_ok 1 (by decide), ?_⟩⟩
  show narrow _ (tp_ref G v) = tp_ref G v ∧ fits _ (tp_ref G v) = true
  rcases tp_refc G v with h | ⟨a, h⟩ <;> rw [h] <;> exact ⟨rfl, rfl⟩
theorem wd_48 : (.classLink "TypesAtPrime" 22 "[[I" : Cond) ∈ lw_tbl := List.mem_append_right _ (List.mem_of_getElem? (i := 48) (by decide +kernel))
theorem pd_10_3 (v : Int) : ∀ (C : String) (T : u_T) (N : Nat), vwCl[10]? = some (C, T, N) → (T 3).2.2.2 = true ∧ ∀ G : tp_G, ∃ ty, parseFieldDescriptor (T 3).2.2.1 = some ty ∧ narrow ty (tp_enc G (tp_zv 2 v)) = tp_enc G (tp_zv 2 v) ∧ fits ty (tp_enc G (tp_zv 2 v)) = true := by
  intro C T N h
  cases h
  refine ⟨rfl, fun G => ⟨_, tyX10_ok 3 (by decide), ?_⟩⟩
  show narrow _ (tp_ref G v) = tp_ref G v ∧ fits _ (tp_ref G v) = true
  rcases tp_refc G v with h | ⟨a, h⟩ <;> rw [h] <;> exact ⟨rfl, rfl⟩
theorem wd_50 : (.classLink "TypesAtPrime" 27 "TypesAtPrime$Sheet" : Cond) ∈ lw_tbl := List.mem_append_right _ (List.mem_of_getElem? (i := 50) (by decide +kernel))
theorem pd_10_4 (v : Int) : ∀ (C : String) (T : u_T) (N : Nat), vwCl[10]? = some (C, T, N) → (T 4).2.2.2 = true ∧ ∀ G : tp_G, ∃ ty, parseFieldDescriptor (T 4).2.2.1 = some ty ∧ narrow ty (tp_enc G (tp_zv 2 v)) = tp_enc G (tp_zv 2 v) ∧ fits ty (tp_enc G (tp_zv 2 v)) = true := by
  intro C T N h
  cases h
  refine ⟨rfl, fun G => ⟨_, tyX10_ok 4 (by decide), ?_⟩⟩
  show narrow _ (tp_ref G v) = tp_ref G v ∧ fits _ (tp_ref G v) = true
  rcases tp_refc G v with h | ⟨a, h⟩ <;> rw [h] <;> exact ⟨rfl, rfl⟩
def bl_8 : List Int := [(-1), (-1), 0, 0]
theorem kd_8 : ∀ (G : tp_G) (j : Nat), j < 4 → defaultValue (tyX8 j) = tp_enc G (tp_tv 8 j (bl_8.getD j 0)) := tp_dfl (by decide +kernel)
theorem ko_8 : tp_okc (8, bl_8) := tp_okbl (by decide +kernel)
theorem wd_72 : (.classLink "TypesAtPrime" 34 "TypesAtPrime$TextReader" : Cond) ∈ lw_tbl := List.mem_append_right _ (List.mem_of_getElem? (i := 72) (by decide +kernel))
theorem wd_73 : (.instantiable "TypesAtPrime$TextReader" 4 : Cond) ∈ lw_tbl := List.mem_append_right _ (List.mem_of_getElem? (i := 73) (by decide +kernel))
theorem wd_76 : (.code ⟨"TypesAtPrime$TextReader", "<init>", "()V"⟩ prog_10_method_1_code 1 (none : Option Jvm.ClassFile.FieldType) : Cond) ∈ lw_tbl := List.mem_append_right _ (List.mem_of_getElem? (i := 76) (by decide +kernel))
theorem cs_Main_36 : tp_CS "TypesAtPrime" 36 y_X8_init i_X8_init 0 := ⟨wd_76, wd_4, by decide, by decide, by decide +kernel⟩
theorem wd_75 : (.instanceMethod ⟨"TypesAtPrime$TextReader", "<init>", "()V"⟩ : Cond) ∈ lw_tbl := List.mem_append_right _ (List.mem_of_getElem? (i := 75) (by decide +kernel))
theorem pd_10_5 (v : Int) : ∀ (C : String) (T : u_T) (N : Nat), vwCl[10]? = some (C, T, N) → (T 5).2.2.2 = true ∧ ∀ G : tp_G, ∃ ty, parseFieldDescriptor (T 5).2.2.1 = some ty ∧ narrow ty (tp_enc G (tp_zv 2 v)) = tp_enc G (tp_zv 2 v) ∧ fits ty (tp_enc G (tp_zv 2 v)) = true := by
  intro C T N h
  cases h
  refine ⟨rfl, fun G => ⟨_, tyX10_ok 5 (by decide), ?_⟩⟩
  show narrow _ (tp_ref G v) = tp_ref G v ∧ fits _ (tp_ref G v) = true
  rcases tp_refc G v with h | ⟨a, h⟩ <;> rw [h] <;> exact ⟨rfl, rfl⟩
theorem wd_92 : (.classLink "TypesAtPrime" 41 "TypesAtPrime$Factors" : Cond) ∈ lw_tbl := List.mem_append_right _ (List.mem_of_getElem? (i := 92) (by decide +kernel))
theorem cs_Main_43 : tp_CS "TypesAtPrime" 43 y_X0_init i_X0_init 0 := ⟨wd_96, wd_5, by decide, by decide, by decide +kernel⟩
theorem pd_10_6 (v : Int) : ∀ (C : String) (T : u_T) (N : Nat), vwCl[10]? = some (C, T, N) → (T 6).2.2.2 = true ∧ ∀ G : tp_G, ∃ ty, parseFieldDescriptor (T 6).2.2.1 = some ty ∧ narrow ty (tp_enc G (tp_zv 2 v)) = tp_enc G (tp_zv 2 v) ∧ fits ty (tp_enc G (tp_zv 2 v)) = true := by
  intro C T N h
  cases h
  refine ⟨rfl, fun G => ⟨_, tyX10_ok 6 (by decide), ?_⟩⟩
  show narrow _ (tp_ref G v) = tp_ref G v ∧ fits _ (tp_ref G v) = true
  rcases tp_refc G v with h | ⟨a, h⟩ <;> rw [h] <;> exact ⟨rfl, rfl⟩
def bl_9 : List Int := [0, 0, 0, 0, 0, (-1), 0, (-1), (-1), (-1)]
theorem kd_9 : ∀ (G : tp_G) (j : Nat), j < 10 → defaultValue (tyX9 j) = tp_enc G (tp_tv 9 j (bl_9.getD j 0)) := tp_dfl (by decide +kernel)
theorem ko_9 : tp_okc (9, bl_9) := tp_okbl (by decide +kernel)
theorem wd_147 : (.classLink "TypesAtPrime" 48 "TypesAtPrime$Tree" : Cond) ∈ lw_tbl := List.mem_append_right _ (List.mem_of_getElem? (i := 147) (by decide +kernel))
theorem wd_148 : (.instantiable "TypesAtPrime$Tree" 10 : Cond) ∈ lw_tbl := List.mem_append_right _ (List.mem_of_getElem? (i := 148) (by decide +kernel))
theorem wd_151 : (.code ⟨"TypesAtPrime$Tree", "<init>", "()V"⟩ prog_11_method_1_code 2 (none : Option Jvm.ClassFile.FieldType) : Cond) ∈ lw_tbl := List.mem_append_right _ (List.mem_of_getElem? (i := 151) (by decide +kernel))
theorem cs_Main_50 : tp_CS "TypesAtPrime" 50 y_X9_init i_X9_init 0 := ⟨wd_151, wd_6, by decide, by decide, by decide +kernel⟩
theorem wd_149 : (.methodLink "TypesAtPrime" 50 ⟨"TypesAtPrime$Tree", "<init>", "()V"⟩ : Cond) ∈ lw_tbl := List.mem_append_right _ (List.mem_of_getElem? (i := 149) (by decide +kernel))
theorem wd_150 : (.instanceMethod ⟨"TypesAtPrime$Tree", "<init>", "()V"⟩ : Cond) ∈ lw_tbl := List.mem_append_right _ (List.mem_of_getElem? (i := 150) (by decide +kernel))
theorem pd_10_7 (v : Int) : ∀ (C : String) (T : u_T) (N : Nat), vwCl[10]? = some (C, T, N) → (T 7).2.2.2 = true ∧ ∀ G : tp_G, ∃ ty, parseFieldDescriptor (T 7).2.2.1 = some ty ∧ narrow ty (tp_enc G (tp_zv 2 v)) = tp_enc G (tp_zv 2 v) ∧ fits ty (tp_enc G (tp_zv 2 v)) = true := by
  intro C T N h
  cases h
  refine ⟨rfl, fun G => ⟨_, tyX10_ok 7 (by decide), ?_⟩⟩
  show narrow _ (tp_ref G v) = tp_ref G v ∧ fits _ (tp_ref G v) = true
  rcases tp_refc G v with h | ⟨a, h⟩ <;> rw [h] <;> exact ⟨rfl, rfl⟩
def bl_1 : List Int := [(-1), (-1), (-1), (-1), (-1), (-1), (-1), (-1), (-1), (-1), (-1), (-1), (-1)]
theorem kd_1 : ∀ (G : tp_G) (j : Nat), j < 13 → defaultValue (tyX1 j) = tp_enc G (tp_tv 1 j (bl_1.getD j 0)) := tp_dfl (by decide +kernel)
theorem ko_1 : tp_okc (1, bl_1) := tp_okbl (by decide +kernel)
theorem wd_327 : (.classLink "TypesAtPrime" 55 "TypesAtPrime$Grower" : Cond) ∈ lw_tbl := List.mem_append_right _ (List.mem_of_getElem? (i := 327) (by decide +kernel))
theorem wd_328 : (.instantiable "TypesAtPrime$Grower" 13 : Cond) ∈ lw_tbl := List.mem_append_right _ (List.mem_of_getElem? (i := 328) (by decide +kernel))
theorem wd_331 : (.code ⟨"TypesAtPrime$Grower", "<init>", "(LTypesAtPrime$Numbers;LTypesAtPrime$Tree;)V"⟩ prog_3_method_1_code 4 (none : Option Jvm.ClassFile.FieldType) : Cond) ∈ lw_tbl := List.mem_append_right _ (List.mem_of_getElem? (i := 331) (by decide +kernel))
theorem cs_Main_57 : tp_CS "TypesAtPrime" 57 y_X1_init i_X1_init 2 := ⟨wd_331, wd_10, by decide, by decide, by decide +kernel⟩
theorem wd_329 : (.methodLink "TypesAtPrime" 57 ⟨"TypesAtPrime$Grower", "<init>", "(LTypesAtPrime$Numbers;LTypesAtPrime$Tree;)V"⟩ : Cond) ∈ lw_tbl := List.mem_append_right _ (List.mem_of_getElem? (i := 329) (by decide +kernel))
theorem wd_330 : (.instanceMethod ⟨"TypesAtPrime$Grower", "<init>", "(LTypesAtPrime$Numbers;LTypesAtPrime$Tree;)V"⟩ : Cond) ∈ lw_tbl := List.mem_append_right _ (List.mem_of_getElem? (i := 330) (by decide +kernel))
theorem pd_10_8 (v : Int) : ∀ (C : String) (T : u_T) (N : Nat), vwCl[10]? = some (C, T, N) → (T 8).2.2.2 = true ∧ ∀ G : tp_G, ∃ ty, parseFieldDescriptor (T 8).2.2.1 = some ty ∧ narrow ty (tp_enc G (tp_zv 2 v)) = tp_enc G (tp_zv 2 v) ∧ fits ty (tp_enc G (tp_zv 2 v)) = true := by
  intro C T N h
  cases h
  refine ⟨rfl, fun G => ⟨_, tyX10_ok 8 (by decide), ?_⟩⟩
  show narrow _ (tp_ref G v) = tp_ref G v ∧ fits _ (tp_ref G v) = true
  rcases tp_refc G v with h | ⟨a, h⟩ <;> rw [h] <;> exact ⟨rfl, rfl⟩
theorem pd_10_9 (v : Int) : ∀ (C : String) (T : u_T) (N : Nat), vwCl[10]? = some (C, T, N) → (T 9).2.2.2 = true ∧ ∀ G : tp_G, ∃ ty, parseFieldDescriptor (T 9).2.2.1 = some ty ∧ narrow ty (tp_enc G (tp_zv 2 v)) = tp_enc G (tp_zv 2 v) ∧ fits ty (tp_enc G (tp_zv 2 v)) = true := by
  intro C T N h
  cases h
  refine ⟨rfl, fun G => ⟨_, tyX10_ok 9 (by decide), ?_⟩⟩
  show narrow _ (tp_ref G v) = tp_ref G v ∧ fits _ (tp_ref G v) = true
  rcases tp_refc G v with h | ⟨a, h⟩ <;> rw [h] <;> exact ⟨rfl, rfl⟩
theorem pd_10_10 (v : Int) : ∀ (C : String) (T : u_T) (N : Nat), vwCl[10]? = some (C, T, N) → (T 10).2.2.2 = true ∧ ∀ G : tp_G, ∃ ty, parseFieldDescriptor (T 10).2.2.1 = some ty ∧ narrow ty (tp_enc G (tp_zv 2 v)) = tp_enc G (tp_zv 2 v) ∧ fits ty (tp_enc G (tp_zv 2 v)) = true := by
  intro C T N h
  cases h
  refine ⟨rfl, fun G => ⟨_, tyX10_ok 10 (by decide), ?_⟩⟩
  show narrow _ (tp_ref G v) = tp_ref G v ∧ fits _ (tp_ref G v) = true
  rcases tp_refc G v with h | ⟨a, h⟩ <;> rw [h] <;> exact ⟨rfl, rfl⟩
theorem pd_10_11 (v : Int) : ∀ (C : String) (T : u_T) (N : Nat), vwCl[10]? = some (C, T, N) → (T 11).2.2.2 = true ∧ ∀ G : tp_G, ∃ ty, parseFieldDescriptor (T 11).2.2.1 = some ty ∧ narrow ty (tp_enc G (tp_zv 2 v)) = tp_enc G (tp_zv 2 v) ∧ fits ty (tp_enc G (tp_zv 2 v)) = true := by
  intro C T N h
  cases h
  refine ⟨rfl, fun G => ⟨_, tyX10_ok 11 (by decide), ?_⟩⟩
  show narrow _ (tp_ref G v) = tp_ref G v ∧ fits _ (tp_ref G v) = true
  rcases tp_refc G v with h | ⟨a, h⟩ <;> rw [h] <;> exact ⟨rfl, rfl⟩
def bl_6 : List Int := [0, 0, (-1)]
theorem kd_6 : ∀ (G : tp_G) (j : Nat), j < 3 → defaultValue (tyX6 j) = tp_enc G (tp_tv 6 j (bl_6.getD j 0)) := tp_dfl (by decide +kernel)
theorem ko_6 : tp_okc (6, bl_6) := tp_okbl (by decide +kernel)
theorem wd_52 : (.instantiable "TypesAtPrime$Sheet" 3 : Cond) ∈ lw_tbl := List.mem_append_right _ (List.mem_of_getElem? (i := 52) (by decide +kernel))
theorem wd_55 : (.code ⟨"TypesAtPrime$Sheet", "<init>", "()V"⟩ prog_8_method_1_code 1 (none : Option Jvm.ClassFile.FieldType) : Cond) ∈ lw_tbl := List.mem_append_right _ (List.mem_of_getElem? (i := 55) (by decide +kernel))
theorem cs_Main_33 : tp_CS "TypesAtPrime" 33 y_X6_init i_X6_init 0 := ⟨wd_55, wd_3, by decide, by decide, by decide +kernel⟩
theorem wd_54 : (.instanceMethod ⟨"TypesAtPrime$Sheet", "<init>", "()V"⟩ : Cond) ∈ lw_tbl := List.mem_append_right _ (List.mem_of_getElem? (i := 54) (by decide +kernel))
def y_X10_init : MethodName := ⟨"TypesAtPrime", "<init>", "()V"⟩
abbrev i_X10_init : tp_I := (prog_1_method_1_code, "TypesAtPrime", none, 2, "<init>")
theorem d_X10_init_0 : decode prog_1_method_1_code 0 = .ok (.aload_n 0, 1) := by decide +kernel
theorem d_X10_init_1 : decode prog_1_method_1_code 1 = .ok (.invokespecial 3, 3) := by decide +kernel
theorem d_X10_init_4 : decode prog_1_method_1_code 4 = .ok (.aload_n 0, 1) := by decide +kernel
theorem d_X10_init_5 : decode prog_1_method_1_code 5 = .ok (.new 9, 3) := by decide +kernel
theorem d_X10_init_8 : decode prog_1_method_1_code 8 = .ok (.dup, 1) := by decide +kernel
theorem d_X10_init_9 : decode prog_1_method_1_code 9 = .ok (.invokespecial 11, 3) := by decide +kernel
theorem d_X10_init_12 : decode prog_1_method_1_code 12 = .ok (.putfield 12, 3) := by decide +kernel
theorem d_X10_init_15 : decode prog_1_method_1_code 15 = .ok (.aload_n 0, 1) := by decide +kernel
theorem d_X10_init_16 : decode prog_1_method_1_code 16 = .ok (.bipush 80, 2) := by decide +kernel
theorem d_X10_init_18 : decode prog_1_method_1_code 18 = .ok (.newarray .byte, 2) := by decide +kernel
theorem d_X10_init_20 : decode prog_1_method_1_code 20 = .ok (.putfield 18, 3) := by decide +kernel
theorem d_X10_init_23 : decode prog_1_method_1_code 23 = .ok (.aload_n 0, 1) := by decide +kernel
theorem d_X10_init_24 : decode prog_1_method_1_code 24 = .ok (.iconst 5, 1) := by decide +kernel
theorem d_X10_init_25 : decode prog_1_method_1_code 25 = .ok (.bipush 9, 2) := by decide +kernel
theorem d_X10_init_27 : decode prog_1_method_1_code 27 = .ok (.multianewarray 22 2, 4) := by decide +kernel
theorem d_X10_init_31 : decode prog_1_method_1_code 31 = .ok (.putfield 24, 3) := by decide +kernel
theorem d_X10_init_34 : decode prog_1_method_1_code 34 = .ok (.aload_n 0, 1) := by decide +kernel
theorem d_X10_init_35 : decode prog_1_method_1_code 35 = .ok (.iconst 4, 1) := by decide +kernel
theorem d_X10_init_36 : decode prog_1_method_1_code 36 = .ok (.anewarray 27, 3) := by decide +kernel
theorem d_X10_init_39 : decode prog_1_method_1_code 39 = .ok (.putfield 29, 3) := by decide +kernel
theorem d_X10_init_42 : decode prog_1_method_1_code 42 = .ok (.iconst 0, 1) := by decide +kernel
theorem d_X10_init_43 : decode prog_1_method_1_code 43 = .ok (.istore_n 1, 1) := by decide +kernel
theorem d_X10_init_44 : decode prog_1_method_1_code 44 = .ok (.iload_n 1, 1) := by decide +kernel
theorem d_X10_init_45 : decode prog_1_method_1_code 45 = .ok (.iconst 4, 1) := by decide +kernel
theorem d_X10_init_46 : decode prog_1_method_1_code 46 = .ok (.if_icmp .ge 22, 3) := by decide +kernel
theorem d_X10_init_49 : decode prog_1_method_1_code 49 = .ok (.aload_n 0, 1) := by decide +kernel
theorem d_X10_init_50 : decode prog_1_method_1_code 50 = .ok (.getfield 29, 3) := by decide +kernel
theorem d_X10_init_53 : decode prog_1_method_1_code 53 = .ok (.iload_n 1, 1) := by decide +kernel
theorem d_X10_init_54 : decode prog_1_method_1_code 54 = .ok (.new 27, 3) := by decide +kernel
theorem d_X10_init_57 : decode prog_1_method_1_code 57 = .ok (.dup, 1) := by decide +kernel
theorem d_X10_init_58 : decode prog_1_method_1_code 58 = .ok (.invokespecial 33, 3) := by decide +kernel
theorem d_X10_init_61 : decode prog_1_method_1_code 61 = .ok (.aastore, 1) := by decide +kernel
theorem d_X10_init_62 : decode prog_1_method_1_code 62 = .ok (.iinc 1 1, 3) := by decide +kernel
theorem d_X10_init_65 : decode prog_1_method_1_code 65 = .ok (.goto (-21), 3) := by decide +kernel
theorem d_X10_init_68 : decode prog_1_method_1_code 68 = .ok (.aload_n 0, 1) := by decide +kernel
theorem d_X10_init_69 : decode prog_1_method_1_code 69 = .ok (.new 34, 3) := by decide +kernel
theorem d_X10_init_72 : decode prog_1_method_1_code 72 = .ok (.dup, 1) := by decide +kernel
theorem d_X10_init_73 : decode prog_1_method_1_code 73 = .ok (.invokespecial 36, 3) := by decide +kernel
theorem d_X10_init_76 : decode prog_1_method_1_code 76 = .ok (.putfield 37, 3) := by decide +kernel
theorem d_X10_init_79 : decode prog_1_method_1_code 79 = .ok (.aload_n 0, 1) := by decide +kernel
theorem d_X10_init_80 : decode prog_1_method_1_code 80 = .ok (.new 41, 3) := by decide +kernel
theorem d_X10_init_83 : decode prog_1_method_1_code 83 = .ok (.dup, 1) := by decide +kernel
theorem d_X10_init_84 : decode prog_1_method_1_code 84 = .ok (.invokespecial 43, 3) := by decide +kernel
theorem d_X10_init_87 : decode prog_1_method_1_code 87 = .ok (.putfield 44, 3) := by decide +kernel
theorem d_X10_init_90 : decode prog_1_method_1_code 90 = .ok (.aload_n 0, 1) := by decide +kernel
theorem d_X10_init_91 : decode prog_1_method_1_code 91 = .ok (.new 48, 3) := by decide +kernel
theorem d_X10_init_94 : decode prog_1_method_1_code 94 = .ok (.dup, 1) := by decide +kernel
theorem d_X10_init_95 : decode prog_1_method_1_code 95 = .ok (.invokespecial 50, 3) := by decide +kernel
theorem d_X10_init_98 : decode prog_1_method_1_code 98 = .ok (.putfield 51, 3) := by decide +kernel
theorem d_X10_init_101 : decode prog_1_method_1_code 101 = .ok (.aload_n 0, 1) := by decide +kernel
theorem d_X10_init_102 : decode prog_1_method_1_code 102 = .ok (.new 55, 3) := by decide +kernel
theorem d_X10_init_105 : decode prog_1_method_1_code 105 = .ok (.dup, 1) := by decide +kernel
theorem d_X10_init_106 : decode prog_1_method_1_code 106 = .ok (.aload_n 0, 1) := by decide +kernel
theorem d_X10_init_107 : decode prog_1_method_1_code 107 = .ok (.getfield 12, 3) := by decide +kernel
theorem d_X10_init_110 : decode prog_1_method_1_code 110 = .ok (.aload_n 0, 1) := by decide +kernel
theorem d_X10_init_111 : decode prog_1_method_1_code 111 = .ok (.getfield 51, 3) := by decide +kernel
theorem d_X10_init_114 : decode prog_1_method_1_code 114 = .ok (.invokespecial 57, 3) := by decide +kernel
theorem d_X10_init_117 : decode prog_1_method_1_code 117 = .ok (.putfield 60, 3) := by decide +kernel
theorem d_X10_init_120 : decode prog_1_method_1_code 120 = .ok (.aload_n 0, 1) := by decide +kernel
theorem d_X10_init_121 : decode prog_1_method_1_code 121 = .ok (.bipush 9, 2) := by decide +kernel
theorem d_X10_init_123 : decode prog_1_method_1_code 123 = .ok (.newarray .long, 2) := by decide +kernel
theorem d_X10_init_125 : decode prog_1_method_1_code 125 = .ok (.putfield 64, 3) := by decide +kernel
theorem d_X10_init_128 : decode prog_1_method_1_code 128 = .ok (.aload_n 0, 1) := by decide +kernel
theorem d_X10_init_129 : decode prog_1_method_1_code 129 = .ok (.bipush 18, 2) := by decide +kernel
theorem d_X10_init_131 : decode prog_1_method_1_code 131 = .ok (.newarray .long, 2) := by decide +kernel
theorem d_X10_init_133 : decode prog_1_method_1_code 133 = .ok (.putfield 68, 3) := by decide +kernel
theorem d_X10_init_136 : decode prog_1_method_1_code 136 = .ok (.aload_n 0, 1) := by decide +kernel
theorem d_X10_init_137 : decode prog_1_method_1_code 137 = .ok (.bipush 40, 2) := by decide +kernel
theorem d_X10_init_139 : decode prog_1_method_1_code 139 = .ok (.newarray .int, 2) := by decide +kernel
theorem d_X10_init_141 : decode prog_1_method_1_code 141 = .ok (.putfield 71, 3) := by decide +kernel
theorem d_X10_init_144 : decode prog_1_method_1_code 144 = .ok (.return_, 1) := by decide +kernel
def df_X10_init_44B (n0 q0 : Nat) (x0 : Int) (rec_44 : Int → tp_D → Option (tp_D)) (x1 : Int) (H0 : tp_D) : Option (tp_D) :=
  if 4 ≤ x1 then
    if tp_dc n0 q0 482 4637 H0 1 4 = true then
      tp_hp (H0 ++ [(8, bl_8)]) fun h13 =>
      (df_X8_init h13.length (tp_tot h13) (H0.length : Int) h13).bind fun h14 =>
      if 0 ≤ (H0.length : Int) ∧ tp_dk n0 q0 482 4637 h13 h14 1 9 = true then
        if tp_dt h14 x0 = 10 then
          tp_hp (tp_ds h14 x0 5 (H0.length : Int)) fun h16 =>
          if tp_dc n0 q0 482 4637 h16 1 13 = true then
            tp_hp (h16 ++ [(0, bl_0)]) fun h17 =>
            (df_X0_init h17.length (tp_tot h17) (h16.length : Int) h17).bind fun h18 =>
            if 0 ≤ (h16.length : Int) ∧ tp_dk n0 q0 482 4637 h17 h18 20 189 = true then
              if tp_dt h18 x0 = 10 then
                tp_hp (tp_ds h18 x0 6 (h16.length : Int)) fun h20 =>
                if tp_dc n0 q0 482 4637 h20 1 10 = true then
                  tp_hp (h20 ++ [(9, bl_9)]) fun h21 =>
                  (df_X9_init h21.length (tp_tot h21) (h20.length : Int) h21).bind fun h22 =>
                  if 0 ≤ (h20.length : Int) ∧ tp_dk n0 q0 482 4637 h21 h22 236 2120 = true then
                    if tp_dt h22 x0 = 10 then
                      tp_hp (tp_ds h22 x0 7 (h20.length : Int)) fun h24 =>
                      if tp_dc n0 q0 482 4637 h24 1 13 = true then
                        tp_hp (h24 ++ [(1, bl_1)]) fun h25 =>
                        if tp_dt h25 x0 = 10 then
                          if tp_dt h25 x0 = 10 then
                            (df_X1_init h25.length (tp_tot h25) (h24.length : Int) (tp_dv h25 x0 0) (tp_dv h25 x0 7) h25).bind fun h26 =>
                            if 0 ≤ (h24.length : Int) ∧ tp_dk n0 q0 482 4637 h25 h26 201 1903 = true then
                              if tp_dt h26 x0 = 10 then
                                tp_hp (tp_ds h26 x0 8 (h24.length : Int)) fun h28 =>
                                if tp_dc n0 q0 482 4637 h28 1 9 = true then
                                  tp_hp (h28 ++ [(22, List.replicate 9 0)]) fun h29 =>
                                  if tp_dt h29 x0 = 10 then
                                    tp_hp (tp_ds h29 x0 9 (h28.length : Int)) fun h30 =>
                                    if tp_dc n0 q0 482 4637 h30 1 18 = true then
                                      tp_hp (h30 ++ [(22, List.replicate 18 0)]) fun h31 =>
                                      if tp_dt h31 x0 = 10 then
                                        tp_hp (tp_ds h31 x0 10 (h30.length : Int)) fun h32 =>
                                        if tp_dc n0 q0 482 4637 h32 1 40 = true then
                                          tp_hp (h32 ++ [(21, List.replicate 40 0)]) fun h33 =>
                                          if tp_dt h33 x0 = 10 then
                                            tp_hp (tp_ds h33 x0 11 (h32.length : Int)) fun h34 =>
                                            if tp_de n0 q0 482 4637 h34 = true then some h34 else none else none else none else none else none else none else none else none else none else none else none else none else none else none else none else none else none else none else none else none else none
  else
    if tp_dt H0 x0 = 10 then
      if tp_dc n0 q0 482 4637 H0 1 3 = true then
        tp_hp (H0 ++ [(6, bl_6)]) fun h35 =>
        (df_X6_init h35.length (tp_tot h35) (H0.length : Int) h35).bind fun h36 =>
        if 0 ≤ (H0.length : Int) ∧ tp_dk n0 q0 482 4637 h35 h36 1 40 = true then
          if tp_dt h36 (tp_dv H0 x0 4) = 28 ∧ tp_dt h36 (H0.length : Int) = 6 ∧ 0 ≤ x1 ∧ x1 < tp_dl h36 (tp_dv H0 x0 4) then
            tp_hp (tp_ds h36 (tp_dv H0 x0 4) x1 (H0.length : Int)) fun h38 =>
            tp_lt (tp_w (x1 + 1)) fun y39 =>
            rec_44 y39 h38 else none else none else none else none
set_option maxHeartbeats 4000000 in
set_option maxRecDepth 100000 in
theorem TD_X10_init_44B (G : tp_G) (n0 q0 : Nat) (x0 : Int) (rec_44 : Int → tp_D → Option (tp_D)) (hrec_44 : ∀ (x1' : Int) (M' : tp_D), tp_J i_X10_init (tp_rmc 3 482 4637) G 482 4637 od_ M'.length (tp_dy M') (M'.length - n0) (tp_tot M' - q0) [some (.inr (.inr x0)), some (.inl (x1'))] 44 [] (rec_44 x1' M')) (x1 : Int) (H0 : tp_D) : tp_J i_X10_init (tp_rmc 3 482 4637) G 482 4637 od_ H0.length (tp_dy H0) (H0.length - n0) (tp_tot H0 - q0) [some (.inr (.inr x0)), some (.inl x1)] 44 [] (df_X10_init_44B n0 q0 x0 rec_44 x1 H0) := by
  unfold df_X10_init_44B
  refine j_iload_n rfl d_X10_init_44 rfl ?_
  refine j_iconst ⟨by decide, by decide⟩ d_X10_init_45 ?_
  refine j_icmp_ge (tgt := 68) d_X10_init_46 (by decide) (fun h12 => ?_) (fun h12 => ?_)
  · refine j_aload_n rfl d_X10_init_68 rfl ?_
    refine k_new (ty0 := tyX8) rfl rfl wd_72 wd_73 wd_4 tyX8_ok kd_8 ko_8 ⟨rfl, rfl⟩ d_X10_init_69 (fun h13 eh13 => ?_)
    refine j_dup d_X10_init_72 (fun G => tp_cat G _) ?_
    refine j_bind (fun h14 e15 => ?_)
    refine k_callI (y := y_X8_init) (I' := i_X8_init) (avs := []) (c := (H0.length : Int)) (st := [.inr (.inr (H0.length : Int)), .inr (.inr x0)]) (rm := tp_rmc 1 1 9) (mc' := 1) (ms' := 9) (cd_X8_init G (H0.length : Int) h13 h14 e15) rfl cs_Main_36 (Or.inr ⟨_, (by decide +kernel : (.methodLinkNest "TypesAtPrime" 36 ⟨"TypesAtPrime$TextReader", "<init>", "()V"⟩ "TypesAtPrime" : Cond) ∈ tp_nest)⟩) wd_75 rfl rfl rfl (Nat.le_of_ble_eq_true rfl) ⟨rfl, rfl⟩ ⟨by decide, by decide⟩ ⟨rfl, rfl⟩ d_X10_init_73 ?_
    refine k_put (z := 2) (v := (H0.length : Int)) (fin := true) fl_Main_37 (pd_10_5 _) (fun _ => ⟨rfl, fun C T N h => by cases h; rfl⟩) pt_10 d_X10_init_76 (fun h16 eh16 => ?_)
    refine j_aload_n rfl d_X10_init_79 rfl ?_
    refine k_new (ty0 := tyX0) rfl rfl wd_92 wd_93 wd_5 tyX0_ok kd_0 ko_0 ⟨rfl, rfl⟩ d_X10_init_80 (fun h17 eh17 => ?_)
    refine j_dup d_X10_init_83 (fun G => tp_cat G _) ?_
    refine j_bind (fun h18 e19 => ?_)
    refine k_callI (y := y_X0_init) (I' := i_X0_init) (avs := []) (c := (h16.length : Int)) (st := [.inr (.inr (h16.length : Int)), .inr (.inr x0)]) (rm := tp_rmc 1 20 189) (mc' := 20) (ms' := 189) (cd_X0_init G (h16.length : Int) h17 h18 e19) rfl cs_Main_43 (Or.inr ⟨_, (by decide +kernel : (.methodLinkNest "TypesAtPrime" 43 ⟨"TypesAtPrime$Factors", "<init>", "()V"⟩ "TypesAtPrime" : Cond) ∈ tp_nest)⟩) wd_95 rfl rfl rfl (Nat.le_of_ble_eq_true rfl) ⟨rfl, rfl⟩ ⟨by decide, by decide⟩ ⟨rfl, rfl⟩ d_X10_init_84 ?_
    refine k_put (z := 2) (v := (h16.length : Int)) (fin := true) fl_Main_44 (pd_10_6 _) (fun _ => ⟨rfl, fun C T N h => by cases h; rfl⟩) pt_10 d_X10_init_87 (fun h20 eh20 => ?_)
    refine j_aload_n rfl d_X10_init_90 rfl ?_
    refine k_new (ty0 := tyX9) rfl rfl wd_147 wd_148 wd_6 tyX9_ok kd_9 ko_9 ⟨rfl, rfl⟩ d_X10_init_91 (fun h21 eh21 => ?_)
    refine j_dup d_X10_init_94 (fun G => tp_cat G _) ?_
    refine j_bind (fun h22 e23 => ?_)
    refine k_callI (y := y_X9_init) (I' := i_X9_init) (avs := []) (c := (h20.length : Int)) (st := [.inr (.inr (h20.length : Int)), .inr (.inr x0)]) (rm := tp_rmc 2 236 2120) (mc' := 236) (ms' := 2120) (cd_X9_init G (h20.length : Int) h21 h22 e23) rfl cs_Main_50 (Or.inl wd_149) wd_150 rfl rfl rfl (Nat.le_of_ble_eq_true rfl) ⟨rfl, rfl⟩ ⟨by decide, by decide⟩ ⟨rfl, rfl⟩ d_X10_init_95 ?_
    refine k_put (z := 2) (v := (h20.length : Int)) (fin := true) fl_Main_51 (pd_10_7 _) (fun _ => ⟨rfl, fun C T N h => by cases h; rfl⟩) pt_10 d_X10_init_98 (fun h24 eh24 => ?_)
    refine j_aload_n rfl d_X10_init_101 rfl ?_
    refine k_new (ty0 := tyX1) rfl rfl wd_327 wd_328 wd_10 tyX1_ok kd_1 ko_1 ⟨rfl, rfl⟩ d_X10_init_102 (fun h25 eh25 => ?_)
    refine j_dup d_X10_init_105 (fun G => tp_cat G _) ?_
    refine j_aload_n rfl d_X10_init_106 rfl ?_
    refine k_get fl_Main_12 d_X10_init_107 ?_
    refine j_aload_n rfl d_X10_init_110 rfl ?_
    refine k_get fl_Main_51 d_X10_init_111 ?_
    refine j_bind (fun h26 e27 => ?_)
    refine k_callI (y := y_X1_init) (I' := i_X1_init) (avs := [.inr (.inr (tp_dv h25 x0 0)), .inr (.inr (tp_dv h25 x0 7))]) (c := (h24.length : Int)) (st := [.inr (.inr (h24.length : Int)), .inr (.inr x0)]) (rm := tp_rmc 2 201 1903) (mc' := 201) (ms' := 1903) (cd_X1_init G (h24.length : Int) (tp_dv h25 x0 0) (tp_dv h25 x0 7) h25 h26 e27) rfl cs_Main_57 (Or.inl wd_329) wd_330 rfl rfl rfl (Nat.le_of_ble_eq_true rfl) ⟨rfl, rfl⟩ ⟨by decide, by decide⟩ ⟨rfl, rfl⟩ d_X10_init_114 ?_
    refine k_put (z := 2) (v := (h24.length : Int)) (fin := true) fl_Main_60 (pd_10_8 _) (fun _ => ⟨rfl, fun C T N h => by cases h; rfl⟩) pt_10 d_X10_init_117 (fun h28 eh28 => ?_)
    refine j_aload_n rfl d_X10_init_120 rfl ?_
    refine j_bipush ⟨by decide, by decide⟩ (by decide +kernel) d_X10_init_121 ?_
    refine k_newa (N := 9) (tag := 22) (ty := .long) rfl (by decide) rfl (by decide) (by decide) (by decide) wd_217 (fun _ _ => rfl) (fun _ => (⟨by decide, by decide⟩ : tp_rl 0)) (fun _ _ h => h) ⟨rfl, rfl⟩ d_X10_init_123 (fun h29 eh29 => ?_)
    refine k_put (z := 2) (v := (h28.length : Int)) (fin := true) fl_Main_64 (pd_10_9 _) (fun _ => ⟨rfl, fun C T N h => by cases h; rfl⟩) pt_10 d_X10_init_125 (fun h30 eh30 => ?_)
    refine j_aload_n rfl d_X10_init_128 rfl ?_
    refine j_bipush ⟨by decide, by decide⟩ (by decide +kernel) d_X10_init_129 ?_
    refine k_newa (N := 18) (tag := 22) (ty := .long) rfl (by decide) rfl (by decide) (by decide) (by decide) wd_217 (fun _ _ => rfl) (fun _ => (⟨by decide, by decide⟩ : tp_rl 0)) (fun _ _ h => h) ⟨rfl, rfl⟩ d_X10_init_131 (fun h31 eh31 => ?_)
    refine k_put (z := 2) (v := (h30.length : Int)) (fin := true) fl_Main_68 (pd_10_10 _) (fun _ => ⟨rfl, fun C T N h => by cases h; rfl⟩) pt_10 d_X10_init_133 (fun h32 eh32 => ?_)
    refine j_aload_n rfl d_X10_init_136 rfl ?_
    refine j_bipush ⟨by decide, by decide⟩ (by decide +kernel) d_X10_init_137 ?_
    refine k_newa (N := 40) (tag := 21) (ty := .int) rfl (by decide) rfl (by decide) (by decide) (by decide) wd_71 (fun _ _ => rfl) (fun _ => (⟨by decide, by decide⟩ : tp_r 0)) (fun _ _ h => h) ⟨rfl, rfl⟩ d_X10_init_139 (fun h33 eh33 => ?_)
    refine k_put (z := 2) (v := (h32.length : Int)) (fin := true) fl_Main_71 (pd_10_11 _) (fun _ => ⟨rfl, fun C T N h => by cases h; rfl⟩) pt_10 d_X10_init_141 (fun h34 eh34 => ?_)
    exact k_vret d_X10_init_144 rfl rfl
  · refine j_aload_n rfl d_X10_init_49 rfl ?_
    refine k_get fl_Main_29 d_X10_init_50 ?_
    refine j_iload_n rfl d_X10_init_53 rfl ?_
    refine k_new (ty0 := tyX6) rfl rfl wd_50 wd_52 wd_3 tyX6_ok kd_6 ko_6 ⟨rfl, rfl⟩ d_X10_init_54 (fun h35 eh35 => ?_)
    refine j_dup d_X10_init_57 (fun G => tp_cat G _) ?_
    refine j_bind (fun h36 e37 => ?_)
    refine k_callI (y := y_X6_init) (I' := i_X6_init) (avs := []) (c := (H0.length : Int)) (st := [.inr (.inr (H0.length : Int)), .inl x1, .inr (.inr (tp_dv H0 x0 4))]) (rm := tp_rmc 1 1 40) (mc' := 1) (ms' := 40) (cd_X6_init G (H0.length : Int) h35 h36 e37) rfl cs_Main_33 (Or.inr ⟨_, (by decide +kernel : (.methodLinkNest "TypesAtPrime" 33 ⟨"TypesAtPrime$Sheet", "<init>", "()V"⟩ "TypesAtPrime" : Cond) ∈ tp_nest)⟩) wd_54 rfl rfl rfl (Nat.le_of_ble_eq_true rfl) ⟨rfl, rfl⟩ ⟨by decide, by decide⟩ ⟨rfl, rfl⟩ d_X10_init_58 ?_
    refine k_aast (tag := 28) (t2 := 6) (C := "TypesAtPrime$Sheet") (by decide) (by decide) rfl d_X10_init_61 (fun h38 eh38 => ?_)
    refine j_iincN (lv' := fun y39 => [some (.inr (.inr x0)), some (.inl y39)]) d_X10_init_62 rfl (Nat.le_of_ble_eq_true rfl) (fun _ => rfl) (fun y39 hy39 => ?_)
    refine j_goto (tgt := 44) d_X10_init_65 (by decide) ?_
    exact j_wk [true, true] rfl rfl (hrec_44 y39 h38)
def df_X10_init_44 (n0 q0 : Nat) (x0 : Int) (x1 : Int) (H0 : tp_D) : Option (tp_D) := tp_lp (σ := Int × tp_D) (fun rec_ u => df_X10_init_44B n0 q0 x0 (fun x1' H0' => rec_ (x1', H0')) u.1 u.2) tp_N (x1, H0)
set_option maxHeartbeats 4000000 in
set_option maxRecDepth 100000 in
theorem TD_X10_init_44 (G : tp_G) (n0 q0 : Nat) (x0 : Int) (x1 : Int) (H0 : tp_D) : tp_J i_X10_init (tp_rmc 3 482 4637) G 482 4637 od_ H0.length (tp_dy H0) (H0.length - n0) (tp_tot H0 - q0) [some (.inr (.inr x0)), some (.inl x1)] 44 [] (df_X10_init_44 n0 q0 x0 x1 H0) := by
  unfold df_X10_init_44
  exact j_lp (σ := Int × tp_D) (n' := fun u => u.2.length) (g' := fun u => tp_dy u.2) (k' := fun u => u.2.length - n0) (q' := fun u => tp_tot u.2 - q0) (lv' := fun u => [some (.inr (.inr x0)), some (.inl u.1)]) (fun rec_ hrec u => TD_X10_init_44B G n0 q0 x0 (fun x1' H0' => rec_ (x1', H0')) (fun x1' H0' => hrec (x1', H0')) u.1 u.2) tp_N (x1, H0)
set_option maxHeartbeats 4000000 in
set_option maxRecDepth 100000 in
def df_X10_init (n0 q0 : Nat) (c0 : Int) (H0 : tp_D) : Option tp_D :=
  if 0 ≤ c0 then
    if tp_dc n0 q0 482 4637 H0 1 3 = true then
      tp_hp (H0 ++ [(4, bl_4)]) fun h2 =>
      (df_X4_init h2.length (tp_tot h2) (H0.length : Int) h2).bind fun h3 =>
      if 0 ≤ (H0.length : Int) ∧ tp_dk n0 q0 482 4637 h2 h3 0 0 = true then
        if tp_dt h3 c0 = 10 then
          tp_hp (tp_ds h3 c0 0 (H0.length : Int)) fun h5 =>
          if tp_dc n0 q0 482 4637 h5 1 80 = true then
            tp_hp (h5 ++ [(20, List.replicate 80 0)]) fun h6 =>
            if tp_dt h6 c0 = 10 then
              tp_hp (tp_ds h6 c0 1 (h5.length : Int)) fun h7 =>
              if tp_dc n0 q0 482 4637 h7 (1 + 5) (5 + 5 * 9) = true then
                tp_hp (tp_mn h7 23 21 5 9) fun h8 =>
                if tp_dt h8 c0 = 10 then
                  tp_hp (tp_ds h8 c0 3 (h7.length : Int)) fun h9 =>
                  if tp_dc n0 q0 482 4637 h9 1 4 = true then
                    tp_hp (h9 ++ [(28, List.replicate 4 (-1))]) fun h10 =>
                    if tp_dt h10 c0 = 10 then
                      tp_hp (tp_ds h10 c0 4 (h9.length : Int)) fun h11 =>
                      df_X10_init_44 n0 q0 c0 0 h11 else none else none else none else none else none else none else none else none else none else none
set_option maxHeartbeats 4000000 in
set_option maxRecDepth 100000 in
theorem TD_X10_init (G : tp_G) (n0 q0 : Nat) (c0 : Int) (H0 : tp_D) : tp_J i_X10_init (tp_rmc 3 482 4637) G 482 4637 od_ H0.length (tp_dy H0) (H0.length - n0) (tp_tot H0 - q0) [some (.inr (.inr c0)), none] 0 [] (df_X10_init n0 q0 c0 H0) := by
  unfold df_X10_init
  refine j_aload_n rfl d_X10_init_0 rfl ?_
  refine tp_chk (fun g1 => ?_)
  refine j_obj g1 wd_25 wd_26 wd_27 ⟨by decide, by decide⟩ (Nat.le_of_ble_eq_true rfl) d_X10_init_1 ?_
  refine j_aload_n rfl d_X10_init_4 rfl ?_
  refine k_new (ty0 := tyX4) rfl rfl wd_28 wd_29 wd_2 tyX4_ok kd_4 ko_4 ⟨rfl, rfl⟩ d_X10_init_5 (fun h2 eh2 => ?_)
  refine j_dup d_X10_init_8 (fun G => tp_cat G _) ?_
  refine j_bind (fun h3 e4 => ?_)
  refine k_callI (y := y_X4_init) (I' := i_X4_init) (avs := []) (c := (H0.length : Int)) (st := [.inr (.inr (H0.length : Int)), .inr (.inr c0)]) (rm := tp_rmc 1 0 0) (mc' := 0) (ms' := 0) (cd_X4_init G (H0.length : Int) h2 h3 e4) rfl cs_Main_11 (Or.inr ⟨_, (by decide +kernel : (.methodLinkNest "TypesAtPrime" 11 ⟨"TypesAtPrime$Numbers", "<init>", "()V"⟩ "TypesAtPrime" : Cond) ∈ tp_nest)⟩) wd_31 rfl rfl rfl (Nat.le_of_ble_eq_true rfl) ⟨rfl, rfl⟩ ⟨by decide, by decide⟩ ⟨rfl, rfl⟩ d_X10_init_9 ?_
  refine k_put (z := 2) (v := (H0.length : Int)) (fin := true) fl_Main_12 (pd_10_0 _) (fun _ => ⟨rfl, fun C T N h => by cases h; rfl⟩) pt_10 d_X10_init_12 (fun h5 eh5 => ?_)
  refine j_aload_n rfl d_X10_init_15 rfl ?_
  refine j_bipush ⟨by decide, by decide⟩ (by decide +kernel) d_X10_init_16 ?_
  refine k_newa (N := 80) (tag := 20) (ty := .byte) rfl (by decide) rfl (by decide) (by decide) (by decide) wd_70 (fun _ _ => rfl) (fun _ => (⟨by decide, by decide⟩ : tp_r 0)) (fun _ _ h => h) ⟨rfl, rfl⟩ d_X10_init_18 (fun h6 eh6 => ?_)
  refine k_put (z := 2) (v := (h5.length : Int)) (fin := true) fl_Main_18 (pd_10_1 _) (fun _ => ⟨rfl, fun C T N h => by cases h; rfl⟩) pt_10 d_X10_init_20 (fun h7 eh7 => ?_)
  refine j_aload_n rfl d_X10_init_23 rfl ?_
  refine j_iconst ⟨by decide, by decide⟩ d_X10_init_24 ?_
  refine j_bipush ⟨by decide, by decide⟩ (by decide +kernel) d_X10_init_25 ?_
  refine k_mna (N := 5) (K := 9) (tag := 23) (tag2 := 21) (ty := .int) rfl rfl ⟨by decide, by decide⟩ (by decide) (by decide) (by decide) (by decide) (fun _ _ h => h) (fun K hK => by show K * 4 ≤ _; omega) rfl rfl (fun _ _ => rfl) (fun _ => (⟨by decide, by decide⟩ : tp_r 0)) (by decide) wd_48 wd_71 ⟨rfl, rfl⟩ d_X10_init_27 (fun h8 eh8 => ?_)
  refine k_put (z := 2) (v := (h7.length : Int)) (fin := true) fl_Main_24 (pd_10_3 _) (fun _ => ⟨rfl, fun C T N h => by cases h; rfl⟩) pt_10 d_X10_init_31 (fun h9 eh9 => ?_)
  refine j_aload_n rfl d_X10_init_34 rfl ?_
  refine j_iconst ⟨by decide, by decide⟩ d_X10_init_35 ?_
  refine k_anew (N := 4) (tag := 28) (C := "TypesAtPrime$Sheet") rfl (by decide) (by decide) (by decide) (by decide) wd_50 ⟨rfl, rfl⟩ d_X10_init_36 (fun h10 eh10 => ?_)
  refine k_put (z := 2) (v := (h9.length : Int)) (fin := true) fl_Main_29 (pd_10_4 _) (fun _ => ⟨rfl, fun C T N h => by cases h; rfl⟩) pt_10 d_X10_init_39 (fun h11 eh11 => ?_)
  refine j_iconst ⟨by decide, by decide⟩ d_X10_init_42 ?_
  refine j_istore_n (lv' := [some (.inr (.inr c0)), some (.inl 0)]) rfl d_X10_init_43 (Nat.le_of_ble_eq_true rfl) rfl ?_
  exact j_wk [true, true] rfl rfl (TD_X10_init_44 G n0 q0 c0 0 h11)
set_option maxHeartbeats 4000000 in
set_option maxRecDepth 100000 in
theorem cd_X10_init (G : tp_G) (c0 : Int) (H0 r : tp_D) (h : df_X10_init H0.length (tp_tot H0) c0 H0 = some r) (l : Launch) : Met l y_X10_init (tp_ws y_X10_init i_X10_init) (tp_rmc 3 482 4637) (tp_Pc G [.inr (.inr c0)] H0.length (tp_dy H0)) (tp_Q G (none, r.length, tp_dy r)) 482 4637 (tp_A G) := by
  have hJ := TD_X10_init G H0.length (tp_tot H0) c0 H0
  rw [Nat.sub_self, Nat.sub_self] at hJ
  exact tp_met (I := i_X10_init) (y := y_X10_init) (by decide +kernel) (Eq.refl "TypesAtPrime") (Eq.refl "<init>") (lv := [some (.inr (.inr c0)), none]) rfl (Nat.le_of_ble_eq_true rfl) hJ h l
theorem pd_11_0 (v : Int) : ∀ (C : String) (T : u_T) (N : Nat), vwCl[11]? = some (C, T, N) → (T 0).2.2.2 = false ∧ ∀ G : tp_G, ∃ ty, parseFieldDescriptor (T 0).2.2.1 = some ty ∧ narrow ty (tp_enc G (tp_zv 0 v)) = tp_enc G (tp_zv 0 v) ∧ fits ty (tp_enc G (tp_zv 0 v)) = true := by
  intro C T N h
  cases h
  exact ⟨rfl, fun G => ⟨_, tyX11_ok 0 (by decide), rfl, rfl⟩⟩
theorem pd_11_1 (v : Int) : ∀ (C : String) (T : u_T) (N : Nat), vwCl[11]? = some (C, T, N) → (T 1).2.2.2 = false ∧ ∀ G : tp_G, ∃ ty, parseFieldDescriptor (T 1).2.2.1 = some ty ∧ narrow ty (tp_enc G (tp_zv 0 v)) = tp_enc G (tp_zv 0 v) ∧ fits ty (tp_enc G (tp_zv 0 v)) = true := by
  intro C T N h
  cases h
  exact ⟨rfl, fun G => ⟨_, tyX11_ok 1 (by decide), rfl, rfl⟩⟩
theorem pd_11_2 (v : Int) : ∀ (C : String) (T : u_T) (N : Nat), vwCl[11]? = some (C, T, N) → (T 2).2.2.2 = false ∧ ∀ G : tp_G, ∃ ty, parseFieldDescriptor (T 2).2.2.1 = some ty ∧ narrow ty (tp_enc G (tp_zv 1 v)) = tp_enc G (tp_zv 1 v) ∧ fits ty (tp_enc G (tp_zv 1 v)) = true := by
  intro C T N h
  cases h
  exact ⟨rfl, fun G => ⟨_, tyX11_ok 2 (by decide), rfl, rfl⟩⟩
theorem pd_11_18 (v : Int) (hv : v = 0 ∨ v = 1) : ∀ (C : String) (T : u_T) (N : Nat), vwCl[11]? = some (C, T, N) → (T 18).2.2.2 = false ∧ ∀ G : tp_G, ∃ ty, parseFieldDescriptor (T 18).2.2.1 = some ty ∧ narrow ty (tp_enc G (tp_zv 0 v)) = tp_enc G (tp_zv 0 v) ∧ fits ty (tp_enc G (tp_zv 0 v)) = true := by
  intro C T N h
  cases h
  refine ⟨rfl, fun G => ⟨_, tyX11_ok 18 (by decide), ?_⟩⟩
  rcases hv with rfl | rfl <;> exact ⟨rfl, rfl⟩
def df_X11_lays_17B (n0 q0 : Nat) (x0 : Int) (x1 : Int) (x2 : Int) (rec_17 : Int → tp_D → Option (tp_D)) (x3 : Int) (H0 : tp_D) : Option (tp_D) :=
  if x2 ≤ x3 then
    if tp_dt H0 x0 = 11 then
      tp_hp (tp_ds H0 x0 18 0) fun h5 =>
      if tp_de n0 q0 0 0 h5 = true then some h5 else none else none
  else
    if tp_dt H0 x0 = 11 then
      if tp_dt H0 x0 = 11 then
        tp_hp (tp_ds H0 x0 2 (tp_wl ((tp_dv H0 x0 2) * x1))) fun h6 =>
        tp_lt (tp_w (x3 + 1)) fun y7 =>
        rec_17 y7 h6 else none else none
set_option maxHeartbeats 4000000 in
set_option maxRecDepth 100000 in
theorem TD_X11_lays_17B (G : tp_G) (n0 q0 : Nat) (x0 : Int) (x1 : Int) (x2 : Int) (rec_17 : Int → tp_D → Option (tp_D)) (hrec_17 : ∀ (x3' : Int) (M' : tp_D), tp_J i_X11_lays (tp_rmc 0 0 0) G 0 0 od_ M'.length (tp_dy M') (M'.length - n0) (tp_tot M' - q0) [some (.inr (.inr x0)), some (.inl x1), some (.inl x2), some (.inl (x3'))] 17 [] (rec_17 x3' M')) (x3 : Int) (H0 : tp_D) : tp_J i_X11_lays (tp_rmc 0 0 0) G 0 0 od_ H0.length (tp_dy H0) (H0.length - n0) (tp_tot H0 - q0) [some (.inr (.inr x0)), some (.inl x1), some (.inl x2), some (.inl x3)] 17 [] (df_X11_lays_17B n0 q0 x0 x1 x2 rec_17 x3 H0) := by
  unfold df_X11_lays_17B
  refine j_iload_n rfl d_X11_lays_17 rfl ?_
  refine j_iload_n rfl d_X11_lays_18 rfl ?_
  refine j_icmp_ge (tgt := 39) d_X11_lays_19 (by decide) (fun h4 => ?_) (fun h4 => ?_)
  · refine j_aload_n rfl d_X11_lays_39 rfl ?_
    refine j_iconst ⟨by decide, by decide⟩ d_X11_lays_40 ?_
    refine k_put (z := 0) (v := 0) (fin := false) fl_Model_179 (pd_11_18 _ (Or.inl rfl)) (fun h => by cases h) pt_11 d_X11_lays_41 (fun h5 eh5 => ?_)
    exact k_vret d_X11_lays_44 rfl rfl
  · refine j_aload_n rfl d_X11_lays_22 rfl ?_
    refine j_dup d_X11_lays_23 (fun G => tp_cat G _) ?_
    refine k_get fl_Model_175 d_X11_lays_24 ?_
    refine j_iload_n rfl d_X11_lays_27 rfl ?_
    refine j_i2l d_X11_lays_28 ?_
    refine j_lmul d_X11_lays_29 ?_
    refine k_put (z := 1) (v := (tp_wl ((tp_dv H0 x0 2) * x1))) (fin := false) fl_Model_175 (pd_11_2 _) (fun h => by cases h) pt_11 d_X11_lays_30 (fun h6 eh6 => ?_)
    refine j_iincN (lv' := fun y7 => [some (.inr (.inr x0)), some (.inl x1), some (.inl x2), some (.inl y7)]) d_X11_lays_33 rfl (Nat.le_of_ble_eq_true rfl) (fun _ => rfl) (fun y7 hy7 => ?_)
    refine j_goto (tgt := 17) d_X11_lays_36 (by decide) ?_
    exact j_wk [true, true, true, true] rfl rfl (hrec_17 y7 h6)
def df_X11_lays_17 (n0 q0 : Nat) (x0 : Int) (x1 : Int) (x2 : Int) (x3 : Int) (H0 : tp_D) : Option (tp_D) := tp_lp (σ := Int × tp_D) (fun rec_ u => df_X11_lays_17B n0 q0 x0 x1 x2 (fun x3' H0' => rec_ (x3', H0')) u.1 u.2) tp_N (x3, H0)
set_option maxHeartbeats 4000000 in
set_option maxRecDepth 100000 in
theorem TD_X11_lays_17 (G : tp_G) (n0 q0 : Nat) (x0 : Int) (x1 : Int) (x2 : Int) (x3 : Int) (H0 : tp_D) : tp_J i_X11_lays (tp_rmc 0 0 0) G 0 0 od_ H0.length (tp_dy H0) (H0.length - n0) (tp_tot H0 - q0) [some (.inr (.inr x0)), some (.inl x1), some (.inl x2), some (.inl x3)] 17 [] (df_X11_lays_17 n0 q0 x0 x1 x2 x3 H0) := by
  unfold df_X11_lays_17
  exact j_lp (σ := Int × tp_D) (n' := fun u => u.2.length) (g' := fun u => tp_dy u.2) (k' := fun u => u.2.length - n0) (q' := fun u => tp_tot u.2 - q0) (lv' := fun u => [some (.inr (.inr x0)), some (.inl x1), some (.inl x2), some (.inl u.1)]) (fun rec_ hrec u => TD_X11_lays_17B G n0 q0 x0 x1 x2 (fun x3' H0' => rec_ (x3', H0')) (fun x3' H0' => hrec (x3', H0')) u.1 u.2) tp_N (x3, H0)
set_option maxHeartbeats 4000000 in
set_option maxRecDepth 100000 in
def df_X11_lays (n0 q0 : Nat) (c0 : Int) (a0 : Int) (a1 : Int) (H0 : tp_D) : Option tp_D :=
  if tp_dt H0 c0 = 11 then
    tp_hp (tp_ds H0 c0 0 a0) fun h1 =>
    if tp_dt h1 c0 = 11 then
      tp_hp (tp_ds h1 c0 1 a1) fun h2 =>
      if tp_dt h2 c0 = 11 then
        tp_hp (tp_ds h2 c0 2 1) fun h3 =>
        df_X11_lays_17 n0 q0 c0 a0 a1 0 h3 else none else none else none
set_option maxHeartbeats 4000000 in
set_option maxRecDepth 100000 in
theorem TD_X11_lays (G : tp_G) (n0 q0 : Nat) (c0 : Int) (a0 : Int) (a1 : Int) (H0 : tp_D) : tp_J i_X11_lays (tp_rmc 0 0 0) G 0 0 od_ H0.length (tp_dy H0) (H0.length - n0) (tp_tot H0 - q0) [some (.inr (.inr c0)), some (.inl a0), some (.inl a1), none] 0 [] (df_X11_lays n0 q0 c0 a0 a1 H0) := by
  unfold df_X11_lays
  refine j_aload_n rfl d_X11_lays_0 rfl ?_
  refine j_iload_n rfl d_X11_lays_1 rfl ?_
  refine k_put (z := 0) (v := a0) (fin := false) fl_Model_168 (pd_11_0 _) (fun h => by cases h) pt_11 d_X11_lays_2 (fun h1 eh1 => ?_)
  refine j_aload_n rfl d_X11_lays_5 rfl ?_
  refine j_iload_n rfl d_X11_lays_6 rfl ?_
  refine k_put (z := 0) (v := a1) (fin := false) fl_Model_172 (pd_11_1 _) (fun h => by cases h) pt_11 d_X11_lays_7 (fun h2 eh2 => ?_)
  refine j_aload_n rfl d_X11_lays_10 rfl ?_
  refine j_lconst (x := 1) ⟨by decide, by decide⟩ (by decide +kernel) d_X11_lays_11 ?_
  refine k_put (z := 1) (v := 1) (fin := false) fl_Model_175 (pd_11_2 _) (fun h => by cases h) pt_11 d_X11_lays_12 (fun h3 eh3 => ?_)
  refine j_iconst ⟨by decide, by decide⟩ d_X11_lays_15 ?_
  refine j_istore_n (lv' := [some (.inr (.inr c0)), some (.inl a0), some (.inl a1), some (.inl 0)]) rfl d_X11_lays_16 (Nat.le_of_ble_eq_true rfl) rfl ?_
  exact j_wk [true, true, true, true] rfl rfl (TD_X11_lays_17 G n0 q0 c0 a0 a1 0 h3)
set_option maxHeartbeats 4000000 in
set_option maxRecDepth 100000 in
theorem cd_X11_lays (G : tp_G) (c0 : Int) (a0 : Int) (a1 : Int) (H0 r : tp_D) (h : df_X11_lays H0.length (tp_tot H0) c0 a0 a1 H0 = some r) (l : Launch) : Met l y_X11_lays (tp_ws y_X11_lays i_X11_lays) (tp_rmc 0 0 0) (tp_Pc G [.inr (.inr c0), .inl a0, .inl a1] H0.length (tp_dy H0)) (tp_Q G (none, r.length, tp_dy r)) 0 0 (tp_A G) := by
  have hJ := TD_X11_lays G H0.length (tp_tot H0) c0 a0 a1 H0
  rw [Nat.sub_self, Nat.sub_self] at hJ
  exact tp_met (I := i_X11_lays) (y := y_X11_lays) (by decide +kernel) (Eq.refl "TypesAtPrimeModel") (Eq.refl "lays") (lv := [some (.inr (.inr c0)), some (.inl a0), some (.inl a1), none]) rfl (Nat.le_of_ble_eq_true rfl) hJ h l
theorem wd_1023 : (.methodLink "TypesAtPrimeModel" 1 ⟨"java/lang/Object", "<init>", "()V"⟩ : Cond) ∈ lw_tbl := List.mem_append_right _ (List.mem_of_getElem? (i := 1023) (by decide +kernel))
theorem pd_11_3 (v : Int) : ∀ (C : String) (T : u_T) (N : Nat), vwCl[11]? = some (C, T, N) → (T 3).2.2.2 = true ∧ ∀ G : tp_G, ∃ ty, parseFieldDescriptor (T 3).2.2.1 = some ty ∧ narrow ty (tp_enc G (tp_zv 2 v)) = tp_enc G (tp_zv 2 v) ∧ fits ty (tp_enc G (tp_zv 2 v)) = true := by
  intro C T N h
  cases h
  refine ⟨rfl, fun G => ⟨_, tyX11_ok 3 (by decide), ?_⟩⟩
  show narrow _ (tp_ref G v) = tp_ref G v ∧ fits _ (tp_ref G v) = true
  rcases tp_refc G v with h | ⟨a, h⟩ <;> rw [h] <;> exact ⟨rfl, rfl⟩
theorem pd_11_4 (v : Int) : ∀ (C : String) (T : u_T) (N : Nat), vwCl[11]? = some (C, T, N) → (T 4).2.2.2 = true ∧ ∀ G : tp_G, ∃ ty, parseFieldDescriptor (T 4).2.2.1 = some ty ∧ narrow ty (tp_enc G (tp_zv 2 v)) = tp_enc G (tp_zv 2 v) ∧ fits ty (tp_enc G (tp_zv 2 v)) = true := by
  intro C T N h
  cases h
  refine ⟨rfl, fun G => ⟨_, tyX11_ok 4 (by decide), ?_⟩⟩
  show narrow _ (tp_ref G v) = tp_ref G v ∧ fits _ (tp_ref G v) = true
  rcases tp_refc G v with h | ⟨a, h⟩ <;> rw [h] <;> exact ⟨rfl, rfl⟩
theorem pd_11_7 (v : Int) : ∀ (C : String) (T : u_T) (N : Nat), vwCl[11]? = some (C, T, N) → (T 7).2.2.2 = true ∧ ∀ G : tp_G, ∃ ty, parseFieldDescriptor (T 7).2.2.1 = some ty ∧ narrow ty (tp_enc G (tp_zv 2 v)) = tp_enc G (tp_zv 2 v) ∧ fits ty (tp_enc G (tp_zv 2 v)) = true := by
  intro C T N h
  cases h
  refine ⟨rfl, fun G => ⟨_, tyX11_ok 7 (by decide), ?_⟩⟩
  show narrow _ (tp_ref G v) = tp_ref G v ∧ fits _ (tp_ref G v) = true
  rcases tp_refc G v with h | ⟨a, h⟩ <;> rw [h] <;> exact ⟨rfl, rfl⟩
theorem pd_11_8 (v : Int) : ∀ (C : String) (T : u_T) (N : Nat), vwCl[11]? = some (C, T, N) → (T 8).2.2.2 = true ∧ ∀ G : tp_G, ∃ ty, parseFieldDescriptor (T 8).2.2.1 = some ty ∧ narrow ty (tp_enc G (tp_zv 2 v)) = tp_enc G (tp_zv 2 v) ∧ fits ty (tp_enc G (tp_zv 2 v)) = true := by
  intro C T N h
  cases h
  refine ⟨rfl, fun G => ⟨_, tyX11_ok 8 (by decide), ?_⟩⟩
  show narrow _ (tp_ref G v) = tp_ref G v ∧ fits _ (tp_ref G v) = true
  rcases tp_refc G v with h | ⟨a, h⟩ <;> rw [h] <;> exact ⟨rfl, rfl⟩
theorem pd_11_9 (v : Int) : ∀ (C : String) (T : u_T) (N : Nat), vwCl[11]? = some (C, T, N) → (T 9).2.2.2 = true ∧ ∀ G : tp_G, ∃ ty, parseFieldDescriptor (T 9).2.2.1 = some ty ∧ narrow ty (tp_enc G (tp_zv 2 v)) = tp_enc G (tp_zv 2 v) ∧ fits ty (tp_enc G (tp_zv 2 v)) = true := by
  intro C T N h
  cases h
  refine ⟨rfl, fun G => ⟨_, tyX11_ok 9 (by decide), ?_⟩⟩
  show narrow _ (tp_ref G v) = tp_ref G v ∧ fits _ (tp_ref G v) = true
  rcases tp_refc G v with h | ⟨a, h⟩ <;> rw [h] <;> exact ⟨rfl, rfl⟩
theorem pd_11_10 (v : Int) : ∀ (C : String) (T : u_T) (N : Nat), vwCl[11]? = some (C, T, N) → (T 10).2.2.2 = true ∧ ∀ G : tp_G, ∃ ty, parseFieldDescriptor (T 10).2.2.1 = some ty ∧ narrow ty (tp_enc G (tp_zv 2 v)) = tp_enc G (tp_zv 2 v) ∧ fits ty (tp_enc G (tp_zv 2 v)) = true := by
  intro C T N h
  cases h
  refine ⟨rfl, fun G => ⟨_, tyX11_ok 10 (by decide), ?_⟩⟩
  show narrow _ (tp_ref G v) = tp_ref G v ∧ fits _ (tp_ref G v) = true
  rcases tp_refc G v with h | ⟨a, h⟩ <;> rw [h] <;> exact ⟨rfl, rfl⟩
theorem pd_11_13 (v : Int) : ∀ (C : String) (T : u_T) (N : Nat), vwCl[11]? = some (C, T, N) → (T 13).2.2.2 = true ∧ ∀ G : tp_G, ∃ ty, parseFieldDescriptor (T 13).2.2.1 = some ty ∧ narrow ty (tp_enc G (tp_zv 2 v)) = tp_enc G (tp_zv 2 v) ∧ fits ty (tp_enc G (tp_zv 2 v)) = true := by
  intro C T N h
  cases h
  refine ⟨rfl, fun G => ⟨_, tyX11_ok 13 (by decide), ?_⟩⟩
  show narrow _ (tp_ref G v) = tp_ref G v ∧ fits _ (tp_ref G v) = true
  rcases tp_refc G v with h | ⟨a, h⟩ <;> rw [h] <;> exact ⟨rfl, rfl⟩
theorem pd_11_14 (v : Int) : ∀ (C : String) (T : u_T) (N : Nat), vwCl[11]? = some (C, T, N) → (T 14).2.2.2 = true ∧ ∀ G : tp_G, ∃ ty, parseFieldDescriptor (T 14).2.2.1 = some ty ∧ narrow ty (tp_enc G (tp_zv 2 v)) = tp_enc G (tp_zv 2 v) ∧ fits ty (tp_enc G (tp_zv 2 v)) = true := by
  intro C T N h
  cases h
  refine ⟨rfl, fun G => ⟨_, tyX11_ok 14 (by decide), ?_⟩⟩
  show narrow _ (tp_ref G v) = tp_ref G v ∧ fits _ (tp_ref G v) = true
  rcases tp_refc G v with h | ⟨a, h⟩ <;> rw [h] <;> exact ⟨rfl, rfl⟩
theorem pd_11_15 (v : Int) : ∀ (C : String) (T : u_T) (N : Nat), vwCl[11]? = some (C, T, N) → (T 15).2.2.2 = true ∧ ∀ G : tp_G, ∃ ty, parseFieldDescriptor (T 15).2.2.1 = some ty ∧ narrow ty (tp_enc G (tp_zv 2 v)) = tp_enc G (tp_zv 2 v) ∧ fits ty (tp_enc G (tp_zv 2 v)) = true := by
  intro C T N h
  cases h
  refine ⟨rfl, fun G => ⟨_, tyX11_ok 15 (by decide), ?_⟩⟩
  show narrow _ (tp_ref G v) = tp_ref G v ∧ fits _ (tp_ref G v) = true
  rcases tp_refc G v with h | ⟨a, h⟩ <;> rw [h] <;> exact ⟨rfl, rfl⟩
theorem pd_11_16 (v : Int) : ∀ (C : String) (T : u_T) (N : Nat), vwCl[11]? = some (C, T, N) → (T 16).2.2.2 = true ∧ ∀ G : tp_G, ∃ ty, parseFieldDescriptor (T 16).2.2.1 = some ty ∧ narrow ty (tp_enc G (tp_zv 2 v)) = tp_enc G (tp_zv 2 v) ∧ fits ty (tp_enc G (tp_zv 2 v)) = true := by
  intro C T N h
  cases h
  refine ⟨rfl, fun G => ⟨_, tyX11_ok 16 (by decide), ?_⟩⟩
  show narrow _ (tp_ref G v) = tp_ref G v ∧ fits _ (tp_ref G v) = true
  rcases tp_refc G v with h | ⟨a, h⟩ <;> rw [h] <;> exact ⟨rfl, rfl⟩
theorem pd_11_17 (v : Int) : ∀ (C : String) (T : u_T) (N : Nat), vwCl[11]? = some (C, T, N) → (T 17).2.2.2 = true ∧ ∀ G : tp_G, ∃ ty, parseFieldDescriptor (T 17).2.2.1 = some ty ∧ narrow ty (tp_enc G (tp_zv 2 v)) = tp_enc G (tp_zv 2 v) ∧ fits ty (tp_enc G (tp_zv 2 v)) = true := by
  intro C T N h
  cases h
  refine ⟨rfl, fun G => ⟨_, tyX11_ok 17 (by decide), ?_⟩⟩
  show narrow _ (tp_ref G v) = tp_ref G v ∧ fits _ (tp_ref G v) = true
  rcases tp_refc G v with h | ⟨a, h⟩ <;> rw [h] <;> exact ⟨rfl, rfl⟩
theorem pd_11_19 (v : Int) : ∀ (C : String) (T : u_T) (N : Nat), vwCl[11]? = some (C, T, N) → (T 19).2.2.2 = true ∧ ∀ G : tp_G, ∃ ty, parseFieldDescriptor (T 19).2.2.1 = some ty ∧ narrow ty (tp_enc G (tp_zv 2 v)) = tp_enc G (tp_zv 2 v) ∧ fits ty (tp_enc G (tp_zv 2 v)) = true := by
  intro C T N h
  cases h
  refine ⟨rfl, fun G => ⟨_, tyX11_ok 19 (by decide), ?_⟩⟩
  show narrow _ (tp_ref G v) = tp_ref G v ∧ fits _ (tp_ref G v) = true
  rcases tp_refc G v with h | ⟨a, h⟩ <;> rw [h] <;> exact ⟨rfl, rfl⟩
theorem pd_11_24 (v : Int) : ∀ (C : String) (T : u_T) (N : Nat), vwCl[11]? = some (C, T, N) → (T 24).2.2.2 = true ∧ ∀ G : tp_G, ∃ ty, parseFieldDescriptor (T 24).2.2.1 = some ty ∧ narrow ty (tp_enc G (tp_zv 2 v)) = tp_enc G (tp_zv 2 v) ∧ fits ty (tp_enc G (tp_zv 2 v)) = true := by
  intro C T N h
  cases h
  refine ⟨rfl, fun G => ⟨_, tyX11_ok 24 (by decide), ?_⟩⟩
  show narrow _ (tp_ref G v) = tp_ref G v ∧ fits _ (tp_ref G v) = true
  rcases tp_refc G v with h | ⟨a, h⟩ <;> rw [h] <;> exact ⟨rfl, rfl⟩
theorem pd_11_25 (v : Int) : ∀ (C : String) (T : u_T) (N : Nat), vwCl[11]? = some (C, T, N) → (T 25).2.2.2 = true ∧ ∀ G : tp_G, ∃ ty, parseFieldDescriptor (T 25).2.2.1 = some ty ∧ narrow ty (tp_enc G (tp_zv 2 v)) = tp_enc G (tp_zv 2 v) ∧ fits ty (tp_enc G (tp_zv 2 v)) = true := by
  intro C T N h
  cases h
  refine ⟨rfl, fun G => ⟨_, tyX11_ok 25 (by decide), ?_⟩⟩
  show narrow _ (tp_ref G v) = tp_ref G v ∧ fits _ (tp_ref G v) = true
  rcases tp_refc G v with h | ⟨a, h⟩ <;> rw [h] <;> exact ⟨rfl, rfl⟩
theorem pd_11_26 (v : Int) : ∀ (C : String) (T : u_T) (N : Nat), vwCl[11]? = some (C, T, N) → (T 26).2.2.2 = true ∧ ∀ G : tp_G, ∃ ty, parseFieldDescriptor (T 26).2.2.1 = some ty ∧ narrow ty (tp_enc G (tp_zv 2 v)) = tp_enc G (tp_zv 2 v) ∧ fits ty (tp_enc G (tp_zv 2 v)) = true := by
  intro C T N h
  cases h
  refine ⟨rfl, fun G => ⟨_, tyX11_ok 26 (by decide), ?_⟩⟩
  show narrow _ (tp_ref G v) = tp_ref G v ∧ fits _ (tp_ref G v) = true
  rcases tp_refc G v with h | ⟨a, h⟩ <;> rw [h] <;> exact ⟨rfl, rfl⟩
theorem pd_11_27 (v : Int) : ∀ (C : String) (T : u_T) (N : Nat), vwCl[11]? = some (C, T, N) → (T 27).2.2.2 = true ∧ ∀ G : tp_G, ∃ ty, parseFieldDescriptor (T 27).2.2.1 = some ty ∧ narrow ty (tp_enc G (tp_zv 2 v)) = tp_enc G (tp_zv 2 v) ∧ fits ty (tp_enc G (tp_zv 2 v)) = true := by
  intro C T N h
  cases h
  refine ⟨rfl, fun G => ⟨_, tyX11_ok 27 (by decide), ?_⟩⟩
  show narrow _ (tp_ref G v) = tp_ref G v ∧ fits _ (tp_ref G v) = true
  rcases tp_refc G v with h | ⟨a, h⟩ <;> rw [h] <;> exact ⟨rfl, rfl⟩
theorem pd_11_28 (v : Int) : ∀ (C : String) (T : u_T) (N : Nat), vwCl[11]? = some (C, T, N) → (T 28).2.2.2 = true ∧ ∀ G : tp_G, ∃ ty, parseFieldDescriptor (T 28).2.2.1 = some ty ∧ narrow ty (tp_enc G (tp_zv 2 v)) = tp_enc G (tp_zv 2 v) ∧ fits ty (tp_enc G (tp_zv 2 v)) = true := by
  intro C T N h
  cases h
  refine ⟨rfl, fun G => ⟨_, tyX11_ok 28 (by decide), ?_⟩⟩
  show narrow _ (tp_ref G v) = tp_ref G v ∧ fits _ (tp_ref G v) = true
  rcases tp_refc G v with h | ⟨a, h⟩ <;> rw [h] <;> exact ⟨rfl, rfl⟩
theorem pd_11_29 (v : Int) : ∀ (C : String) (T : u_T) (N : Nat), vwCl[11]? = some (C, T, N) → (T 29).2.2.2 = true ∧ ∀ G : tp_G, ∃ ty, parseFieldDescriptor (T 29).2.2.1 = some ty ∧ narrow ty (tp_enc G (tp_zv 2 v)) = tp_enc G (tp_zv 2 v) ∧ fits ty (tp_enc G (tp_zv 2 v)) = true := by
  intro C T N h
  cases h
  refine ⟨rfl, fun G => ⟨_, tyX11_ok 29 (by decide), ?_⟩⟩
  show narrow _ (tp_ref G v) = tp_ref G v ∧ fits _ (tp_ref G v) = true
  rcases tp_refc G v with h | ⟨a, h⟩ <;> rw [h] <;> exact ⟨rfl, rfl⟩
theorem pd_11_30 (v : Int) : ∀ (C : String) (T : u_T) (N : Nat), vwCl[11]? = some (C, T, N) → (T 30).2.2.2 = true ∧ ∀ G : tp_G, ∃ ty, parseFieldDescriptor (T 30).2.2.1 = some ty ∧ narrow ty (tp_enc G (tp_zv 2 v)) = tp_enc G (tp_zv 2 v) ∧ fits ty (tp_enc G (tp_zv 2 v)) = true := by
  intro C T N h
  cases h
  refine ⟨rfl, fun G => ⟨_, tyX11_ok 30 (by decide), ?_⟩⟩
  show narrow _ (tp_ref G v) = tp_ref G v ∧ fits _ (tp_ref G v) = true
  rcases tp_refc G v with h | ⟨a, h⟩ <;> rw [h] <;> exact ⟨rfl, rfl⟩
theorem pd_11_31 (v : Int) : ∀ (C : String) (T : u_T) (N : Nat), vwCl[11]? = some (C, T, N) → (T 31).2.2.2 = true ∧ ∀ G : tp_G, ∃ ty, parseFieldDescriptor (T 31).2.2.1 = some ty ∧ narrow ty (tp_enc G (tp_zv 2 v)) = tp_enc G (tp_zv 2 v) ∧ fits ty (tp_enc G (tp_zv 2 v)) = true := by
  intro C T N h
  cases h
  refine ⟨rfl, fun G => ⟨_, tyX11_ok 31 (by decide), ?_⟩⟩
  show narrow _ (tp_ref G v) = tp_ref G v ∧ fits _ (tp_ref G v) = true
  rcases tp_refc G v with h | ⟨a, h⟩ <;> rw [h] <;> exact ⟨rfl, rfl⟩
theorem pd_11_32 (v : Int) : ∀ (C : String) (T : u_T) (N : Nat), vwCl[11]? = some (C, T, N) → (T 32).2.2.2 = true ∧ ∀ G : tp_G, ∃ ty, parseFieldDescriptor (T 32).2.2.1 = some ty ∧ narrow ty (tp_enc G (tp_zv 2 v)) = tp_enc G (tp_zv 2 v) ∧ fits ty (tp_enc G (tp_zv 2 v)) = true := by
  intro C T N h
  cases h
  refine ⟨rfl, fun G => ⟨_, tyX11_ok 32 (by decide), ?_⟩⟩
  show narrow _ (tp_ref G v) = tp_ref G v ∧ fits _ (tp_ref G v) = true
  rcases tp_refc G v with h | ⟨a, h⟩ <;> rw [h] <;> exact ⟨rfl, rfl⟩
theorem pd_11_33 (v : Int) : ∀ (C : String) (T : u_T) (N : Nat), vwCl[11]? = some (C, T, N) → (T 33).2.2.2 = true ∧ ∀ G : tp_G, ∃ ty, parseFieldDescriptor (T 33).2.2.1 = some ty ∧ narrow ty (tp_enc G (tp_zv 2 v)) = tp_enc G (tp_zv 2 v) ∧ fits ty (tp_enc G (tp_zv 2 v)) = true := by
  intro C T N h
  cases h
  refine ⟨rfl, fun G => ⟨_, tyX11_ok 33 (by decide), ?_⟩⟩
  show narrow _ (tp_ref G v) = tp_ref G v ∧ fits _ (tp_ref G v) = true
  rcases tp_refc G v with h | ⟨a, h⟩ <;> rw [h] <;> exact ⟨rfl, rfl⟩
theorem pd_11_34 (v : Int) : ∀ (C : String) (T : u_T) (N : Nat), vwCl[11]? = some (C, T, N) → (T 34).2.2.2 = true ∧ ∀ G : tp_G, ∃ ty, parseFieldDescriptor (T 34).2.2.1 = some ty ∧ narrow ty (tp_enc G (tp_zv 2 v)) = tp_enc G (tp_zv 2 v) ∧ fits ty (tp_enc G (tp_zv 2 v)) = true := by
  intro C T N h
  cases h
  refine ⟨rfl, fun G => ⟨_, tyX11_ok 34 (by decide), ?_⟩⟩
  show narrow _ (tp_ref G v) = tp_ref G v ∧ fits _ (tp_ref G v) = true
  rcases tp_refc G v with h | ⟨a, h⟩ <;> rw [h] <;> exact ⟨rfl, rfl⟩
theorem pd_11_35 (v : Int) : ∀ (C : String) (T : u_T) (N : Nat), vwCl[11]? = some (C, T, N) → (T 35).2.2.2 = true ∧ ∀ G : tp_G, ∃ ty, parseFieldDescriptor (T 35).2.2.1 = some ty ∧ narrow ty (tp_enc G (tp_zv 2 v)) = tp_enc G (tp_zv 2 v) ∧ fits ty (tp_enc G (tp_zv 2 v)) = true := by
  intro C T N h
  cases h
  refine ⟨rfl, fun G => ⟨_, tyX11_ok 35 (by decide), ?_⟩⟩
  show narrow _ (tp_ref G v) = tp_ref G v ∧ fits _ (tp_ref G v) = true
  rcases tp_refc G v with h | ⟨a, h⟩ <;> rw [h] <;> exact ⟨rfl, rfl⟩
theorem pd_11_36 (v : Int) : ∀ (C : String) (T : u_T) (N : Nat), vwCl[11]? = some (C, T, N) → (T 36).2.2.2 = true ∧ ∀ G : tp_G, ∃ ty, parseFieldDescriptor (T 36).2.2.1 = some ty ∧ narrow ty (tp_enc G (tp_zv 2 v)) = tp_enc G (tp_zv 2 v) ∧ fits ty (tp_enc G (tp_zv 2 v)) = true := by
  intro C T N h
  cases h
  refine ⟨rfl, fun G => ⟨_, tyX11_ok 36 (by decide), ?_⟩⟩
  show narrow _ (tp_ref G v) = tp_ref G v ∧ fits _ (tp_ref G v) = true
  rcases tp_refc G v with h | ⟨a, h⟩ <;> rw [h] <;> exact ⟨rfl, rfl⟩
theorem pd_11_37 (v : Int) : ∀ (C : String) (T : u_T) (N : Nat), vwCl[11]? = some (C, T, N) → (T 37).2.2.2 = true ∧ ∀ G : tp_G, ∃ ty, parseFieldDescriptor (T 37).2.2.1 = some ty ∧ narrow ty (tp_enc G (tp_zv 2 v)) = tp_enc G (tp_zv 2 v) ∧ fits ty (tp_enc G (tp_zv 2 v)) = true := by
  intro C T N h
  cases h
  refine ⟨rfl, fun G => ⟨_, tyX11_ok 37 (by decide), ?_⟩⟩
  show narrow _ (tp_ref G v) = tp_ref G v ∧ fits _ (tp_ref G v) = true
  rcases tp_refc G v with h | ⟨a, h⟩ <;> rw [h] <;> exact ⟨rfl, rfl⟩
theorem pd_11_38 (v : Int) : ∀ (C : String) (T : u_T) (N : Nat), vwCl[11]? = some (C, T, N) → (T 38).2.2.2 = true ∧ ∀ G : tp_G, ∃ ty, parseFieldDescriptor (T 38).2.2.1 = some ty ∧ narrow ty (tp_enc G (tp_zv 2 v)) = tp_enc G (tp_zv 2 v) ∧ fits ty (tp_enc G (tp_zv 2 v)) = true := by
  intro C T N h
  cases h
  refine ⟨rfl, fun G => ⟨_, tyX11_ok 38 (by decide), ?_⟩⟩
  show narrow _ (tp_ref G v) = tp_ref G v ∧ fits _ (tp_ref G v) = true
  rcases tp_refc G v with h | ⟨a, h⟩ <;> rw [h] <;> exact ⟨rfl, rfl⟩
theorem pd_11_39 (v : Int) : ∀ (C : String) (T : u_T) (N : Nat), vwCl[11]? = some (C, T, N) → (T 39).2.2.2 = true ∧ ∀ G : tp_G, ∃ ty, parseFieldDescriptor (T 39).2.2.1 = some ty ∧ narrow ty (tp_enc G (tp_zv 2 v)) = tp_enc G (tp_zv 2 v) ∧ fits ty (tp_enc G (tp_zv 2 v)) = true := by
  intro C T N h
  cases h
  refine ⟨rfl, fun G => ⟨_, tyX11_ok 39 (by decide), ?_⟩⟩
  show narrow _ (tp_ref G v) = tp_ref G v ∧ fits _ (tp_ref G v) = true
  rcases tp_refc G v with h | ⟨a, h⟩ <;> rw [h] <;> exact ⟨rfl, rfl⟩
theorem pd_11_40 (v : Int) : ∀ (C : String) (T : u_T) (N : Nat), vwCl[11]? = some (C, T, N) → (T 40).2.2.2 = true ∧ ∀ G : tp_G, ∃ ty, parseFieldDescriptor (T 40).2.2.1 = some ty ∧ narrow ty (tp_enc G (tp_zv 2 v)) = tp_enc G (tp_zv 2 v) ∧ fits ty (tp_enc G (tp_zv 2 v)) = true := by
  intro C T N h
  cases h
  refine ⟨rfl, fun G => ⟨_, tyX11_ok 40 (by decide), ?_⟩⟩
  show narrow _ (tp_ref G v) = tp_ref G v ∧ fits _ (tp_ref G v) = true
  rcases tp_refc G v with h | ⟨a, h⟩ <;> rw [h] <;> exact ⟨rfl, rfl⟩
theorem pd_11_41 (v : Int) : ∀ (C : String) (T : u_T) (N : Nat), vwCl[11]? = some (C, T, N) → (T 41).2.2.2 = true ∧ ∀ G : tp_G, ∃ ty, parseFieldDescriptor (T 41).2.2.1 = some ty ∧ narrow ty (tp_enc G (tp_zv 2 v)) = tp_enc G (tp_zv 2 v) ∧ fits ty (tp_enc G (tp_zv 2 v)) = true := by
  intro C T N h
  cases h
  refine ⟨rfl, fun G => ⟨_, tyX11_ok 41 (by decide), ?_⟩⟩
  show narrow _ (tp_ref G v) = tp_ref G v ∧ fits _ (tp_ref G v) = true
  rcases tp_refc G v with h | ⟨a, h⟩ <;> rw [h] <;> exact ⟨rfl, rfl⟩
theorem pd_11_42 (v : Int) : ∀ (C : String) (T : u_T) (N : Nat), vwCl[11]? = some (C, T, N) → (T 42).2.2.2 = true ∧ ∀ G : tp_G, ∃ ty, parseFieldDescriptor (T 42).2.2.1 = some ty ∧ narrow ty (tp_enc G (tp_zv 2 v)) = tp_enc G (tp_zv 2 v) ∧ fits ty (tp_enc G (tp_zv 2 v)) = true := by
  intro C T N h
  cases h
  refine ⟨rfl, fun G => ⟨_, tyX11_ok 42 (by decide), ?_⟩⟩
  show narrow _ (tp_ref G v) = tp_ref G v ∧ fits _ (tp_ref G v) = true
  rcases tp_refc G v with h | ⟨a, h⟩ <;> rw [h] <;> exact ⟨rfl, rfl⟩
theorem pd_11_43 (v : Int) : ∀ (C : String) (T : u_T) (N : Nat), vwCl[11]? = some (C, T, N) → (T 43).2.2.2 = true ∧ ∀ G : tp_G, ∃ ty, parseFieldDescriptor (T 43).2.2.1 = some ty ∧ narrow ty (tp_enc G (tp_zv 2 v)) = tp_enc G (tp_zv 2 v) ∧ fits ty (tp_enc G (tp_zv 2 v)) = true := by
  intro C T N h
  cases h
  refine ⟨rfl, fun G => ⟨_, tyX11_ok 43 (by decide), ?_⟩⟩
  show narrow _ (tp_ref G v) = tp_ref G v ∧ fits _ (tp_ref G v) = true
  rcases tp_refc G v with h | ⟨a, h⟩ <;> rw [h] <;> exact ⟨rfl, rfl⟩
theorem pd_11_44 (v : Int) : ∀ (C : String) (T : u_T) (N : Nat), vwCl[11]? = some (C, T, N) → (T 44).2.2.2 = true ∧ ∀ G : tp_G, ∃ ty, parseFieldDescriptor (T 44).2.2.1 = some ty ∧ narrow ty (tp_enc G (tp_zv 2 v)) = tp_enc G (tp_zv 2 v) ∧ fits ty (tp_enc G (tp_zv 2 v)) = true := by
  intro C T N h
  cases h
  refine ⟨rfl, fun G => ⟨_, tyX11_ok 44 (by decide), ?_⟩⟩
  show narrow _ (tp_ref G v) = tp_ref G v ∧ fits _ (tp_ref G v) = true
  rcases tp_refc G v with h | ⟨a, h⟩ <;> rw [h] <;> exact ⟨rfl, rfl⟩
theorem pd_11_45 (v : Int) : ∀ (C : String) (T : u_T) (N : Nat), vwCl[11]? = some (C, T, N) → (T 45).2.2.2 = true ∧ ∀ G : tp_G, ∃ ty, parseFieldDescriptor (T 45).2.2.1 = some ty ∧ narrow ty (tp_enc G (tp_zv 2 v)) = tp_enc G (tp_zv 2 v) ∧ fits ty (tp_enc G (tp_zv 2 v)) = true := by
  intro C T N h
  cases h
  refine ⟨rfl, fun G => ⟨_, tyX11_ok 45 (by decide), ?_⟩⟩
  show narrow _ (tp_ref G v) = tp_ref G v ∧ fits _ (tp_ref G v) = true
  rcases tp_refc G v with h | ⟨a, h⟩ <;> rw [h] <;> exact ⟨rfl, rfl⟩
theorem pd_11_46 (v : Int) : ∀ (C : String) (T : u_T) (N : Nat), vwCl[11]? = some (C, T, N) → (T 46).2.2.2 = true ∧ ∀ G : tp_G, ∃ ty, parseFieldDescriptor (T 46).2.2.1 = some ty ∧ narrow ty (tp_enc G (tp_zv 2 v)) = tp_enc G (tp_zv 2 v) ∧ fits ty (tp_enc G (tp_zv 2 v)) = true := by
  intro C T N h
  cases h
  refine ⟨rfl, fun G => ⟨_, tyX11_ok 46 (by decide), ?_⟩⟩
  show narrow _ (tp_ref G v) = tp_ref G v ∧ fits _ (tp_ref G v) = true
  rcases tp_refc G v with h | ⟨a, h⟩ <;> rw [h] <;> exact ⟨rfl, rfl⟩
theorem pd_11_47 (v : Int) : ∀ (C : String) (T : u_T) (N : Nat), vwCl[11]? = some (C, T, N) → (T 47).2.2.2 = true ∧ ∀ G : tp_G, ∃ ty, parseFieldDescriptor (T 47).2.2.1 = some ty ∧ narrow ty (tp_enc G (tp_zv 2 v)) = tp_enc G (tp_zv 2 v) ∧ fits ty (tp_enc G (tp_zv 2 v)) = true := by
  intro C T N h
  cases h
  refine ⟨rfl, fun G => ⟨_, tyX11_ok 47 (by decide), ?_⟩⟩
  show narrow _ (tp_ref G v) = tp_ref G v ∧ fits _ (tp_ref G v) = true
  rcases tp_refc G v with h | ⟨a, h⟩ <;> rw [h] <;> exact ⟨rfl, rfl⟩
theorem pd_11_48 (v : Int) : ∀ (C : String) (T : u_T) (N : Nat), vwCl[11]? = some (C, T, N) → (T 48).2.2.2 = true ∧ ∀ G : tp_G, ∃ ty, parseFieldDescriptor (T 48).2.2.1 = some ty ∧ narrow ty (tp_enc G (tp_zv 2 v)) = tp_enc G (tp_zv 2 v) ∧ fits ty (tp_enc G (tp_zv 2 v)) = true := by
  intro C T N h
  cases h
  refine ⟨rfl, fun G => ⟨_, tyX11_ok 48 (by decide), ?_⟩⟩
  show narrow _ (tp_ref G v) = tp_ref G v ∧ fits _ (tp_ref G v) = true
  rcases tp_refc G v with h | ⟨a, h⟩ <;> rw [h] <;> exact ⟨rfl, rfl⟩
theorem pd_11_50 (v : Int) : ∀ (C : String) (T : u_T) (N : Nat), vwCl[11]? = some (C, T, N) → (T 50).2.2.2 = true ∧ ∀ G : tp_G, ∃ ty, parseFieldDescriptor (T 50).2.2.1 = some ty ∧ narrow ty (tp_enc G (tp_zv 2 v)) = tp_enc G (tp_zv 2 v) ∧ fits ty (tp_enc G (tp_zv 2 v)) = true := by
  intro C T N h
  cases h
  refine ⟨rfl, fun G => ⟨_, tyX11_ok 50 (by decide), ?_⟩⟩
  show narrow _ (tp_ref G v) = tp_ref G v ∧ fits _ (tp_ref G v) = true
  rcases tp_refc G v with h | ⟨a, h⟩ <;> rw [h] <;> exact ⟨rfl, rfl⟩
theorem pd_11_51 (v : Int) : ∀ (C : String) (T : u_T) (N : Nat), vwCl[11]? = some (C, T, N) → (T 51).2.2.2 = true ∧ ∀ G : tp_G, ∃ ty, parseFieldDescriptor (T 51).2.2.1 = some ty ∧ narrow ty (tp_enc G (tp_zv 2 v)) = tp_enc G (tp_zv 2 v) ∧ fits ty (tp_enc G (tp_zv 2 v)) = true := by
  intro C T N h
  cases h
  refine ⟨rfl, fun G => ⟨_, tyX11_ok 51 (by decide), ?_⟩⟩
  show narrow _ (tp_ref G v) = tp_ref G v ∧ fits _ (tp_ref G v) = true
  rcases tp_refc G v with h | ⟨a, h⟩ <;> rw [h] <;> exact ⟨rfl, rfl⟩
theorem pd_11_52 (v : Int) : ∀ (C : String) (T : u_T) (N : Nat), vwCl[11]? = some (C, T, N) → (T 52).2.2.2 = true ∧ ∀ G : tp_G, ∃ ty, parseFieldDescriptor (T 52).2.2.1 = some ty ∧ narrow ty (tp_enc G (tp_zv 2 v)) = tp_enc G (tp_zv 2 v) ∧ fits ty (tp_enc G (tp_zv 2 v)) = true := by
  intro C T N h
  cases h
  refine ⟨rfl, fun G => ⟨_, tyX11_ok 52 (by decide), ?_⟩⟩
  show narrow _ (tp_ref G v) = tp_ref G v ∧ fits _ (tp_ref G v) = true
  rcases tp_refc G v with h | ⟨a, h⟩ <;> rw [h] <;> exact ⟨rfl, rfl⟩
theorem pd_11_53 (v : Int) : ∀ (C : String) (T : u_T) (N : Nat), vwCl[11]? = some (C, T, N) → (T 53).2.2.2 = true ∧ ∀ G : tp_G, ∃ ty, parseFieldDescriptor (T 53).2.2.1 = some ty ∧ narrow ty (tp_enc G (tp_zv 2 v)) = tp_enc G (tp_zv 2 v) ∧ fits ty (tp_enc G (tp_zv 2 v)) = true := by
  intro C T N h
  cases h
  refine ⟨rfl, fun G => ⟨_, tyX11_ok 53 (by decide), ?_⟩⟩
  show narrow _ (tp_ref G v) = tp_ref G v ∧ fits _ (tp_ref G v) = true
  rcases tp_refc G v with h | ⟨a, h⟩ <;> rw [h] <;> exact ⟨rfl, rfl⟩
theorem pd_11_54 (v : Int) : ∀ (C : String) (T : u_T) (N : Nat), vwCl[11]? = some (C, T, N) → (T 54).2.2.2 = true ∧ ∀ G : tp_G, ∃ ty, parseFieldDescriptor (T 54).2.2.1 = some ty ∧ narrow ty (tp_enc G (tp_zv 2 v)) = tp_enc G (tp_zv 2 v) ∧ fits ty (tp_enc G (tp_zv 2 v)) = true := by
  intro C T N h
  cases h
  refine ⟨rfl, fun G => ⟨_, tyX11_ok 54 (by decide), ?_⟩⟩
  show narrow _ (tp_ref G v) = tp_ref G v ∧ fits _ (tp_ref G v) = true
  rcases tp_refc G v with h | ⟨a, h⟩ <;> rw [h] <;> exact ⟨rfl, rfl⟩
theorem pd_11_55 (v : Int) : ∀ (C : String) (T : u_T) (N : Nat), vwCl[11]? = some (C, T, N) → (T 55).2.2.2 = true ∧ ∀ G : tp_G, ∃ ty, parseFieldDescriptor (T 55).2.2.1 = some ty ∧ narrow ty (tp_enc G (tp_zv 2 v)) = tp_enc G (tp_zv 2 v) ∧ fits ty (tp_enc G (tp_zv 2 v)) = true := by
  intro C T N h
  cases h
  refine ⟨rfl, fun G => ⟨_, tyX11_ok 55 (by decide), ?_⟩⟩
  show narrow _ (tp_ref G v) = tp_ref G v ∧ fits _ (tp_ref G v) = true
  rcases tp_refc G v with h | ⟨a, h⟩ <;> rw [h] <;> exact ⟨rfl, rfl⟩
theorem pd_11_57 (v : Int) : ∀ (C : String) (T : u_T) (N : Nat), vwCl[11]? = some (C, T, N) → (T 57).2.2.2 = true ∧ ∀ G : tp_G, ∃ ty, parseFieldDescriptor (T 57).2.2.1 = some ty ∧ narrow ty (tp_enc G (tp_zv 2 v)) = tp_enc G (tp_zv 2 v) ∧ fits ty (tp_enc G (tp_zv 2 v)) = true := by
  intro C T N h
  cases h
  refine ⟨rfl, fun G => ⟨_, tyX11_ok 57 (by decide), ?_⟩⟩
  show narrow _ (tp_ref G v) = tp_ref G v ∧ fits _ (tp_ref G v) = true
  rcases tp_refc G v with h | ⟨a, h⟩ <;> rw [h] <;> exact ⟨rfl, rfl⟩
theorem pd_11_58 (v : Int) : ∀ (C : String) (T : u_T) (N : Nat), vwCl[11]? = some (C, T, N) → (T 58).2.2.2 = true ∧ ∀ G : tp_G, ∃ ty, parseFieldDescriptor (T 58).2.2.1 = some ty ∧ narrow ty (tp_enc G (tp_zv 2 v)) = tp_enc G (tp_zv 2 v) ∧ fits ty (tp_enc G (tp_zv 2 v)) = true := by
  intro C T N h
  cases h
  refine ⟨rfl, fun G => ⟨_, tyX11_ok 58 (by decide), ?_⟩⟩
  show narrow _ (tp_ref G v) = tp_ref G v ∧ fits _ (tp_ref G v) = true
  rcases tp_refc G v with h | ⟨a, h⟩ <;> rw [h] <;> exact ⟨rfl, rfl⟩
theorem pd_11_59 (v : Int) : ∀ (C : String) (T : u_T) (N : Nat), vwCl[11]? = some (C, T, N) → (T 59).2.2.2 = true ∧ ∀ G : tp_G, ∃ ty, parseFieldDescriptor (T 59).2.2.1 = some ty ∧ narrow ty (tp_enc G (tp_zv 2 v)) = tp_enc G (tp_zv 2 v) ∧ fits ty (tp_enc G (tp_zv 2 v)) = true := by
  intro C T N h
  cases h
  refine ⟨rfl, fun G => ⟨_, tyX11_ok 59 (by decide), ?_⟩⟩
  show narrow _ (tp_ref G v) = tp_ref G v ∧ fits _ (tp_ref G v) = true
  rcases tp_refc G v with h | ⟨a, h⟩ <;> rw [h] <;> exact ⟨rfl, rfl⟩
theorem pd_11_60 (v : Int) : ∀ (C : String) (T : u_T) (N : Nat), vwCl[11]? = some (C, T, N) → (T 60).2.2.2 = true ∧ ∀ G : tp_G, ∃ ty, parseFieldDescriptor (T 60).2.2.1 = some ty ∧ narrow ty (tp_enc G (tp_zv 2 v)) = tp_enc G (tp_zv 2 v) ∧ fits ty (tp_enc G (tp_zv 2 v)) = true := by
  intro C T N h
  cases h
  refine ⟨rfl, fun G => ⟨_, tyX11_ok 60 (by decide), ?_⟩⟩
  show narrow _ (tp_ref G v) = tp_ref G v ∧ fits _ (tp_ref G v) = true
  rcases tp_refc G v with h | ⟨a, h⟩ <;> rw [h] <;> exact ⟨rfl, rfl⟩
theorem pd_11_62 (v : Int) : ∀ (C : String) (T : u_T) (N : Nat), vwCl[11]? = some (C, T, N) → (T 62).2.2.2 = true ∧ ∀ G : tp_G, ∃ ty, parseFieldDescriptor (T 62).2.2.1 = some ty ∧ narrow ty (tp_enc G (tp_zv 2 v)) = tp_enc G (tp_zv 2 v) ∧ fits ty (tp_enc G (tp_zv 2 v)) = true := by
  intro C T N h
  cases h
  refine ⟨rfl, fun G => ⟨_, tyX11_ok 62 (by decide), ?_⟩⟩
  show narrow _ (tp_ref G v) = tp_ref G v ∧ fits _ (tp_ref G v) = true
  rcases tp_refc G v with h | ⟨a, h⟩ <;> rw [h] <;> exact ⟨rfl, rfl⟩
theorem pd_11_64 (v : Int) : ∀ (C : String) (T : u_T) (N : Nat), vwCl[11]? = some (C, T, N) → (T 64).2.2.2 = true ∧ ∀ G : tp_G, ∃ ty, parseFieldDescriptor (T 64).2.2.1 = some ty ∧ narrow ty (tp_enc G (tp_zv 2 v)) = tp_enc G (tp_zv 2 v) ∧ fits ty (tp_enc G (tp_zv 2 v)) = true := by
  intro C T N h
  cases h
  refine ⟨rfl, fun G => ⟨_, tyX11_ok 64 (by decide), ?_⟩⟩
  show narrow _ (tp_ref G v) = tp_ref G v ∧ fits _ (tp_ref G v) = true
  rcases tp_refc G v with h | ⟨a, h⟩ <;> rw [h] <;> exact ⟨rfl, rfl⟩
theorem pd_11_65 (v : Int) : ∀ (C : String) (T : u_T) (N : Nat), vwCl[11]? = some (C, T, N) → (T 65).2.2.2 = true ∧ ∀ G : tp_G, ∃ ty, parseFieldDescriptor (T 65).2.2.1 = some ty ∧ narrow ty (tp_enc G (tp_zv 2 v)) = tp_enc G (tp_zv 2 v) ∧ fits ty (tp_enc G (tp_zv 2 v)) = true := by
  intro C T N h
  cases h
  refine ⟨rfl, fun G => ⟨_, tyX11_ok 65 (by decide), ?_⟩⟩
  show narrow _ (tp_ref G v) = tp_ref G v ∧ fits _ (tp_ref G v) = true
  rcases tp_refc G v with h | ⟨a, h⟩ <;> rw [h] <;> exact ⟨rfl, rfl⟩
theorem pd_11_66 (v : Int) : ∀ (C : String) (T : u_T) (N : Nat), vwCl[11]? = some (C, T, N) → (T 66).2.2.2 = true ∧ ∀ G : tp_G, ∃ ty, parseFieldDescriptor (T 66).2.2.1 = some ty ∧ narrow ty (tp_enc G (tp_zv 2 v)) = tp_enc G (tp_zv 2 v) ∧ fits ty (tp_enc G (tp_zv 2 v)) = true := by
  intro C T N h
  cases h
  refine ⟨rfl, fun G => ⟨_, tyX11_ok 66 (by decide), ?_⟩⟩
  show narrow _ (tp_ref G v) = tp_ref G v ∧ fits _ (tp_ref G v) = true
  rcases tp_refc G v with h | ⟨a, h⟩ <;> rw [h] <;> exact ⟨rfl, rfl⟩
def y_X11_init : MethodName := ⟨"TypesAtPrimeModel", "<init>", "()V"⟩
abbrev i_X11_init : tp_I := (prog_13_method_1_code, "TypesAtPrimeModel", none, 1, "<init>")
theorem d_X11_init_0 : decode prog_13_method_1_code 0 = .ok (.aload_n 0, 1) := by decide +kernel
theorem d_X11_init_1 : decode prog_13_method_1_code 1 = .ok (.invokespecial 1, 3) := by decide +kernel
theorem d_X11_init_4 : decode prog_13_method_1_code 4 = .ok (.aload_n 0, 1) := by decide +kernel
theorem d_X11_init_5 : decode prog_13_method_1_code 5 = .ok (.bipush 45, 2) := by decide +kernel
theorem d_X11_init_7 : decode prog_13_method_1_code 7 = .ok (.newarray .int, 2) := by decide +kernel
theorem d_X11_init_9 : decode prog_13_method_1_code 9 = .ok (.putfield 7, 3) := by decide +kernel
theorem d_X11_init_12 : decode prog_13_method_1_code 12 = .ok (.aload_n 0, 1) := by decide +kernel
theorem d_X11_init_13 : decode prog_13_method_1_code 13 = .ok (.bipush 80, 2) := by decide +kernel
theorem d_X11_init_15 : decode prog_13_method_1_code 15 = .ok (.newarray .int, 2) := by decide +kernel
theorem d_X11_init_17 : decode prog_13_method_1_code 17 = .ok (.putfield 13, 3) := by decide +kernel
theorem d_X11_init_20 : decode prog_13_method_1_code 20 = .ok (.aload_n 0, 1) := by decide +kernel
theorem d_X11_init_21 : decode prog_13_method_1_code 21 = .ok (.bipush 9, 2) := by decide +kernel
theorem d_X11_init_23 : decode prog_13_method_1_code 23 = .ok (.newarray .long, 2) := by decide +kernel
theorem d_X11_init_25 : decode prog_13_method_1_code 25 = .ok (.putfield 16, 3) := by decide +kernel
theorem d_X11_init_28 : decode prog_13_method_1_code 28 = .ok (.aload_n 0, 1) := by decide +kernel
theorem d_X11_init_29 : decode prog_13_method_1_code 29 = .ok (.bipush 24, 2) := by decide +kernel
theorem d_X11_init_31 : decode prog_13_method_1_code 31 = .ok (.newarray .long, 2) := by decide +kernel
theorem d_X11_init_33 : decode prog_13_method_1_code 33 = .ok (.putfield 20, 3) := by decide +kernel
theorem d_X11_init_36 : decode prog_13_method_1_code 36 = .ok (.aload_n 0, 1) := by decide +kernel
theorem d_X11_init_37 : decode prog_13_method_1_code 37 = .ok (.sipush 369, 3) := by decide +kernel
theorem d_X11_init_40 : decode prog_13_method_1_code 40 = .ok (.newarray .long, 2) := by decide +kernel
theorem d_X11_init_42 : decode prog_13_method_1_code 42 = .ok (.putfield 23, 3) := by decide +kernel
theorem d_X11_init_45 : decode prog_13_method_1_code 45 = .ok (.aload_n 0, 1) := by decide +kernel
theorem d_X11_init_46 : decode prog_13_method_1_code 46 = .ok (.bipush 9, 2) := by decide +kernel
theorem d_X11_init_48 : decode prog_13_method_1_code 48 = .ok (.newarray .int, 2) := by decide +kernel
theorem d_X11_init_50 : decode prog_13_method_1_code 50 = .ok (.putfield 26, 3) := by decide +kernel
theorem d_X11_init_53 : decode prog_13_method_1_code 53 = .ok (.aload_n 0, 1) := by decide +kernel
theorem d_X11_init_54 : decode prog_13_method_1_code 54 = .ok (.bipush 9, 2) := by decide +kernel
theorem d_X11_init_56 : decode prog_13_method_1_code 56 = .ok (.newarray .int, 2) := by decide +kernel
theorem d_X11_init_58 : decode prog_13_method_1_code 58 = .ok (.putfield 29, 3) := by decide +kernel
theorem d_X11_init_61 : decode prog_13_method_1_code 61 = .ok (.aload_n 0, 1) := by decide +kernel
theorem d_X11_init_62 : decode prog_13_method_1_code 62 = .ok (.bipush 9, 2) := by decide +kernel
theorem d_X11_init_64 : decode prog_13_method_1_code 64 = .ok (.newarray .int, 2) := by decide +kernel
theorem d_X11_init_66 : decode prog_13_method_1_code 66 = .ok (.putfield 32, 3) := by decide +kernel
theorem d_X11_init_69 : decode prog_13_method_1_code 69 = .ok (.aload_n 0, 1) := by decide +kernel
theorem d_X11_init_70 : decode prog_13_method_1_code 70 = .ok (.bipush 81, 2) := by decide +kernel
theorem d_X11_init_72 : decode prog_13_method_1_code 72 = .ok (.newarray .int, 2) := by decide +kernel
theorem d_X11_init_74 : decode prog_13_method_1_code 74 = .ok (.putfield 35, 3) := by decide +kernel
theorem d_X11_init_77 : decode prog_13_method_1_code 77 = .ok (.aload_n 0, 1) := by decide +kernel
theorem d_X11_init_78 : decode prog_13_method_1_code 78 = .ok (.bipush 9, 2) := by decide +kernel
theorem d_X11_init_80 : decode prog_13_method_1_code 80 = .ok (.newarray .int, 2) := by decide +kernel
theorem d_X11_init_82 : decode prog_13_method_1_code 82 = .ok (.putfield 38, 3) := by decide +kernel
theorem d_X11_init_85 : decode prog_13_method_1_code 85 = .ok (.aload_n 0, 1) := by decide +kernel
theorem d_X11_init_86 : decode prog_13_method_1_code 86 = .ok (.bipush 9, 2) := by decide +kernel
theorem d_X11_init_88 : decode prog_13_method_1_code 88 = .ok (.newarray .int, 2) := by decide +kernel
theorem d_X11_init_90 : decode prog_13_method_1_code 90 = .ok (.putfield 41, 3) := by decide +kernel
theorem d_X11_init_93 : decode prog_13_method_1_code 93 = .ok (.aload_n 0, 1) := by decide +kernel
theorem d_X11_init_94 : decode prog_13_method_1_code 94 = .ok (.bipush 9, 2) := by decide +kernel
theorem d_X11_init_96 : decode prog_13_method_1_code 96 = .ok (.newarray .long, 2) := by decide +kernel
theorem d_X11_init_98 : decode prog_13_method_1_code 98 = .ok (.putfield 44, 3) := by decide +kernel
theorem d_X11_init_101 : decode prog_13_method_1_code 101 = .ok (.aload_n 0, 1) := by decide +kernel
theorem d_X11_init_102 : decode prog_13_method_1_code 102 = .ok (.bipush 40, 2) := by decide +kernel
theorem d_X11_init_104 : decode prog_13_method_1_code 104 = .ok (.newarray .int, 2) := by decide +kernel
theorem d_X11_init_106 : decode prog_13_method_1_code 106 = .ok (.putfield 47, 3) := by decide +kernel
theorem d_X11_init_109 : decode prog_13_method_1_code 109 = .ok (.aload_n 0, 1) := by decide +kernel
theorem d_X11_init_110 : decode prog_13_method_1_code 110 = .ok (.bipush 40, 2) := by decide +kernel
theorem d_X11_init_112 : decode prog_13_method_1_code 112 = .ok (.newarray .int, 2) := by decide +kernel
theorem d_X11_init_114 : decode prog_13_method_1_code 114 = .ok (.putfield 50, 3) := by decide +kernel
theorem d_X11_init_117 : decode prog_13_method_1_code 117 = .ok (.aload_n 0, 1) := by decide +kernel
theorem d_X11_init_118 : decode prog_13_method_1_code 118 = .ok (.bipush 40, 2) := by decide +kernel
theorem d_X11_init_120 : decode prog_13_method_1_code 120 = .ok (.newarray .int, 2) := by decide +kernel
theorem d_X11_init_122 : decode prog_13_method_1_code 122 = .ok (.putfield 53, 3) := by decide +kernel
theorem d_X11_init_125 : decode prog_13_method_1_code 125 = .ok (.aload_n 0, 1) := by decide +kernel
theorem d_X11_init_126 : decode prog_13_method_1_code 126 = .ok (.bipush 40, 2) := by decide +kernel
theorem d_X11_init_128 : decode prog_13_method_1_code 128 = .ok (.newarray .int, 2) := by decide +kernel
theorem d_X11_init_130 : decode prog_13_method_1_code 130 = .ok (.putfield 56, 3) := by decide +kernel
theorem d_X11_init_133 : decode prog_13_method_1_code 133 = .ok (.aload_n 0, 1) := by decide +kernel
theorem d_X11_init_134 : decode prog_13_method_1_code 134 = .ok (.bipush 40, 2) := by decide +kernel
theorem d_X11_init_136 : decode prog_13_method_1_code 136 = .ok (.newarray .int, 2) := by decide +kernel
theorem d_X11_init_138 : decode prog_13_method_1_code 138 = .ok (.putfield 59, 3) := by decide +kernel
theorem d_X11_init_141 : decode prog_13_method_1_code 141 = .ok (.aload_n 0, 1) := by decide +kernel
theorem d_X11_init_142 : decode prog_13_method_1_code 142 = .ok (.bipush 40, 2) := by decide +kernel
theorem d_X11_init_144 : decode prog_13_method_1_code 144 = .ok (.newarray .int, 2) := by decide +kernel
theorem d_X11_init_146 : decode prog_13_method_1_code 146 = .ok (.putfield 62, 3) := by decide +kernel
theorem d_X11_init_149 : decode prog_13_method_1_code 149 = .ok (.aload_n 0, 1) := by decide +kernel
theorem d_X11_init_150 : decode prog_13_method_1_code 150 = .ok (.bipush 40, 2) := by decide +kernel
theorem d_X11_init_152 : decode prog_13_method_1_code 152 = .ok (.newarray .int, 2) := by decide +kernel
theorem d_X11_init_154 : decode prog_13_method_1_code 154 = .ok (.putfield 65, 3) := by decide +kernel
theorem d_X11_init_157 : decode prog_13_method_1_code 157 = .ok (.aload_n 0, 1) := by decide +kernel
theorem d_X11_init_158 : decode prog_13_method_1_code 158 = .ok (.sipush 360, 3) := by decide +kernel
theorem d_X11_init_161 : decode prog_13_method_1_code 161 = .ok (.newarray .int, 2) := by decide +kernel
theorem d_X11_init_163 : decode prog_13_method_1_code 163 = .ok (.putfield 68, 3) := by decide +kernel
theorem d_X11_init_166 : decode prog_13_method_1_code 166 = .ok (.aload_n 0, 1) := by decide +kernel
theorem d_X11_init_167 : decode prog_13_method_1_code 167 = .ok (.bipush 40, 2) := by decide +kernel
theorem d_X11_init_169 : decode prog_13_method_1_code 169 = .ok (.newarray .int, 2) := by decide +kernel
theorem d_X11_init_171 : decode prog_13_method_1_code 171 = .ok (.putfield 71, 3) := by decide +kernel
theorem d_X11_init_174 : decode prog_13_method_1_code 174 = .ok (.aload_n 0, 1) := by decide +kernel
theorem d_X11_init_175 : decode prog_13_method_1_code 175 = .ok (.bipush 40, 2) := by decide +kernel
theorem d_X11_init_177 : decode prog_13_method_1_code 177 = .ok (.newarray .int, 2) := by decide +kernel
theorem d_X11_init_179 : decode prog_13_method_1_code 179 = .ok (.putfield 74, 3) := by decide +kernel
theorem d_X11_init_182 : decode prog_13_method_1_code 182 = .ok (.aload_n 0, 1) := by decide +kernel
theorem d_X11_init_183 : decode prog_13_method_1_code 183 = .ok (.bipush 40, 2) := by decide +kernel
theorem d_X11_init_185 : decode prog_13_method_1_code 185 = .ok (.newarray .int, 2) := by decide +kernel
theorem d_X11_init_187 : decode prog_13_method_1_code 187 = .ok (.putfield 77, 3) := by decide +kernel
theorem d_X11_init_190 : decode prog_13_method_1_code 190 = .ok (.aload_n 0, 1) := by decide +kernel
theorem d_X11_init_191 : decode prog_13_method_1_code 191 = .ok (.sipush 280, 3) := by decide +kernel
theorem d_X11_init_194 : decode prog_13_method_1_code 194 = .ok (.newarray .int, 2) := by decide +kernel
theorem d_X11_init_196 : decode prog_13_method_1_code 196 = .ok (.putfield 80, 3) := by decide +kernel
theorem d_X11_init_199 : decode prog_13_method_1_code 199 = .ok (.aload_n 0, 1) := by decide +kernel
theorem d_X11_init_200 : decode prog_13_method_1_code 200 = .ok (.bipush 64, 2) := by decide +kernel
theorem d_X11_init_202 : decode prog_13_method_1_code 202 = .ok (.newarray .int, 2) := by decide +kernel
theorem d_X11_init_204 : decode prog_13_method_1_code 204 = .ok (.putfield 83, 3) := by decide +kernel
theorem d_X11_init_207 : decode prog_13_method_1_code 207 = .ok (.aload_n 0, 1) := by decide +kernel
theorem d_X11_init_208 : decode prog_13_method_1_code 208 = .ok (.bipush 64, 2) := by decide +kernel
theorem d_X11_init_210 : decode prog_13_method_1_code 210 = .ok (.newarray .int, 2) := by decide +kernel
theorem d_X11_init_212 : decode prog_13_method_1_code 212 = .ok (.putfield 86, 3) := by decide +kernel
theorem d_X11_init_215 : decode prog_13_method_1_code 215 = .ok (.aload_n 0, 1) := by decide +kernel
theorem d_X11_init_216 : decode prog_13_method_1_code 216 = .ok (.bipush 64, 2) := by decide +kernel
theorem d_X11_init_218 : decode prog_13_method_1_code 218 = .ok (.newarray .int, 2) := by decide +kernel
theorem d_X11_init_220 : decode prog_13_method_1_code 220 = .ok (.putfield 89, 3) := by decide +kernel
theorem d_X11_init_223 : decode prog_13_method_1_code 223 = .ok (.aload_n 0, 1) := by decide +kernel
theorem d_X11_init_224 : decode prog_13_method_1_code 224 = .ok (.bipush 64, 2) := by decide +kernel
theorem d_X11_init_226 : decode prog_13_method_1_code 226 = .ok (.newarray .int, 2) := by decide +kernel
theorem d_X11_init_228 : decode prog_13_method_1_code 228 = .ok (.putfield 92, 3) := by decide +kernel
theorem d_X11_init_231 : decode prog_13_method_1_code 231 = .ok (.aload_n 0, 1) := by decide +kernel
theorem d_X11_init_232 : decode prog_13_method_1_code 232 = .ok (.bipush 64, 2) := by decide +kernel
theorem d_X11_init_234 : decode prog_13_method_1_code 234 = .ok (.newarray .int, 2) := by decide +kernel
theorem d_X11_init_236 : decode prog_13_method_1_code 236 = .ok (.putfield 95, 3) := by decide +kernel
theorem d_X11_init_239 : decode prog_13_method_1_code 239 = .ok (.aload_n 0, 1) := by decide +kernel
theorem d_X11_init_240 : decode prog_13_method_1_code 240 = .ok (.bipush 64, 2) := by decide +kernel
theorem d_X11_init_242 : decode prog_13_method_1_code 242 = .ok (.newarray .int, 2) := by decide +kernel
theorem d_X11_init_244 : decode prog_13_method_1_code 244 = .ok (.putfield 98, 3) := by decide +kernel
theorem d_X11_init_247 : decode prog_13_method_1_code 247 = .ok (.aload_n 0, 1) := by decide +kernel
theorem d_X11_init_248 : decode prog_13_method_1_code 248 = .ok (.sipush 448, 3) := by decide +kernel
theorem d_X11_init_251 : decode prog_13_method_1_code 251 = .ok (.newarray .int, 2) := by decide +kernel
theorem d_X11_init_253 : decode prog_13_method_1_code 253 = .ok (.putfield 101, 3) := by decide +kernel
theorem d_X11_init_256 : decode prog_13_method_1_code 256 = .ok (.aload_n 0, 1) := by decide +kernel
theorem d_X11_init_257 : decode prog_13_method_1_code 257 = .ok (.sipush 576, 3) := by decide +kernel
theorem d_X11_init_260 : decode prog_13_method_1_code 260 = .ok (.newarray .int, 2) := by decide +kernel
theorem d_X11_init_262 : decode prog_13_method_1_code 262 = .ok (.putfield 104, 3) := by decide +kernel
theorem d_X11_init_265 : decode prog_13_method_1_code 265 = .ok (.aload_n 0, 1) := by decide +kernel
theorem d_X11_init_266 : decode prog_13_method_1_code 266 = .ok (.bipush 20, 2) := by decide +kernel
theorem d_X11_init_268 : decode prog_13_method_1_code 268 = .ok (.newarray .int, 2) := by decide +kernel
theorem d_X11_init_270 : decode prog_13_method_1_code 270 = .ok (.putfield 107, 3) := by decide +kernel
theorem d_X11_init_273 : decode prog_13_method_1_code 273 = .ok (.aload_n 0, 1) := by decide +kernel
theorem d_X11_init_274 : decode prog_13_method_1_code 274 = .ok (.bipush 20, 2) := by decide +kernel
theorem d_X11_init_276 : decode prog_13_method_1_code 276 = .ok (.newarray .int, 2) := by decide +kernel
theorem d_X11_init_278 : decode prog_13_method_1_code 278 = .ok (.putfield 110, 3) := by decide +kernel
theorem d_X11_init_281 : decode prog_13_method_1_code 281 = .ok (.aload_n 0, 1) := by decide +kernel
theorem d_X11_init_282 : decode prog_13_method_1_code 282 = .ok (.bipush 20, 2) := by decide +kernel
theorem d_X11_init_284 : decode prog_13_method_1_code 284 = .ok (.newarray .int, 2) := by decide +kernel
theorem d_X11_init_286 : decode prog_13_method_1_code 286 = .ok (.putfield 113, 3) := by decide +kernel
theorem d_X11_init_289 : decode prog_13_method_1_code 289 = .ok (.aload_n 0, 1) := by decide +kernel
theorem d_X11_init_290 : decode prog_13_method_1_code 290 = .ok (.bipush 20, 2) := by decide +kernel
theorem d_X11_init_292 : decode prog_13_method_1_code 292 = .ok (.newarray .int, 2) := by decide +kernel
theorem d_X11_init_294 : decode prog_13_method_1_code 294 = .ok (.putfield 116, 3) := by decide +kernel
theorem d_X11_init_297 : decode prog_13_method_1_code 297 = .ok (.aload_n 0, 1) := by decide +kernel
theorem d_X11_init_298 : decode prog_13_method_1_code 298 = .ok (.bipush 20, 2) := by decide +kernel
theorem d_X11_init_300 : decode prog_13_method_1_code 300 = .ok (.newarray .int, 2) := by decide +kernel
theorem d_X11_init_302 : decode prog_13_method_1_code 302 = .ok (.putfield 119, 3) := by decide +kernel
theorem d_X11_init_305 : decode prog_13_method_1_code 305 = .ok (.aload_n 0, 1) := by decide +kernel
theorem d_X11_init_306 : decode prog_13_method_1_code 306 = .ok (.bipush 8, 2) := by decide +kernel
theorem d_X11_init_308 : decode prog_13_method_1_code 308 = .ok (.newarray .int, 2) := by decide +kernel
theorem d_X11_init_310 : decode prog_13_method_1_code 310 = .ok (.putfield 122, 3) := by decide +kernel
theorem d_X11_init_313 : decode prog_13_method_1_code 313 = .ok (.aload_n 0, 1) := by decide +kernel
theorem d_X11_init_314 : decode prog_13_method_1_code 314 = .ok (.bipush 8, 2) := by decide +kernel
theorem d_X11_init_316 : decode prog_13_method_1_code 316 = .ok (.newarray .int, 2) := by decide +kernel
theorem d_X11_init_318 : decode prog_13_method_1_code 318 = .ok (.putfield 125, 3) := by decide +kernel
theorem d_X11_init_321 : decode prog_13_method_1_code 321 = .ok (.aload_n 0, 1) := by decide +kernel
theorem d_X11_init_322 : decode prog_13_method_1_code 322 = .ok (.bipush 8, 2) := by decide +kernel
theorem d_X11_init_324 : decode prog_13_method_1_code 324 = .ok (.newarray .int, 2) := by decide +kernel
theorem d_X11_init_326 : decode prog_13_method_1_code 326 = .ok (.putfield 128, 3) := by decide +kernel
theorem d_X11_init_329 : decode prog_13_method_1_code 329 = .ok (.aload_n 0, 1) := by decide +kernel
theorem d_X11_init_330 : decode prog_13_method_1_code 330 = .ok (.bipush 8, 2) := by decide +kernel
theorem d_X11_init_332 : decode prog_13_method_1_code 332 = .ok (.newarray .int, 2) := by decide +kernel
theorem d_X11_init_334 : decode prog_13_method_1_code 334 = .ok (.putfield 131, 3) := by decide +kernel
theorem d_X11_init_337 : decode prog_13_method_1_code 337 = .ok (.aload_n 0, 1) := by decide +kernel
theorem d_X11_init_338 : decode prog_13_method_1_code 338 = .ok (.bipush 8, 2) := by decide +kernel
theorem d_X11_init_340 : decode prog_13_method_1_code 340 = .ok (.newarray .int, 2) := by decide +kernel
theorem d_X11_init_342 : decode prog_13_method_1_code 342 = .ok (.putfield 134, 3) := by decide +kernel
theorem d_X11_init_345 : decode prog_13_method_1_code 345 = .ok (.aload_n 0, 1) := by decide +kernel
theorem d_X11_init_346 : decode prog_13_method_1_code 346 = .ok (.bipush 7, 2) := by decide +kernel
theorem d_X11_init_348 : decode prog_13_method_1_code 348 = .ok (.newarray .int, 2) := by decide +kernel
theorem d_X11_init_350 : decode prog_13_method_1_code 350 = .ok (.putfield 137, 3) := by decide +kernel
theorem d_X11_init_353 : decode prog_13_method_1_code 353 = .ok (.aload_n 0, 1) := by decide +kernel
theorem d_X11_init_354 : decode prog_13_method_1_code 354 = .ok (.bipush 9, 2) := by decide +kernel
theorem d_X11_init_356 : decode prog_13_method_1_code 356 = .ok (.newarray .long, 2) := by decide +kernel
theorem d_X11_init_358 : decode prog_13_method_1_code 358 = .ok (.putfield 140, 3) := by decide +kernel
theorem d_X11_init_361 : decode prog_13_method_1_code 361 = .ok (.aload_n 0, 1) := by decide +kernel
theorem d_X11_init_362 : decode prog_13_method_1_code 362 = .ok (.bipush 8, 2) := by decide +kernel
theorem d_X11_init_364 : decode prog_13_method_1_code 364 = .ok (.newarray .int, 2) := by decide +kernel
theorem d_X11_init_366 : decode prog_13_method_1_code 366 = .ok (.putfield 143, 3) := by decide +kernel
theorem d_X11_init_369 : decode prog_13_method_1_code 369 = .ok (.aload_n 0, 1) := by decide +kernel
theorem d_X11_init_370 : decode prog_13_method_1_code 370 = .ok (.bipush 8, 2) := by decide +kernel
theorem d_X11_init_372 : decode prog_13_method_1_code 372 = .ok (.newarray .int, 2) := by decide +kernel
theorem d_X11_init_374 : decode prog_13_method_1_code 374 = .ok (.putfield 146, 3) := by decide +kernel
theorem d_X11_init_377 : decode prog_13_method_1_code 377 = .ok (.aload_n 0, 1) := by decide +kernel
theorem d_X11_init_378 : decode prog_13_method_1_code 378 = .ok (.bipush 8, 2) := by decide +kernel
theorem d_X11_init_380 : decode prog_13_method_1_code 380 = .ok (.newarray .int, 2) := by decide +kernel
theorem d_X11_init_382 : decode prog_13_method_1_code 382 = .ok (.putfield 149, 3) := by decide +kernel
theorem d_X11_init_385 : decode prog_13_method_1_code 385 = .ok (.aload_n 0, 1) := by decide +kernel
theorem d_X11_init_386 : decode prog_13_method_1_code 386 = .ok (.sipush 160, 3) := by decide +kernel
theorem d_X11_init_389 : decode prog_13_method_1_code 389 = .ok (.newarray .int, 2) := by decide +kernel
theorem d_X11_init_391 : decode prog_13_method_1_code 391 = .ok (.putfield 152, 3) := by decide +kernel
theorem d_X11_init_394 : decode prog_13_method_1_code 394 = .ok (.aload_n 0, 1) := by decide +kernel
theorem d_X11_init_395 : decode prog_13_method_1_code 395 = .ok (.iconst 4, 1) := by decide +kernel
theorem d_X11_init_396 : decode prog_13_method_1_code 396 = .ok (.newarray .int, 2) := by decide +kernel
theorem d_X11_init_398 : decode prog_13_method_1_code 398 = .ok (.dup, 1) := by decide +kernel
theorem d_X11_init_399 : decode prog_13_method_1_code 399 = .ok (.iconst 0, 1) := by decide +kernel
theorem d_X11_init_400 : decode prog_13_method_1_code 400 = .ok (.iconst (-1), 1) := by decide +kernel
theorem d_X11_init_401 : decode prog_13_method_1_code 401 = .ok (.iastore, 1) := by decide +kernel
theorem d_X11_init_402 : decode prog_13_method_1_code 402 = .ok (.dup, 1) := by decide +kernel
theorem d_X11_init_403 : decode prog_13_method_1_code 403 = .ok (.iconst 1, 1) := by decide +kernel
theorem d_X11_init_404 : decode prog_13_method_1_code 404 = .ok (.iconst (-1), 1) := by decide +kernel
theorem d_X11_init_405 : decode prog_13_method_1_code 405 = .ok (.iastore, 1) := by decide +kernel
theorem d_X11_init_406 : decode prog_13_method_1_code 406 = .ok (.dup, 1) := by decide +kernel
theorem d_X11_init_407 : decode prog_13_method_1_code 407 = .ok (.iconst 2, 1) := by decide +kernel
theorem d_X11_init_408 : decode prog_13_method_1_code 408 = .ok (.iconst (-1), 1) := by decide +kernel
theorem d_X11_init_409 : decode prog_13_method_1_code 409 = .ok (.iastore, 1) := by decide +kernel
theorem d_X11_init_410 : decode prog_13_method_1_code 410 = .ok (.dup, 1) := by decide +kernel
theorem d_X11_init_411 : decode prog_13_method_1_code 411 = .ok (.iconst 3, 1) := by decide +kernel
theorem d_X11_init_412 : decode prog_13_method_1_code 412 = .ok (.iconst (-1), 1) := by decide +kernel
theorem d_X11_init_413 : decode prog_13_method_1_code 413 = .ok (.iastore, 1) := by decide +kernel
theorem d_X11_init_414 : decode prog_13_method_1_code 414 = .ok (.putfield 155, 3) := by decide +kernel
theorem d_X11_init_417 : decode prog_13_method_1_code 417 = .ok (.aload_n 0, 1) := by decide +kernel
theorem d_X11_init_418 : decode prog_13_method_1_code 418 = .ok (.iconst 4, 1) := by decide +kernel
theorem d_X11_init_419 : decode prog_13_method_1_code 419 = .ok (.newarray .int, 2) := by decide +kernel
theorem d_X11_init_421 : decode prog_13_method_1_code 421 = .ok (.putfield 158, 3) := by decide +kernel
theorem d_X11_init_424 : decode prog_13_method_1_code 424 = .ok (.aload_n 0, 1) := by decide +kernel
theorem d_X11_init_425 : decode prog_13_method_1_code 425 = .ok (.sipush 160, 3) := by decide +kernel
theorem d_X11_init_428 : decode prog_13_method_1_code 428 = .ok (.newarray .int, 2) := by decide +kernel
theorem d_X11_init_430 : decode prog_13_method_1_code 430 = .ok (.putfield 161, 3) := by decide +kernel
theorem d_X11_init_433 : decode prog_13_method_1_code 433 = .ok (.aload_n 0, 1) := by decide +kernel
theorem d_X11_init_434 : decode prog_13_method_1_code 434 = .ok (.iconst 3, 1) := by decide +kernel
theorem d_X11_init_435 : decode prog_13_method_1_code 435 = .ok (.bipush 18, 2) := by decide +kernel
theorem d_X11_init_437 : decode prog_13_method_1_code 437 = .ok (.invokevirtual 164, 3) := by decide +kernel
theorem d_X11_init_440 : decode prog_13_method_1_code 440 = .ok (.return_, 1) := by decide +kernel
set_option maxHeartbeats 4000000 in
set_option maxRecDepth 100000 in
def df_X11_init (n0 q0 : Nat) (c0 : Int) (H0 : tp_D) : Option tp_D :=
  if 0 ≤ c0 then
    if tp_dc n0 q0 51 3618 H0 1 45 = true then
      tp_hp (H0 ++ [(21, List.replicate 45 0)]) fun h2 =>
      if tp_dt h2 c0 = 11 then
        tp_hp (tp_ds h2 c0 3 (H0.length : Int)) fun h3 =>
        if tp_dc n0 q0 51 3618 h3 1 80 = true then
          tp_hp (h3 ++ [(21, List.replicate 80 0)]) fun h4 =>
          if tp_dt h4 c0 = 11 then
            tp_hp (tp_ds h4 c0 4 (h3.length : Int)) fun h5 =>
            if tp_dc n0 q0 51 3618 h5 1 9 = true then
              tp_hp (h5 ++ [(22, List.replicate 9 0)]) fun h6 =>
              if tp_dt h6 c0 = 11 then
                tp_hp (tp_ds h6 c0 7 (h5.length : Int)) fun h7 =>
                if tp_dc n0 q0 51 3618 h7 1 24 = true then
                  tp_hp (h7 ++ [(22, List.replicate 24 0)]) fun h8 =>
                  if tp_dt h8 c0 = 11 then
                    tp_hp (tp_ds h8 c0 8 (h7.length : Int)) fun h9 =>
                    if tp_dc n0 q0 51 3618 h9 1 369 = true then
                      tp_hp (h9 ++ [(22, List.replicate 369 0)]) fun h10 =>
                      if tp_dt h10 c0 = 11 then
                        tp_hp (tp_ds h10 c0 9 (h9.length : Int)) fun h11 =>
                        if tp_dc n0 q0 51 3618 h11 1 9 = true then
                          tp_hp (h11 ++ [(21, List.replicate 9 0)]) fun h12 =>
                          if tp_dt h12 c0 = 11 then
                            tp_hp (tp_ds h12 c0 10 (h11.length : Int)) fun h13 =>
                            if tp_dc n0 q0 51 3618 h13 1 9 = true then
                              tp_hp (h13 ++ [(21, List.replicate 9 0)]) fun h14 =>
                              if tp_dt h14 c0 = 11 then
                                tp_hp (tp_ds h14 c0 13 (h13.length : Int)) fun h15 =>
                                if tp_dc n0 q0 51 3618 h15 1 9 = true then
                                  tp_hp (h15 ++ [(21, List.replicate 9 0)]) fun h16 =>
                                  if tp_dt h16 c0 = 11 then
                                    tp_hp (tp_ds h16 c0 14 (h15.length : Int)) fun h17 =>
                                    if tp_dc n0 q0 51 3618 h17 1 81 = true then
                                      tp_hp (h17 ++ [(21, List.replicate 81 0)]) fun h18 =>
                                      if tp_dt h18 c0 = 11 then
                                        tp_hp (tp_ds h18 c0 15 (h17.length : Int)) fun h19 =>
                                        if tp_dc n0 q0 51 3618 h19 1 9 = true then
                                          tp_hp (h19 ++ [(21, List.replicate 9 0)]) fun h20 =>
                                          if tp_dt h20 c0 = 11 then
                                            tp_hp (tp_ds h20 c0 16 (h19.length : Int)) fun h21 =>
                                            if tp_dc n0 q0 51 3618 h21 1 9 = true then
                                              tp_hp (h21 ++ [(21, List.replicate 9 0)]) fun h22 =>
                                              if tp_dt h22 c0 = 11 then
                                                tp_hp (tp_ds h22 c0 17 (h21.length : Int)) fun h23 =>
                                                if tp_dc n0 q0 51 3618 h23 1 9 = true then
                                                  tp_hp (h23 ++ [(22, List.replicate 9 0)]) fun h24 =>
                                                  if tp_dt h24 c0 = 11 then
                                                    tp_hp (tp_ds h24 c0 19 (h23.length : Int)) fun h25 =>
                                                    if tp_dc n0 q0 51 3618 h25 1 40 = true then
                                                      tp_hp (h25 ++ [(21, List.replicate 40 0)]) fun h26 =>
                                                      if tp_dt h26 c0 = 11 then
                                                        tp_hp (tp_ds h26 c0 24 (h25.length : Int)) fun h27 =>
                                                        if tp_dc n0 q0 51 3618 h27 1 40 = true then
                                                          tp_hp (h27 ++ [(21, List.replicate 40 0)]) fun h28 =>
                                                          if tp_dt h28 c0 = 11 then
                                                            tp_hp (tp_ds h28 c0 25 (h27.length : Int)) fun h29 =>
                                                            if tp_dc n0 q0 51 3618 h29 1 40 = true then
                                                              tp_hp (h29 ++ [(21, List.replicate 40 0)]) fun h30 =>
                                                              if tp_dt h30 c0 = 11 then
                                                                tp_hp (tp_ds h30 c0 26 (h29.length : Int)) fun h31 =>
                                                                if tp_dc n0 q0 51 3618 h31 1 40 = true then
                                                                  tp_hp (h31 ++ [(21, List.replicate 40 0)]) fun h32 =>
                                                                  if tp_dt h32 c0 = 11 then
                                                                    tp_hp (tp_ds h32 c0 27 (h31.length : Int)) fun h33 =>
                                                                    if tp_dc n0 q0 51 3618 h33 1 40 = true then
                                                                      tp_hp (h33 ++ [(21, List.replicate 40 0)]) fun h34 =>
                                                                      if tp_dt h34 c0 = 11 then
                                                                        tp_hp (tp_ds h34 c0 28 (h33.length : Int)) fun h35 =>
                                                                        if tp_dc n0 q0 51 3618 h35 1 40 = true then
                                                                          tp_hp (h35 ++ [(21, List.replicate 40 0)]) fun h36 =>
                                                                          if tp_dt h36 c0 = 11 then
                                                                            tp_hp (tp_ds h36 c0 29 (h35.length : Int)) fun h37 =>
                                                                            if tp_dc n0 q0 51 3618 h37 1 40 = true then
                                                                              tp_hp (h37 ++ [(21, List.replicate 40 0)]) fun h38 =>
                                                                              if tp_dt h38 c0 = 11 then
                                                                                tp_hp (tp_ds h38 c0 30 (h37.length : Int)) fun h39 =>
                                                                                if tp_dc n0 q0 51 3618 h39 1 360 = true then
                                                                                  tp_hp (h39 ++ [(21, List.replicate 360 0)]) fun h40 =>
                                                                                  if tp_dt h40 c0 = 11 then
                                                                                    tp_hp (tp_ds h40 c0 31 (h39.length : Int)) fun h41 =>
                                                                                    if tp_dc n0 q0 51 3618 h41 1 40 = true then
                                                                                      tp_hp (h41 ++ [(21, List.replicate 40 0)]) fun h42 =>
                                                                                      if tp_dt h42 c0 = 11 then
                                                                                        tp_hp (tp_ds h42 c0 32 (h41.length : Int)) fun h43 =>
                                                                                        if tp_dc n0 q0 51 3618 h43 1 40 = true then
                                                                                          tp_hp (h43 ++ [(21, List.replicate 40 0)]) fun h44 =>
                                                                                          if tp_dt h44 c0 = 11 then
                                                                                            tp_hp (tp_ds h44 c0 33 (h43.length : Int)) fun h45 =>
                                                                                            if tp_dc n0 q0 51 3618 h45 1 40 = true then
                                                                                              tp_hp (h45 ++ [(21, List.replicate 40 0)]) fun h46 =>
                                                                                              if tp_dt h46 c0 = 11 then
                                                                                                tp_hp (tp_ds h46 c0 34 (h45.length : Int)) fun h47 =>
                                                                                                if tp_dc n0 q0 51 3618 h47 1 280 = true then
                                                                                                  tp_hp (h47 ++ [(21, List.replicate 280 0)]) fun h48 =>
                                                                                                  if tp_dt h48 c0 = 11 then
                                                                                                    tp_hp (tp_ds h48 c0 35 (h47.length : Int)) fun h49 =>
                                                                                                    if tp_dc n0 q0 51 3618 h49 1 64 = true then
                                                                                                      tp_hp (h49 ++ [(21, List.replicate 64 0)]) fun h50 =>
                                                                                                      if tp_dt h50 c0 = 11 then
                                                                                                        tp_hp (tp_ds h50 c0 36 (h49.length : Int)) fun h51 =>
                                                                                                        if tp_dc n0 q0 51 3618 h51 1 64 = true then
                                                                                                          tp_hp (h51 ++ [(21, List.replicate 64 0)]) fun h52 =>
                                                                                                          if tp_dt h52 c0 = 11 then
                                                                                                            tp_hp (tp_ds h52 c0 37 (h51.length : Int)) fun h53 =>
                                                                                                            if tp_dc n0 q0 51 3618 h53 1 64 = true then
                                                                                                              tp_hp (h53 ++ [(21, List.replicate 64 0)]) fun h54 =>
                                                                                                              if tp_dt h54 c0 = 11 then
                                                                                                                tp_hp (tp_ds h54 c0 38 (h53.length : Int)) fun h55 =>
                                                                                                                if tp_dc n0 q0 51 3618 h55 1 64 = true then
                                                                                                                  tp_hp (h55 ++ [(21, List.replicate 64 0)]) fun h56 =>
                                                                                                                  if tp_dt h56 c0 = 11 then
                                                                                                                    tp_hp (tp_ds h56 c0 39 (h55.length : Int)) fun h57 =>
                                                                                                                    if tp_dc n0 q0 51 3618 h57 1 64 = true then
                                                                                                                      tp_hp (h57 ++ [(21, List.replicate 64 0)]) fun h58 =>
                                                                                                                      if tp_dt h58 c0 = 11 then
                                                                                                                        tp_hp (tp_ds h58 c0 40 (h57.length : Int)) fun h59 =>
                                                                                                                        if tp_dc n0 q0 51 3618 h59 1 64 = true then
                                                                                                                          tp_hp (h59 ++ [(21, List.replicate 64 0)]) fun h60 =>
                                                                                                                          if tp_dt h60 c0 = 11 then
                                                                                                                            tp_hp (tp_ds h60 c0 41 (h59.length : Int)) fun h61 =>
                                                                                                                            if tp_dc n0 q0 51 3618 h61 1 448 = true then
                                                                                                                              tp_hp (h61 ++ [(21, List.replicate 448 0)]) fun h62 =>
                                                                                                                              if tp_dt h62 c0 = 11 then
                                                                                                                                tp_hp (tp_ds h62 c0 42 (h61.length : Int)) fun h63 =>
                                                                                                                                if tp_dc n0 q0 51 3618 h63 1 576 = true then
                                                                                                                                  tp_hp (h63 ++ [(21, List.replicate 576 0)]) fun h64 =>
                                                                                                                                  if tp_dt h64 c0 = 11 then
                                                                                                                                    tp_hp (tp_ds h64 c0 43 (h63.length : Int)) fun h65 =>
                                                                                                                                    if tp_dc n0 q0 51 3618 h65 1 20 = true then
                                                                                                                                      tp_hp (h65 ++ [(21, List.replicate 20 0)]) fun h66 =>
                                                                                                                                      if tp_dt h66 c0 = 11 then
                                                                                                                                        tp_hp (tp_ds h66 c0 44 (h65.length : Int)) fun h67 =>
                                                                                                                                        if tp_dc n0 q0 51 3618 h67 1 20 = true then
                                                                                                                                          tp_hp (h67 ++ [(21, List.replicate 20 0)]) fun h68 =>
                                                                                                                                          if tp_dt h68 c0 = 11 then
                                                                                                                                            tp_hp (tp_ds h68 c0 45 (h67.length : Int)) fun h69 =>
                                                                                                                                            if tp_dc n0 q0 51 3618 h69 1 20 = true then
                                                                                                                                              tp_hp (h69 ++ [(21, List.replicate 20 0)]) fun h70 =>
                                                                                                                                              if tp_dt h70 c0 = 11 then
                                                                                                                                                tp_hp (tp_ds h70 c0 46 (h69.length : Int)) fun h71 =>
                                                                                                                                                if tp_dc n0 q0 51 3618 h71 1 20 = true then
                                                                                                                                                  tp_hp (h71 ++ [(21, List.replicate 20 0)]) fun h72 =>
                                                                                                                                                  if tp_dt h72 c0 = 11 then
                                                                                                                                                    tp_hp (tp_ds h72 c0 47 (h71.length : Int)) fun h73 =>
                                                                                                                                                    if tp_dc n0 q0 51 3618 h73 1 20 = true then
                                                                                                                                                      tp_hp (h73 ++ [(21, List.replicate 20 0)]) fun h74 =>
                                                                                                                                                      if tp_dt h74 c0 = 11 then
                                                                                                                                                        tp_hp (tp_ds h74 c0 48 (h73.length : Int)) fun h75 =>
                                                                                                                                                        if tp_dc n0 q0 51 3618 h75 1 8 = true then
                                                                                                                                                          tp_hp (h75 ++ [(21, List.replicate 8 0)]) fun h76 =>
                                                                                                                                                          if tp_dt h76 c0 = 11 then
                                                                                                                                                            tp_hp (tp_ds h76 c0 50 (h75.length : Int)) fun h77 =>
                                                                                                                                                            if tp_dc n0 q0 51 3618 h77 1 8 = true then
                                                                                                                                                              tp_hp (h77 ++ [(21, List.replicate 8 0)]) fun h78 =>
                                                                                                                                                              if tp_dt h78 c0 = 11 then
                                                                                                                                                                tp_hp (tp_ds h78 c0 51 (h77.length : Int)) fun h79 =>
                                                                                                                                                                if tp_dc n0 q0 51 3618 h79 1 8 = true then
                                                                                                                                                                  tp_hp (h79 ++ [(21, List.replicate 8 0)]) fun h80 =>
                                                                                                                                                                  if tp_dt h80 c0 = 11 then
                                                                                                                                                                    tp_hp (tp_ds h80 c0 52 (h79.length : Int)) fun h81 =>
                                                                                                                                                                    if tp_dc n0 q0 51 3618 h81 1 8 = true then
                                                                                                                                                                      tp_hp (h81 ++ [(21, List.replicate 8 0)]) fun h82 =>
                                                                                                                                                                      if tp_dt h82 c0 = 11 then
                                                                                                                                                                        tp_hp (tp_ds h82 c0 53 (h81.length : Int)) fun h83 =>
                                                                                                                                                                        if tp_dc n0 q0 51 3618 h83 1 8 = true then
                                                                                                                                                                          tp_hp (h83 ++ [(21, List.replicate 8 0)]) fun h84 =>
                                                                                                                                                                          if tp_dt h84 c0 = 11 then
                                                                                                                                                                            tp_hp (tp_ds h84 c0 54 (h83.length : Int)) fun h85 =>
                                                                                                                                                                            if tp_dc n0 q0 51 3618 h85 1 7 = true then
                                                                                                                                                                              tp_hp (h85 ++ [(21, List.replicate 7 0)]) fun h86 =>
                                                                                                                                                                              if tp_dt h86 c0 = 11 then
                                                                                                                                                                                tp_hp (tp_ds h86 c0 55 (h85.length : Int)) fun h87 =>
                                                                                                                                                                                if tp_dc n0 q0 51 3618 h87 1 9 = true then
                                                                                                                                                                                  tp_hp (h87 ++ [(22, List.replicate 9 0)]) fun h88 =>
                                                                                                                                                                                  if tp_dt h88 c0 = 11 then
                                                                                                                                                                                    tp_hp (tp_ds h88 c0 57 (h87.length : Int)) fun h89 =>
                                                                                                                                                                                    if tp_dc n0 q0 51 3618 h89 1 8 = true then
                                                                                                                                                                                      tp_hp (h89 ++ [(21, List.replicate 8 0)]) fun h90 =>
                                                                                                                                                                                      if tp_dt h90 c0 = 11 then
                                                                                                                                                                                        tp_hp (tp_ds h90 c0 58 (h89.length : Int)) fun h91 =>
                                                                                                                                                                                        if tp_dc n0 q0 51 3618 h91 1 8 = true then
                                                                                                                                                                                          tp_hp (h91 ++ [(21, List.replicate 8 0)]) fun h92 =>
                                                                                                                                                                                          if tp_dt h92 c0 = 11 then
                                                                                                                                                                                            tp_hp (tp_ds h92 c0 59 (h91.length : Int)) fun h93 =>
                                                                                                                                                                                            if tp_dc n0 q0 51 3618 h93 1 8 = true then
                                                                                                                                                                                              tp_hp (h93 ++ [(21, List.replicate 8 0)]) fun h94 =>
                                                                                                                                                                                              if tp_dt h94 c0 = 11 then
                                                                                                                                                                                                tp_hp (tp_ds h94 c0 60 (h93.length : Int)) fun h95 =>
                                                                                                                                                                                                if tp_dc n0 q0 51 3618 h95 1 160 = true then
                                                                                                                                                                                                  tp_hp (h95 ++ [(21, List.replicate 160 0)]) fun h96 =>
                                                                                                                                                                                                  if tp_dt h96 c0 = 11 then
                                                                                                                                                                                                    tp_hp (tp_ds h96 c0 62 (h95.length : Int)) fun h97 =>
                                                                                                                                                                                                    if tp_dc n0 q0 51 3618 h97 1 4 = true then
                                                                                                                                                                                                      tp_hp (h97 ++ [(21, List.replicate 4 0)]) fun h98 =>
                                                                                                                                                                                                      if tp_dt h98 (h97.length : Int) = 21 ∧ (0 : Int) ≤ 0 ∧ 0 < tp_dl h98 (h97.length : Int) then
                                                                                                                                                                                                        tp_hp (tp_ds h98 (h97.length : Int) 0 (-1)) fun h99 =>
                                                                                                                                                                                                        if tp_dt h99 (h97.length : Int) = 21 ∧ (0 : Int) ≤ 1 ∧ 1 < tp_dl h99 (h97.length : Int) then
                                                                                                                                                                                                          tp_hp (tp_ds h99 (h97.length : Int) 1 (-1)) fun h100 =>
                                                                                                                                                                                                          if tp_dt h100 (h97.length : Int) = 21 ∧ (0 : Int) ≤ 2 ∧ 2 < tp_dl h100 (h97.length : Int) then
                                                                                                                                                                                                            tp_hp (tp_ds h100 (h97.length : Int) 2 (-1)) fun h101 =>
                                                                                                                                                                                                            if tp_dt h101 (h97.length : Int) = 21 ∧ (0 : Int) ≤ 3 ∧ 3 < tp_dl h101 (h97.length : Int) then
                                                                                                                                                                                                              tp_hp (tp_ds h101 (h97.length : Int) 3 (-1)) fun h102 =>
                                                                                                                                                                                                              if tp_dt h102 c0 = 11 then
                                                                                                                                                                                                                tp_hp (tp_ds h102 c0 64 (h97.length : Int)) fun h103 =>
                                                                                                                                                                                                                if tp_dc n0 q0 51 3618 h103 1 4 = true then
                                                                                                                                                                                                                  tp_hp (h103 ++ [(21, List.replicate 4 0)]) fun h104 =>
                                                                                                                                                                                                                  if tp_dt h104 c0 = 11 then
                                                                                                                                                                                                                    tp_hp (tp_ds h104 c0 65 (h103.length : Int)) fun h105 =>
                                                                                                                                                                                                                    if tp_dc n0 q0 51 3618 h105 1 160 = true then
                                                                                                                                                                                                                      tp_hp (h105 ++ [(21, List.replicate 160 0)]) fun h106 =>
                                                                                                                                                                                                                      if tp_dt h106 c0 = 11 then
                                                                                                                                                                                                                        tp_hp (tp_ds h106 c0 66 (h105.length : Int)) fun h107 =>
                                                                                                                                                                                                                        (df_X11_lays h107.length (tp_tot h107) c0 3 18 h107).bind fun h108 =>
                                                                                                                                                                                                                        if tp_dt h107 c0 = 11 ∧ tp_dk n0 q0 51 3618 h107 h108 0 0 = true then
                                                                                                                                                                                                                          if tp_de n0 q0 51 3618 h108 = true then some h108 else none else none else none else none else none else none else none else none else none else none else none else none else none else none else none else none else none else none else none else none else none else none else none else none else none else none else none else none else none else none else none else none else none else none else none else none else none else none else none else none else none else none else none else none else none else none else none else none else none else none else none else none else none else none else none else none else none else none else none else none else none else none else none else none else none else none else none else none else none else none else none else none else none else none else none else none else none else none else none else none else none else none else none else none else none else none else none else none else none else none else none else none else none else none else none else none else none else none else none else none else none else none else none else none else none else none else none else none else none
set_option maxHeartbeats 4000000 in
set_option maxRecDepth 100000 in
theorem TD_X11_init (G : tp_G) (n0 q0 : Nat) (c0 : Int) (H0 : tp_D) : tp_J i_X11_init (tp_rmc 1 51 3618) G 51 3618 od_ H0.length (tp_dy H0) (H0.length - n0) (tp_tot H0 - q0) [some (.inr (.inr c0))] 0 [] (df_X11_init n0 q0 c0 H0) := by
  unfold df_X11_init
  refine j_aload_n rfl d_X11_init_0 rfl ?_
  refine tp_chk (fun g1 => ?_)
  refine j_obj g1 wd_1023 wd_26 wd_27 ⟨by decide, by decide⟩ (Nat.le_of_ble_eq_true rfl) d_X11_init_1 ?_
  refine j_aload_n rfl d_X11_init_4 rfl ?_
  refine j_bipush ⟨by decide, by decide⟩ (by decide +kernel) d_X11_init_5 ?_
  refine k_newa (N := 45) (tag := 21) (ty := .int) rfl (by decide) rfl (by decide) (by decide) (by decide) wd_71 (fun _ _ => rfl) (fun _ => (⟨by decide, by decide⟩ : tp_r 0)) (fun _ _ h => h) ⟨rfl, rfl⟩ d_X11_init_7 (fun h2 eh2 => ?_)
  refine k_put (z := 2) (v := (H0.length : Int)) (fin := true) fl_Model_7 (pd_11_3 _) (fun _ => ⟨rfl, fun C T N h => by cases h; rfl⟩) pt_11 d_X11_init_9 (fun h3 eh3 => ?_)
  refine j_aload_n rfl d_X11_init_12 rfl ?_
  refine j_bipush ⟨by decide, by decide⟩ (by decide +kernel) d_X11_init_13 ?_
  refine k_newa (N := 80) (tag := 21) (ty := .int) rfl (by decide) rfl (by decide) (by decide) (by decide) wd_71 (fun _ _ => rfl) (fun _ => (⟨by decide, by decide⟩ : tp_r 0)) (fun _ _ h => h) ⟨rfl, rfl⟩ d_X11_init_15 (fun h4 eh4 => ?_)
  refine k_put (z := 2) (v := (h3.length : Int)) (fin := true) fl_Model_13 (pd_11_4 _) (fun _ => ⟨rfl, fun C T N h => by cases h; rfl⟩) pt_11 d_X11_init_17 (fun h5 eh5 => ?_)
  refine j_aload_n rfl d_X11_init_20 rfl ?_
  refine j_bipush ⟨by decide, by decide⟩ (by decide +kernel) d_X11_init_21 ?_
  refine k_newa (N := 9) (tag := 22) (ty := .long) rfl (by decide) rfl (by decide) (by decide) (by decide) wd_217 (fun _ _ => rfl) (fun _ => (⟨by decide, by decide⟩ : tp_rl 0)) (fun _ _ h => h) ⟨rfl, rfl⟩ d_X11_init_23 (fun h6 eh6 => ?_)
  refine k_put (z := 2) (v := (h5.length : Int)) (fin := true) fl_Model_16 (pd_11_7 _) (fun _ => ⟨rfl, fun C T N h => by cases h; rfl⟩) pt_11 d_X11_init_25 (fun h7 eh7 => ?_)
  refine j_aload_n rfl d_X11_init_28 rfl ?_
  refine j_bipush ⟨by decide, by decide⟩ (by decide +kernel) d_X11_init_29 ?_
  refine k_newa (N := 24) (tag := 22) (ty := .long) rfl (by decide) rfl (by decide) (by decide) (by decide) wd_217 (fun _ _ => rfl) (fun _ => (⟨by decide, by decide⟩ : tp_rl 0)) (fun _ _ h => h) ⟨rfl, rfl⟩ d_X11_init_31 (fun h8 eh8 => ?_)
  refine k_put (z := 2) (v := (h7.length : Int)) (fin := true) fl_Model_20 (pd_11_8 _) (fun _ => ⟨rfl, fun C T N h => by cases h; rfl⟩) pt_11 d_X11_init_33 (fun h9 eh9 => ?_)
  refine j_aload_n rfl d_X11_init_36 rfl ?_
  refine j_sipush ⟨by decide, by decide⟩ (by decide +kernel) d_X11_init_37 ?_
  refine k_newa (N := 369) (tag := 22) (ty := .long) rfl (by decide) rfl (by decide) (by decide) (by decide) wd_217 (fun _ _ => rfl) (fun _ => (⟨by decide, by decide⟩ : tp_rl 0)) (fun _ _ h => h) ⟨rfl, rfl⟩ d_X11_init_40 (fun h10 eh10 => ?_)
  refine k_put (z := 2) (v := (h9.length : Int)) (fin := true) fl_Model_23 (pd_11_9 _) (fun _ => ⟨rfl, fun C T N h => by cases h; rfl⟩) pt_11 d_X11_init_42 (fun h11 eh11 => ?_)
  refine j_aload_n rfl d_X11_init_45 rfl ?_
  refine j_bipush ⟨by decide, by decide⟩ (by decide +kernel) d_X11_init_46 ?_
  refine k_newa (N := 9) (tag := 21) (ty := .int) rfl (by decide) rfl (by decide) (by decide) (by decide) wd_71 (fun _ _ => rfl) (fun _ => (⟨by decide, by decide⟩ : tp_r 0)) (fun _ _ h => h) ⟨rfl, rfl⟩ d_X11_init_48 (fun h12 eh12 => ?_)
  refine k_put (z := 2) (v := (h11.length : Int)) (fin := true) fl_Model_26 (pd_11_10 _) (fun _ => ⟨rfl, fun C T N h => by cases h; rfl⟩) pt_11 d_X11_init_50 (fun h13 eh13 => ?_)
  refine j_aload_n rfl d_X11_init_53 rfl ?_
  refine j_bipush ⟨by decide, by decide⟩ (by decide +kernel) d_X11_init_54 ?_
  refine k_newa (N := 9) (tag := 21) (ty := .int) rfl (by decide) rfl (by decide) (by decide) (by decide) wd_71 (fun _ _ => rfl) (fun _ => (⟨by decide, by decide⟩ : tp_r 0)) (fun _ _ h => h) ⟨rfl, rfl⟩ d_X11_init_56 (fun h14 eh14 => ?_)
  refine k_put (z := 2) (v := (h13.length : Int)) (fin := true) fl_Model_29 (pd_11_13 _) (fun _ => ⟨rfl, fun C T N h => by cases h; rfl⟩) pt_11 d_X11_init_58 (fun h15 eh15 => ?_)
  refine j_aload_n rfl d_X11_init_61 rfl ?_
  refine j_bipush ⟨by decide, by decide⟩ (by decide +kernel) d_X11_init_62 ?_
  refine k_newa (N := 9) (tag := 21) (ty := .int) rfl (by decide) rfl (by decide) (by decide) (by decide) wd_71 (fun _ _ => rfl) (fun _ => (⟨by decide, by decide⟩ : tp_r 0)) (fun _ _ h => h) ⟨rfl, rfl⟩ d_X11_init_64 (fun h16 eh16 => ?_)
  refine k_put (z := 2) (v := (h15.length : Int)) (fin := true) fl_Model_32 (pd_11_14 _) (fun _ => ⟨rfl, fun C T N h => by cases h; rfl⟩) pt_11 d_X11_init_66 (fun h17 eh17 => ?_)
  refine j_aload_n rfl d_X11_init_69 rfl ?_
  refine j_bipush ⟨by decide, by decide⟩ (by decide +kernel) d_X11_init_70 ?_
  refine k_newa (N := 81) (tag := 21) (ty := .int) rfl (by decide) rfl (by decide) (by decide) (by decide) wd_71 (fun _ _ => rfl) (fun _ => (⟨by decide, by decide⟩ : tp_r 0)) (fun _ _ h => h) ⟨rfl, rfl⟩ d_X11_init_72 (fun h18 eh18 => ?_)
  refine k_put (z := 2) (v := (h17.length : Int)) (fin := true) fl_Model_35 (pd_11_15 _) (fun _ => ⟨rfl, fun C T N h => by cases h; rfl⟩) pt_11 d_X11_init_74 (fun h19 eh19 => ?_)
  refine j_aload_n rfl d_X11_init_77 rfl ?_
  refine j_bipush ⟨by decide, by decide⟩ (by decide +kernel) d_X11_init_78 ?_
  refine k_newa (N := 9) (tag := 21) (ty := .int) rfl (by decide) rfl (by decide) (by decide) (by decide) wd_71 (fun _ _ => rfl) (fun _ => (⟨by decide, by decide⟩ : tp_r 0)) (fun _ _ h => h) ⟨rfl, rfl⟩ d_X11_init_80 (fun h20 eh20 => ?_)
  refine k_put (z := 2) (v := (h19.length : Int)) (fin := true) fl_Model_38 (pd_11_16 _) (fun _ => ⟨rfl, fun C T N h => by cases h; rfl⟩) pt_11 d_X11_init_82 (fun h21 eh21 => ?_)
  refine j_aload_n rfl d_X11_init_85 rfl ?_
  refine j_bipush ⟨by decide, by decide⟩ (by decide +kernel) d_X11_init_86 ?_
  refine k_newa (N := 9) (tag := 21) (ty := .int) rfl (by decide) rfl (by decide) (by decide) (by decide) wd_71 (fun _ _ => rfl) (fun _ => (⟨by decide, by decide⟩ : tp_r 0)) (fun _ _ h => h) ⟨rfl, rfl⟩ d_X11_init_88 (fun h22 eh22 => ?_)
  refine k_put (z := 2) (v := (h21.length : Int)) (fin := true) fl_Model_41 (pd_11_17 _) (fun _ => ⟨rfl, fun C T N h => by cases h; rfl⟩) pt_11 d_X11_init_90 (fun h23 eh23 => ?_)
  refine j_aload_n rfl d_X11_init_93 rfl ?_
  refine j_bipush ⟨by decide, by decide⟩ (by decide +kernel) d_X11_init_94 ?_
  refine k_newa (N := 9) (tag := 22) (ty := .long) rfl (by decide) rfl (by decide) (by decide) (by decide) wd_217 (fun _ _ => rfl) (fun _ => (⟨by decide, by decide⟩ : tp_rl 0)) (fun _ _ h => h) ⟨rfl, rfl⟩ d_X11_init_96 (fun h24 eh24 => ?_)
  refine k_put (z := 2) (v := (h23.length : Int)) (fin := true) fl_Model_44 (pd_11_19 _) (fun _ => ⟨rfl, fun C T N h => by cases h; rfl⟩) pt_11 d_X11_init_98 (fun h25 eh25 => ?_)
  refine j_aload_n rfl d_X11_init_101 rfl ?_
  refine j_bipush ⟨by decide, by decide⟩ (by decide +kernel) d_X11_init_102 ?_
  refine k_newa (N := 40) (tag := 21) (ty := .int) rfl (by decide) rfl (by decide) (by decide) (by decide) wd_71 (fun _ _ => rfl) (fun _ => (⟨by decide, by decide⟩ : tp_r 0)) (fun _ _ h => h) ⟨rfl, rfl⟩ d_X11_init_104 (fun h26 eh26 => ?_)
  refine k_put (z := 2) (v := (h25.length : Int)) (fin := true) fl_Model_47 (pd_11_24 _) (fun _ => ⟨rfl, fun C T N h => by cases h; rfl⟩) pt_11 d_X11_init_106 (fun h27 eh27 => ?_)
  refine j_aload_n rfl d_X11_init_109 rfl ?_
  refine j_bipush ⟨by decide, by decide⟩ (by decide +kernel) d_X11_init_110 ?_
  refine k_newa (N := 40) (tag := 21) (ty := .int) rfl (by decide) rfl (by decide) (by decide) (by decide) wd_71 (fun _ _ => rfl) (fun _ => (⟨by decide, by decide⟩ : tp_r 0)) (fun _ _ h => h) ⟨rfl, rfl⟩ d_X11_init_112 (fun h28 eh28 => ?_)
  refine k_put (z := 2) (v := (h27.length : Int)) (fin := true) fl_Model_50 (pd_11_25 _) (fun _ => ⟨rfl, fun C T N h => by cases h; rfl⟩) pt_11 d_X11_init_114 (fun h29 eh29 => ?_)
  refine j_aload_n rfl d_X11_init_117 rfl ?_
  refine j_bipush ⟨by decide, by decide⟩ (by decide +kernel) d_X11_init_118 ?_
  refine k_newa (N := 40) (tag := 21) (ty := .int) rfl (by decide) rfl (by decide) (by decide) (by decide) wd_71 (fun _ _ => rfl) (fun _ => (⟨by decide, by decide⟩ : tp_r 0)) (fun _ _ h => h) ⟨rfl, rfl⟩ d_X11_init_120 (fun h30 eh30 => ?_)
  refine k_put (z := 2) (v := (h29.length : Int)) (fin := true) fl_Model_53 (pd_11_26 _) (fun _ => ⟨rfl, fun C T N h => by cases h; rfl⟩) pt_11 d_X11_init_122 (fun h31 eh31 => ?_)
  refine j_aload_n rfl d_X11_init_125 rfl ?_
  refine j_bipush ⟨by decide, by decide⟩ (by decide +kernel) d_X11_init_126 ?_
  refine k_newa (N := 40) (tag := 21) (ty := .int) rfl (by decide) rfl (by decide) (by decide) (by decide) wd_71 (fun _ _ => rfl) (fun _ => (⟨by decide, by decide⟩ : tp_r 0)) (fun _ _ h => h) ⟨rfl, rfl⟩ d_X11_init_128 (fun h32 eh32 => ?_)
  refine k_put (z := 2) (v := (h31.length : Int)) (fin := true) fl_Model_56 (pd_11_27 _) (fun _ => ⟨rfl, fun C T N h => by cases h; rfl⟩) pt_11 d_X11_init_130 (fun h33 eh33 => ?_)
  refine j_aload_n rfl d_X11_init_133 rfl ?_
  refine j_bipush ⟨by decide, by decide⟩ (by decide +kernel) d_X11_init_134 ?_
  refine k_newa (N := 40) (tag := 21) (ty := .int) rfl (by decide) rfl (by decide) (by decide) (by decide) wd_71 (fun _ _ => rfl) (fun _ => (⟨by decide, by decide⟩ : tp_r 0)) (fun _ _ h => h) ⟨rfl, rfl⟩ d_X11_init_136 (fun h34 eh34 => ?_)
  refine k_put (z := 2) (v := (h33.length : Int)) (fin := true) fl_Model_59 (pd_11_28 _) (fun _ => ⟨rfl, fun C T N h => by cases h; rfl⟩) pt_11 d_X11_init_138 (fun h35 eh35 => ?_)
  refine j_aload_n rfl d_X11_init_141 rfl ?_
  refine j_bipush ⟨by decide, by decide⟩ (by decide +kernel) d_X11_init_142 ?_
  refine k_newa (N := 40) (tag := 21) (ty := .int) rfl (by decide) rfl (by decide) (by decide) (by decide) wd_71 (fun _ _ => rfl) (fun _ => (⟨by decide, by decide⟩ : tp_r 0)) (fun _ _ h => h) ⟨rfl, rfl⟩ d_X11_init_144 (fun h36 eh36 => ?_)
  refine k_put (z := 2) (v := (h35.length : Int)) (fin := true) fl_Model_62 (pd_11_29 _) (fun _ => ⟨rfl, fun C T N h => by cases h; rfl⟩) pt_11 d_X11_init_146 (fun h37 eh37 => ?_)
  refine j_aload_n rfl d_X11_init_149 rfl ?_
  refine j_bipush ⟨by decide, by decide⟩ (by decide +kernel) d_X11_init_150 ?_
  refine k_newa (N := 40) (tag := 21) (ty := .int) rfl (by decide) rfl (by decide) (by decide) (by decide) wd_71 (fun _ _ => rfl) (fun _ => (⟨by decide, by decide⟩ : tp_r 0)) (fun _ _ h => h) ⟨rfl, rfl⟩ d_X11_init_152 (fun h38 eh38 => ?_)
  refine k_put (z := 2) (v := (h37.length : Int)) (fin := true) fl_Model_65 (pd_11_30 _) (fun _ => ⟨rfl, fun C T N h => by cases h; rfl⟩) pt_11 d_X11_init_154 (fun h39 eh39 => ?_)
  refine j_aload_n rfl d_X11_init_157 rfl ?_
  refine j_sipush ⟨by decide, by decide⟩ (by decide +kernel) d_X11_init_158 ?_
  refine k_newa (N := 360) (tag := 21) (ty := .int) rfl (by decide) rfl (by decide) (by decide) (by decide) wd_71 (fun _ _ => rfl) (fun _ => (⟨by decide, by decide⟩ : tp_r 0)) (fun _ _ h => h) ⟨rfl, rfl⟩ d_X11_init_161 (fun h40 eh40 => ?_)
  refine k_put (z := 2) (v := (h39.length : Int)) (fin := true) fl_Model_68 (pd_11_31 _) (fun _ => ⟨rfl, fun C T N h => by cases h; rfl⟩) pt_11 d_X11_init_163 (fun h41 eh41 => ?_)
  refine j_aload_n rfl d_X11_init_166 rfl ?_
  refine j_bipush ⟨by decide, by decide⟩ (by decide +kernel) d_X11_init_167 ?_
  refine k_newa (N := 40) (tag := 21) (ty := .int) rfl (by decide) rfl (by decide) (by decide) (by decide) wd_71 (fun _ _ => rfl) (fun _ => (⟨by decide, by decide⟩ : tp_r 0)) (fun _ _ h => h) ⟨rfl, rfl⟩ d_X11_init_169 (fun h42 eh42 => ?_)
  refine k_put (z := 2) (v := (h41.length : Int)) (fin := true) fl_Model_71 (pd_11_32 _) (fun _ => ⟨rfl, fun C T N h => by cases h; rfl⟩) pt_11 d_X11_init_171 (fun h43 eh43 => ?_)
  refine j_aload_n rfl d_X11_init_174 rfl ?_
  refine j_bipush ⟨by decide, by decide⟩ (by decide +kernel) d_X11_init_175 ?_
  refine k_newa (N := 40) (tag := 21) (ty := .int) rfl (by decide) rfl (by decide) (by decide) (by decide) wd_71 (fun _ _ => rfl) (fun _ => (⟨by decide, by decide⟩ : tp_r 0)) (fun _ _ h => h) ⟨rfl, rfl⟩ d_X11_init_177 (fun h44 eh44 => ?_)
  refine k_put (z := 2) (v := (h43.length : Int)) (fin := true) fl_Model_74 (pd_11_33 _) (fun _ => ⟨rfl, fun C T N h => by cases h; rfl⟩) pt_11 d_X11_init_179 (fun h45 eh45 => ?_)
  refine j_aload_n rfl d_X11_init_182 rfl ?_
  refine j_bipush ⟨by decide, by decide⟩ (by decide +kernel) d_X11_init_183 ?_
  refine k_newa (N := 40) (tag := 21) (ty := .int) rfl (by decide) rfl (by decide) (by decide) (by decide) wd_71 (fun _ _ => rfl) (fun _ => (⟨by decide, by decide⟩ : tp_r 0)) (fun _ _ h => h) ⟨rfl, rfl⟩ d_X11_init_185 (fun h46 eh46 => ?_)
  refine k_put (z := 2) (v := (h45.length : Int)) (fin := true) fl_Model_77 (pd_11_34 _) (fun _ => ⟨rfl, fun C T N h => by cases h; rfl⟩) pt_11 d_X11_init_187 (fun h47 eh47 => ?_)
  refine j_aload_n rfl d_X11_init_190 rfl ?_
  refine j_sipush ⟨by decide, by decide⟩ (by decide +kernel) d_X11_init_191 ?_
  refine k_newa (N := 280) (tag := 21) (ty := .int) rfl (by decide) rfl (by decide) (by decide) (by decide) wd_71 (fun _ _ => rfl) (fun _ => (⟨by decide, by decide⟩ : tp_r 0)) (fun _ _ h => h) ⟨rfl, rfl⟩ d_X11_init_194 (fun h48 eh48 => ?_)
  refine k_put (z := 2) (v := (h47.length : Int)) (fin := true) fl_Model_80 (pd_11_35 _) (fun _ => ⟨rfl, fun C T N h => by cases h; rfl⟩) pt_11 d_X11_init_196 (fun h49 eh49 => ?_)
  refine j_aload_n rfl d_X11_init_199 rfl ?_
  refine j_bipush ⟨by decide, by decide⟩ (by decide +kernel) d_X11_init_200 ?_
  refine k_newa (N := 64) (tag := 21) (ty := .int) rfl (by decide) rfl (by decide) (by decide) (by decide) wd_71 (fun _ _ => rfl) (fun _ => (⟨by decide, by decide⟩ : tp_r 0)) (fun _ _ h => h) ⟨rfl, rfl⟩ d_X11_init_202 (fun h50 eh50 => ?_)
  refine k_put (z := 2) (v := (h49.length : Int)) (fin := true) fl_Model_83 (pd_11_36 _) (fun _ => ⟨rfl, fun C T N h => by cases h; rfl⟩) pt_11 d_X11_init_204 (fun h51 eh51 => ?_)
  refine j_aload_n rfl d_X11_init_207 rfl ?_
  refine j_bipush ⟨by decide, by decide⟩ (by decide +kernel) d_X11_init_208 ?_
  refine k_newa (N := 64) (tag := 21) (ty := .int) rfl (by decide) rfl (by decide) (by decide) (by decide) wd_71 (fun _ _ => rfl) (fun _ => (⟨by decide, by decide⟩ : tp_r 0)) (fun _ _ h => h) ⟨rfl, rfl⟩ d_X11_init_210 (fun h52 eh52 => ?_)
  refine k_put (z := 2) (v := (h51.length : Int)) (fin := true) fl_Model_86 (pd_11_37 _) (fun _ => ⟨rfl, fun C T N h => by cases h; rfl⟩) pt_11 d_X11_init_212 (fun h53 eh53 => ?_)
  refine j_aload_n rfl d_X11_init_215 rfl ?_
  refine j_bipush ⟨by decide, by decide⟩ (by decide +kernel) d_X11_init_216 ?_
  refine k_newa (N := 64) (tag := 21) (ty := .int) rfl (by decide) rfl (by decide) (by decide) (by decide) wd_71 (fun _ _ => rfl) (fun _ => (⟨by decide, by decide⟩ : tp_r 0)) (fun _ _ h => h) ⟨rfl, rfl⟩ d_X11_init_218 (fun h54 eh54 => ?_)
  refine k_put (z := 2) (v := (h53.length : Int)) (fin := true) fl_Model_89 (pd_11_38 _) (fun _ => ⟨rfl, fun C T N h => by cases h; rfl⟩) pt_11 d_X11_init_220 (fun h55 eh55 => ?_)
  refine j_aload_n rfl d_X11_init_223 rfl ?_
  refine j_bipush ⟨by decide, by decide⟩ (by decide +kernel) d_X11_init_224 ?_
  refine k_newa (N := 64) (tag := 21) (ty := .int) rfl (by decide) rfl (by decide) (by decide) (by decide) wd_71 (fun _ _ => rfl) (fun _ => (⟨by decide, by decide⟩ : tp_r 0)) (fun _ _ h => h) ⟨rfl, rfl⟩ d_X11_init_226 (fun h56 eh56 => ?_)
  refine k_put (z := 2) (v := (h55.length : Int)) (fin := true) fl_Model_92 (pd_11_39 _) (fun _ => ⟨rfl, fun C T N h => by cases h; rfl⟩) pt_11 d_X11_init_228 (fun h57 eh57 => ?_)
  refine j_aload_n rfl d_X11_init_231 rfl ?_
  refine j_bipush ⟨by decide, by decide⟩ (by decide +kernel) d_X11_init_232 ?_
  refine k_newa (N := 64) (tag := 21) (ty := .int) rfl (by decide) rfl (by decide) (by decide) (by decide) wd_71 (fun _ _ => rfl) (fun _ => (⟨by decide, by decide⟩ : tp_r 0)) (fun _ _ h => h) ⟨rfl, rfl⟩ d_X11_init_234 (fun h58 eh58 => ?_)
  refine k_put (z := 2) (v := (h57.length : Int)) (fin := true) fl_Model_95 (pd_11_40 _) (fun _ => ⟨rfl, fun C T N h => by cases h; rfl⟩) pt_11 d_X11_init_236 (fun h59 eh59 => ?_)
  refine j_aload_n rfl d_X11_init_239 rfl ?_
  refine j_bipush ⟨by decide, by decide⟩ (by decide +kernel) d_X11_init_240 ?_
  refine k_newa (N := 64) (tag := 21) (ty := .int) rfl (by decide) rfl (by decide) (by decide) (by decide) wd_71 (fun _ _ => rfl) (fun _ => (⟨by decide, by decide⟩ : tp_r 0)) (fun _ _ h => h) ⟨rfl, rfl⟩ d_X11_init_242 (fun h60 eh60 => ?_)
  refine k_put (z := 2) (v := (h59.length : Int)) (fin := true) fl_Model_98 (pd_11_41 _) (fun _ => ⟨rfl, fun C T N h => by cases h; rfl⟩) pt_11 d_X11_init_244 (fun h61 eh61 => ?_)
  refine j_aload_n rfl d_X11_init_247 rfl ?_
  refine j_sipush ⟨by decide, by decide⟩ (by decide +kernel) d_X11_init_248 ?_
  refine k_newa (N := 448) (tag := 21) (ty := .int) rfl (by decide) rfl (by decide) (by decide) (by decide) wd_71 (fun _ _ => rfl) (fun _ => (⟨by decide, by decide⟩ : tp_r 0)) (fun _ _ h => h) ⟨rfl, rfl⟩ d_X11_init_251 (fun h62 eh62 => ?_)
  refine k_put (z := 2) (v := (h61.length : Int)) (fin := true) fl_Model_101 (pd_11_42 _) (fun _ => ⟨rfl, fun C T N h => by cases h; rfl⟩) pt_11 d_X11_init_253 (fun h63 eh63 => ?_)
  refine j_aload_n rfl d_X11_init_256 rfl ?_
  refine j_sipush ⟨by decide, by decide⟩ (by decide +kernel) d_X11_init_257 ?_
  refine k_newa (N := 576) (tag := 21) (ty := .int) rfl (by decide) rfl (by decide) (by decide) (by decide) wd_71 (fun _ _ => rfl) (fun _ => (⟨by decide, by decide⟩ : tp_r 0)) (fun _ _ h => h) ⟨rfl, rfl⟩ d_X11_init_260 (fun h64 eh64 => ?_)
  refine k_put (z := 2) (v := (h63.length : Int)) (fin := true) fl_Model_104 (pd_11_43 _) (fun _ => ⟨rfl, fun C T N h => by cases h; rfl⟩) pt_11 d_X11_init_262 (fun h65 eh65 => ?_)
  refine j_aload_n rfl d_X11_init_265 rfl ?_
  refine j_bipush ⟨by decide, by decide⟩ (by decide +kernel) d_X11_init_266 ?_
  refine k_newa (N := 20) (tag := 21) (ty := .int) rfl (by decide) rfl (by decide) (by decide) (by decide) wd_71 (fun _ _ => rfl) (fun _ => (⟨by decide, by decide⟩ : tp_r 0)) (fun _ _ h => h) ⟨rfl, rfl⟩ d_X11_init_268 (fun h66 eh66 => ?_)
  refine k_put (z := 2) (v := (h65.length : Int)) (fin := true) fl_Model_107 (pd_11_44 _) (fun _ => ⟨rfl, fun C T N h => by cases h; rfl⟩) pt_11 d_X11_init_270 (fun h67 eh67 => ?_)
  refine j_aload_n rfl d_X11_init_273 rfl ?_
  refine j_bipush ⟨by decide, by decide⟩ (by decide +kernel) d_X11_init_274 ?_
  refine k_newa (N := 20) (tag := 21) (ty := .int) rfl (by decide) rfl (by decide) (by decide) (by decide) wd_71 (fun _ _ => rfl) (fun _ => (⟨by decide, by decide⟩ : tp_r 0)) (fun _ _ h => h) ⟨rfl, rfl⟩ d_X11_init_276 (fun h68 eh68 => ?_)
  refine k_put (z := 2) (v := (h67.length : Int)) (fin := true) fl_Model_110 (pd_11_45 _) (fun _ => ⟨rfl, fun C T N h => by cases h; rfl⟩) pt_11 d_X11_init_278 (fun h69 eh69 => ?_)
  refine j_aload_n rfl d_X11_init_281 rfl ?_
  refine j_bipush ⟨by decide, by decide⟩ (by decide +kernel) d_X11_init_282 ?_
  refine k_newa (N := 20) (tag := 21) (ty := .int) rfl (by decide) rfl (by decide) (by decide) (by decide) wd_71 (fun _ _ => rfl) (fun _ => (⟨by decide, by decide⟩ : tp_r 0)) (fun _ _ h => h) ⟨rfl, rfl⟩ d_X11_init_284 (fun h70 eh70 => ?_)
  refine k_put (z := 2) (v := (h69.length : Int)) (fin := true) fl_Model_113 (pd_11_46 _) (fun _ => ⟨rfl, fun C T N h => by cases h; rfl⟩) pt_11 d_X11_init_286 (fun h71 eh71 => ?_)
  refine j_aload_n rfl d_X11_init_289 rfl ?_
  refine j_bipush ⟨by decide, by decide⟩ (by decide +kernel) d_X11_init_290 ?_
  refine k_newa (N := 20) (tag := 21) (ty := .int) rfl (by decide) rfl (by decide) (by decide) (by decide) wd_71 (fun _ _ => rfl) (fun _ => (⟨by decide, by decide⟩ : tp_r 0)) (fun _ _ h => h) ⟨rfl, rfl⟩ d_X11_init_292 (fun h72 eh72 => ?_)
  refine k_put (z := 2) (v := (h71.length : Int)) (fin := true) fl_Model_116 (pd_11_47 _) (fun _ => ⟨rfl, fun C T N h => by cases h; rfl⟩) pt_11 d_X11_init_294 (fun h73 eh73 => ?_)
  refine j_aload_n rfl d_X11_init_297 rfl ?_
  refine j_bipush ⟨by decide, by decide⟩ (by decide +kernel) d_X11_init_298 ?_
  refine k_newa (N := 20) (tag := 21) (ty := .int) rfl (by decide) rfl (by decide) (by decide) (by decide) wd_71 (fun _ _ => rfl) (fun _ => (⟨by decide, by decide⟩ : tp_r 0)) (fun _ _ h => h) ⟨rfl, rfl⟩ d_X11_init_300 (fun h74 eh74 => ?_)
  refine k_put (z := 2) (v := (h73.length : Int)) (fin := true) fl_Model_119 (pd_11_48 _) (fun _ => ⟨rfl, fun C T N h => by cases h; rfl⟩) pt_11 d_X11_init_302 (fun h75 eh75 => ?_)
  refine j_aload_n rfl d_X11_init_305 rfl ?_
  refine j_bipush ⟨by decide, by decide⟩ (by decide +kernel) d_X11_init_306 ?_
  refine k_newa (N := 8) (tag := 21) (ty := .int) rfl (by decide) rfl (by decide) (by decide) (by decide) wd_71 (fun _ _ => rfl) (fun _ => (⟨by decide, by decide⟩ : tp_r 0)) (fun _ _ h => h) ⟨rfl, rfl⟩ d_X11_init_308 (fun h76 eh76 => ?_)
  refine k_put (z := 2) (v := (h75.length : Int)) (fin := true) fl_Model_122 (pd_11_50 _) (fun _ => ⟨rfl, fun C T N h => by cases h; rfl⟩) pt_11 d_X11_init_310 (fun h77 eh77 => ?_)
  refine j_aload_n rfl d_X11_init_313 rfl ?_
  refine j_bipush ⟨by decide, by decide⟩ (by decide +kernel) d_X11_init_314 ?_
  refine k_newa (N := 8) (tag := 21) (ty := .int) rfl (by decide) rfl (by decide) (by decide) (by decide) wd_71 (fun _ _ => rfl) (fun _ => (⟨by decide, by decide⟩ : tp_r 0)) (fun _ _ h => h) ⟨rfl, rfl⟩ d_X11_init_316 (fun h78 eh78 => ?_)
  refine k_put (z := 2) (v := (h77.length : Int)) (fin := true) fl_Model_125 (pd_11_51 _) (fun _ => ⟨rfl, fun C T N h => by cases h; rfl⟩) pt_11 d_X11_init_318 (fun h79 eh79 => ?_)
  refine j_aload_n rfl d_X11_init_321 rfl ?_
  refine j_bipush ⟨by decide, by decide⟩ (by decide +kernel) d_X11_init_322 ?_
  refine k_newa (N := 8) (tag := 21) (ty := .int) rfl (by decide) rfl (by decide) (by decide) (by decide) wd_71 (fun _ _ => rfl) (fun _ => (⟨by decide, by decide⟩ : tp_r 0)) (fun _ _ h => h) ⟨rfl, rfl⟩ d_X11_init_324 (fun h80 eh80 => ?_)
  refine k_put (z := 2) (v := (h79.length : Int)) (fin := true) fl_Model_128 (pd_11_52 _) (fun _ => ⟨rfl, fun C T N h => by cases h; rfl⟩) pt_11 d_X11_init_326 (fun h81 eh81 => ?_)
  refine j_aload_n rfl d_X11_init_329 rfl ?_
  refine j_bipush ⟨by decide, by decide⟩ (by decide +kernel) d_X11_init_330 ?_
  refine k_newa (N := 8) (tag := 21) (ty := .int) rfl (by decide) rfl (by decide) (by decide) (by decide) wd_71 (fun _ _ => rfl) (fun _ => (⟨by decide, by decide⟩ : tp_r 0)) (fun _ _ h => h) ⟨rfl, rfl⟩ d_X11_init_332 (fun h82 eh82 => ?_)
  refine k_put (z := 2) (v := (h81.length : Int)) (fin := true) fl_Model_131 (pd_11_53 _) (fun _ => ⟨rfl, fun C T N h => by cases h; rfl⟩) pt_11 d_X11_init_334 (fun h83 eh83 => ?_)
  refine j_aload_n rfl d_X11_init_337 rfl ?_
  refine j_bipush ⟨by decide, by decide⟩ (by decide +kernel) d_X11_init_338 ?_
  refine k_newa (N := 8) (tag := 21) (ty := .int) rfl (by decide) rfl (by decide) (by decide) (by decide) wd_71 (fun _ _ => rfl) (fun _ => (⟨by decide, by decide⟩ : tp_r 0)) (fun _ _ h => h) ⟨rfl, rfl⟩ d_X11_init_340 (fun h84 eh84 => ?_)
  refine k_put (z := 2) (v := (h83.length : Int)) (fin := true) fl_Model_134 (pd_11_54 _) (fun _ => ⟨rfl, fun C T N h => by cases h; rfl⟩) pt_11 d_X11_init_342 (fun h85 eh85 => ?_)
  refine j_aload_n rfl d_X11_init_345 rfl ?_
  refine j_bipush ⟨by decide, by decide⟩ (by decide +kernel) d_X11_init_346 ?_
  refine k_newa (N := 7) (tag := 21) (ty := .int) rfl (by decide) rfl (by decide) (by decide) (by decide) wd_71 (fun _ _ => rfl) (fun _ => (⟨by decide, by decide⟩ : tp_r 0)) (fun _ _ h => h) ⟨rfl, rfl⟩ d_X11_init_348 (fun h86 eh86 => ?_)
  refine k_put (z := 2) (v := (h85.length : Int)) (fin := true) fl_Model_137 (pd_11_55 _) (fun _ => ⟨rfl, fun C T N h => by cases h; rfl⟩) pt_11 d_X11_init_350 (fun h87 eh87 => ?_)
  refine j_aload_n rfl d_X11_init_353 rfl ?_
  refine j_bipush ⟨by decide, by decide⟩ (by decide +kernel) d_X11_init_354 ?_
  refine k_newa (N := 9) (tag := 22) (ty := .long) rfl (by decide) rfl (by decide) (by decide) (by decide) wd_217 (fun _ _ => rfl) (fun _ => (⟨by decide, by decide⟩ : tp_rl 0)) (fun _ _ h => h) ⟨rfl, rfl⟩ d_X11_init_356 (fun h88 eh88 => ?_)
  refine k_put (z := 2) (v := (h87.length : Int)) (fin := true) fl_Model_140 (pd_11_57 _) (fun _ => ⟨rfl, fun C T N h => by cases h; rfl⟩) pt_11 d_X11_init_358 (fun h89 eh89 => ?_)
  refine j_aload_n rfl d_X11_init_361 rfl ?_
  refine j_bipush ⟨by decide, by decide⟩ (by decide +kernel) d_X11_init_362 ?_
  refine k_newa (N := 8) (tag := 21) (ty := .int) rfl (by decide) rfl (by decide) (by decide) (by decide) wd_71 (fun _ _ => rfl) (fun _ => (⟨by decide, by decide⟩ : tp_r 0)) (fun _ _ h => h) ⟨rfl, rfl⟩ d_X11_init_364 (fun h90 eh90 => ?_)
  refine k_put (z := 2) (v := (h89.length : Int)) (fin := true) fl_Model_143 (pd_11_58 _) (fun _ => ⟨rfl, fun C T N h => by cases h; rfl⟩) pt_11 d_X11_init_366 (fun h91 eh91 => ?_)
  refine j_aload_n rfl d_X11_init_369 rfl ?_
  refine j_bipush ⟨by decide, by decide⟩ (by decide +kernel) d_X11_init_370 ?_
  refine k_newa (N := 8) (tag := 21) (ty := .int) rfl (by decide) rfl (by decide) (by decide) (by decide) wd_71 (fun _ _ => rfl) (fun _ => (⟨by decide, by decide⟩ : tp_r 0)) (fun _ _ h => h) ⟨rfl, rfl⟩ d_X11_init_372 (fun h92 eh92 => ?_)
  refine k_put (z := 2) (v := (h91.length : Int)) (fin := true) fl_Model_146 (pd_11_59 _) (fun _ => ⟨rfl, fun C T N h => by cases h; rfl⟩) pt_11 d_X11_init_374 (fun h93 eh93 => ?_)
  refine j_aload_n rfl d_X11_init_377 rfl ?_
  refine j_bipush ⟨by decide, by decide⟩ (by decide +kernel) d_X11_init_378 ?_
  refine k_newa (N := 8) (tag := 21) (ty := .int) rfl (by decide) rfl (by decide) (by decide) (by decide) wd_71 (fun _ _ => rfl) (fun _ => (⟨by decide, by decide⟩ : tp_r 0)) (fun _ _ h => h) ⟨rfl, rfl⟩ d_X11_init_380 (fun h94 eh94 => ?_)
  refine k_put (z := 2) (v := (h93.length : Int)) (fin := true) fl_Model_149 (pd_11_60 _) (fun _ => ⟨rfl, fun C T N h => by cases h; rfl⟩) pt_11 d_X11_init_382 (fun h95 eh95 => ?_)
  refine j_aload_n rfl d_X11_init_385 rfl ?_
  refine j_sipush ⟨by decide, by decide⟩ (by decide +kernel) d_X11_init_386 ?_
  refine k_newa (N := 160) (tag := 21) (ty := .int) rfl (by decide) rfl (by decide) (by decide) (by decide) wd_71 (fun _ _ => rfl) (fun _ => (⟨by decide, by decide⟩ : tp_r 0)) (fun _ _ h => h) ⟨rfl, rfl⟩ d_X11_init_389 (fun h96 eh96 => ?_)
  refine k_put (z := 2) (v := (h95.length : Int)) (fin := true) fl_Model_152 (pd_11_62 _) (fun _ => ⟨rfl, fun C T N h => by cases h; rfl⟩) pt_11 d_X11_init_391 (fun h97 eh97 => ?_)
  refine j_aload_n rfl d_X11_init_394 rfl ?_
  refine j_iconst ⟨by decide, by decide⟩ d_X11_init_395 ?_
  refine k_newa (N := 4) (tag := 21) (ty := .int) rfl (by decide) rfl (by decide) (by decide) (by decide) wd_71 (fun _ _ => rfl) (fun _ => (⟨by decide, by decide⟩ : tp_r 0)) (fun _ _ h => h) ⟨rfl, rfl⟩ d_X11_init_396 (fun h98 eh98 => ?_)
  refine j_dup d_X11_init_398 (fun G => tp_cat G _) ?_
  refine j_iconst ⟨by decide, by decide⟩ d_X11_init_399 ?_
  refine j_iconst ⟨by decide, by decide⟩ d_X11_init_400 ?_
  refine k_iast d_X11_init_401 (fun h99 eh99 => ?_)
  refine j_dup d_X11_init_402 (fun G => tp_cat G _) ?_
  refine j_iconst ⟨by decide, by decide⟩ d_X11_init_403 ?_
  refine j_iconst ⟨by decide, by decide⟩ d_X11_init_404 ?_
  refine k_iast d_X11_init_405 (fun h100 eh100 => ?_)
  refine j_dup d_X11_init_406 (fun G => tp_cat G _) ?_
  refine j_iconst ⟨by decide, by decide⟩ d_X11_init_407 ?_
  refine j_iconst ⟨by decide, by decide⟩ d_X11_init_408 ?_
  refine k_iast d_X11_init_409 (fun h101 eh101 => ?_)
  refine j_dup d_X11_init_410 (fun G => tp_cat G _) ?_
  refine j_iconst ⟨by decide, by decide⟩ d_X11_init_411 ?_
  refine j_iconst ⟨by decide, by decide⟩ d_X11_init_412 ?_
  refine k_iast d_X11_init_413 (fun h102 eh102 => ?_)
  refine k_put (z := 2) (v := (h97.length : Int)) (fin := true) fl_Model_155 (pd_11_64 _) (fun _ => ⟨rfl, fun C T N h => by cases h; rfl⟩) pt_11 d_X11_init_414 (fun h103 eh103 => ?_)
  refine j_aload_n rfl d_X11_init_417 rfl ?_
  refine j_iconst ⟨by decide, by decide⟩ d_X11_init_418 ?_
  refine k_newa (N := 4) (tag := 21) (ty := .int) rfl (by decide) rfl (by decide) (by decide) (by decide) wd_71 (fun _ _ => rfl) (fun _ => (⟨by decide, by decide⟩ : tp_r 0)) (fun _ _ h => h) ⟨rfl, rfl⟩ d_X11_init_419 (fun h104 eh104 => ?_)
  refine k_put (z := 2) (v := (h103.length : Int)) (fin := true) fl_Model_158 (pd_11_65 _) (fun _ => ⟨rfl, fun C T N h => by cases h; rfl⟩) pt_11 d_X11_init_421 (fun h105 eh105 => ?_)
  refine j_aload_n rfl d_X11_init_424 rfl ?_
  refine j_sipush ⟨by decide, by decide⟩ (by decide +kernel) d_X11_init_425 ?_
  refine k_newa (N := 160) (tag := 21) (ty := .int) rfl (by decide) rfl (by decide) (by decide) (by decide) wd_71 (fun _ _ => rfl) (fun _ => (⟨by decide, by decide⟩ : tp_r 0)) (fun _ _ h => h) ⟨rfl, rfl⟩ d_X11_init_428 (fun h106 eh106 => ?_)
  refine k_put (z := 2) (v := (h105.length : Int)) (fin := true) fl_Model_161 (pd_11_66 _) (fun _ => ⟨rfl, fun C T N h => by cases h; rfl⟩) pt_11 d_X11_init_430 (fun h107 eh107 => ?_)
  refine j_aload_n rfl d_X11_init_433 rfl ?_
  refine j_iconst ⟨by decide, by decide⟩ d_X11_init_434 ?_
  refine j_bipush ⟨by decide, by decide⟩ (by decide +kernel) d_X11_init_435 ?_
  refine j_bind (fun h108 e109 => ?_)
  refine k_callV (y := y_X11_lays) (I' := i_X11_lays) (avs := [.inl 3, .inl 18]) (c := c0) (st := []) (t := 11) (rm := tp_rmc 0 0 0) (cd_X11_lays G c0 3 18 h107 h108 e109) cs_Model_164 wd_1024 wd_1026 ws_36 rfl rfl rfl (Nat.le_of_ble_eq_true rfl) ⟨rfl, rfl⟩ ⟨by decide, by decide⟩ ⟨rfl, rfl⟩ d_X11_init_437 ?_
  exact k_vret d_X11_init_440 rfl rfl
set_option maxHeartbeats 4000000 in
set_option maxRecDepth 100000 in
theorem cd_X11_init (G : tp_G) (c0 : Int) (H0 r : tp_D) (h : df_X11_init H0.length (tp_tot H0) c0 H0 = some r) (l : Launch) : Met l y_X11_init (tp_ws y_X11_init i_X11_init) (tp_rmc 1 51 3618) (tp_Pc G [.inr (.inr c0)] H0.length (tp_dy H0)) (tp_Q G (none, r.length, tp_dy r)) 51 3618 (tp_A G) := by
  have hJ := TD_X11_init G H0.length (tp_tot H0) c0 H0
  rw [Nat.sub_self, Nat.sub_self] at hJ
  exact tp_met (I := i_X11_init) (y := y_X11_init) (by decide +kernel) (Eq.refl "TypesAtPrimeModel") (Eq.refl "<init>") (lv := [some (.inr (.inr c0))]) rfl (Nat.le_of_ble_eq_true rfl) hJ h l
