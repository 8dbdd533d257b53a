section TPF
variable {I : tp_I} {R : Room} {G : tp_G} {mc ms : Nat} {ρ : Type} {out : ρ → tp_O} {n : Nat} {g : Nat → tp_C} {k q : Nat} {lv : List (Option tp_V)} {pc : Nat} {st : List tp_V} {φ : Option ρ}
theorem j_if_eqF {x : Int} {off : Int} {tgt : Nat} (hd : decode I.1 pc = .ok (.ifCond .eq off, 3)) (ht : (pc : Int) + off = (tgt : Int)) (h : ¬ x = 0) (kk : tp_J I R G mc ms out n g k q lv (pc + 3) st φ) : tp_J I R G mc ms out n g k q lv pc (.inl x :: st) φ := by
  have := j_if_eq (φ1 := φ) (φ2 := φ) hd ht (fun z => absurd z h) (fun _ => kk)
  rwa [ite_self] at this
theorem j_if_neF {x : Int} {off : Int} {tgt : Nat} (hd : decode I.1 pc = .ok (.ifCond .ne off, 3)) (ht : (pc : Int) + off = (tgt : Int)) (h : x = 0) (kk : tp_J I R G mc ms out n g k q lv (pc + 3) st φ) : tp_J I R G mc ms out n g k q lv pc (.inl x :: st) φ := by
  have := j_if_ne (φ1 := φ) (φ2 := φ) hd ht (fun z => absurd h z) (fun _ => kk)
  rwa [ite_self] at this
theorem j_if_ltF {x : Int} {off : Int} {tgt : Nat} (hd : decode I.1 pc = .ok (.ifCond .lt off, 3)) (ht : (pc : Int) + off = (tgt : Int)) (h : ¬ x < 0) (kk : tp_J I R G mc ms out n g k q lv (pc + 3) st φ) : tp_J I R G mc ms out n g k q lv pc (.inl x :: st) φ := by
  have := j_if_lt (φ1 := φ) (φ2 := φ) hd ht (fun z => absurd z h) (fun _ => kk)
  rwa [ite_self] at this
theorem j_icmp_ltT {x y : Int} {off : Int} {tgt : Nat} (hd : decode I.1 pc = .ok (.if_icmp .lt off, 3)) (ht : (pc : Int) + off = (tgt : Int)) (h : x < y) (kk : tp_J I R G mc ms out n g k q lv tgt st φ) : tp_J I R G mc ms out n g k q lv pc (.inl y :: .inl x :: st) φ := by
  have := j_icmp_lt (φ1 := φ) (φ2 := φ) hd ht (fun _ => kk) (fun z => absurd h z)
  rwa [ite_self] at this
theorem j_gstO {C nm ds : String} {ix : Nat} (hZ : ∀ s : State, tp_X G s s.heap → va_Z C nm ds .null (tp_A G) s s.heap ∨ va_Z C nm ds (.ref (G.2.1 200)) (tp_A G) s s.heap) (hl : Cond.fieldLink I.2.1 ix C nm ds ∈ lw_tbl) (hd : decode I.1 pc = .ok (.getstatic ix, 3)) (kk : ∀ x : Int, tp_J I R G mc ms out n g k q lv (pc + 3) (.inr (.inr x) :: st) φ) : tp_J I R G mc ms out n g k q lv pc st φ := by
  intro r hr p l e s m args below meth c hC ls H locs hL hn hs hH hS
  rcases hZ s hC.2.2.2.2.2.2.2.2.2.2 with hz | hz
  · have w := kk (-1) r hr p l e s m args below meth c hC ls H locs hL hn (tp_oks tp_okR hs) hH hS
    have w : W p l e R s m args below meth c H locs k q (MQ below (tp_Q G (out r)) args s mc ms (tp_A G)) (F0 m (pc + 3) ls (tp_ref G (-1) :: st.map (tp_enc G))) := w
    rw [show tp_ref G (-1) = .null by unfold tp_ref; rw [if_neg (by omega), if_pos rfl]] at w
    exact va_gets hC.1 hC.2.1 hz hS hC.2.2.2.1 (hC.2.2.2.2.1 _ hl rfl) (fun _ h => h) hd w
  · have w := kk (-202) r hr p l e s m args below meth c hC ls H locs hL hn (tp_oks tp_okR hs) hH hS
    have w : W p l e R s m args below meth c H locs k q (MQ below (tp_Q G (out r)) args s mc ms (tp_A G)) (F0 m (pc + 3) ls (tp_ref G (-202) :: st.map (tp_enc G))) := w
    rw [tp_refx G 200 (by omega)] at w
    exact va_gets hC.1 hC.2.1 hz hS hC.2.2.2.1 (hC.2.2.2.2.1 _ hl rfl) (fun _ h => h) hd w
theorem j_xlenN {e N : Nat} {x N' : Int} {ty : FieldType} {f : Nat → Value} (hT : ∀ s : State, tp_X G s s.heap → va_T ty (G.2.1 e) N f (tp_A G) s s.heap) (hx : x = -2 - (e : Int)) (hN : N < 2 ^ 31) (hN' : (N : Int) = N') (hd : decode I.1 pc = .ok (.arraylength, 1)) (kk : tp_J I R G mc ms out n g k q lv (pc + 1) (.inl N' :: st) φ) : tp_J I R G mc ms out n g k q lv pc (.inr (.inr x) :: st) φ := by
  subst hN'
  exact j_xlen hT hx hN hd kk
theorem j_xialdN {e N : Nat} {x i N' : Int} {xs : List Int} (hT : ∀ s : State, tp_X G s s.heap → va_T .int (G.2.1 e) N (fun j => .int (Int32.ofInt (xs.getD j 0))) (tp_A G) s s.heap) (hx : x = -2 - (e : Int)) (hr0 : ∀ j, tp_r (xs.getD j 0)) (hN' : (N : Int) = N') (hd : decode I.1 pc = .ok (.iaload, 1)) (kk : tp_J I R G mc ms out n g k q lv (pc + 1) (.inl (xs.getD i.toNat 0) :: st) φ) : tp_J I R G mc ms out n g k q lv pc (.inl i :: .inr (.inr x) :: st) (if 0 ≤ i ∧ i < N' then φ else none) := by
  subst hN'
  exact j_xiald hT hx hr0 hd kk
end TPF
theorem tp_g32 (l : List Int) (j : Nat) : (l.map Int32.ofInt).getD j 0 = Int32.ofInt (l.getD j 0) := by
  rw [List.getD_eq_getElem?_getD, List.getD_eq_getElem?_getD, List.getElem?_map]
  cases l[j]? <;> rfl
def tp_primes : List Int := [2, 3, 5, 7]
def tp_limits : List Int := [28, 18, 12, 10]
def tp_txi : List (List Int) := [[107, 110, 111, 116, 115], [108, 101, 97, 118, 101, 115], [105, 110, 100, 101, 120], [111, 112, 101, 110], [119, 105, 108, 100], [108, 101, 118, 101, 108, 115], [115, 105, 122, 101], [100, 101, 103, 114, 101, 101], [112, 114, 105, 109, 101]]
theorem tp_lr {l : List Int} (h : l.all (fun x => decide (0 ≤ x) && decide (x ≤ 1000)) = true) (j : Nat) : tp_r (l.getD j 0) := by
  rw [List.getD_eq_getElem?_getD]
  cases hj : l[j]? with
  | none => exact ⟨by decide, by decide⟩
  | some x =>
    have := List.all_eq_true.mp h x (List.mem_of_getElem? hj)
    simp only [Bool.and_eq_true, decide_eq_true_eq] at this
    show tp_r x
    unfold tp_r; omega
theorem tp_primesT {G : tp_G} (s : State) (h : tp_X G s s.heap) : va_T .int (G.2.1 0) 4 (fun j => .int (Int32.ofInt (tp_primes.getD j 0))) (tp_A G) s s.heap := by
  have h1 := h.1.2
  have e : (fun j => Value.int (([2, 3, 5, 7] : List Int32).getD j 0)) = (fun j => Value.int (Int32.ofInt (tp_primes.getD j 0))) := funext fun j => by rw [← tp_g32]; rfl
  rw [e] at h1
  exact h1
theorem tp_limitsT {G : tp_G} (s : State) (h : tp_X G s s.heap) : va_T .int (G.2.1 1) 4 (fun j => .int (Int32.ofInt (tp_limits.getD j 0))) (tp_A G) s s.heap := by
  have h1 := h.2.1.2
  have e : (fun j => Value.int (([28, 18, 12, 10] : List Int32).getD j 0)) = (fun j => Value.int (Int32.ofInt (tp_limits.getD j 0))) := funext fun j => by rw [← tp_g32]; rfl
  rw [e] at h1
  exact h1
theorem tp_textsT {G : tp_G} {i : Nat} (hi : i < 9) (s : State) (h : tp_X G s s.heap) : va_T .byte (G.2.1 (100 + i)) (tp_txl.getD i 0) (fun j => .int (Int32.ofInt ((tp_txi.getD i []).getD j 0))) (tp_A G) s s.heap := by
  have h1 := (h.2.2.1.1 i hi).2.2.2
  have e0 : ∀ i, i < 9 → tp_txb.getD i [] = (tp_txi.getD i []).map Int32.ofInt := by decide +kernel
  have e : (fun j => Value.int ((tp_txb.getD i []).getD j 0)) = (fun j => Value.int (Int32.ofInt ((tp_txi.getD i []).getD j 0))) := funext fun j => by rw [e0 i hi, tp_g32]
  rw [e] at h1
  exact h1
theorem tp_textsr {i : Nat} (hi : i < 9) (j : Nat) : tp_r ((tp_txi.getD i []).getD j 0) := by
  have h : ∀ i, i < 9 → (tp_txi.getD i []).all (fun x => decide (0 ≤ x) && decide (x ≤ 1000)) = true := by decide +kernel
  exact tp_lr (h i hi) j
theorem tp_txl_lt {i : Nat} (hi : i < 9) : tp_txl.getD i 0 < 2 ^ 31 := by
  have h : ∀ i, i < 9 → tp_txl.getD i 0 < 2 ^ 31 := by decide +kernel
  exact h i hi
theorem tp_txl_shr {i : Nat} (hi : i < 9) : tp_shr (tp_txl.getD i 0 : Nat) 0 = (tp_txl.getD i 0 : Nat) := by
  have h : ∀ i, i < 9 → tp_shr (tp_txl.getD i 0 : Nat) 0 = (tp_txl.getD i 0 : Nat) := by decide +kernel
  exact h i hi
theorem tp_tx_ch {i j : Nat} (hi : i < 9) (hj : j < tp_txl.getD i 0) : (tp_and ((tp_txi.getD i []).getD j 0) 255) % 65536 = (tp_txi.getD i []).getD j 0 ∧ 0 ≤ (tp_txi.getD i []).getD j 0 ∧ (tp_txi.getD i []).getD j 0 < 128 := by
  have h : ∀ i, i < 9 → ∀ j, j < tp_txl.getD i 0 → (tp_and ((tp_txi.getD i []).getD j 0) 255) % 65536 = (tp_txi.getD i []).getD j 0 ∧ 0 ≤ (tp_txi.getD i []).getD j 0 ∧ (tp_txi.getD i []).getD j 0 < 128 := by decide +kernel
  exact h i hi j hj
theorem tp_char {x : Int} (h0 : 0 ≤ x) (h1 : x < 128) : narrow .char (.int (Int32.ofInt x)) = .int (Int32.ofInt x) := by
  have e : Int32.ofInt x = nI x.toNat := by
    apply Int32.toInt_inj.mp
    rw [nI_toInt (by omega), tp_i_rt (by unfold tp_r; omega)]
    omega
  rw [e]
  exact (pk_charN (by omega)).1
def y_J0_coder_7d493 : MethodName := ⟨"java/lang/String", "coder", "()B"⟩
abbrev i_J0_coder_7d493 : tp_I := (prog_15_method_152_code, "java/lang/String", (some .byte), 1, "coder")
theorem d_J0_coder_7d493_0 : decode prog_15_method_152_code 0 = .ok (.getstatic 38, 3) := by decide +kernel
theorem d_J0_coder_7d493_3 : decode prog_15_method_152_code 3 = .ok (.ifCond .eq 10, 3) := by decide +kernel
theorem d_J0_coder_7d493_6 : decode prog_15_method_152_code 6 = .ok (.aload_n 0, 1) := by decide +kernel
theorem d_J0_coder_7d493_7 : decode prog_15_method_152_code 7 = .ok (.getfield 15, 3) := by decide +kernel
theorem d_J0_coder_7d493_10 : decode prog_15_method_152_code 10 = .ok (.goto 4, 3) := by decide +kernel
theorem d_J0_coder_7d493_13 : decode prog_15_method_152_code 13 = .ok (.iconst 1, 1) := by decide +kernel
theorem d_J0_coder_7d493_14 : decode prog_15_method_152_code 14 = .ok (.ireturn, 1) := by decide +kernel
theorem wd_894 : (.fieldLink "java/lang/String" 38 "java/lang/String" "COMPACT_STRINGS" "Z" : Cond) ∈ lw_tbl := List.mem_append_right _ (List.mem_of_getElem? (i := 894) (by decide +kernel))
theorem wd_1632 : (.fieldLink "java/lang/String" 15 "java/lang/String" "coder" "B" : Cond) ∈ lw_tbl := List.mem_append_right _ (List.mem_of_getElem? (i := 1632) (by decide +kernel))
theorem wd_1631 : (.fieldLink "java/lang/String" 9 "java/lang/String" "value" "[B" : Cond) ∈ lw_tbl := List.mem_append_right _ (List.mem_of_getElem? (i := 1631) (by decide +kernel))
theorem wd_910 : (.fieldLink "java/lang/String" 1053 "jdk/internal/util/Preconditions" "SIOOBE_FORMATTER" "Ljava/util/function/BiFunction;" : Cond) ∈ lw_tbl := List.mem_append_right _ (List.mem_of_getElem? (i := 910) (by decide +kernel))
set_option maxHeartbeats 4000000 in
set_option maxRecDepth 100000 in
theorem T_J0_coder_7d493 (G : tp_G) {i : Nat} (hi : i < 9) (M0 : tp_M) : tp_J i_J0_coder_7d493 (tp_rm 0) G 0 0 (fun _ : Unit => (some (.inl 0), tp_NC, tp_st M0)) tp_NC (tp_st M0) 0 0 [some (.inr (.inr (-4 - (i : Int))))] 0 [] (some ()) := by
  refine j_gst (v := .inl 1) (fun s h => h.2.2.2.1) ⟨by decide, by decide⟩ wd_894 d_J0_coder_7d493_0 ?_
  refine j_if_eqF (tgt := 13) d_J0_coder_7d493_3 (by decide) (by decide) ?_
  refine j_aload_n rfl d_J0_coder_7d493_6 rfl ?_
  refine j_xget (e := 2 + i) (v := .inl 0) (fun s h => (h.2.2.1.1 i hi).2.1) (by omega) ⟨by decide, by decide⟩ wd_1632 d_J0_coder_7d493_7 ?_
  refine j_goto (tgt := 14) d_J0_coder_7d493_10 (by decide) ?_
  exact j_nret d_J0_coder_7d493_14 rfl rfl rfl ⟨rfl, rfl⟩
set_option maxHeartbeats 4000000 in
set_option maxRecDepth 100000 in
theorem c_J0_coder_7d493 (G : tp_G) {i : Nat} (hi : i < 9) (M0 : tp_M) (l : Launch) : Met l y_J0_coder_7d493 (tp_ws y_J0_coder_7d493 i_J0_coder_7d493) (tp_rm 0) (tp_Pc G [.inr (.inr (-4 - (i : Int)))] tp_NC (tp_st M0)) (tp_Q G (some (.inl 0), tp_NC, tp_st M0)) 0 0 (tp_A G) :=
  tp_met (I := i_J0_coder_7d493) (y := y_J0_coder_7d493) (out := fun _ : Unit => (some (.inl 0), tp_NC, tp_st M0)) (by decide +kernel) (Eq.refl "java/lang/String") (Eq.refl "coder") (lv := [some (.inr (.inr (-4 - (i : Int))))]) rfl (Nat.le_of_ble_eq_true rfl) (T_J0_coder_7d493 G hi M0) (r := ()) rfl l
def y_J0_isLatin1_aae02 : MethodName := ⟨"java/lang/String", "isLatin1", "()Z"⟩
abbrev i_J0_isLatin1_aae02 : tp_I := (prog_15_method_154_code, "java/lang/String", (some .boolean), 1, "isLatin1")
theorem d_J0_isLatin1_aae02_0 : decode prog_15_method_154_code 0 = .ok (.getstatic 38, 3) := by decide +kernel
theorem d_J0_isLatin1_aae02_3 : decode prog_15_method_154_code 3 = .ok (.ifCond .eq 14, 3) := by decide +kernel
theorem d_J0_isLatin1_aae02_6 : decode prog_15_method_154_code 6 = .ok (.aload_n 0, 1) := by decide +kernel
theorem d_J0_isLatin1_aae02_7 : decode prog_15_method_154_code 7 = .ok (.getfield 15, 3) := by decide +kernel
theorem d_J0_isLatin1_aae02_10 : decode prog_15_method_154_code 10 = .ok (.ifCond .ne 7, 3) := by decide +kernel
theorem d_J0_isLatin1_aae02_13 : decode prog_15_method_154_code 13 = .ok (.iconst 1, 1) := by decide +kernel
theorem d_J0_isLatin1_aae02_14 : decode prog_15_method_154_code 14 = .ok (.goto 4, 3) := by decide +kernel
theorem d_J0_isLatin1_aae02_17 : decode prog_15_method_154_code 17 = .ok (.iconst 0, 1) := by decide +kernel
theorem d_J0_isLatin1_aae02_18 : decode prog_15_method_154_code 18 = .ok (.ireturn, 1) := by decide +kernel
set_option maxHeartbeats 4000000 in
set_option maxRecDepth 100000 in
theorem T_J0_isLatin1_aae02 (G : tp_G) {i : Nat} (hi : i < 9) (M0 : tp_M) : tp_J i_J0_isLatin1_aae02 (tp_rm 0) G 0 0 (fun _ : Unit => (some (.inl 1), tp_NC, tp_st M0)) tp_NC (tp_st M0) 0 0 [some (.inr (.inr (-4 - (i : Int))))] 0 [] (some ()) := by
  refine j_gst (v := .inl 1) (fun s h => h.2.2.2.1) ⟨by decide, by decide⟩ wd_894 d_J0_isLatin1_aae02_0 ?_
  refine j_if_eqF (tgt := 17) d_J0_isLatin1_aae02_3 (by decide) (by decide) ?_
  refine j_aload_n rfl d_J0_isLatin1_aae02_6 rfl ?_
  refine j_xget (e := 2 + i) (v := .inl 0) (fun s h => (h.2.2.1.1 i hi).2.1) (by omega) ⟨by decide, by decide⟩ wd_1632 d_J0_isLatin1_aae02_7 ?_
  refine j_if_neF (tgt := 17) d_J0_isLatin1_aae02_10 (by decide) rfl ?_
  refine j_iconst ⟨by decide, by decide⟩ d_J0_isLatin1_aae02_13 ?_
  refine j_goto (tgt := 18) d_J0_isLatin1_aae02_14 (by decide) ?_
  exact j_zret d_J0_isLatin1_aae02_18 rfl (Or.inr rfl) rfl ⟨rfl, rfl⟩
set_option maxHeartbeats 4000000 in
set_option maxRecDepth 100000 in
theorem c_J0_isLatin1_aae02 (G : tp_G) {i : Nat} (hi : i < 9) (M0 : tp_M) (l : Launch) : Met l y_J0_isLatin1_aae02 (tp_ws y_J0_isLatin1_aae02 i_J0_isLatin1_aae02) (tp_rm 0) (tp_Pc G [.inr (.inr (-4 - (i : Int)))] tp_NC (tp_st M0)) (tp_Q G (some (.inl 1), tp_NC, tp_st M0)) 0 0 (tp_A G) :=
  tp_met (I := i_J0_isLatin1_aae02) (y := y_J0_isLatin1_aae02) (out := fun _ : Unit => (some (.inl 1), tp_NC, tp_st M0)) (by decide +kernel) (Eq.refl "java/lang/String") (Eq.refl "isLatin1") (lv := [some (.inr (.inr (-4 - (i : Int))))]) rfl (Nat.le_of_ble_eq_true rfl) (T_J0_isLatin1_aae02 G hi M0) (r := ()) rfl l
def y_J0_length_8abf5 : MethodName := ⟨"java/lang/String", "length", "()I"⟩
abbrev i_J0_length_8abf5 : tp_I := (prog_15_method_54_code, "java/lang/String", (some .int), 1, "length")
theorem d_J0_length_8abf5_0 : decode prog_15_method_54_code 0 = .ok (.aload_n 0, 1) := by decide +kernel
theorem d_J0_length_8abf5_1 : decode prog_15_method_54_code 1 = .ok (.getfield 9, 3) := by decide +kernel
theorem d_J0_length_8abf5_4 : decode prog_15_method_54_code 4 = .ok (.arraylength, 1) := by decide +kernel
theorem d_J0_length_8abf5_5 : decode prog_15_method_54_code 5 = .ok (.aload_n 0, 1) := by decide +kernel
theorem d_J0_length_8abf5_6 : decode prog_15_method_54_code 6 = .ok (.invokevirtual 335, 3) := by decide +kernel
theorem d_J0_length_8abf5_9 : decode prog_15_method_54_code 9 = .ok (.ishr, 1) := by decide +kernel
theorem d_J0_length_8abf5_10 : decode prog_15_method_54_code 10 = .ok (.ireturn, 1) := by decide +kernel
theorem wd_893 : (.code ⟨"java/lang/String", "coder", "()B"⟩ prog_15_method_152_code 1 (some .byte) : Cond) ∈ lw_tbl := List.mem_append_right _ (List.mem_of_getElem? (i := 893) (by decide +kernel))
theorem wd_16 : (.initialized "java/lang/String" : Cond) ∈ lw_tbl := List.mem_append_right _ (List.mem_of_getElem? (i := 16) (by decide +kernel))
theorem cs_java_lang_String_335 : tp_CS "java/lang/String" 335 y_J0_coder_7d493 i_J0_coder_7d493 0 := ⟨wd_893, wd_16, by decide, by decide, by decide +kernel⟩
theorem wd_890 : (.methodLink "java/lang/String" 335 ⟨"java/lang/String", "coder", "()B"⟩ : Cond) ∈ lw_tbl := List.mem_append_right _ (List.mem_of_getElem? (i := 890) (by decide +kernel))
theorem wd_891 : (.instanceMethod ⟨"java/lang/String", "coder", "()B"⟩ : Cond) ∈ lw_tbl := List.mem_append_right _ (List.mem_of_getElem? (i := 891) (by decide +kernel))
theorem wd_892 : (.selects "java/lang/String" ⟨"java/lang/String", "coder", "()B"⟩ ⟨"java/lang/String", "coder", "()B"⟩ : Cond) ∈ lw_tbl := List.mem_append_right _ (List.mem_of_getElem? (i := 892) (by decide +kernel))
set_option maxHeartbeats 4000000 in
set_option maxRecDepth 100000 in
theorem T_J0_length_8abf5 (G : tp_G) {i : Nat} (hi : i < 9) (M0 : tp_M) : tp_J i_J0_length_8abf5 (tp_rm 1) G 0 0 (fun _ : Unit => (some (.inl ((tp_txl.getD i 0 : Nat) : Int)), tp_NC, tp_st M0)) tp_NC (tp_st M0) 0 0 [some (.inr (.inr (-4 - (i : Int))))] 0 [] (some ()) := by
  refine j_aload_n rfl d_J0_length_8abf5_0 rfl ?_
  refine j_xget (e := 2 + i) (v := .inr (.inr (-102 - (i : Int)))) (fun s h => by have h9 := (h.2.2.1.1 i hi).2.2.1; show va_OF _ _ _ (tp_ref G (-102 - (i : Int))) _ _ _ _; rw [tp_refx G (100 + i) (by omega)]; exact h9) (by omega) trivial wd_1631 d_J0_length_8abf5_1 ?_
  refine j_xlen (e := 100 + i) (N := tp_txl.getD i 0) (fun s h => tp_textsT hi s h) (by omega) (tp_txl_lt hi) d_J0_length_8abf5_4 ?_
  refine j_aload_n rfl d_J0_length_8abf5_5 rfl ?_
  refine j_callX (y := y_J0_coder_7d493) (I' := i_J0_coder_7d493) (i := i) (avs := []) (st := [.inl ((tp_txl.getD i 0 : Nat) : Int)]) hi rfl (c_J0_coder_7d493 G hi M0) rfl cs_java_lang_String_335 wd_890 wd_891 wd_892 rfl rfl (Nat.le_of_ble_eq_true rfl) ⟨rfl, rfl⟩ ⟨by decide, by decide⟩ ⟨by decide, by decide⟩ d_J0_length_8abf5_6 ?_
  refine j_ishr (x := ((tp_txl.getD i 0 : Nat) : Int)) (y := 0) d_J0_length_8abf5_9 ?_
  rw [tp_txl_shr hi]
  exact j_iret d_J0_length_8abf5_10 rfl rfl ⟨rfl, rfl⟩
set_option maxHeartbeats 4000000 in
set_option maxRecDepth 100000 in
theorem c_J0_length_8abf5 (G : tp_G) {i : Nat} (hi : i < 9) (M0 : tp_M) (l : Launch) : Met l y_J0_length_8abf5 (tp_ws y_J0_length_8abf5 i_J0_length_8abf5) (tp_rm 1) (tp_Pc G [.inr (.inr (-4 - (i : Int)))] tp_NC (tp_st M0)) (tp_Q G (some (.inl ((tp_txl.getD i 0 : Nat) : Int)), tp_NC, tp_st M0)) 0 0 (tp_A G) :=
  tp_met (I := i_J0_length_8abf5) (y := y_J0_length_8abf5) (out := fun _ : Unit => (some (.inl ((tp_txl.getD i 0 : Nat) : Int)), tp_NC, tp_st M0)) (by decide +kernel) (Eq.refl "java/lang/String") (Eq.refl "length") (lv := [some (.inr (.inr (-4 - (i : Int))))]) rfl (Nat.le_of_ble_eq_true rfl) (T_J0_length_8abf5 G hi M0) (r := ()) rfl l
def y_J3_checkIndex_8e157 : MethodName := ⟨"jdk/internal/util/Preconditions", "checkIndex", "(IILjava/util/function/BiFunction;)I"⟩
abbrev i_J3_checkIndex_8e157 : tp_I := (prog_20_method_11_code, "jdk/internal/util/Preconditions", (some .int), 3, "checkIndex")
theorem d_J3_checkIndex_8e157_0 : decode prog_20_method_11_code 0 = .ok (.iload_n 0, 1) := by decide +kernel
theorem d_J3_checkIndex_8e157_1 : decode prog_20_method_11_code 1 = .ok (.ifCond .lt 8, 3) := by decide +kernel
theorem d_J3_checkIndex_8e157_4 : decode prog_20_method_11_code 4 = .ok (.iload_n 0, 1) := by decide +kernel
theorem d_J3_checkIndex_8e157_5 : decode prog_20_method_11_code 5 = .ok (.iload_n 1, 1) := by decide +kernel
theorem d_J3_checkIndex_8e157_6 : decode prog_20_method_11_code 6 = .ok (.if_icmp .lt 10, 3) := by decide +kernel
theorem d_J3_checkIndex_8e157_16 : decode prog_20_method_11_code 16 = .ok (.iload_n 0, 1) := by decide +kernel
theorem d_J3_checkIndex_8e157_17 : decode prog_20_method_11_code 17 = .ok (.ireturn, 1) := by decide +kernel
set_option maxHeartbeats 4000000 in
set_option maxRecDepth 100000 in
theorem T_J3_checkIndex_8e157 (G : tp_G) {a b : Int} (h0 : 0 ≤ a) (h1 : a < b) (x : Int) (M0 : tp_M) : tp_J i_J3_checkIndex_8e157 (tp_rm 0) G 0 0 (fun _ : Unit => (some (.inl a), tp_NC, tp_st M0)) tp_NC (tp_st M0) 0 0 [some (.inl a), some (.inl b), some (.inr (.inr x))] 0 [] (some ()) := by
  refine j_iload_n rfl d_J3_checkIndex_8e157_0 rfl ?_
  refine j_if_ltF (tgt := 9) d_J3_checkIndex_8e157_1 (by decide) (by omega) ?_
  refine j_iload_n rfl d_J3_checkIndex_8e157_4 rfl ?_
  refine j_iload_n rfl d_J3_checkIndex_8e157_5 rfl ?_
  refine j_icmp_ltT (tgt := 16) d_J3_checkIndex_8e157_6 (by decide) h1 ?_
  refine j_iload_n rfl d_J3_checkIndex_8e157_16 rfl ?_
  exact j_iret d_J3_checkIndex_8e157_17 rfl rfl ⟨rfl, rfl⟩
set_option maxHeartbeats 4000000 in
set_option maxRecDepth 100000 in
theorem c_J3_checkIndex_8e157 (G : tp_G) {a b : Int} (h0 : 0 ≤ a) (h1 : a < b) (x : Int) (M0 : tp_M) (l : Launch) : Met l y_J3_checkIndex_8e157 (tp_ws y_J3_checkIndex_8e157 i_J3_checkIndex_8e157) (tp_rm 0) (tp_Pc G [.inl a, .inl b, .inr (.inr x)] tp_NC (tp_st M0)) (tp_Q G (some (.inl a), tp_NC, tp_st M0)) 0 0 (tp_A G) :=
  tp_met (I := i_J3_checkIndex_8e157) (y := y_J3_checkIndex_8e157) (out := fun _ : Unit => (some (.inl a), tp_NC, tp_st M0)) (by decide +kernel) (Eq.refl "jdk/internal/util/Preconditions") (Eq.refl "checkIndex") (lv := [some (.inl a), some (.inl b), some (.inr (.inr x))]) rfl (Nat.le_of_ble_eq_true rfl) (T_J3_checkIndex_8e157 G h0 h1 x M0) (r := ()) rfl l
def y_J0_checkIndex_df160 : MethodName := ⟨"java/lang/String", "checkIndex", "(II)V"⟩
abbrev i_J0_checkIndex_df160 : tp_I := (prog_15_method_155_code, "java/lang/String", none, 2, "checkIndex")
theorem d_J0_checkIndex_df160_0 : decode prog_15_method_155_code 0 = .ok (.iload_n 0, 1) := by decide +kernel
theorem d_J0_checkIndex_df160_1 : decode prog_15_method_155_code 1 = .ok (.iload_n 1, 1) := by decide +kernel
theorem d_J0_checkIndex_df160_2 : decode prog_15_method_155_code 2 = .ok (.getstatic 1053, 3) := by decide +kernel
theorem d_J0_checkIndex_df160_5 : decode prog_15_method_155_code 5 = .ok (.invokestatic 1059, 3) := by decide +kernel
theorem d_J0_checkIndex_df160_8 : decode prog_15_method_155_code 8 = .ok (.pop, 1) := by decide +kernel
theorem d_J0_checkIndex_df160_9 : decode prog_15_method_155_code 9 = .ok (.return_, 1) := by decide +kernel
theorem wd_914 : (.code ⟨"jdk/internal/util/Preconditions", "checkIndex", "(IILjava/util/function/BiFunction;)I"⟩ prog_20_method_11_code 3 (some .int) : Cond) ∈ lw_tbl := List.mem_append_right _ (List.mem_of_getElem? (i := 914) (by decide +kernel))
theorem wd_18 : (.initialized "jdk/internal/util/Preconditions" : Cond) ∈ lw_tbl := List.mem_append_right _ (List.mem_of_getElem? (i := 18) (by decide +kernel))
theorem cs_java_lang_String_1059 : tp_CS "java/lang/String" 1059 y_J3_checkIndex_8e157 i_J3_checkIndex_8e157 3 := ⟨wd_914, wd_18, by decide, by decide, by decide +kernel⟩
theorem wd_912 : (.methodLink "java/lang/String" 1059 ⟨"jdk/internal/util/Preconditions", "checkIndex", "(IILjava/util/function/BiFunction;)I"⟩ : Cond) ∈ lw_tbl := List.mem_append_right _ (List.mem_of_getElem? (i := 912) (by decide +kernel))
theorem wd_913 : (.static ⟨"jdk/internal/util/Preconditions", "checkIndex", "(IILjava/util/function/BiFunction;)I"⟩ : Cond) ∈ lw_tbl := List.mem_append_right _ (List.mem_of_getElem? (i := 913) (by decide +kernel))
set_option maxHeartbeats 4000000 in
set_option maxRecDepth 100000 in
theorem T_J0_checkIndex_df160 (G : tp_G) {a b : Int} (h0 : 0 ≤ a) (h1 : a < b) (M0 : tp_M) : tp_J i_J0_checkIndex_df160 (tp_rm 1) G 0 0 (fun _ : Unit => (none, tp_NC, tp_st M0)) tp_NC (tp_st M0) 0 0 [some (.inl a), some (.inl b)] 0 [] (some ()) := by
  refine j_iload_n rfl d_J0_checkIndex_df160_0 rfl ?_
  refine j_iload_n rfl d_J0_checkIndex_df160_1 rfl ?_
  refine j_gstO (fun s h => h.2.2.2.2.1) wd_910 d_J0_checkIndex_df160_2 (fun x => ?_)
  refine j_callS (y := y_J3_checkIndex_8e157) (I' := i_J3_checkIndex_8e157) (avs := [.inl a, .inl b, .inr (.inr x)]) (st := []) (c_J3_checkIndex_8e157 G h0 h1 x M0) cs_java_lang_String_1059 wd_912 wd_913 rfl rfl (Nat.le_of_ble_eq_true rfl) ⟨rfl, rfl⟩ ⟨by decide, by decide⟩ ⟨by decide, by decide⟩ d_J0_checkIndex_df160_5 ?_
  refine j_pop (v := .inl a) d_J0_checkIndex_df160_8 (fun G => tp_cat G _) ?_
  exact j_vret d_J0_checkIndex_df160_9 rfl rfl ⟨rfl, rfl⟩
set_option maxHeartbeats 4000000 in
set_option maxRecDepth 100000 in
theorem c_J0_checkIndex_df160 (G : tp_G) {a b : Int} (h0 : 0 ≤ a) (h1 : a < b) (M0 : tp_M) (l : Launch) : Met l y_J0_checkIndex_df160 (tp_ws y_J0_checkIndex_df160 i_J0_checkIndex_df160) (tp_rm 1) (tp_Pc G [.inl a, .inl b] tp_NC (tp_st M0)) (tp_Q G (none, tp_NC, tp_st M0)) 0 0 (tp_A G) :=
  tp_met (I := i_J0_checkIndex_df160) (y := y_J0_checkIndex_df160) (out := fun _ : Unit => (none, tp_NC, tp_st M0)) (by decide +kernel) (Eq.refl "java/lang/String") (Eq.refl "checkIndex") (lv := [some (.inl a), some (.inl b)]) rfl (Nat.le_of_ble_eq_true rfl) (T_J0_checkIndex_df160 G h0 h1 M0) (r := ()) rfl l
def y_J1_charAt_3b067 : MethodName := ⟨"java/lang/StringLatin1", "charAt", "([BI)C"⟩
abbrev i_J1_charAt_3b067 : tp_I := (prog_16_method_2_code, "java/lang/StringLatin1", (some .char), 2, "charAt")
theorem d_J1_charAt_3b067_0 : decode prog_16_method_2_code 0 = .ok (.iload_n 1, 1) := by decide +kernel
theorem d_J1_charAt_3b067_1 : decode prog_16_method_2_code 1 = .ok (.aload_n 0, 1) := by decide +kernel
theorem d_J1_charAt_3b067_2 : decode prog_16_method_2_code 2 = .ok (.arraylength, 1) := by decide +kernel
theorem d_J1_charAt_3b067_3 : decode prog_16_method_2_code 3 = .ok (.invokestatic 9, 3) := by decide +kernel
theorem d_J1_charAt_3b067_6 : decode prog_16_method_2_code 6 = .ok (.aload_n 0, 1) := by decide +kernel
theorem d_J1_charAt_3b067_7 : decode prog_16_method_2_code 7 = .ok (.iload_n 1, 1) := by decide +kernel
theorem d_J1_charAt_3b067_8 : decode prog_16_method_2_code 8 = .ok (.baload, 1) := by decide +kernel
theorem d_J1_charAt_3b067_9 : decode prog_16_method_2_code 9 = .ok (.sipush 255, 3) := by decide +kernel
theorem d_J1_charAt_3b067_12 : decode prog_16_method_2_code 12 = .ok (.iand, 1) := by decide +kernel
theorem d_J1_charAt_3b067_13 : decode prog_16_method_2_code 13 = .ok (.i2c, 1) := by decide +kernel
theorem d_J1_charAt_3b067_14 : decode prog_16_method_2_code 14 = .ok (.ireturn, 1) := by decide +kernel
theorem wd_909 : (.code ⟨"java/lang/String", "checkIndex", "(II)V"⟩ prog_15_method_155_code 2 (none : Option Jvm.ClassFile.FieldType) : Cond) ∈ lw_tbl := List.mem_append_right _ (List.mem_of_getElem? (i := 909) (by decide +kernel))
theorem cs_java_lang_StringLatin1_9 : tp_CS "java/lang/StringLatin1" 9 y_J0_checkIndex_df160 i_J0_checkIndex_df160 2 := ⟨wd_909, wd_16, by decide, by decide, by decide +kernel⟩
theorem wd_907 : (.methodLink "java/lang/StringLatin1" 9 ⟨"java/lang/String", "checkIndex", "(II)V"⟩ : Cond) ∈ lw_tbl := List.mem_append_right _ (List.mem_of_getElem? (i := 907) (by decide +kernel))
theorem wd_908 : (.static ⟨"java/lang/String", "checkIndex", "(II)V"⟩ : Cond) ∈ lw_tbl := List.mem_append_right _ (List.mem_of_getElem? (i := 908) (by decide +kernel))
set_option maxHeartbeats 4000000 in
set_option maxRecDepth 100000 in
theorem T_J1_charAt_3b067 (G : tp_G) {i : Nat} (hi : i < 9) {j : Int} (h0 : 0 ≤ j) (h1 : j < ((tp_txl.getD i 0 : Nat) : Int)) (M0 : tp_M) : tp_J i_J1_charAt_3b067 (tp_rm 2) G 0 0 (fun _ : Unit => (some (.inl ((tp_txi.getD i []).getD j.toNat 0)), tp_NC, tp_st M0)) tp_NC (tp_st M0) 0 0 [some (.inr (.inr (-102 - (i : Int)))), some (.inl j)] 0 [] (some ()) := by
  have hc := tp_tx_ch (i := i) (j := j.toNat) hi (by omega)
  refine j_iload_n rfl d_J1_charAt_3b067_0 rfl ?_
  refine j_aload_n rfl d_J1_charAt_3b067_1 rfl ?_
  refine j_xlen (e := 100 + i) (N := tp_txl.getD i 0) (fun s h => tp_textsT hi s h) (by omega) (tp_txl_lt hi) d_J1_charAt_3b067_2 ?_
  refine j_callS (y := y_J0_checkIndex_df160) (I' := i_J0_checkIndex_df160) (avs := [.inl j, .inl ((tp_txl.getD i 0 : Nat) : Int)]) (st := []) (c_J0_checkIndex_df160 G h0 h1 M0) cs_java_lang_StringLatin1_9 wd_907 wd_908 rfl rfl (Nat.le_of_ble_eq_true rfl) ⟨rfl, rfl⟩ ⟨by decide, by decide⟩ ⟨by decide, by decide⟩ d_J1_charAt_3b067_3 ?_
  refine j_aload_n rfl d_J1_charAt_3b067_6 rfl ?_
  refine j_iload_n rfl d_J1_charAt_3b067_7 rfl ?_
  refine j_xbald (e := 100 + i) (N := tp_txl.getD i 0) (xs := tp_txi.getD i []) (fun s h => tp_textsT hi s h) (by omega) (tp_textsr hi) ⟨h0, h1⟩ d_J1_charAt_3b067_8 ?_
  refine j_sipush ⟨by decide, by decide⟩ (by decide +kernel) d_J1_charAt_3b067_9 ?_
  refine j_iand d_J1_charAt_3b067_12 ?_
  refine j_i2c d_J1_charAt_3b067_13 ?_
  rw [hc.1]
  exact j_nret d_J1_charAt_3b067_14 rfl (tp_char hc.2.1 hc.2.2) rfl ⟨rfl, rfl⟩
set_option maxHeartbeats 4000000 in
set_option maxRecDepth 100000 in
theorem c_J1_charAt_3b067 (G : tp_G) {i : Nat} (hi : i < 9) {j : Int} (h0 : 0 ≤ j) (h1 : j < ((tp_txl.getD i 0 : Nat) : Int)) (M0 : tp_M) (l : Launch) : Met l y_J1_charAt_3b067 (tp_ws y_J1_charAt_3b067 i_J1_charAt_3b067) (tp_rm 2) (tp_Pc G [.inr (.inr (-102 - (i : Int))), .inl j] tp_NC (tp_st M0)) (tp_Q G (some (.inl ((tp_txi.getD i []).getD j.toNat 0)), tp_NC, tp_st M0)) 0 0 (tp_A G) :=
  tp_met (I := i_J1_charAt_3b067) (y := y_J1_charAt_3b067) (out := fun _ : Unit => (some (.inl ((tp_txi.getD i []).getD j.toNat 0)), tp_NC, tp_st M0)) (by decide +kernel) (Eq.refl "java/lang/StringLatin1") (Eq.refl "charAt") (lv := [some (.inr (.inr (-102 - (i : Int)))), some (.inl j)]) rfl (Nat.le_of_ble_eq_true rfl) (T_J1_charAt_3b067 G hi h0 h1 M0) (r := ()) rfl l
def y_J0_charAt_5068e : MethodName := ⟨"java/lang/String", "charAt", "(I)C"⟩
abbrev i_J0_charAt_5068e : tp_I := (prog_15_method_56_code, "java/lang/String", (some .char), 2, "charAt")
theorem d_J0_charAt_5068e_0 : decode prog_15_method_56_code 0 = .ok (.aload_n 0, 1) := by decide +kernel
theorem d_J0_charAt_5068e_1 : decode prog_15_method_56_code 1 = .ok (.invokevirtual 492, 3) := by decide +kernel
theorem d_J0_charAt_5068e_4 : decode prog_15_method_56_code 4 = .ok (.ifCond .eq 12, 3) := by decide +kernel
theorem d_J0_charAt_5068e_7 : decode prog_15_method_56_code 7 = .ok (.aload_n 0, 1) := by decide +kernel
theorem d_J0_charAt_5068e_8 : decode prog_15_method_56_code 8 = .ok (.getfield 9, 3) := by decide +kernel
theorem d_J0_charAt_5068e_11 : decode prog_15_method_56_code 11 = .ok (.iload_n 1, 1) := by decide +kernel
theorem d_J0_charAt_5068e_12 : decode prog_15_method_56_code 12 = .ok (.invokestatic 495, 3) := by decide +kernel
theorem d_J0_charAt_5068e_15 : decode prog_15_method_56_code 15 = .ok (.ireturn, 1) := by decide +kernel
theorem d_J0_charAt_5068e_16 : decode prog_15_method_56_code 16 = .ok (.aload_n 0, 1) := by decide +kernel
theorem d_J0_charAt_5068e_17 : decode prog_15_method_56_code 17 = .ok (.getfield 9, 3) := by decide +kernel
theorem d_J0_charAt_5068e_20 : decode prog_15_method_56_code 20 = .ok (.iload_n 1, 1) := by decide +kernel
theorem d_J0_charAt_5068e_21 : decode prog_15_method_56_code 21 = .ok (.invokestatic 498, 3) := by decide +kernel
theorem d_J0_charAt_5068e_24 : decode prog_15_method_56_code 24 = .ok (.ireturn, 1) := by decide +kernel
theorem wd_903 : (.code ⟨"java/lang/String", "isLatin1", "()Z"⟩ prog_15_method_154_code 1 (some .boolean) : Cond) ∈ lw_tbl := List.mem_append_right _ (List.mem_of_getElem? (i := 903) (by decide +kernel))
theorem cs_java_lang_String_492 : tp_CS "java/lang/String" 492 y_J0_isLatin1_aae02 i_J0_isLatin1_aae02 0 := ⟨wd_903, wd_16, by decide, by decide, by decide +kernel⟩
theorem wd_900 : (.methodLink "java/lang/String" 492 ⟨"java/lang/String", "isLatin1", "()Z"⟩ : Cond) ∈ lw_tbl := List.mem_append_right _ (List.mem_of_getElem? (i := 900) (by decide +kernel))
theorem wd_901 : (.instanceMethod ⟨"java/lang/String", "isLatin1", "()Z"⟩ : Cond) ∈ lw_tbl := List.mem_append_right _ (List.mem_of_getElem? (i := 901) (by decide +kernel))
theorem wd_902 : (.selects "java/lang/String" ⟨"java/lang/String", "isLatin1", "()Z"⟩ ⟨"java/lang/String", "isLatin1", "()Z"⟩ : Cond) ∈ lw_tbl := List.mem_append_right _ (List.mem_of_getElem? (i := 902) (by decide +kernel))
theorem wd_906 : (.code ⟨"java/lang/StringLatin1", "charAt", "([BI)C"⟩ prog_16_method_2_code 2 (some .char) : Cond) ∈ lw_tbl := List.mem_append_right _ (List.mem_of_getElem? (i := 906) (by decide +kernel))
theorem wd_17 : (.initialized "java/lang/StringLatin1" : Cond) ∈ lw_tbl := List.mem_append_right _ (List.mem_of_getElem? (i := 17) (by decide +kernel))
theorem cs_java_lang_String_495 : tp_CS "java/lang/String" 495 y_J1_charAt_3b067 i_J1_charAt_3b067 2 := ⟨wd_906, wd_17, by decide, by decide, by decide +kernel⟩
theorem wd_904 : (.methodLink "java/lang/String" 495 ⟨"java/lang/StringLatin1", "charAt", "([BI)C"⟩ : Cond) ∈ lw_tbl := List.mem_append_right _ (List.mem_of_getElem? (i := 904) (by decide +kernel))
theorem wd_905 : (.static ⟨"java/lang/StringLatin1", "charAt", "([BI)C"⟩ : Cond) ∈ lw_tbl := List.mem_append_right _ (List.mem_of_getElem? (i := 905) (by decide +kernel))
set_option maxHeartbeats 4000000 in
set_option maxRecDepth 100000 in
theorem T_J0_charAt_5068e (G : tp_G) {i : Nat} (hi : i < 9) {j : Int} (h0 : 0 ≤ j) (h1 : j < ((tp_txl.getD i 0 : Nat) : Int)) (M0 : tp_M) : tp_J i_J0_charAt_5068e (tp_rm 3) G 0 0 (fun _ : Unit => (some (.inl ((tp_txi.getD i []).getD j.toNat 0)), tp_NC, tp_st M0)) tp_NC (tp_st M0) 0 0 [some (.inr (.inr (-4 - (i : Int)))), some (.inl j)] 0 [] (some ()) := by
  have hc := tp_tx_ch (i := i) (j := j.toNat) hi (by omega)
  refine j_aload_n rfl d_J0_charAt_5068e_0 rfl ?_
  refine j_callX (y := y_J0_isLatin1_aae02) (I' := i_J0_isLatin1_aae02) (i := i) (avs := []) (st := []) hi rfl (c_J0_isLatin1_aae02 G hi M0) rfl cs_java_lang_String_492 wd_900 wd_901 wd_902 rfl rfl (Nat.le_of_ble_eq_true rfl) ⟨rfl, rfl⟩ ⟨by decide, by decide⟩ ⟨by decide, by decide⟩ d_J0_charAt_5068e_1 ?_
  refine j_if_eqF (x := 1) (tgt := 16) d_J0_charAt_5068e_4 (by decide) (by decide) ?_
  refine j_aload_n rfl d_J0_charAt_5068e_7 rfl ?_
  refine j_xget (e := 2 + i) (v := .inr (.inr (-102 - (i : Int)))) (fun s h => by have h9 := (h.2.2.1.1 i hi).2.2.1; show va_OF _ _ _ (tp_ref G (-102 - (i : Int))) _ _ _ _; rw [tp_refx G (100 + i) (by omega)]; exact h9) (by omega) trivial wd_1631 d_J0_charAt_5068e_8 ?_
  refine j_iload_n rfl d_J0_charAt_5068e_11 rfl ?_
  refine j_callS (y := y_J1_charAt_3b067) (I' := i_J1_charAt_3b067) (avs := [.inr (.inr (-102 - (i : Int))), .inl j]) (st := []) (c_J1_charAt_3b067 G hi h0 h1 M0) cs_java_lang_String_495 wd_904 wd_905 rfl rfl (Nat.le_of_ble_eq_true rfl) ⟨rfl, rfl⟩ ⟨by decide, by decide⟩ ⟨by decide, by decide⟩ d_J0_charAt_5068e_12 ?_
  exact j_nret d_J0_charAt_5068e_15 rfl (tp_char hc.2.1 hc.2.2) rfl ⟨rfl, rfl⟩
set_option maxHeartbeats 4000000 in
set_option maxRecDepth 100000 in
theorem c_J0_charAt_5068e (G : tp_G) {i : Nat} (hi : i < 9) {j : Int} (h0 : 0 ≤ j) (h1 : j < ((tp_txl.getD i 0 : Nat) : Int)) (M0 : tp_M) (l : Launch) : Met l y_J0_charAt_5068e (tp_ws y_J0_charAt_5068e i_J0_charAt_5068e) (tp_rm 3) (tp_Pc G [.inr (.inr (-4 - (i : Int))), .inl j] tp_NC (tp_st M0)) (tp_Q G (some (.inl ((tp_txi.getD i []).getD j.toNat 0)), tp_NC, tp_st M0)) 0 0 (tp_A G) :=
  tp_met (I := i_J0_charAt_5068e) (y := y_J0_charAt_5068e) (out := fun _ : Unit => (some (.inl ((tp_txi.getD i []).getD j.toNat 0)), tp_NC, tp_st M0)) (by decide +kernel) (Eq.refl "java/lang/String") (Eq.refl "charAt") (lv := [some (.inr (.inr (-4 - (i : Int)))), some (.inl j)]) rfl (Nat.le_of_ble_eq_true rfl) (T_J0_charAt_5068e G hi h0 h1 M0) (r := ()) rfl l
theorem wd_889 : (.code ⟨"java/lang/String", "length", "()I"⟩ prog_15_method_54_code 1 (some .int) : Cond) ∈ lw_tbl := List.mem_append_right _ (List.mem_of_getElem? (i := 889) (by decide +kernel))
theorem cs_Main_363 : tp_CS "TypesAtPrime" 363 y_J0_length_8abf5 i_J0_length_8abf5 0 := ⟨wd_889, wd_16, by decide, by decide, by decide +kernel⟩
theorem wd_899 : (.code ⟨"java/lang/String", "charAt", "(I)C"⟩ prog_15_method_56_code 2 (some .char) : Cond) ∈ lw_tbl := List.mem_append_right _ (List.mem_of_getElem? (i := 899) (by decide +kernel))
theorem cs_Main_368 : tp_CS "TypesAtPrime" 368 y_J0_charAt_5068e i_J0_charAt_5068e 1 := ⟨wd_899, wd_16, by decide, by decide, by decide +kernel⟩
theorem wd_886 : (.methodLink "TypesAtPrime" 363 ⟨"java/lang/String", "length", "()I"⟩ : Cond) ∈ lw_tbl := List.mem_append_right _ (List.mem_of_getElem? (i := 886) (by decide +kernel))
theorem wd_896 : (.methodLink "TypesAtPrime" 368 ⟨"java/lang/String", "charAt", "(I)C"⟩ : Cond) ∈ lw_tbl := List.mem_append_right _ (List.mem_of_getElem? (i := 896) (by decide +kernel))
theorem wd_887 : (.instanceMethod ⟨"java/lang/String", "length", "()I"⟩ : Cond) ∈ lw_tbl := List.mem_append_right _ (List.mem_of_getElem? (i := 887) (by decide +kernel))
theorem wd_897 : (.instanceMethod ⟨"java/lang/String", "charAt", "(I)C"⟩ : Cond) ∈ lw_tbl := List.mem_append_right _ (List.mem_of_getElem? (i := 897) (by decide +kernel))
theorem wd_888 : (.selects "java/lang/String" ⟨"java/lang/String", "length", "()I"⟩ ⟨"java/lang/String", "length", "()I"⟩ : Cond) ∈ lw_tbl := List.mem_append_right _ (List.mem_of_getElem? (i := 888) (by decide +kernel))
theorem wd_898 : (.selects "java/lang/String" ⟨"java/lang/String", "charAt", "(I)C"⟩ ⟨"java/lang/String", "charAt", "(I)C"⟩ : Cond) ∈ lw_tbl := List.mem_append_right _ (List.mem_of_getElem? (i := 898) (by decide +kernel))
def f_strlen (a0 : Int) : Option Int := if -12 ≤ a0 ∧ a0 ≤ -4 then some ((tp_txl.getD (-4 - a0).toNat 0 : Nat) : Int) else none
def f_charAt (a0 j : Int) : Option Int := if (-12 ≤ a0 ∧ a0 ≤ -4) ∧ 0 ≤ j ∧ j < ((tp_txl.getD (-4 - a0).toNat 0 : Nat) : Int) then some ((tp_txi.getD (-4 - a0).toNat []).getD j.toNat 0) else none
theorem j_strlen {I : tp_I} {R : Room} {G : tp_G} {mc ms : Nat} {ρ : Type} {out : ρ → tp_O} {k q : Nat} {lv : List (Option tp_V)} {pc : Nat} {st : List tp_V} {a0 : Int} {M : tp_M} {ψ : Int → Option ρ} (hI : I.2.1 = "TypesAtPrime") (hR : 2 ≤ R.frames ∧ 120 ≤ R.locals) (hf : k ≤ R.cells ∧ q ≤ R.slots) (hc4 : st.length ≤ 4) (hd : decode I.1 pc = .ok (.invokevirtual 363, 3)) (kk : ∀ r, tp_J I R G mc ms out tp_NC (tp_st M) k q lv (pc + 3) (.inl r :: st) (ψ r)) : tp_J I R G mc ms out tp_NC (tp_st M) k q lv pc (.inr (.inr a0) :: st) ((f_strlen a0).bind ψ) := by
  unfold f_strlen
  by_cases h : -12 ≤ a0 ∧ a0 ≤ -4
  · rw [if_pos h, Option.bind_some]
    have hi : (-4 - a0).toNat < 9 := by omega
    have hx : a0 = -4 - (((-4 - a0).toNat : Nat) : Int) := by omega
    generalize (-4 - a0).toNat = i at hi hx ⊢
    subst hx
    exact j_callX (y := y_J0_length_8abf5) (I' := i_J0_length_8abf5) (i := i) (avs := []) (o := (some (.inl ((tp_txl.getD i 0 : Nat) : Int)), tp_NC, tp_st M)) (rm := tp_rm 1) (mc' := 0) (ms' := 0) hi rfl (c_J0_length_8abf5 G hi M) rfl (by rw [hI]; exact cs_Main_363) (by rw [hI]; exact wd_886) wd_887 wd_888 rfl rfl hc4 ⟨rfl, rfl⟩ ⟨by show 1 + 1 ≤ _; omega, by show 8 + (1 + 11) + 60 * 1 ≤ _; omega⟩ ⟨hf.1, hf.2⟩ hd (kk _)
  · rw [if_neg h]; exact tp_none
theorem j_charAt {I : tp_I} {R : Room} {G : tp_G} {mc ms : Nat} {ρ : Type} {out : ρ → tp_O} {k q : Nat} {lv : List (Option tp_V)} {pc : Nat} {st : List tp_V} {a0 j : Int} {M : tp_M} {ψ : Int → Option ρ} (hI : I.2.1 = "TypesAtPrime") (hR : 4 ≤ R.frames ∧ 240 ≤ R.locals) (hf : k ≤ R.cells ∧ q ≤ R.slots) (hc4 : st.length ≤ 4) (hd : decode I.1 pc = .ok (.invokevirtual 368, 3)) (kk : ∀ r, tp_J I R G mc ms out tp_NC (tp_st M) k q lv (pc + 3) (.inl r :: st) (ψ r)) : tp_J I R G mc ms out tp_NC (tp_st M) k q lv pc (.inl j :: .inr (.inr a0) :: st) ((f_charAt a0 j).bind ψ) := by
  unfold f_charAt
  by_cases h : (-12 ≤ a0 ∧ a0 ≤ -4) ∧ 0 ≤ j ∧ j < ((tp_txl.getD (-4 - a0).toNat 0 : Nat) : Int)
  · rw [if_pos h, Option.bind_some]
    obtain ⟨h, h0, h1⟩ := h
    have hi : (-4 - a0).toNat < 9 := by omega
    have hx : a0 = -4 - (((-4 - a0).toNat : Nat) : Int) := by omega
    generalize (-4 - a0).toNat = i at hi hx h1 ⊢
    subst hx
    exact j_callX (y := y_J0_charAt_5068e) (I' := i_J0_charAt_5068e) (i := i) (avs := [.inl j]) (o := (some (.inl ((tp_txi.getD i []).getD j.toNat 0)), tp_NC, tp_st M)) (rm := tp_rm 3) (mc' := 0) (ms' := 0) hi rfl (c_J0_charAt_5068e G hi h0 h1 M) rfl (by rw [hI]; exact cs_Main_368) (by rw [hI]; exact wd_896) wd_897 wd_898 rfl rfl hc4 ⟨rfl, rfl⟩ ⟨by show 3 + 1 ≤ _; omega, by show 8 + (2 + 11) + 60 * 3 ≤ _; omega⟩ ⟨hf.1, hf.2⟩ hd (kk _)
  · rw [if_neg h]; exact tp_none
