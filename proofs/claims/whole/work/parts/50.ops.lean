theorem tp_and31 (x : Int) : 0 ≤ tp_and x 31 ∧ tp_and x 31 ≤ 31 := by
  obtain ⟨j, hj, h⟩ := pk_andE (Int32.ofInt x) (m := 31) 5 (by decide)
  unfold tp_and
  rw [show Int32.ofInt 31 = 31 from rfl, h, nI_toInt (by omega)]
  omega
section OPS
variable (Inv : tp_M → Prop)
def op_prime : Prop := ∀ M : tp_M, Inv M → ∀ a0 : Int, tp_r a0 → ∃ (r : Int) (M1 : tp_M) (M2 : tp_M), f_X10_prime a0 M = some (r, M1) ∧ f_X11_prime a0 M1 = some (r, M2) ∧ Inv M2
def op_feed : Prop := ∀ M : tp_M, Inv M → ∀ a0 : Int, tp_r a0 → ∃ (r : Int) (M1 : tp_M) (M2 : tp_M), f_X10_feed a0 M = some (r, M1) ∧ f_X11_feed a0 M1 = some (r, M2) ∧ Inv M2
def op_wipe : Prop := ∀ M : tp_M, Inv M → ∃ (r : Int) (M1 : tp_M) (M2 : tp_M), f_X10_wipe M = some (r, M1) ∧ f_X11_wipe M1 = some (r, M2) ∧ Inv M2
def op_text : Prop := ∀ M : tp_M, Inv M → ∀ a0 : Int, tp_r a0 → ∃ (r : Int) (M1 : tp_M) (M2 : tp_M), f_X10_text a0 M = some (r, M1) ∧ f_X11_text a0 M1 = some (r, M2) ∧ Inv M2
def op_set : Prop := ∀ M : tp_M, Inv M → ∀ a0 a1 a2 : Int, tp_r a0 → tp_r a1 → tp_r a2 → ∃ (r : Int) (M1 : tp_M) (M2 : tp_M), f_X10_set a0 a1 a2 M = some (r, M1) ∧ f_X11_set a0 a1 a2 M1 = some (r, M2) ∧ Inv M2
def op_at : Prop := ∀ M : tp_M, Inv M → ∀ a0 a1 : Int, tp_r a0 → tp_r a1 → ∃ (r : Int), f_X10_at a0 a1 M = some r ∧ f_X11_at a0 a1 M = some r ∧ Inv M
def op_told : Prop := ∀ M : tp_M, Inv M → ∀ a0 a1 : Int, tp_r a0 → tp_r a1 → ∃ (r : Int), f_X10_told a0 a1 M = some r ∧ f_X11_told a0 a1 M = some r ∧ Inv M
def op_mix : Prop := ∀ M : tp_M, Inv M → ∀ a0 a1 a2 a3 a4 : Int, tp_r a0 → tp_r a1 → tp_r a2 → tp_r a3 → tp_r a4 → ∃ (r : Int) (M1 : tp_M) (M2 : tp_M), f_X10_mix a0 a1 a2 a3 a4 M = some (r, M1) ∧ f_X11_mix a0 a1 a2 a3 a4 M1 = some (r, M2) ∧ Inv M2
def op_times : Prop := ∀ M : tp_M, Inv M → ∀ a0 a1 a2 : Int, tp_r a0 → tp_r a1 → tp_r a2 → ∃ (r : Int) (M1 : tp_M) (M2 : tp_M), f_X10_times a0 a1 a2 M = some (r, M1) ∧ f_X11_times a0 a1 a2 M1 = some (r, M2) ∧ Inv M2
def op_worth : Prop := ∀ M : tp_M, Inv M → ∀ a0 a1 : Int, tp_r a0 → tp_r a1 → ∃ (r : Int), f_X10_worth a0 a1 M = some r ∧ f_X11_worth a0 a1 M = some r ∧ Inv M
def op_expansion : Prop := ∀ M : tp_M, Inv M → ∀ a0 a1 a2 a3 : Int, tp_r a0 → tp_r a1 → tp_r a2 → tp_r a3 → ∃ (r : Int) (M1 : tp_M) (M2 : tp_M), f_X10_expansion a0 a1 a2 a3 M = some (r, M1) ∧ f_X11_expansion a0 a1 a2 a3 M1 = some (r, M2) ∧ Inv M2
def op_factor : Prop := ∀ M : tp_M, Inv M → ∀ a0 a1 a2 : Int, tp_r a0 → tp_r a1 → tp_r a2 → ∃ (r : Int) (M1 : tp_M) (M2 : tp_M), f_X10_factor a0 a1 a2 M = some (r, M1) ∧ f_X11_factor a0 a1 a2 M1 = some (r, M2) ∧ Inv M2
def op_grow : Prop := ∀ M : tp_M, Inv M → ∀ a0 : Int, tp_r a0 → ∃ (r : Int) (M1 : tp_M) (M2 : tp_M), f_X10_grow a0 M = some (r, M1) ∧ f_X11_grow a0 M1 = some (r, M2) ∧ Inv M2
def op_tree : Prop := ∀ M : tp_M, Inv M → ∀ a0 : Int, tp_r a0 → ∃ (r : Int), f_X10_tree a0 M = some r ∧ f_X11_tree a0 M = some r ∧ Inv M
def op_knot : Prop := ∀ M : tp_M, Inv M → ∀ a0 a1 : Int, tp_r a0 → tp_r a1 → ∃ (r : Int) (M2 : tp_M), f_X10_knot a0 a1 M = some r ∧ f_X11_knot a0 a1 M = some (r, M2) ∧ Inv M2
def op_key : Prop := ∀ M : tp_M, Inv M → ∀ a0 a1 : Int, tp_r a0 → tp_r a1 → ∃ (r : Int), f_X10_key a0 a1 M = some r ∧ f_X11_key a0 a1 M = some r ∧ Inv M
def op_point : Prop := ∀ M : tp_M, Inv M → ∀ a0 a1 : Int, tp_r a0 → tp_r a1 → ∃ (r : Int), f_X10_point a0 a1 M = some r ∧ f_X11_point a0 a1 M = some r ∧ Inv M
def op_side : Prop := ∀ M : tp_M, Inv M → ∀ a0 a1 a2 : Int, tp_r a0 → tp_r a1 → tp_r a2 → ∃ (r : Int), f_X10_side a0 a1 a2 M = some r ∧ f_X11_side a0 a1 a2 M = some r ∧ Inv M
def op_residual : Prop := ∀ M : tp_M, Inv M → ∀ a0 a1 a2 : Int, tp_r a0 → tp_r a1 → tp_r a2 → ∃ (r : Int), f_X10_residual a0 a1 a2 M = some r ∧ f_X11_residual a0 a1 a2 M = some r ∧ Inv M
def op_monomial : Prop := ∀ M : tp_M, Inv M → ∀ a0 a1 a2 : Int, tp_r a0 → tp_r a1 → tp_r a2 → ∃ (r : Int), f_X10_monomial a0 a1 a2 M = some r ∧ f_X11_monomial a0 a1 a2 M = some r ∧ Inv M
def op_leaf : Prop := ∀ M : tp_M, Inv M → ∀ a0 a1 : Int, tp_r a0 → tp_r a1 → ∃ (r : Int), f_X10_leaf a0 a1 M = some r ∧ f_X11_leaf a0 a1 M = some r ∧ Inv M
def op_spelling : Prop := ∀ M : tp_M, Inv M → ∀ a0 : Int, tp_r a0 → ∃ (r : Int), f_X10_spelling a0 M = some r ∧ f_X11_spelling a0 M = some r ∧ Inv M
def op_ask : Prop := ∀ M : tp_M, Inv M → ∃ (r : Int) (M1 : tp_M) (M2 : tp_M), f_X10_ask M = some (r, M1) ∧ f_X11_ask M1 = some (r, M2) ∧ Inv M2
def op_corner : Prop := ∀ M : tp_M, Inv M → ∀ a0 a1 : Int, tp_r a0 → tp_r a1 → ∃ (r : Int) (M1 : tp_M), f_X10_corner a0 a1 M = some (r, M1) ∧ f_X11_corner a0 a1 M1 = some r ∧ Inv M1
def op_slope : Prop := ∀ M : tp_M, Inv M → ∀ a0 a1 a2 a3 : Int, tp_r a0 → tp_r a1 → tp_r a2 → tp_r a3 → ∃ (r : Int), f_X10_slope a0 a1 a2 a3 M = some r ∧ f_X11_slope a0 a1 a2 a3 M = some r ∧ Inv M
def op_whyNot : Prop := ∀ M : tp_M, Inv M → ∀ a0 a1 a2 : Int, tp_r a0 → tp_r a1 → tp_r a2 → ∃ (r : Int), f_X10_whyNot a0 a1 a2 M = some r ∧ f_X11_whyNot a0 a1 a2 M = some r ∧ Inv M
def op_spill : Prop := ∀ M : tp_M, Inv M → ∀ a0 a1 a2 : Int, tp_r a0 → tp_r a1 → tp_r a2 → ∃ (r : Int) (M1 : tp_M) (M2 : tp_M), f_X10_spill a0 a1 a2 M = some (r, M1) ∧ f_X11_spill a0 a1 a2 M1 = some (r, M2) ∧ Inv M2
def op_sheet : Prop := ∀ M : tp_M, Inv M → ∀ a0 a1 a2 : Int, tp_r a0 → tp_r a1 → tp_r a2 → ∃ (r : Int) (M1 : tp_M) (M2 : tp_M), f_X10_sheet a0 a1 a2 M = some (r, M1) ∧ f_X11_sheet a0 a1 a2 M1 = some (r, M2) ∧ Inv M2
def op_cell : Prop := ∀ M : tp_M, Inv M → ∀ a0 a1 a2 : Int, tp_r a0 → tp_r a1 → tp_r a2 → ∃ (r : Int) (M1 : tp_M) (M2 : tp_M), f_X10_cell a0 a1 a2 M = some (r, M1) ∧ f_X11_cell a0 a1 a2 M1 = some (r, M2) ∧ Inv M2
def op_item : Prop := ∀ M : tp_M, Inv M → ∀ a0 a1 : Int, tp_r a0 → tp_r a1 → ∃ (r : Int), f_X10_item a0 a1 M = some r ∧ f_X11_item a0 a1 M = some r ∧ Inv M
def op_shift : Prop := ∀ M : tp_M, Inv M → ∀ a0 a1 a2 a3 a4 : Int, tp_r a0 → tp_r a1 → tp_r a2 → tp_r a3 → tp_r a4 → ∃ (r : Int) (M1 : tp_M) (M2 : tp_M), f_X10_shift a0 a1 a2 a3 a4 M = some (r, M1) ∧ f_X11_shift a0 a1 a2 a3 a4 M1 = some (r, M2) ∧ Inv M2
def op_count : Prop := ∀ M : tp_M, Inv M → ∀ a0 : Int, tp_r a0 → ∃ (r : Int), f_X10_count a0 M = some r ∧ f_X11_count a0 M = some r ∧ Inv M
def op_all : Prop := op_prime Inv ∧ op_feed Inv ∧ op_wipe Inv ∧ op_text Inv ∧ op_set Inv ∧ op_at Inv ∧ op_told Inv ∧ op_mix Inv ∧ op_times Inv ∧ op_worth Inv ∧ op_expansion Inv ∧ op_factor Inv ∧ op_grow Inv ∧ op_tree Inv ∧ op_knot Inv ∧ op_key Inv ∧ op_point Inv ∧ op_side Inv ∧ op_residual Inv ∧ op_monomial Inv ∧ op_leaf Inv ∧ op_spelling Inv ∧ op_ask Inv ∧ op_corner Inv ∧ op_slope Inv ∧ op_whyNot Inv ∧ op_spill Inv ∧ op_sheet Inv ∧ op_cell Inv ∧ op_item Inv ∧ op_shift Inv ∧ op_count Inv
end OPS
set_option maxHeartbeats 4000000 in
set_option maxRecDepth 100000 in
theorem law_prime {Inv : tp_M → Prop} (hop : op_prime Inv) {L : Int} {xs : Int → Int} (hx : ∀ i, tp_r (xs i)) (rec_18 : Int → tp_M → Option (Int × tp_M)) {x3 : Int} {M : tp_M} (hM : Inv M) (h0 : 0 ≤ x3) (h1 : x3 + 6 ≤ L) (h2 : L ≤ 3072) (ht : tp_and (xs x3) 31 = 0) : ∃ M', Inv M' ∧ f_L_law_18B L xs rec_18 x3 M = rec_18 (x3 + 6) M' := by
  obtain ⟨r, M1, M2, e1, e2, hI⟩ := hop M hM (xs (x3 + 1)) (hx _)
  refine ⟨M2, hI, ?_⟩
  have w1 : tp_w (x3 + 1) = x3 + 1 := tp_w_id (by unfold tp_r; omega)
  have w2 : tp_w (x3 + 2) = x3 + 2 := tp_w_id (by unfold tp_r; omega)
  have w3 : tp_w (x3 + 3) = x3 + 3 := tp_w_id (by unfold tp_r; omega)
  have w4 : tp_w (x3 + 4) = x3 + 4 := tp_w_id (by unfold tp_r; omega)
  have w5 : tp_w (x3 + 5) = x3 + 5 := tp_w_id (by unfold tp_r; omega)
  have w6 : tp_w (x3 + 6) = x3 + 6 := tp_w_id (by unfold tp_r; omega)
  have w7 : tp_w (L - 6) = L - 6 := tp_w_id (by unfold tp_r; omega)
  have c0 : 0 ≤ x3 ∧ x3 < L := ⟨h0, by omega⟩
  have c1 : 0 ≤ x3 + 1 ∧ x3 + 1 < L := by omega
  have c2 : 0 ≤ x3 + 2 ∧ x3 + 2 < L := by omega
  have c3 : 0 ≤ x3 + 3 ∧ x3 + 3 < L := by omega
  have c4 : 0 ≤ x3 + 4 ∧ x3 + 4 < L := by omega
  have c5 : 0 ≤ x3 + 5 ∧ x3 + 5 < L := by omega
  have c7 : ¬ L - 6 < x3 := by omega
  unfold f_L_law_18B
  rw [w7, if_neg c7, if_pos c0, ht]
  rw [if_pos (show (0 : Int) = 0 from rfl)]
  simp only [w1, w2, w3, w4, w5, if_pos c1, if_pos c2, if_pos c3, if_pos c4, if_pos c5, e1, e2, Option.bind_some, if_true]
  unfold f_L_law_1330
  show rec_18 (tp_w (x3 + 6)) _ = _
  rw [w6]
set_option maxHeartbeats 4000000 in
set_option maxRecDepth 100000 in
theorem law_feed {Inv : tp_M → Prop} (hop : op_feed Inv) {L : Int} {xs : Int → Int} (hx : ∀ i, tp_r (xs i)) (rec_18 : Int → tp_M → Option (Int × tp_M)) {x3 : Int} {M : tp_M} (hM : Inv M) (h0 : 0 ≤ x3) (h1 : x3 + 6 ≤ L) (h2 : L ≤ 3072) (ht : tp_and (xs x3) 31 = 1) : ∃ M', Inv M' ∧ f_L_law_18B L xs rec_18 x3 M = rec_18 (x3 + 6) M' := by
  obtain ⟨r, M1, M2, e1, e2, hI⟩ := hop M hM (xs (x3 + 1)) (hx _)
  refine ⟨M2, hI, ?_⟩
  have w1 : tp_w (x3 + 1) = x3 + 1 := tp_w_id (by unfold tp_r; omega)
  have w2 : tp_w (x3 + 2) = x3 + 2 := tp_w_id (by unfold tp_r; omega)
  have w3 : tp_w (x3 + 3) = x3 + 3 := tp_w_id (by unfold tp_r; omega)
  have w4 : tp_w (x3 + 4) = x3 + 4 := tp_w_id (by unfold tp_r; omega)
  have w5 : tp_w (x3 + 5) = x3 + 5 := tp_w_id (by unfold tp_r; omega)
  have w6 : tp_w (x3 + 6) = x3 + 6 := tp_w_id (by unfold tp_r; omega)
  have w7 : tp_w (L - 6) = L - 6 := tp_w_id (by unfold tp_r; omega)
  have c0 : 0 ≤ x3 ∧ x3 < L := ⟨h0, by omega⟩
  have c1 : 0 ≤ x3 + 1 ∧ x3 + 1 < L := by omega
  have c2 : 0 ≤ x3 + 2 ∧ x3 + 2 < L := by omega
  have c3 : 0 ≤ x3 + 3 ∧ x3 + 3 < L := by omega
  have c4 : 0 ≤ x3 + 4 ∧ x3 + 4 < L := by omega
  have c5 : 0 ≤ x3 + 5 ∧ x3 + 5 < L := by omega
  have c7 : ¬ L - 6 < x3 := by omega
  unfold f_L_law_18B
  rw [w7, if_neg c7, if_pos c0, ht]
  rw [if_neg (show ¬ (1 : Int) = 0 by decide), if_pos (show (1 : Int) = 1 from rfl)]
  simp only [w1, w2, w3, w4, w5, if_pos c1, if_pos c2, if_pos c3, if_pos c4, if_pos c5, e1, e2, Option.bind_some, if_true]
  unfold f_L_law_1330
  show rec_18 (tp_w (x3 + 6)) _ = _
  rw [w6]
set_option maxHeartbeats 4000000 in
set_option maxRecDepth 100000 in
theorem law_wipe {Inv : tp_M → Prop} (hop : op_wipe Inv) {L : Int} {xs : Int → Int} (hx : ∀ i, tp_r (xs i)) (rec_18 : Int → tp_M → Option (Int × tp_M)) {x3 : Int} {M : tp_M} (hM : Inv M) (h0 : 0 ≤ x3) (h1 : x3 + 6 ≤ L) (h2 : L ≤ 3072) (ht : tp_and (xs x3) 31 = 2) : ∃ M', Inv M' ∧ f_L_law_18B L xs rec_18 x3 M = rec_18 (x3 + 6) M' := by
  obtain ⟨r, M1, M2, e1, e2, hI⟩ := hop M hM
  refine ⟨M2, hI, ?_⟩
  have w1 : tp_w (x3 + 1) = x3 + 1 := tp_w_id (by unfold tp_r; omega)
  have w2 : tp_w (x3 + 2) = x3 + 2 := tp_w_id (by unfold tp_r; omega)
  have w3 : tp_w (x3 + 3) = x3 + 3 := tp_w_id (by unfold tp_r; omega)
  have w4 : tp_w (x3 + 4) = x3 + 4 := tp_w_id (by unfold tp_r; omega)
  have w5 : tp_w (x3 + 5) = x3 + 5 := tp_w_id (by unfold tp_r; omega)
  have w6 : tp_w (x3 + 6) = x3 + 6 := tp_w_id (by unfold tp_r; omega)
  have w7 : tp_w (L - 6) = L - 6 := tp_w_id (by unfold tp_r; omega)
  have c0 : 0 ≤ x3 ∧ x3 < L := ⟨h0, by omega⟩
  have c1 : 0 ≤ x3 + 1 ∧ x3 + 1 < L := by omega
  have c2 : 0 ≤ x3 + 2 ∧ x3 + 2 < L := by omega
  have c3 : 0 ≤ x3 + 3 ∧ x3 + 3 < L := by omega
  have c4 : 0 ≤ x3 + 4 ∧ x3 + 4 < L := by omega
  have c5 : 0 ≤ x3 + 5 ∧ x3 + 5 < L := by omega
  have c7 : ¬ L - 6 < x3 := by omega
  unfold f_L_law_18B
  rw [w7, if_neg c7, if_pos c0, ht]
  rw [if_neg (show ¬ (2 : Int) = 0 by decide), if_neg (show ¬ (2 : Int) = 1 by decide), if_pos (show (2 : Int) = 2 from rfl)]
  simp only [w1, w2, w3, w4, w5, if_pos c1, if_pos c2, if_pos c3, if_pos c4, if_pos c5, e1, e2, Option.bind_some, if_true]
  unfold f_L_law_1330
  show rec_18 (tp_w (x3 + 6)) _ = _
  rw [w6]
set_option maxHeartbeats 4000000 in
set_option maxRecDepth 100000 in
theorem law_text {Inv : tp_M → Prop} (hop : op_text Inv) {L : Int} {xs : Int → Int} (hx : ∀ i, tp_r (xs i)) (rec_18 : Int → tp_M → Option (Int × tp_M)) {x3 : Int} {M : tp_M} (hM : Inv M) (h0 : 0 ≤ x3) (h1 : x3 + 6 ≤ L) (h2 : L ≤ 3072) (ht : tp_and (xs x3) 31 = 3) : ∃ M', Inv M' ∧ f_L_law_18B L xs rec_18 x3 M = rec_18 (x3 + 6) M' := by
  obtain ⟨r, M1, M2, e1, e2, hI⟩ := hop M hM (xs (x3 + 1)) (hx _)
  refine ⟨M2, hI, ?_⟩
  have w1 : tp_w (x3 + 1) = x3 + 1 := tp_w_id (by unfold tp_r; omega)
  have w2 : tp_w (x3 + 2) = x3 + 2 := tp_w_id (by unfold tp_r; omega)
  have w3 : tp_w (x3 + 3) = x3 + 3 := tp_w_id (by unfold tp_r; omega)
  have w4 : tp_w (x3 + 4) = x3 + 4 := tp_w_id (by unfold tp_r; omega)
  have w5 : tp_w (x3 + 5) = x3 + 5 := tp_w_id (by unfold tp_r; omega)
  have w6 : tp_w (x3 + 6) = x3 + 6 := tp_w_id (by unfold tp_r; omega)
  have w7 : tp_w (L - 6) = L - 6 := tp_w_id (by unfold tp_r; omega)
  have c0 : 0 ≤ x3 ∧ x3 < L := ⟨h0, by omega⟩
  have c1 : 0 ≤ x3 + 1 ∧ x3 + 1 < L := by omega
  have c2 : 0 ≤ x3 + 2 ∧ x3 + 2 < L := by omega
  have c3 : 0 ≤ x3 + 3 ∧ x3 + 3 < L := by omega
  have c4 : 0 ≤ x3 + 4 ∧ x3 + 4 < L := by omega
  have c5 : 0 ≤ x3 + 5 ∧ x3 + 5 < L := by omega
  have c7 : ¬ L - 6 < x3 := by omega
  unfold f_L_law_18B
  rw [w7, if_neg c7, if_pos c0, ht]
  rw [if_neg (show ¬ (3 : Int) = 0 by decide), if_neg (show ¬ (3 : Int) = 1 by decide), if_neg (show ¬ (3 : Int) = 2 by decide), if_pos (show (3 : Int) = 3 from rfl)]
  simp only [w1, w2, w3, w4, w5, if_pos c1, if_pos c2, if_pos c3, if_pos c4, if_pos c5, e1, e2, Option.bind_some, if_true]
  unfold f_L_law_1330
  show rec_18 (tp_w (x3 + 6)) _ = _
  rw [w6]
set_option maxHeartbeats 4000000 in
set_option maxRecDepth 100000 in
theorem law_set {Inv : tp_M → Prop} (hop : op_set Inv) {L : Int} {xs : Int → Int} (hx : ∀ i, tp_r (xs i)) (rec_18 : Int → tp_M → Option (Int × tp_M)) {x3 : Int} {M : tp_M} (hM : Inv M) (h0 : 0 ≤ x3) (h1 : x3 + 6 ≤ L) (h2 : L ≤ 3072) (ht : tp_and (xs x3) 31 = 4) : ∃ M', Inv M' ∧ f_L_law_18B L xs rec_18 x3 M = rec_18 (x3 + 6) M' := by
  obtain ⟨r, M1, M2, e1, e2, hI⟩ := hop M hM (xs (x3 + 1)) (xs (x3 + 2)) (xs (x3 + 3)) (hx _) (hx _) (hx _)
  refine ⟨M2, hI, ?_⟩
  have w1 : tp_w (x3 + 1) = x3 + 1 := tp_w_id (by unfold tp_r; omega)
  have w2 : tp_w (x3 + 2) = x3 + 2 := tp_w_id (by unfold tp_r; omega)
  have w3 : tp_w (x3 + 3) = x3 + 3 := tp_w_id (by unfold tp_r; omega)
  have w4 : tp_w (x3 + 4) = x3 + 4 := tp_w_id (by unfold tp_r; omega)
  have w5 : tp_w (x3 + 5) = x3 + 5 := tp_w_id (by unfold tp_r; omega)
  have w6 : tp_w (x3 + 6) = x3 + 6 := tp_w_id (by unfold tp_r; omega)
  have w7 : tp_w (L - 6) = L - 6 := tp_w_id (by unfold tp_r; omega)
  have c0 : 0 ≤ x3 ∧ x3 < L := ⟨h0, by omega⟩
  have c1 : 0 ≤ x3 + 1 ∧ x3 + 1 < L := by omega
  have c2 : 0 ≤ x3 + 2 ∧ x3 + 2 < L := by omega
  have c3 : 0 ≤ x3 + 3 ∧ x3 + 3 < L := by omega
  have c4 : 0 ≤ x3 + 4 ∧ x3 + 4 < L := by omega
  have c5 : 0 ≤ x3 + 5 ∧ x3 + 5 < L := by omega
  have c7 : ¬ L - 6 < x3 := by omega
  unfold f_L_law_18B
  rw [w7, if_neg c7, if_pos c0, ht]
  rw [if_neg (show ¬ (4 : Int) = 0 by decide), if_neg (show ¬ (4 : Int) = 1 by decide), if_neg (show ¬ (4 : Int) = 2 by decide), if_neg (show ¬ (4 : Int) = 3 by decide), if_pos (show (4 : Int) = 4 from rfl)]
  simp only [w1, w2, w3, w4, w5, if_pos c1, if_pos c2, if_pos c3, if_pos c4, if_pos c5, e1, e2, Option.bind_some, if_true]
  unfold f_L_law_1330
  show rec_18 (tp_w (x3 + 6)) _ = _
  rw [w6]
set_option maxHeartbeats 4000000 in
set_option maxRecDepth 100000 in
theorem law_at {Inv : tp_M → Prop} (hop : op_at Inv) {L : Int} {xs : Int → Int} (hx : ∀ i, tp_r (xs i)) (rec_18 : Int → tp_M → Option (Int × tp_M)) {x3 : Int} {M : tp_M} (hM : Inv M) (h0 : 0 ≤ x3) (h1 : x3 + 6 ≤ L) (h2 : L ≤ 3072) (ht : tp_and (xs x3) 31 = 5) : ∃ M', Inv M' ∧ f_L_law_18B L xs rec_18 x3 M = rec_18 (x3 + 6) M' := by
  obtain ⟨r, e1, e2, hI⟩ := hop M hM (xs (x3 + 1)) (xs (x3 + 2)) (hx _) (hx _)
  refine ⟨M, hI, ?_⟩
  have w1 : tp_w (x3 + 1) = x3 + 1 := tp_w_id (by unfold tp_r; omega)
  have w2 : tp_w (x3 + 2) = x3 + 2 := tp_w_id (by unfold tp_r; omega)
  have w3 : tp_w (x3 + 3) = x3 + 3 := tp_w_id (by unfold tp_r; omega)
  have w4 : tp_w (x3 + 4) = x3 + 4 := tp_w_id (by unfold tp_r; omega)
  have w5 : tp_w (x3 + 5) = x3 + 5 := tp_w_id (by unfold tp_r; omega)
  have w6 : tp_w (x3 + 6) = x3 + 6 := tp_w_id (by unfold tp_r; omega)
  have w7 : tp_w (L - 6) = L - 6 := tp_w_id (by unfold tp_r; omega)
  have c0 : 0 ≤ x3 ∧ x3 < L := ⟨h0, by omega⟩
  have c1 : 0 ≤ x3 + 1 ∧ x3 + 1 < L := by omega
  have c2 : 0 ≤ x3 + 2 ∧ x3 + 2 < L := by omega
  have c3 : 0 ≤ x3 + 3 ∧ x3 + 3 < L := by omega
  have c4 : 0 ≤ x3 + 4 ∧ x3 + 4 < L := by omega
  have c5 : 0 ≤ x3 + 5 ∧ x3 + 5 < L := by omega
  have c7 : ¬ L - 6 < x3 := by omega
  unfold f_L_law_18B
  rw [w7, if_neg c7, if_pos c0, ht]
  rw [if_neg (show ¬ (5 : Int) = 0 by decide), if_neg (show ¬ (5 : Int) = 1 by decide), if_neg (show ¬ (5 : Int) = 2 by decide), if_neg (show ¬ (5 : Int) = 3 by decide), if_neg (show ¬ (5 : Int) = 4 by decide), if_pos (show (5 : Int) = 5 from rfl)]
  simp only [w1, w2, w3, w4, w5, if_pos c1, if_pos c2, if_pos c3, if_pos c4, if_pos c5, e1, e2, Option.bind_some, if_true]
  unfold f_L_law_1330
  show rec_18 (tp_w (x3 + 6)) _ = _
  rw [w6]
set_option maxHeartbeats 4000000 in
set_option maxRecDepth 100000 in
theorem law_told {Inv : tp_M → Prop} (hop : op_told Inv) {L : Int} {xs : Int → Int} (hx : ∀ i, tp_r (xs i)) (rec_18 : Int → tp_M → Option (Int × tp_M)) {x3 : Int} {M : tp_M} (hM : Inv M) (h0 : 0 ≤ x3) (h1 : x3 + 6 ≤ L) (h2 : L ≤ 3072) (ht : tp_and (xs x3) 31 = 6) : ∃ M', Inv M' ∧ f_L_law_18B L xs rec_18 x3 M = rec_18 (x3 + 6) M' := by
  obtain ⟨r, e1, e2, hI⟩ := hop M hM (xs (x3 + 1)) (xs (x3 + 2)) (hx _) (hx _)
  refine ⟨M, hI, ?_⟩
  have w1 : tp_w (x3 + 1) = x3 + 1 := tp_w_id (by unfold tp_r; omega)
  have w2 : tp_w (x3 + 2) = x3 + 2 := tp_w_id (by unfold tp_r; omega)
  have w3 : tp_w (x3 + 3) = x3 + 3 := tp_w_id (by unfold tp_r; omega)
  have w4 : tp_w (x3 + 4) = x3 + 4 := tp_w_id (by unfold tp_r; omega)
  have w5 : tp_w (x3 + 5) = x3 + 5 := tp_w_id (by unfold tp_r; omega)
  have w6 : tp_w (x3 + 6) = x3 + 6 := tp_w_id (by unfold tp_r; omega)
  have w7 : tp_w (L - 6) = L - 6 := tp_w_id (by unfold tp_r; omega)
  have c0 : 0 ≤ x3 ∧ x3 < L := ⟨h0, by omega⟩
  have c1 : 0 ≤ x3 + 1 ∧ x3 + 1 < L := by omega
  have c2 : 0 ≤ x3 + 2 ∧ x3 + 2 < L := by omega
  have c3 : 0 ≤ x3 + 3 ∧ x3 + 3 < L := by omega
  have c4 : 0 ≤ x3 + 4 ∧ x3 + 4 < L := by omega
  have c5 : 0 ≤ x3 + 5 ∧ x3 + 5 < L := by omega
  have c7 : ¬ L - 6 < x3 := by omega
  unfold f_L_law_18B
  rw [w7, if_neg c7, if_pos c0, ht]
  rw [if_neg (show ¬ (6 : Int) = 0 by decide), if_neg (show ¬ (6 : Int) = 1 by decide), if_neg (show ¬ (6 : Int) = 2 by decide), if_neg (show ¬ (6 : Int) = 3 by decide), if_neg (show ¬ (6 : Int) = 4 by decide), if_neg (show ¬ (6 : Int) = 5 by decide), if_pos (show (6 : Int) = 6 from rfl)]
  simp only [w1, w2, w3, w4, w5, if_pos c1, if_pos c2, if_pos c3, if_pos c4, if_pos c5, e1, e2, Option.bind_some, if_true]
  unfold f_L_law_1330
  show rec_18 (tp_w (x3 + 6)) _ = _
  rw [w6]
set_option maxHeartbeats 4000000 in
set_option maxRecDepth 100000 in
theorem law_mix {Inv : tp_M → Prop} (hop : op_mix Inv) {L : Int} {xs : Int → Int} (hx : ∀ i, tp_r (xs i)) (rec_18 : Int → tp_M → Option (Int × tp_M)) {x3 : Int} {M : tp_M} (hM : Inv M) (h0 : 0 ≤ x3) (h1 : x3 + 6 ≤ L) (h2 : L ≤ 3072) (ht : tp_and (xs x3) 31 = 7) : ∃ M', Inv M' ∧ f_L_law_18B L xs rec_18 x3 M = rec_18 (x3 + 6) M' := by
  obtain ⟨r, M1, M2, e1, e2, hI⟩ := hop M hM (xs (x3 + 1)) (xs (x3 + 2)) (xs (x3 + 3)) (xs (x3 + 4)) (xs (x3 + 5)) (hx _) (hx _) (hx _) (hx _) (hx _)
  refine ⟨M2, hI, ?_⟩
  have w1 : tp_w (x3 + 1) = x3 + 1 := tp_w_id (by unfold tp_r; omega)
  have w2 : tp_w (x3 + 2) = x3 + 2 := tp_w_id (by unfold tp_r; omega)
  have w3 : tp_w (x3 + 3) = x3 + 3 := tp_w_id (by unfold tp_r; omega)
  have w4 : tp_w (x3 + 4) = x3 + 4 := tp_w_id (by unfold tp_r; omega)
  have w5 : tp_w (x3 + 5) = x3 + 5 := tp_w_id (by unfold tp_r; omega)
  have w6 : tp_w (x3 + 6) = x3 + 6 := tp_w_id (by unfold tp_r; omega)
  have w7 : tp_w (L - 6) = L - 6 := tp_w_id (by unfold tp_r; omega)
  have c0 : 0 ≤ x3 ∧ x3 < L := ⟨h0, by omega⟩
  have c1 : 0 ≤ x3 + 1 ∧ x3 + 1 < L := by omega
  have c2 : 0 ≤ x3 + 2 ∧ x3 + 2 < L := by omega
  have c3 : 0 ≤ x3 + 3 ∧ x3 + 3 < L := by omega
  have c4 : 0 ≤ x3 + 4 ∧ x3 + 4 < L := by omega
  have c5 : 0 ≤ x3 + 5 ∧ x3 + 5 < L := by omega
  have c7 : ¬ L - 6 < x3 := by omega
  unfold f_L_law_18B
  rw [w7, if_neg c7, if_pos c0, ht]
  rw [if_neg (show ¬ (7 : Int) = 0 by decide), if_neg (show ¬ (7 : Int) = 1 by decide), if_neg (show ¬ (7 : Int) = 2 by decide), if_neg (show ¬ (7 : Int) = 3 by decide), if_neg (show ¬ (7 : Int) = 4 by decide), if_neg (show ¬ (7 : Int) = 5 by decide), if_neg (show ¬ (7 : Int) = 6 by decide), if_pos (show (7 : Int) = 7 from rfl)]
  simp only [w1, w2, w3, w4, w5, if_pos c1, if_pos c2, if_pos c3, if_pos c4, if_pos c5, e1, e2, Option.bind_some, if_true]
  unfold f_L_law_1330
  show rec_18 (tp_w (x3 + 6)) _ = _
  rw [w6]
set_option maxHeartbeats 4000000 in
set_option maxRecDepth 100000 in
theorem law_times {Inv : tp_M → Prop} (hop : op_times Inv) {L : Int} {xs : Int → Int} (hx : ∀ i, tp_r (xs i)) (rec_18 : Int → tp_M → Option (Int × tp_M)) {x3 : Int} {M : tp_M} (hM : Inv M) (h0 : 0 ≤ x3) (h1 : x3 + 6 ≤ L) (h2 : L ≤ 3072) (ht : tp_and (xs x3) 31 = 8) : ∃ M', Inv M' ∧ f_L_law_18B L xs rec_18 x3 M = rec_18 (x3 + 6) M' := by
  obtain ⟨r, M1, M2, e1, e2, hI⟩ := hop M hM (xs (x3 + 1)) (xs (x3 + 2)) (xs (x3 + 3)) (hx _) (hx _) (hx _)
  refine ⟨M2, hI, ?_⟩
  have w1 : tp_w (x3 + 1) = x3 + 1 := tp_w_id (by unfold tp_r; omega)
  have w2 : tp_w (x3 + 2) = x3 + 2 := tp_w_id (by unfold tp_r; omega)
  have w3 : tp_w (x3 + 3) = x3 + 3 := tp_w_id (by unfold tp_r; omega)
  have w4 : tp_w (x3 + 4) = x3 + 4 := tp_w_id (by unfold tp_r; omega)
  have w5 : tp_w (x3 + 5) = x3 + 5 := tp_w_id (by unfold tp_r; omega)
  have w6 : tp_w (x3 + 6) = x3 + 6 := tp_w_id (by unfold tp_r; omega)
  have w7 : tp_w (L - 6) = L - 6 := tp_w_id (by unfold tp_r; omega)
  have c0 : 0 ≤ x3 ∧ x3 < L := ⟨h0, by omega⟩
  have c1 : 0 ≤ x3 + 1 ∧ x3 + 1 < L := by omega
  have c2 : 0 ≤ x3 + 2 ∧ x3 + 2 < L := by omega
  have c3 : 0 ≤ x3 + 3 ∧ x3 + 3 < L := by omega
  have c4 : 0 ≤ x3 + 4 ∧ x3 + 4 < L := by omega
  have c5 : 0 ≤ x3 + 5 ∧ x3 + 5 < L := by omega
  have c7 : ¬ L - 6 < x3 := by omega
  unfold f_L_law_18B
  rw [w7, if_neg c7, if_pos c0, ht]
  rw [if_neg (show ¬ (8 : Int) = 0 by decide), if_neg (show ¬ (8 : Int) = 1 by decide), if_neg (show ¬ (8 : Int) = 2 by decide), if_neg (show ¬ (8 : Int) = 3 by decide), if_neg (show ¬ (8 : Int) = 4 by decide), if_neg (show ¬ (8 : Int) = 5 by decide), if_neg (show ¬ (8 : Int) = 6 by decide), if_neg (show ¬ (8 : Int) = 7 by decide), if_pos (show (8 : Int) = 8 from rfl)]
  simp only [w1, w2, w3, w4, w5, if_pos c1, if_pos c2, if_pos c3, if_pos c4, if_pos c5, e1, e2, Option.bind_some, if_true]
  unfold f_L_law_1330
  show rec_18 (tp_w (x3 + 6)) _ = _
  rw [w6]
set_option maxHeartbeats 4000000 in
set_option maxRecDepth 100000 in
theorem law_worth {Inv : tp_M → Prop} (hop : op_worth Inv) {L : Int} {xs : Int → Int} (hx : ∀ i, tp_r (xs i)) (rec_18 : Int → tp_M → Option (Int × tp_M)) {x3 : Int} {M : tp_M} (hM : Inv M) (h0 : 0 ≤ x3) (h1 : x3 + 6 ≤ L) (h2 : L ≤ 3072) (ht : tp_and (xs x3) 31 = 9) : ∃ M', Inv M' ∧ f_L_law_18B L xs rec_18 x3 M = rec_18 (x3 + 6) M' := by
  obtain ⟨r, e1, e2, hI⟩ := hop M hM (xs (x3 + 1)) (xs (x3 + 2)) (hx _) (hx _)
  refine ⟨M, hI, ?_⟩
  have w1 : tp_w (x3 + 1) = x3 + 1 := tp_w_id (by unfold tp_r; omega)
  have w2 : tp_w (x3 + 2) = x3 + 2 := tp_w_id (by unfold tp_r; omega)
  have w3 : tp_w (x3 + 3) = x3 + 3 := tp_w_id (by unfold tp_r; omega)
  have w4 : tp_w (x3 + 4) = x3 + 4 := tp_w_id (by unfold tp_r; omega)
  have w5 : tp_w (x3 + 5) = x3 + 5 := tp_w_id (by unfold tp_r; omega)
  have w6 : tp_w (x3 + 6) = x3 + 6 := tp_w_id (by unfold tp_r; omega)
  have w7 : tp_w (L - 6) = L - 6 := tp_w_id (by unfold tp_r; omega)
  have c0 : 0 ≤ x3 ∧ x3 < L := ⟨h0, by omega⟩
  have c1 : 0 ≤ x3 + 1 ∧ x3 + 1 < L := by omega
  have c2 : 0 ≤ x3 + 2 ∧ x3 + 2 < L := by omega
  have c3 : 0 ≤ x3 + 3 ∧ x3 + 3 < L := by omega
  have c4 : 0 ≤ x3 + 4 ∧ x3 + 4 < L := by omega
  have c5 : 0 ≤ x3 + 5 ∧ x3 + 5 < L := by omega
  have c7 : ¬ L - 6 < x3 := by omega
  unfold f_L_law_18B
  rw [w7, if_neg c7, if_pos c0, ht]
  rw [if_neg (show ¬ (9 : Int) = 0 by decide), if_neg (show ¬ (9 : Int) = 1 by decide), if_neg (show ¬ (9 : Int) = 2 by decide), if_neg (show ¬ (9 : Int) = 3 by decide), if_neg (show ¬ (9 : Int) = 4 by decide), if_neg (show ¬ (9 : Int) = 5 by decide), if_neg (show ¬ (9 : Int) = 6 by decide), if_neg (show ¬ (9 : Int) = 7 by decide), if_neg (show ¬ (9 : Int) = 8 by decide), if_pos (show (9 : Int) = 9 from rfl)]
  simp only [w1, w2, w3, w4, w5, if_pos c1, if_pos c2, if_pos c3, if_pos c4, if_pos c5, e1, e2, Option.bind_some, if_true]
  unfold f_L_law_1330
  show rec_18 (tp_w (x3 + 6)) _ = _
  rw [w6]
set_option maxHeartbeats 4000000 in
set_option maxRecDepth 100000 in
theorem law_expansion {Inv : tp_M → Prop} (hop : op_expansion Inv) {L : Int} {xs : Int → Int} (hx : ∀ i, tp_r (xs i)) (rec_18 : Int → tp_M → Option (Int × tp_M)) {x3 : Int} {M : tp_M} (hM : Inv M) (h0 : 0 ≤ x3) (h1 : x3 + 6 ≤ L) (h2 : L ≤ 3072) (ht : tp_and (xs x3) 31 = 10) : ∃ M', Inv M' ∧ f_L_law_18B L xs rec_18 x3 M = rec_18 (x3 + 6) M' := by
  obtain ⟨r, M1, M2, e1, e2, hI⟩ := hop M hM (xs (x3 + 1)) (xs (x3 + 2)) (xs (x3 + 3)) (xs (x3 + 4)) (hx _) (hx _) (hx _) (hx _)
  refine ⟨M2, hI, ?_⟩
  have w1 : tp_w (x3 + 1) = x3 + 1 := tp_w_id (by unfold tp_r; omega)
  have w2 : tp_w (x3 + 2) = x3 + 2 := tp_w_id (by unfold tp_r; omega)
  have w3 : tp_w (x3 + 3) = x3 + 3 := tp_w_id (by unfold tp_r; omega)
  have w4 : tp_w (x3 + 4) = x3 + 4 := tp_w_id (by unfold tp_r; omega)
  have w5 : tp_w (x3 + 5) = x3 + 5 := tp_w_id (by unfold tp_r; omega)
  have w6 : tp_w (x3 + 6) = x3 + 6 := tp_w_id (by unfold tp_r; omega)
  have w7 : tp_w (L - 6) = L - 6 := tp_w_id (by unfold tp_r; omega)
  have c0 : 0 ≤ x3 ∧ x3 < L := ⟨h0, by omega⟩
  have c1 : 0 ≤ x3 + 1 ∧ x3 + 1 < L := by omega
  have c2 : 0 ≤ x3 + 2 ∧ x3 + 2 < L := by omega
  have c3 : 0 ≤ x3 + 3 ∧ x3 + 3 < L := by omega
  have c4 : 0 ≤ x3 + 4 ∧ x3 + 4 < L := by omega
  have c5 : 0 ≤ x3 + 5 ∧ x3 + 5 < L := by omega
  have c7 : ¬ L - 6 < x3 := by omega
  unfold f_L_law_18B
  rw [w7, if_neg c7, if_pos c0, ht]
  rw [if_neg (show ¬ (10 : Int) = 0 by decide), if_neg (show ¬ (10 : Int) = 1 by decide), if_neg (show ¬ (10 : Int) = 2 by decide), if_neg (show ¬ (10 : Int) = 3 by decide), if_neg (show ¬ (10 : Int) = 4 by decide), if_neg (show ¬ (10 : Int) = 5 by decide), if_neg (show ¬ (10 : Int) = 6 by decide), if_neg (show ¬ (10 : Int) = 7 by decide), if_neg (show ¬ (10 : Int) = 8 by decide), if_neg (show ¬ (10 : Int) = 9 by decide), if_pos (show (10 : Int) = 10 from rfl)]
  simp only [w1, w2, w3, w4, w5, if_pos c1, if_pos c2, if_pos c3, if_pos c4, if_pos c5, e1, e2, Option.bind_some, if_true]
  unfold f_L_law_1330
  show rec_18 (tp_w (x3 + 6)) _ = _
  rw [w6]
set_option maxHeartbeats 4000000 in
set_option maxRecDepth 100000 in
theorem law_factor {Inv : tp_M → Prop} (hop : op_factor Inv) {L : Int} {xs : Int → Int} (hx : ∀ i, tp_r (xs i)) (rec_18 : Int → tp_M → Option (Int × tp_M)) {x3 : Int} {M : tp_M} (hM : Inv M) (h0 : 0 ≤ x3) (h1 : x3 + 6 ≤ L) (h2 : L ≤ 3072) (ht : tp_and (xs x3) 31 = 11) : ∃ M', Inv M' ∧ f_L_law_18B L xs rec_18 x3 M = rec_18 (x3 + 6) M' := by
  obtain ⟨r, M1, M2, e1, e2, hI⟩ := hop M hM (xs (x3 + 1)) (xs (x3 + 2)) (xs (x3 + 3)) (hx _) (hx _) (hx _)
  refine ⟨M2, hI, ?_⟩
  have w1 : tp_w (x3 + 1) = x3 + 1 := tp_w_id (by unfold tp_r; omega)
  have w2 : tp_w (x3 + 2) = x3 + 2 := tp_w_id (by unfold tp_r; omega)
  have w3 : tp_w (x3 + 3) = x3 + 3 := tp_w_id (by unfold tp_r; omega)
  have w4 : tp_w (x3 + 4) = x3 + 4 := tp_w_id (by unfold tp_r; omega)
  have w5 : tp_w (x3 + 5) = x3 + 5 := tp_w_id (by unfold tp_r; omega)
  have w6 : tp_w (x3 + 6) = x3 + 6 := tp_w_id (by unfold tp_r; omega)
  have w7 : tp_w (L - 6) = L - 6 := tp_w_id (by unfold tp_r; omega)
  have c0 : 0 ≤ x3 ∧ x3 < L := ⟨h0, by omega⟩
  have c1 : 0 ≤ x3 + 1 ∧ x3 + 1 < L := by omega
  have c2 : 0 ≤ x3 + 2 ∧ x3 + 2 < L := by omega
  have c3 : 0 ≤ x3 + 3 ∧ x3 + 3 < L := by omega
  have c4 : 0 ≤ x3 + 4 ∧ x3 + 4 < L := by omega
  have c5 : 0 ≤ x3 + 5 ∧ x3 + 5 < L := by omega
  have c7 : ¬ L - 6 < x3 := by omega
  unfold f_L_law_18B
  rw [w7, if_neg c7, if_pos c0, ht]
  rw [if_neg (show ¬ (11 : Int) = 0 by decide), if_neg (show ¬ (11 : Int) = 1 by decide), if_neg (show ¬ (11 : Int) = 2 by decide), if_neg (show ¬ (11 : Int) = 3 by decide), if_neg (show ¬ (11 : Int) = 4 by decide), if_neg (show ¬ (11 : Int) = 5 by decide), if_neg (show ¬ (11 : Int) = 6 by decide), if_neg (show ¬ (11 : Int) = 7 by decide), if_neg (show ¬ (11 : Int) = 8 by decide), if_neg (show ¬ (11 : Int) = 9 by decide), if_neg (show ¬ (11 : Int) = 10 by decide), if_pos (show (11 : Int) = 11 from rfl)]
  simp only [w1, w2, w3, w4, w5, if_pos c1, if_pos c2, if_pos c3, if_pos c4, if_pos c5, e1, e2, Option.bind_some, if_true]
  unfold f_L_law_1330
  show rec_18 (tp_w (x3 + 6)) _ = _
  rw [w6]
set_option maxHeartbeats 4000000 in
set_option maxRecDepth 100000 in
theorem law_grow {Inv : tp_M → Prop} (hop : op_grow Inv) {L : Int} {xs : Int → Int} (hx : ∀ i, tp_r (xs i)) (rec_18 : Int → tp_M → Option (Int × tp_M)) {x3 : Int} {M : tp_M} (hM : Inv M) (h0 : 0 ≤ x3) (h1 : x3 + 6 ≤ L) (h2 : L ≤ 3072) (ht : tp_and (xs x3) 31 = 12) : ∃ M', Inv M' ∧ f_L_law_18B L xs rec_18 x3 M = rec_18 (x3 + 6) M' := by
  obtain ⟨r, M1, M2, e1, e2, hI⟩ := hop M hM (xs (x3 + 1)) (hx _)
  refine ⟨M2, hI, ?_⟩
  have w1 : tp_w (x3 + 1) = x3 + 1 := tp_w_id (by unfold tp_r; omega)
  have w2 : tp_w (x3 + 2) = x3 + 2 := tp_w_id (by unfold tp_r; omega)
  have w3 : tp_w (x3 + 3) = x3 + 3 := tp_w_id (by unfold tp_r; omega)
  have w4 : tp_w (x3 + 4) = x3 + 4 := tp_w_id (by unfold tp_r; omega)
  have w5 : tp_w (x3 + 5) = x3 + 5 := tp_w_id (by unfold tp_r; omega)
  have w6 : tp_w (x3 + 6) = x3 + 6 := tp_w_id (by unfold tp_r; omega)
  have w7 : tp_w (L - 6) = L - 6 := tp_w_id (by unfold tp_r; omega)
  have c0 : 0 ≤ x3 ∧ x3 < L := ⟨h0, by omega⟩
  have c1 : 0 ≤ x3 + 1 ∧ x3 + 1 < L := by omega
  have c2 : 0 ≤ x3 + 2 ∧ x3 + 2 < L := by omega
  have c3 : 0 ≤ x3 + 3 ∧ x3 + 3 < L := by omega
  have c4 : 0 ≤ x3 + 4 ∧ x3 + 4 < L := by omega
  have c5 : 0 ≤ x3 + 5 ∧ x3 + 5 < L := by omega
  have c7 : ¬ L - 6 < x3 := by omega
  unfold f_L_law_18B
  rw [w7, if_neg c7, if_pos c0, ht]
  rw [if_neg (show ¬ (12 : Int) = 0 by decide), if_neg (show ¬ (12 : Int) = 1 by decide), if_neg (show ¬ (12 : Int) = 2 by decide), if_neg (show ¬ (12 : Int) = 3 by decide), if_neg (show ¬ (12 : Int) = 4 by decide), if_neg (show ¬ (12 : Int) = 5 by decide), if_neg (show ¬ (12 : Int) = 6 by decide), if_neg (show ¬ (12 : Int) = 7 by decide), if_neg (show ¬ (12 : Int) = 8 by decide), if_neg (show ¬ (12 : Int) = 9 by decide), if_neg (show ¬ (12 : Int) = 10 by decide), if_neg (show ¬ (12 : Int) = 11 by decide), if_pos (show (12 : Int) = 12 from rfl)]
  simp only [w1, w2, w3, w4, w5, if_pos c1, if_pos c2, if_pos c3, if_pos c4, if_pos c5, e1, e2, Option.bind_some, if_true]
  unfold f_L_law_1330
  show rec_18 (tp_w (x3 + 6)) _ = _
  rw [w6]
set_option maxHeartbeats 4000000 in
set_option maxRecDepth 100000 in
theorem law_tree {Inv : tp_M → Prop} (hop : op_tree Inv) {L : Int} {xs : Int → Int} (hx : ∀ i, tp_r (xs i)) (rec_18 : Int → tp_M → Option (Int × tp_M)) {x3 : Int} {M : tp_M} (hM : Inv M) (h0 : 0 ≤ x3) (h1 : x3 + 6 ≤ L) (h2 : L ≤ 3072) (ht : tp_and (xs x3) 31 = 13) : ∃ M', Inv M' ∧ f_L_law_18B L xs rec_18 x3 M = rec_18 (x3 + 6) M' := by
  obtain ⟨r, e1, e2, hI⟩ := hop M hM (xs (x3 + 1)) (hx _)
  refine ⟨M, hI, ?_⟩
  have w1 : tp_w (x3 + 1) = x3 + 1 := tp_w_id (by unfold tp_r; omega)
  have w2 : tp_w (x3 + 2) = x3 + 2 := tp_w_id (by unfold tp_r; omega)
  have w3 : tp_w (x3 + 3) = x3 + 3 := tp_w_id (by unfold tp_r; omega)
  have w4 : tp_w (x3 + 4) = x3 + 4 := tp_w_id (by unfold tp_r; omega)
  have w5 : tp_w (x3 + 5) = x3 + 5 := tp_w_id (by unfold tp_r; omega)
  have w6 : tp_w (x3 + 6) = x3 + 6 := tp_w_id (by unfold tp_r; omega)
  have w7 : tp_w (L - 6) = L - 6 := tp_w_id (by unfold tp_r; omega)
  have c0 : 0 ≤ x3 ∧ x3 < L := ⟨h0, by omega⟩
  have c1 : 0 ≤ x3 + 1 ∧ x3 + 1 < L := by omega
  have c2 : 0 ≤ x3 + 2 ∧ x3 + 2 < L := by omega
  have c3 : 0 ≤ x3 + 3 ∧ x3 + 3 < L := by omega
  have c4 : 0 ≤ x3 + 4 ∧ x3 + 4 < L := by omega
  have c5 : 0 ≤ x3 + 5 ∧ x3 + 5 < L := by omega
  have c7 : ¬ L - 6 < x3 := by omega
  unfold f_L_law_18B
  rw [w7, if_neg c7, if_pos c0, ht]
  rw [if_neg (show ¬ (13 : Int) = 0 by decide), if_neg (show ¬ (13 : Int) = 1 by decide), if_neg (show ¬ (13 : Int) = 2 by decide), if_neg (show ¬ (13 : Int) = 3 by decide), if_neg (show ¬ (13 : Int) = 4 by decide), if_neg (show ¬ (13 : Int) = 5 by decide), if_neg (show ¬ (13 : Int) = 6 by decide), if_neg (show ¬ (13 : Int) = 7 by decide), if_neg (show ¬ (13 : Int) = 8 by decide), if_neg (show ¬ (13 : Int) = 9 by decide), if_neg (show ¬ (13 : Int) = 10 by decide), if_neg (show ¬ (13 : Int) = 11 by decide), if_neg (show ¬ (13 : Int) = 12 by decide), if_pos (show (13 : Int) = 13 from rfl)]
  simp only [w1, w2, w3, w4, w5, if_pos c1, if_pos c2, if_pos c3, if_pos c4, if_pos c5, e1, e2, Option.bind_some, if_true]
  unfold f_L_law_1330
  show rec_18 (tp_w (x3 + 6)) _ = _
  rw [w6]
set_option maxHeartbeats 4000000 in
set_option maxRecDepth 100000 in
theorem law_knot {Inv : tp_M → Prop} (hop : op_knot Inv) {L : Int} {xs : Int → Int} (hx : ∀ i, tp_r (xs i)) (rec_18 : Int → tp_M → Option (Int × tp_M)) {x3 : Int} {M : tp_M} (hM : Inv M) (h0 : 0 ≤ x3) (h1 : x3 + 6 ≤ L) (h2 : L ≤ 3072) (ht : tp_and (xs x3) 31 = 14) : ∃ M', Inv M' ∧ f_L_law_18B L xs rec_18 x3 M = rec_18 (x3 + 6) M' := by
  obtain ⟨r, M2, e1, e2, hI⟩ := hop M hM (xs (x3 + 1)) (xs (x3 + 2)) (hx _) (hx _)
  refine ⟨M2, hI, ?_⟩
  have w1 : tp_w (x3 + 1) = x3 + 1 := tp_w_id (by unfold tp_r; omega)
  have w2 : tp_w (x3 + 2) = x3 + 2 := tp_w_id (by unfold tp_r; omega)
  have w3 : tp_w (x3 + 3) = x3 + 3 := tp_w_id (by unfold tp_r; omega)
  have w4 : tp_w (x3 + 4) = x3 + 4 := tp_w_id (by unfold tp_r; omega)
  have w5 : tp_w (x3 + 5) = x3 + 5 := tp_w_id (by unfold tp_r; omega)
  have w6 : tp_w (x3 + 6) = x3 + 6 := tp_w_id (by unfold tp_r; omega)
  have w7 : tp_w (L - 6) = L - 6 := tp_w_id (by unfold tp_r; omega)
  have c0 : 0 ≤ x3 ∧ x3 < L := ⟨h0, by omega⟩
  have c1 : 0 ≤ x3 + 1 ∧ x3 + 1 < L := by omega
  have c2 : 0 ≤ x3 + 2 ∧ x3 + 2 < L := by omega
  have c3 : 0 ≤ x3 + 3 ∧ x3 + 3 < L := by omega
  have c4 : 0 ≤ x3 + 4 ∧ x3 + 4 < L := by omega
  have c5 : 0 ≤ x3 + 5 ∧ x3 + 5 < L := by omega
  have c7 : ¬ L - 6 < x3 := by omega
  unfold f_L_law_18B
  rw [w7, if_neg c7, if_pos c0, ht]
  rw [if_neg (show ¬ (14 : Int) = 0 by decide), if_neg (show ¬ (14 : Int) = 1 by decide), if_neg (show ¬ (14 : Int) = 2 by decide), if_neg (show ¬ (14 : Int) = 3 by decide), if_neg (show ¬ (14 : Int) = 4 by decide), if_neg (show ¬ (14 : Int) = 5 by decide), if_neg (show ¬ (14 : Int) = 6 by decide), if_neg (show ¬ (14 : Int) = 7 by decide), if_neg (show ¬ (14 : Int) = 8 by decide), if_neg (show ¬ (14 : Int) = 9 by decide), if_neg (show ¬ (14 : Int) = 10 by decide), if_neg (show ¬ (14 : Int) = 11 by decide), if_neg (show ¬ (14 : Int) = 12 by decide), if_neg (show ¬ (14 : Int) = 13 by decide), if_pos (show (14 : Int) = 14 from rfl)]
  simp only [w1, w2, w3, w4, w5, if_pos c1, if_pos c2, if_pos c3, if_pos c4, if_pos c5, e1, e2, Option.bind_some, if_true]
  unfold f_L_law_1330
  show rec_18 (tp_w (x3 + 6)) _ = _
  rw [w6]
set_option maxHeartbeats 4000000 in
set_option maxRecDepth 100000 in
theorem law_key {Inv : tp_M → Prop} (hop : op_key Inv) {L : Int} {xs : Int → Int} (hx : ∀ i, tp_r (xs i)) (rec_18 : Int → tp_M → Option (Int × tp_M)) {x3 : Int} {M : tp_M} (hM : Inv M) (h0 : 0 ≤ x3) (h1 : x3 + 6 ≤ L) (h2 : L ≤ 3072) (ht : tp_and (xs x3) 31 = 15) : ∃ M', Inv M' ∧ f_L_law_18B L xs rec_18 x3 M = rec_18 (x3 + 6) M' := by
  obtain ⟨r, e1, e2, hI⟩ := hop M hM (xs (x3 + 1)) (xs (x3 + 2)) (hx _) (hx _)
  refine ⟨M, hI, ?_⟩
  have w1 : tp_w (x3 + 1) = x3 + 1 := tp_w_id (by unfold tp_r; omega)
  have w2 : tp_w (x3 + 2) = x3 + 2 := tp_w_id (by unfold tp_r; omega)
  have w3 : tp_w (x3 + 3) = x3 + 3 := tp_w_id (by unfold tp_r; omega)
  have w4 : tp_w (x3 + 4) = x3 + 4 := tp_w_id (by unfold tp_r; omega)
  have w5 : tp_w (x3 + 5) = x3 + 5 := tp_w_id (by unfold tp_r; omega)
  have w6 : tp_w (x3 + 6) = x3 + 6 := tp_w_id (by unfold tp_r; omega)
  have w7 : tp_w (L - 6) = L - 6 := tp_w_id (by unfold tp_r; omega)
  have c0 : 0 ≤ x3 ∧ x3 < L := ⟨h0, by omega⟩
  have c1 : 0 ≤ x3 + 1 ∧ x3 + 1 < L := by omega
  have c2 : 0 ≤ x3 + 2 ∧ x3 + 2 < L := by omega
  have c3 : 0 ≤ x3 + 3 ∧ x3 + 3 < L := by omega
  have c4 : 0 ≤ x3 + 4 ∧ x3 + 4 < L := by omega
  have c5 : 0 ≤ x3 + 5 ∧ x3 + 5 < L := by omega
  have c7 : ¬ L - 6 < x3 := by omega
  unfold f_L_law_18B
  rw [w7, if_neg c7, if_pos c0, ht]
  rw [if_neg (show ¬ (15 : Int) = 0 by decide), if_neg (show ¬ (15 : Int) = 1 by decide), if_neg (show ¬ (15 : Int) = 2 by decide), if_neg (show ¬ (15 : Int) = 3 by decide), if_neg (show ¬ (15 : Int) = 4 by decide), if_neg (show ¬ (15 : Int) = 5 by decide), if_neg (show ¬ (15 : Int) = 6 by decide), if_neg (show ¬ (15 : Int) = 7 by decide), if_neg (show ¬ (15 : Int) = 8 by decide), if_neg (show ¬ (15 : Int) = 9 by decide), if_neg (show ¬ (15 : Int) = 10 by decide), if_neg (show ¬ (15 : Int) = 11 by decide), if_neg (show ¬ (15 : Int) = 12 by decide), if_neg (show ¬ (15 : Int) = 13 by decide), if_neg (show ¬ (15 : Int) = 14 by decide), if_pos (show (15 : Int) = 15 from rfl)]
  simp only [w1, w2, w3, w4, w5, if_pos c1, if_pos c2, if_pos c3, if_pos c4, if_pos c5, e1, e2, Option.bind_some, if_true]
  unfold f_L_law_1330
  show rec_18 (tp_w (x3 + 6)) _ = _
  rw [w6]
set_option maxHeartbeats 4000000 in
set_option maxRecDepth 100000 in
theorem law_point {Inv : tp_M → Prop} (hop : op_point Inv) {L : Int} {xs : Int → Int} (hx : ∀ i, tp_r (xs i)) (rec_18 : Int → tp_M → Option (Int × tp_M)) {x3 : Int} {M : tp_M} (hM : Inv M) (h0 : 0 ≤ x3) (h1 : x3 + 6 ≤ L) (h2 : L ≤ 3072) (ht : tp_and (xs x3) 31 = 16) : ∃ M', Inv M' ∧ f_L_law_18B L xs rec_18 x3 M = rec_18 (x3 + 6) M' := by
  obtain ⟨r, e1, e2, hI⟩ := hop M hM (xs (x3 + 1)) (xs (x3 + 2)) (hx _) (hx _)
  refine ⟨M, hI, ?_⟩
  have w1 : tp_w (x3 + 1) = x3 + 1 := tp_w_id (by unfold tp_r; omega)
  have w2 : tp_w (x3 + 2) = x3 + 2 := tp_w_id (by unfold tp_r; omega)
  have w3 : tp_w (x3 + 3) = x3 + 3 := tp_w_id (by unfold tp_r; omega)
  have w4 : tp_w (x3 + 4) = x3 + 4 := tp_w_id (by unfold tp_r; omega)
  have w5 : tp_w (x3 + 5) = x3 + 5 := tp_w_id (by unfold tp_r; omega)
  have w6 : tp_w (x3 + 6) = x3 + 6 := tp_w_id (by unfold tp_r; omega)
  have w7 : tp_w (L - 6) = L - 6 := tp_w_id (by unfold tp_r; omega)
  have c0 : 0 ≤ x3 ∧ x3 < L := ⟨h0, by omega⟩
  have c1 : 0 ≤ x3 + 1 ∧ x3 + 1 < L := by omega
  have c2 : 0 ≤ x3 + 2 ∧ x3 + 2 < L := by omega
  have c3 : 0 ≤ x3 + 3 ∧ x3 + 3 < L := by omega
  have c4 : 0 ≤ x3 + 4 ∧ x3 + 4 < L := by omega
  have c5 : 0 ≤ x3 + 5 ∧ x3 + 5 < L := by omega
  have c7 : ¬ L - 6 < x3 := by omega
  unfold f_L_law_18B
  rw [w7, if_neg c7, if_pos c0, ht]
  rw [if_neg (show ¬ (16 : Int) = 0 by decide), if_neg (show ¬ (16 : Int) = 1 by decide), if_neg (show ¬ (16 : Int) = 2 by decide), if_neg (show ¬ (16 : Int) = 3 by decide), if_neg (show ¬ (16 : Int) = 4 by decide), if_neg (show ¬ (16 : Int) = 5 by decide), if_neg (show ¬ (16 : Int) = 6 by decide), if_neg (show ¬ (16 : Int) = 7 by decide), if_neg (show ¬ (16 : Int) = 8 by decide), if_neg (show ¬ (16 : Int) = 9 by decide), if_neg (show ¬ (16 : Int) = 10 by decide), if_neg (show ¬ (16 : Int) = 11 by decide), if_neg (show ¬ (16 : Int) = 12 by decide), if_neg (show ¬ (16 : Int) = 13 by decide), if_neg (show ¬ (16 : Int) = 14 by decide), if_neg (show ¬ (16 : Int) = 15 by decide), if_pos (show (16 : Int) = 16 from rfl)]
  simp only [w1, w2, w3, w4, w5, if_pos c1, if_pos c2, if_pos c3, if_pos c4, if_pos c5, e1, e2, Option.bind_some, if_true]
  unfold f_L_law_1330
  show rec_18 (tp_w (x3 + 6)) _ = _
  rw [w6]
set_option maxHeartbeats 4000000 in
set_option maxRecDepth 100000 in
theorem law_side {Inv : tp_M → Prop} (hop : op_side Inv) {L : Int} {xs : Int → Int} (hx : ∀ i, tp_r (xs i)) (rec_18 : Int → tp_M → Option (Int × tp_M)) {x3 : Int} {M : tp_M} (hM : Inv M) (h0 : 0 ≤ x3) (h1 : x3 + 6 ≤ L) (h2 : L ≤ 3072) (ht : tp_and (xs x3) 31 = 17) : ∃ M', Inv M' ∧ f_L_law_18B L xs rec_18 x3 M = rec_18 (x3 + 6) M' := by
  obtain ⟨r, e1, e2, hI⟩ := hop M hM (xs (x3 + 1)) (xs (x3 + 2)) (xs (x3 + 3)) (hx _) (hx _) (hx _)
  refine ⟨M, hI, ?_⟩
  have w1 : tp_w (x3 + 1) = x3 + 1 := tp_w_id (by unfold tp_r; omega)
  have w2 : tp_w (x3 + 2) = x3 + 2 := tp_w_id (by unfold tp_r; omega)
  have w3 : tp_w (x3 + 3) = x3 + 3 := tp_w_id (by unfold tp_r; omega)
  have w4 : tp_w (x3 + 4) = x3 + 4 := tp_w_id (by unfold tp_r; omega)
  have w5 : tp_w (x3 + 5) = x3 + 5 := tp_w_id (by unfold tp_r; omega)
  have w6 : tp_w (x3 + 6) = x3 + 6 := tp_w_id (by unfold tp_r; omega)
  have w7 : tp_w (L - 6) = L - 6 := tp_w_id (by unfold tp_r; omega)
  have c0 : 0 ≤ x3 ∧ x3 < L := ⟨h0, by omega⟩
  have c1 : 0 ≤ x3 + 1 ∧ x3 + 1 < L := by omega
  have c2 : 0 ≤ x3 + 2 ∧ x3 + 2 < L := by omega
  have c3 : 0 ≤ x3 + 3 ∧ x3 + 3 < L := by omega
  have c4 : 0 ≤ x3 + 4 ∧ x3 + 4 < L := by omega
  have c5 : 0 ≤ x3 + 5 ∧ x3 + 5 < L := by omega
  have c7 : ¬ L - 6 < x3 := by omega
  unfold f_L_law_18B
  rw [w7, if_neg c7, if_pos c0, ht]
  rw [if_neg (show ¬ (17 : Int) = 0 by decide), if_neg (show ¬ (17 : Int) = 1 by decide), if_neg (show ¬ (17 : Int) = 2 by decide), if_neg (show ¬ (17 : Int) = 3 by decide), if_neg (show ¬ (17 : Int) = 4 by decide), if_neg (show ¬ (17 : Int) = 5 by decide), if_neg (show ¬ (17 : Int) = 6 by decide), if_neg (show ¬ (17 : Int) = 7 by decide), if_neg (show ¬ (17 : Int) = 8 by decide), if_neg (show ¬ (17 : Int) = 9 by decide), if_neg (show ¬ (17 : Int) = 10 by decide), if_neg (show ¬ (17 : Int) = 11 by decide), if_neg (show ¬ (17 : Int) = 12 by decide), if_neg (show ¬ (17 : Int) = 13 by decide), if_neg (show ¬ (17 : Int) = 14 by decide), if_neg (show ¬ (17 : Int) = 15 by decide), if_neg (show ¬ (17 : Int) = 16 by decide), if_pos (show (17 : Int) = 17 from rfl)]
  simp only [w1, w2, w3, w4, w5, if_pos c1, if_pos c2, if_pos c3, if_pos c4, if_pos c5, e1, e2, Option.bind_some, if_true]
  unfold f_L_law_1330
  show rec_18 (tp_w (x3 + 6)) _ = _
  rw [w6]
set_option maxHeartbeats 4000000 in
set_option maxRecDepth 100000 in
theorem law_residual {Inv : tp_M → Prop} (hop : op_residual Inv) {L : Int} {xs : Int → Int} (hx : ∀ i, tp_r (xs i)) (rec_18 : Int → tp_M → Option (Int × tp_M)) {x3 : Int} {M : tp_M} (hM : Inv M) (h0 : 0 ≤ x3) (h1 : x3 + 6 ≤ L) (h2 : L ≤ 3072) (ht : tp_and (xs x3) 31 = 18) : ∃ M', Inv M' ∧ f_L_law_18B L xs rec_18 x3 M = rec_18 (x3 + 6) M' := by
  obtain ⟨r, e1, e2, hI⟩ := hop M hM (xs (x3 + 1)) (xs (x3 + 2)) (xs (x3 + 3)) (hx _) (hx _) (hx _)
  refine ⟨M, hI, ?_⟩
  have w1 : tp_w (x3 + 1) = x3 + 1 := tp_w_id (by unfold tp_r; omega)
  have w2 : tp_w (x3 + 2) = x3 + 2 := tp_w_id (by unfold tp_r; omega)
  have w3 : tp_w (x3 + 3) = x3 + 3 := tp_w_id (by unfold tp_r; omega)
  have w4 : tp_w (x3 + 4) = x3 + 4 := tp_w_id (by unfold tp_r; omega)
  have w5 : tp_w (x3 + 5) = x3 + 5 := tp_w_id (by unfold tp_r; omega)
  have w6 : tp_w (x3 + 6) = x3 + 6 := tp_w_id (by unfold tp_r; omega)
  have w7 : tp_w (L - 6) = L - 6 := tp_w_id (by unfold tp_r; omega)
  have c0 : 0 ≤ x3 ∧ x3 < L := ⟨h0, by omega⟩
  have c1 : 0 ≤ x3 + 1 ∧ x3 + 1 < L := by omega
  have c2 : 0 ≤ x3 + 2 ∧ x3 + 2 < L := by omega
  have c3 : 0 ≤ x3 + 3 ∧ x3 + 3 < L := by omega
  have c4 : 0 ≤ x3 + 4 ∧ x3 + 4 < L := by omega
  have c5 : 0 ≤ x3 + 5 ∧ x3 + 5 < L := by omega
  have c7 : ¬ L - 6 < x3 := by omega
  unfold f_L_law_18B
  rw [w7, if_neg c7, if_pos c0, ht]
  rw [if_neg (show ¬ (18 : Int) = 0 by decide), if_neg (show ¬ (18 : Int) = 1 by decide), if_neg (show ¬ (18 : Int) = 2 by decide), if_neg (show ¬ (18 : Int) = 3 by decide), if_neg (show ¬ (18 : Int) = 4 by decide), if_neg (show ¬ (18 : Int) = 5 by decide), if_neg (show ¬ (18 : Int) = 6 by decide), if_neg (show ¬ (18 : Int) = 7 by decide), if_neg (show ¬ (18 : Int) = 8 by decide), if_neg (show ¬ (18 : Int) = 9 by decide), if_neg (show ¬ (18 : Int) = 10 by decide), if_neg (show ¬ (18 : Int) = 11 by decide), if_neg (show ¬ (18 : Int) = 12 by decide), if_neg (show ¬ (18 : Int) = 13 by decide), if_neg (show ¬ (18 : Int) = 14 by decide), if_neg (show ¬ (18 : Int) = 15 by decide), if_neg (show ¬ (18 : Int) = 16 by decide), if_neg (show ¬ (18 : Int) = 17 by decide), if_pos (show (18 : Int) = 18 from rfl)]
  simp only [w1, w2, w3, w4, w5, if_pos c1, if_pos c2, if_pos c3, if_pos c4, if_pos c5, e1, e2, Option.bind_some, if_true]
  unfold f_L_law_1330
  show rec_18 (tp_w (x3 + 6)) _ = _
  rw [w6]
set_option maxHeartbeats 4000000 in
set_option maxRecDepth 100000 in
theorem law_monomial {Inv : tp_M → Prop} (hop : op_monomial Inv) {L : Int} {xs : Int → Int} (hx : ∀ i, tp_r (xs i)) (rec_18 : Int → tp_M → Option (Int × tp_M)) {x3 : Int} {M : tp_M} (hM : Inv M) (h0 : 0 ≤ x3) (h1 : x3 + 6 ≤ L) (h2 : L ≤ 3072) (ht : tp_and (xs x3) 31 = 19) : ∃ M', Inv M' ∧ f_L_law_18B L xs rec_18 x3 M = rec_18 (x3 + 6) M' := by
  obtain ⟨r, e1, e2, hI⟩ := hop M hM (xs (x3 + 1)) (xs (x3 + 2)) (xs (x3 + 3)) (hx _) (hx _) (hx _)
  refine ⟨M, hI, ?_⟩
  have w1 : tp_w (x3 + 1) = x3 + 1 := tp_w_id (by unfold tp_r; omega)
  have w2 : tp_w (x3 + 2) = x3 + 2 := tp_w_id (by unfold tp_r; omega)
  have w3 : tp_w (x3 + 3) = x3 + 3 := tp_w_id (by unfold tp_r; omega)
  have w4 : tp_w (x3 + 4) = x3 + 4 := tp_w_id (by unfold tp_r; omega)
  have w5 : tp_w (x3 + 5) = x3 + 5 := tp_w_id (by unfold tp_r; omega)
  have w6 : tp_w (x3 + 6) = x3 + 6 := tp_w_id (by unfold tp_r; omega)
  have w7 : tp_w (L - 6) = L - 6 := tp_w_id (by unfold tp_r; omega)
  have c0 : 0 ≤ x3 ∧ x3 < L := ⟨h0, by omega⟩
  have c1 : 0 ≤ x3 + 1 ∧ x3 + 1 < L := by omega
  have c2 : 0 ≤ x3 + 2 ∧ x3 + 2 < L := by omega
  have c3 : 0 ≤ x3 + 3 ∧ x3 + 3 < L := by omega
  have c4 : 0 ≤ x3 + 4 ∧ x3 + 4 < L := by omega
  have c5 : 0 ≤ x3 + 5 ∧ x3 + 5 < L := by omega
  have c7 : ¬ L - 6 < x3 := by omega
  unfold f_L_law_18B
  rw [w7, if_neg c7, if_pos c0, ht]
  rw [if_neg (show ¬ (19 : Int) = 0 by decide), if_neg (show ¬ (19 : Int) = 1 by decide), if_neg (show ¬ (19 : Int) = 2 by decide), if_neg (show ¬ (19 : Int) = 3 by decide), if_neg (show ¬ (19 : Int) = 4 by decide), if_neg (show ¬ (19 : Int) = 5 by decide), if_neg (show ¬ (19 : Int) = 6 by decide), if_neg (show ¬ (19 : Int) = 7 by decide), if_neg (show ¬ (19 : Int) = 8 by decide), if_neg (show ¬ (19 : Int) = 9 by decide), if_neg (show ¬ (19 : Int) = 10 by decide), if_neg (show ¬ (19 : Int) = 11 by decide), if_neg (show ¬ (19 : Int) = 12 by decide), if_neg (show ¬ (19 : Int) = 13 by decide), if_neg (show ¬ (19 : Int) = 14 by decide), if_neg (show ¬ (19 : Int) = 15 by decide), if_neg (show ¬ (19 : Int) = 16 by decide), if_neg (show ¬ (19 : Int) = 17 by decide), if_neg (show ¬ (19 : Int) = 18 by decide), if_pos (show (19 : Int) = 19 from rfl)]
  simp only [w1, w2, w3, w4, w5, if_pos c1, if_pos c2, if_pos c3, if_pos c4, if_pos c5, e1, e2, Option.bind_some, if_true]
  unfold f_L_law_1330
  show rec_18 (tp_w (x3 + 6)) _ = _
  rw [w6]
set_option maxHeartbeats 4000000 in
set_option maxRecDepth 100000 in
theorem law_leaf {Inv : tp_M → Prop} (hop : op_leaf Inv) {L : Int} {xs : Int → Int} (hx : ∀ i, tp_r (xs i)) (rec_18 : Int → tp_M → Option (Int × tp_M)) {x3 : Int} {M : tp_M} (hM : Inv M) (h0 : 0 ≤ x3) (h1 : x3 + 6 ≤ L) (h2 : L ≤ 3072) (ht : tp_and (xs x3) 31 = 20) : ∃ M', Inv M' ∧ f_L_law_18B L xs rec_18 x3 M = rec_18 (x3 + 6) M' := by
  obtain ⟨r, e1, e2, hI⟩ := hop M hM (xs (x3 + 1)) (xs (x3 + 2)) (hx _) (hx _)
  refine ⟨M, hI, ?_⟩
  have w1 : tp_w (x3 + 1) = x3 + 1 := tp_w_id (by unfold tp_r; omega)
  have w2 : tp_w (x3 + 2) = x3 + 2 := tp_w_id (by unfold tp_r; omega)
  have w3 : tp_w (x3 + 3) = x3 + 3 := tp_w_id (by unfold tp_r; omega)
  have w4 : tp_w (x3 + 4) = x3 + 4 := tp_w_id (by unfold tp_r; omega)
  have w5 : tp_w (x3 + 5) = x3 + 5 := tp_w_id (by unfold tp_r; omega)
  have w6 : tp_w (x3 + 6) = x3 + 6 := tp_w_id (by unfold tp_r; omega)
  have w7 : tp_w (L - 6) = L - 6 := tp_w_id (by unfold tp_r; omega)
  have c0 : 0 ≤ x3 ∧ x3 < L := ⟨h0, by omega⟩
  have c1 : 0 ≤ x3 + 1 ∧ x3 + 1 < L := by omega
  have c2 : 0 ≤ x3 + 2 ∧ x3 + 2 < L := by omega
  have c3 : 0 ≤ x3 + 3 ∧ x3 + 3 < L := by omega
  have c4 : 0 ≤ x3 + 4 ∧ x3 + 4 < L := by omega
  have c5 : 0 ≤ x3 + 5 ∧ x3 + 5 < L := by omega
  have c7 : ¬ L - 6 < x3 := by omega
  unfold f_L_law_18B
  rw [w7, if_neg c7, if_pos c0, ht]
  rw [if_neg (show ¬ (20 : Int) = 0 by decide), if_neg (show ¬ (20 : Int) = 1 by decide), if_neg (show ¬ (20 : Int) = 2 by decide), if_neg (show ¬ (20 : Int) = 3 by decide), if_neg (show ¬ (20 : Int) = 4 by decide), if_neg (show ¬ (20 : Int) = 5 by decide), if_neg (show ¬ (20 : Int) = 6 by decide), if_neg (show ¬ (20 : Int) = 7 by decide), if_neg (show ¬ (20 : Int) = 8 by decide), if_neg (show ¬ (20 : Int) = 9 by decide), if_neg (show ¬ (20 : Int) = 10 by decide), if_neg (show ¬ (20 : Int) = 11 by decide), if_neg (show ¬ (20 : Int) = 12 by decide), if_neg (show ¬ (20 : Int) = 13 by decide), if_neg (show ¬ (20 : Int) = 14 by decide), if_neg (show ¬ (20 : Int) = 15 by decide), if_neg (show ¬ (20 : Int) = 16 by decide), if_neg (show ¬ (20 : Int) = 17 by decide), if_neg (show ¬ (20 : Int) = 18 by decide), if_neg (show ¬ (20 : Int) = 19 by decide), if_pos (show (20 : Int) = 20 from rfl)]
  simp only [w1, w2, w3, w4, w5, if_pos c1, if_pos c2, if_pos c3, if_pos c4, if_pos c5, e1, e2, Option.bind_some, if_true]
  unfold f_L_law_1330
  show rec_18 (tp_w (x3 + 6)) _ = _
  rw [w6]
set_option maxHeartbeats 4000000 in
set_option maxRecDepth 100000 in
theorem law_spelling {Inv : tp_M → Prop} (hop : op_spelling Inv) {L : Int} {xs : Int → Int} (hx : ∀ i, tp_r (xs i)) (rec_18 : Int → tp_M → Option (Int × tp_M)) {x3 : Int} {M : tp_M} (hM : Inv M) (h0 : 0 ≤ x3) (h1 : x3 + 6 ≤ L) (h2 : L ≤ 3072) (ht : tp_and (xs x3) 31 = 21) : ∃ M', Inv M' ∧ f_L_law_18B L xs rec_18 x3 M = rec_18 (x3 + 6) M' := by
  obtain ⟨r, e1, e2, hI⟩ := hop M hM (xs (x3 + 1)) (hx _)
  refine ⟨M, hI, ?_⟩
  have w1 : tp_w (x3 + 1) = x3 + 1 := tp_w_id (by unfold tp_r; omega)
  have w2 : tp_w (x3 + 2) = x3 + 2 := tp_w_id (by unfold tp_r; omega)
  have w3 : tp_w (x3 + 3) = x3 + 3 := tp_w_id (by unfold tp_r; omega)
  have w4 : tp_w (x3 + 4) = x3 + 4 := tp_w_id (by unfold tp_r; omega)
  have w5 : tp_w (x3 + 5) = x3 + 5 := tp_w_id (by unfold tp_r; omega)
  have w6 : tp_w (x3 + 6) = x3 + 6 := tp_w_id (by unfold tp_r; omega)
  have w7 : tp_w (L - 6) = L - 6 := tp_w_id (by unfold tp_r; omega)
  have c0 : 0 ≤ x3 ∧ x3 < L := ⟨h0, by omega⟩
  have c1 : 0 ≤ x3 + 1 ∧ x3 + 1 < L := by omega
  have c2 : 0 ≤ x3 + 2 ∧ x3 + 2 < L := by omega
  have c3 : 0 ≤ x3 + 3 ∧ x3 + 3 < L := by omega
  have c4 : 0 ≤ x3 + 4 ∧ x3 + 4 < L := by omega
  have c5 : 0 ≤ x3 + 5 ∧ x3 + 5 < L := by omega
  have c7 : ¬ L - 6 < x3 := by omega
  unfold f_L_law_18B
  rw [w7, if_neg c7, if_pos c0, ht]
  rw [if_neg (show ¬ (21 : Int) = 0 by decide), if_neg (show ¬ (21 : Int) = 1 by decide), if_neg (show ¬ (21 : Int) = 2 by decide), if_neg (show ¬ (21 : Int) = 3 by decide), if_neg (show ¬ (21 : Int) = 4 by decide), if_neg (show ¬ (21 : Int) = 5 by decide), if_neg (show ¬ (21 : Int) = 6 by decide), if_neg (show ¬ (21 : Int) = 7 by decide), if_neg (show ¬ (21 : Int) = 8 by decide), if_neg (show ¬ (21 : Int) = 9 by decide), if_neg (show ¬ (21 : Int) = 10 by decide), if_neg (show ¬ (21 : Int) = 11 by decide), if_neg (show ¬ (21 : Int) = 12 by decide), if_neg (show ¬ (21 : Int) = 13 by decide), if_neg (show ¬ (21 : Int) = 14 by decide), if_neg (show ¬ (21 : Int) = 15 by decide), if_neg (show ¬ (21 : Int) = 16 by decide), if_neg (show ¬ (21 : Int) = 17 by decide), if_neg (show ¬ (21 : Int) = 18 by decide), if_neg (show ¬ (21 : Int) = 19 by decide), if_neg (show ¬ (21 : Int) = 20 by decide), if_pos (show (21 : Int) = 21 from rfl)]
  simp only [w1, w2, w3, w4, w5, if_pos c1, if_pos c2, if_pos c3, if_pos c4, if_pos c5, e1, e2, Option.bind_some, if_true]
  unfold f_L_law_1330
  show rec_18 (tp_w (x3 + 6)) _ = _
  rw [w6]
set_option maxHeartbeats 4000000 in
set_option maxRecDepth 100000 in
theorem law_ask {Inv : tp_M → Prop} (hop : op_ask Inv) {L : Int} {xs : Int → Int} (hx : ∀ i, tp_r (xs i)) (rec_18 : Int → tp_M → Option (Int × tp_M)) {x3 : Int} {M : tp_M} (hM : Inv M) (h0 : 0 ≤ x3) (h1 : x3 + 6 ≤ L) (h2 : L ≤ 3072) (ht : tp_and (xs x3) 31 = 22) : ∃ M', Inv M' ∧ f_L_law_18B L xs rec_18 x3 M = rec_18 (x3 + 6) M' := by
  obtain ⟨r, M1, M2, e1, e2, hI⟩ := hop M hM
  refine ⟨M2, hI, ?_⟩
  have w1 : tp_w (x3 + 1) = x3 + 1 := tp_w_id (by unfold tp_r; omega)
  have w2 : tp_w (x3 + 2) = x3 + 2 := tp_w_id (by unfold tp_r; omega)
  have w3 : tp_w (x3 + 3) = x3 + 3 := tp_w_id (by unfold tp_r; omega)
  have w4 : tp_w (x3 + 4) = x3 + 4 := tp_w_id (by unfold tp_r; omega)
  have w5 : tp_w (x3 + 5) = x3 + 5 := tp_w_id (by unfold tp_r; omega)
  have w6 : tp_w (x3 + 6) = x3 + 6 := tp_w_id (by unfold tp_r; omega)
  have w7 : tp_w (L - 6) = L - 6 := tp_w_id (by unfold tp_r; omega)
  have c0 : 0 ≤ x3 ∧ x3 < L := ⟨h0, by omega⟩
  have c1 : 0 ≤ x3 + 1 ∧ x3 + 1 < L := by omega
  have c2 : 0 ≤ x3 + 2 ∧ x3 + 2 < L := by omega
  have c3 : 0 ≤ x3 + 3 ∧ x3 + 3 < L := by omega
  have c4 : 0 ≤ x3 + 4 ∧ x3 + 4 < L := by omega
  have c5 : 0 ≤ x3 + 5 ∧ x3 + 5 < L := by omega
  have c7 : ¬ L - 6 < x3 := by omega
  unfold f_L_law_18B
  rw [w7, if_neg c7, if_pos c0, ht]
  rw [if_neg (show ¬ (22 : Int) = 0 by decide), if_neg (show ¬ (22 : Int) = 1 by decide), if_neg (show ¬ (22 : Int) = 2 by decide), if_neg (show ¬ (22 : Int) = 3 by decide), if_neg (show ¬ (22 : Int) = 4 by decide), if_neg (show ¬ (22 : Int) = 5 by decide), if_neg (show ¬ (22 : Int) = 6 by decide), if_neg (show ¬ (22 : Int) = 7 by decide), if_neg (show ¬ (22 : Int) = 8 by decide), if_neg (show ¬ (22 : Int) = 9 by decide), if_neg (show ¬ (22 : Int) = 10 by decide), if_neg (show ¬ (22 : Int) = 11 by decide), if_neg (show ¬ (22 : Int) = 12 by decide), if_neg (show ¬ (22 : Int) = 13 by decide), if_neg (show ¬ (22 : Int) = 14 by decide), if_neg (show ¬ (22 : Int) = 15 by decide), if_neg (show ¬ (22 : Int) = 16 by decide), if_neg (show ¬ (22 : Int) = 17 by decide), if_neg (show ¬ (22 : Int) = 18 by decide), if_neg (show ¬ (22 : Int) = 19 by decide), if_neg (show ¬ (22 : Int) = 20 by decide), if_neg (show ¬ (22 : Int) = 21 by decide), if_pos (show (22 : Int) = 22 from rfl)]
  simp only [w1, w2, w3, w4, w5, if_pos c1, if_pos c2, if_pos c3, if_pos c4, if_pos c5, e1, e2, Option.bind_some, if_true]
  unfold f_L_law_1330
  show rec_18 (tp_w (x3 + 6)) _ = _
  rw [w6]
set_option maxHeartbeats 4000000 in
set_option maxRecDepth 100000 in
theorem law_corner {Inv : tp_M → Prop} (hop : op_corner Inv) {L : Int} {xs : Int → Int} (hx : ∀ i, tp_r (xs i)) (rec_18 : Int → tp_M → Option (Int × tp_M)) {x3 : Int} {M : tp_M} (hM : Inv M) (h0 : 0 ≤ x3) (h1 : x3 + 6 ≤ L) (h2 : L ≤ 3072) (ht : tp_and (xs x3) 31 = 23) : ∃ M', Inv M' ∧ f_L_law_18B L xs rec_18 x3 M = rec_18 (x3 + 6) M' := by
  obtain ⟨r, M1, e1, e2, hI⟩ := hop M hM (xs (x3 + 1)) (xs (x3 + 2)) (hx _) (hx _)
  refine ⟨M1, hI, ?_⟩
  have w1 : tp_w (x3 + 1) = x3 + 1 := tp_w_id (by unfold tp_r; omega)
  have w2 : tp_w (x3 + 2) = x3 + 2 := tp_w_id (by unfold tp_r; omega)
  have w3 : tp_w (x3 + 3) = x3 + 3 := tp_w_id (by unfold tp_r; omega)
  have w4 : tp_w (x3 + 4) = x3 + 4 := tp_w_id (by unfold tp_r; omega)
  have w5 : tp_w (x3 + 5) = x3 + 5 := tp_w_id (by unfold tp_r; omega)
  have w6 : tp_w (x3 + 6) = x3 + 6 := tp_w_id (by unfold tp_r; omega)
  have w7 : tp_w (L - 6) = L - 6 := tp_w_id (by unfold tp_r; omega)
  have c0 : 0 ≤ x3 ∧ x3 < L := ⟨h0, by omega⟩
  have c1 : 0 ≤ x3 + 1 ∧ x3 + 1 < L := by omega
  have c2 : 0 ≤ x3 + 2 ∧ x3 + 2 < L := by omega
  have c3 : 0 ≤ x3 + 3 ∧ x3 + 3 < L := by omega
  have c4 : 0 ≤ x3 + 4 ∧ x3 + 4 < L := by omega
  have c5 : 0 ≤ x3 + 5 ∧ x3 + 5 < L := by omega
  have c7 : ¬ L - 6 < x3 := by omega
  unfold f_L_law_18B
  rw [w7, if_neg c7, if_pos c0, ht]
  rw [if_neg (show ¬ (23 : Int) = 0 by decide), if_neg (show ¬ (23 : Int) = 1 by decide), if_neg (show ¬ (23 : Int) = 2 by decide), if_neg (show ¬ (23 : Int) = 3 by decide), if_neg (show ¬ (23 : Int) = 4 by decide), if_neg (show ¬ (23 : Int) = 5 by decide), if_neg (show ¬ (23 : Int) = 6 by decide), if_neg (show ¬ (23 : Int) = 7 by decide), if_neg (show ¬ (23 : Int) = 8 by decide), if_neg (show ¬ (23 : Int) = 9 by decide), if_neg (show ¬ (23 : Int) = 10 by decide), if_neg (show ¬ (23 : Int) = 11 by decide), if_neg (show ¬ (23 : Int) = 12 by decide), if_neg (show ¬ (23 : Int) = 13 by decide), if_neg (show ¬ (23 : Int) = 14 by decide), if_neg (show ¬ (23 : Int) = 15 by decide), if_neg (show ¬ (23 : Int) = 16 by decide), if_neg (show ¬ (23 : Int) = 17 by decide), if_neg (show ¬ (23 : Int) = 18 by decide), if_neg (show ¬ (23 : Int) = 19 by decide), if_neg (show ¬ (23 : Int) = 20 by decide), if_neg (show ¬ (23 : Int) = 21 by decide), if_neg (show ¬ (23 : Int) = 22 by decide), if_pos (show (23 : Int) = 23 from rfl)]
  simp only [w1, w2, w3, w4, w5, if_pos c1, if_pos c2, if_pos c3, if_pos c4, if_pos c5, e1, e2, Option.bind_some, if_true]
  unfold f_L_law_1330
  show rec_18 (tp_w (x3 + 6)) _ = _
  rw [w6]
set_option maxHeartbeats 4000000 in
set_option maxRecDepth 100000 in
theorem law_slope {Inv : tp_M → Prop} (hop : op_slope Inv) {L : Int} {xs : Int → Int} (hx : ∀ i, tp_r (xs i)) (rec_18 : Int → tp_M → Option (Int × tp_M)) {x3 : Int} {M : tp_M} (hM : Inv M) (h0 : 0 ≤ x3) (h1 : x3 + 6 ≤ L) (h2 : L ≤ 3072) (ht : tp_and (xs x3) 31 = 24) : ∃ M', Inv M' ∧ f_L_law_18B L xs rec_18 x3 M = rec_18 (x3 + 6) M' := by
  obtain ⟨r, e1, e2, hI⟩ := hop M hM (xs (x3 + 1)) (xs (x3 + 2)) (xs (x3 + 3)) (xs (x3 + 4)) (hx _) (hx _) (hx _) (hx _)
  refine ⟨M, hI, ?_⟩
  have w1 : tp_w (x3 + 1) = x3 + 1 := tp_w_id (by unfold tp_r; omega)
  have w2 : tp_w (x3 + 2) = x3 + 2 := tp_w_id (by unfold tp_r; omega)
  have w3 : tp_w (x3 + 3) = x3 + 3 := tp_w_id (by unfold tp_r; omega)
  have w4 : tp_w (x3 + 4) = x3 + 4 := tp_w_id (by unfold tp_r; omega)
  have w5 : tp_w (x3 + 5) = x3 + 5 := tp_w_id (by unfold tp_r; omega)
  have w6 : tp_w (x3 + 6) = x3 + 6 := tp_w_id (by unfold tp_r; omega)
  have w7 : tp_w (L - 6) = L - 6 := tp_w_id (by unfold tp_r; omega)
  have c0 : 0 ≤ x3 ∧ x3 < L := ⟨h0, by omega⟩
  have c1 : 0 ≤ x3 + 1 ∧ x3 + 1 < L := by omega
  have c2 : 0 ≤ x3 + 2 ∧ x3 + 2 < L := by omega
  have c3 : 0 ≤ x3 + 3 ∧ x3 + 3 < L := by omega
  have c4 : 0 ≤ x3 + 4 ∧ x3 + 4 < L := by omega
  have c5 : 0 ≤ x3 + 5 ∧ x3 + 5 < L := by omega
  have c7 : ¬ L - 6 < x3 := by omega
  unfold f_L_law_18B
  rw [w7, if_neg c7, if_pos c0, ht]
  rw [if_neg (show ¬ (24 : Int) = 0 by decide), if_neg (show ¬ (24 : Int) = 1 by decide), if_neg (show ¬ (24 : Int) = 2 by decide), if_neg (show ¬ (24 : Int) = 3 by decide), if_neg (show ¬ (24 : Int) = 4 by decide), if_neg (show ¬ (24 : Int) = 5 by decide), if_neg (show ¬ (24 : Int) = 6 by decide), if_neg (show ¬ (24 : Int) = 7 by decide), if_neg (show ¬ (24 : Int) = 8 by decide), if_neg (show ¬ (24 : Int) = 9 by decide), if_neg (show ¬ (24 : Int) = 10 by decide), if_neg (show ¬ (24 : Int) = 11 by decide), if_neg (show ¬ (24 : Int) = 12 by decide), if_neg (show ¬ (24 : Int) = 13 by decide), if_neg (show ¬ (24 : Int) = 14 by decide), if_neg (show ¬ (24 : Int) = 15 by decide), if_neg (show ¬ (24 : Int) = 16 by decide), if_neg (show ¬ (24 : Int) = 17 by decide), if_neg (show ¬ (24 : Int) = 18 by decide), if_neg (show ¬ (24 : Int) = 19 by decide), if_neg (show ¬ (24 : Int) = 20 by decide), if_neg (show ¬ (24 : Int) = 21 by decide), if_neg (show ¬ (24 : Int) = 22 by decide), if_neg (show ¬ (24 : Int) = 23 by decide), if_pos (show (24 : Int) = 24 from rfl)]
  simp only [w1, w2, w3, w4, w5, if_pos c1, if_pos c2, if_pos c3, if_pos c4, if_pos c5, e1, e2, Option.bind_some, if_true]
  unfold f_L_law_1330
  show rec_18 (tp_w (x3 + 6)) _ = _
  rw [w6]
set_option maxHeartbeats 4000000 in
set_option maxRecDepth 100000 in
theorem law_whyNot {Inv : tp_M → Prop} (hop : op_whyNot Inv) {L : Int} {xs : Int → Int} (hx : ∀ i, tp_r (xs i)) (rec_18 : Int → tp_M → Option (Int × tp_M)) {x3 : Int} {M : tp_M} (hM : Inv M) (h0 : 0 ≤ x3) (h1 : x3 + 6 ≤ L) (h2 : L ≤ 3072) (ht : tp_and (xs x3) 31 = 25) : ∃ M', Inv M' ∧ f_L_law_18B L xs rec_18 x3 M = rec_18 (x3 + 6) M' := by
  obtain ⟨r, e1, e2, hI⟩ := hop M hM (xs (x3 + 1)) (xs (x3 + 2)) (xs (x3 + 3)) (hx _) (hx _) (hx _)
  refine ⟨M, hI, ?_⟩
  have w1 : tp_w (x3 + 1) = x3 + 1 := tp_w_id (by unfold tp_r; omega)
  have w2 : tp_w (x3 + 2) = x3 + 2 := tp_w_id (by unfold tp_r; omega)
  have w3 : tp_w (x3 + 3) = x3 + 3 := tp_w_id (by unfold tp_r; omega)
  have w4 : tp_w (x3 + 4) = x3 + 4 := tp_w_id (by unfold tp_r; omega)
  have w5 : tp_w (x3 + 5) = x3 + 5 := tp_w_id (by unfold tp_r; omega)
  have w6 : tp_w (x3 + 6) = x3 + 6 := tp_w_id (by unfold tp_r; omega)
  have w7 : tp_w (L - 6) = L - 6 := tp_w_id (by unfold tp_r; omega)
  have c0 : 0 ≤ x3 ∧ x3 < L := ⟨h0, by omega⟩
  have c1 : 0 ≤ x3 + 1 ∧ x3 + 1 < L := by omega
  have c2 : 0 ≤ x3 + 2 ∧ x3 + 2 < L := by omega
  have c3 : 0 ≤ x3 + 3 ∧ x3 + 3 < L := by omega
  have c4 : 0 ≤ x3 + 4 ∧ x3 + 4 < L := by omega
  have c5 : 0 ≤ x3 + 5 ∧ x3 + 5 < L := by omega
  have c7 : ¬ L - 6 < x3 := by omega
  unfold f_L_law_18B
  rw [w7, if_neg c7, if_pos c0, ht]
  rw [if_neg (show ¬ (25 : Int) = 0 by decide), if_neg (show ¬ (25 : Int) = 1 by decide), if_neg (show ¬ (25 : Int) = 2 by decide), if_neg (show ¬ (25 : Int) = 3 by decide), if_neg (show ¬ (25 : Int) = 4 by decide), if_neg (show ¬ (25 : Int) = 5 by decide), if_neg (show ¬ (25 : Int) = 6 by decide), if_neg (show ¬ (25 : Int) = 7 by decide), if_neg (show ¬ (25 : Int) = 8 by decide), if_neg (show ¬ (25 : Int) = 9 by decide), if_neg (show ¬ (25 : Int) = 10 by decide), if_neg (show ¬ (25 : Int) = 11 by decide), if_neg (show ¬ (25 : Int) = 12 by decide), if_neg (show ¬ (25 : Int) = 13 by decide), if_neg (show ¬ (25 : Int) = 14 by decide), if_neg (show ¬ (25 : Int) = 15 by decide), if_neg (show ¬ (25 : Int) = 16 by decide), if_neg (show ¬ (25 : Int) = 17 by decide), if_neg (show ¬ (25 : Int) = 18 by decide), if_neg (show ¬ (25 : Int) = 19 by decide), if_neg (show ¬ (25 : Int) = 20 by decide), if_neg (show ¬ (25 : Int) = 21 by decide), if_neg (show ¬ (25 : Int) = 22 by decide), if_neg (show ¬ (25 : Int) = 23 by decide), if_neg (show ¬ (25 : Int) = 24 by decide), if_pos (show (25 : Int) = 25 from rfl)]
  simp only [w1, w2, w3, w4, w5, if_pos c1, if_pos c2, if_pos c3, if_pos c4, if_pos c5, e1, e2, Option.bind_some, if_true]
  unfold f_L_law_1330
  show rec_18 (tp_w (x3 + 6)) _ = _
  rw [w6]
set_option maxHeartbeats 4000000 in
set_option maxRecDepth 100000 in
theorem law_spill {Inv : tp_M → Prop} (hop : op_spill Inv) {L : Int} {xs : Int → Int} (hx : ∀ i, tp_r (xs i)) (rec_18 : Int → tp_M → Option (Int × tp_M)) {x3 : Int} {M : tp_M} (hM : Inv M) (h0 : 0 ≤ x3) (h1 : x3 + 6 ≤ L) (h2 : L ≤ 3072) (ht : tp_and (xs x3) 31 = 26) : ∃ M', Inv M' ∧ f_L_law_18B L xs rec_18 x3 M = rec_18 (x3 + 6) M' := by
  obtain ⟨r, M1, M2, e1, e2, hI⟩ := hop M hM (xs (x3 + 1)) (xs (x3 + 2)) (xs (x3 + 3)) (hx _) (hx _) (hx _)
  refine ⟨M2, hI, ?_⟩
  have w1 : tp_w (x3 + 1) = x3 + 1 := tp_w_id (by unfold tp_r; omega)
  have w2 : tp_w (x3 + 2) = x3 + 2 := tp_w_id (by unfold tp_r; omega)
  have w3 : tp_w (x3 + 3) = x3 + 3 := tp_w_id (by unfold tp_r; omega)
  have w4 : tp_w (x3 + 4) = x3 + 4 := tp_w_id (by unfold tp_r; omega)
  have w5 : tp_w (x3 + 5) = x3 + 5 := tp_w_id (by unfold tp_r; omega)
  have w6 : tp_w (x3 + 6) = x3 + 6 := tp_w_id (by unfold tp_r; omega)
  have w7 : tp_w (L - 6) = L - 6 := tp_w_id (by unfold tp_r; omega)
  have c0 : 0 ≤ x3 ∧ x3 < L := ⟨h0, by omega⟩
  have c1 : 0 ≤ x3 + 1 ∧ x3 + 1 < L := by omega
  have c2 : 0 ≤ x3 + 2 ∧ x3 + 2 < L := by omega
  have c3 : 0 ≤ x3 + 3 ∧ x3 + 3 < L := by omega
  have c4 : 0 ≤ x3 + 4 ∧ x3 + 4 < L := by omega
  have c5 : 0 ≤ x3 + 5 ∧ x3 + 5 < L := by omega
  have c7 : ¬ L - 6 < x3 := by omega
  unfold f_L_law_18B
  rw [w7, if_neg c7, if_pos c0, ht]
  rw [if_neg (show ¬ (26 : Int) = 0 by decide), if_neg (show ¬ (26 : Int) = 1 by decide), if_neg (show ¬ (26 : Int) = 2 by decide), if_neg (show ¬ (26 : Int) = 3 by decide), if_neg (show ¬ (26 : Int) = 4 by decide), if_neg (show ¬ (26 : Int) = 5 by decide), if_neg (show ¬ (26 : Int) = 6 by decide), if_neg (show ¬ (26 : Int) = 7 by decide), if_neg (show ¬ (26 : Int) = 8 by decide), if_neg (show ¬ (26 : Int) = 9 by decide), if_neg (show ¬ (26 : Int) = 10 by decide), if_neg (show ¬ (26 : Int) = 11 by decide), if_neg (show ¬ (26 : Int) = 12 by decide), if_neg (show ¬ (26 : Int) = 13 by decide), if_neg (show ¬ (26 : Int) = 14 by decide), if_neg (show ¬ (26 : Int) = 15 by decide), if_neg (show ¬ (26 : Int) = 16 by decide), if_neg (show ¬ (26 : Int) = 17 by decide), if_neg (show ¬ (26 : Int) = 18 by decide), if_neg (show ¬ (26 : Int) = 19 by decide), if_neg (show ¬ (26 : Int) = 20 by decide), if_neg (show ¬ (26 : Int) = 21 by decide), if_neg (show ¬ (26 : Int) = 22 by decide), if_neg (show ¬ (26 : Int) = 23 by decide), if_neg (show ¬ (26 : Int) = 24 by decide), if_neg (show ¬ (26 : Int) = 25 by decide), if_pos (show (26 : Int) = 26 from rfl)]
  simp only [w1, w2, w3, w4, w5, if_pos c1, if_pos c2, if_pos c3, if_pos c4, if_pos c5, e1, e2, Option.bind_some, if_true]
  unfold f_L_law_1330
  show rec_18 (tp_w (x3 + 6)) _ = _
  rw [w6]
set_option maxHeartbeats 4000000 in
set_option maxRecDepth 100000 in
theorem law_sheet {Inv : tp_M → Prop} (hop : op_sheet Inv) {L : Int} {xs : Int → Int} (hx : ∀ i, tp_r (xs i)) (rec_18 : Int → tp_M → Option (Int × tp_M)) {x3 : Int} {M : tp_M} (hM : Inv M) (h0 : 0 ≤ x3) (h1 : x3 + 6 ≤ L) (h2 : L ≤ 3072) (ht : tp_and (xs x3) 31 = 27) : ∃ M', Inv M' ∧ f_L_law_18B L xs rec_18 x3 M = rec_18 (x3 + 6) M' := by
  obtain ⟨r, M1, M2, e1, e2, hI⟩ := hop M hM (xs (x3 + 1)) (xs (x3 + 2)) (xs (x3 + 3)) (hx _) (hx _) (hx _)
  refine ⟨M2, hI, ?_⟩
  have w1 : tp_w (x3 + 1) = x3 + 1 := tp_w_id (by unfold tp_r; omega)
  have w2 : tp_w (x3 + 2) = x3 + 2 := tp_w_id (by unfold tp_r; omega)
  have w3 : tp_w (x3 + 3) = x3 + 3 := tp_w_id (by unfold tp_r; omega)
  have w4 : tp_w (x3 + 4) = x3 + 4 := tp_w_id (by unfold tp_r; omega)
  have w5 : tp_w (x3 + 5) = x3 + 5 := tp_w_id (by unfold tp_r; omega)
  have w6 : tp_w (x3 + 6) = x3 + 6 := tp_w_id (by unfold tp_r; omega)
  have w7 : tp_w (L - 6) = L - 6 := tp_w_id (by unfold tp_r; omega)
  have c0 : 0 ≤ x3 ∧ x3 < L := ⟨h0, by omega⟩
  have c1 : 0 ≤ x3 + 1 ∧ x3 + 1 < L := by omega
  have c2 : 0 ≤ x3 + 2 ∧ x3 + 2 < L := by omega
  have c3 : 0 ≤ x3 + 3 ∧ x3 + 3 < L := by omega
  have c4 : 0 ≤ x3 + 4 ∧ x3 + 4 < L := by omega
  have c5 : 0 ≤ x3 + 5 ∧ x3 + 5 < L := by omega
  have c7 : ¬ L - 6 < x3 := by omega
  unfold f_L_law_18B
  rw [w7, if_neg c7, if_pos c0, ht]
  rw [if_neg (show ¬ (27 : Int) = 0 by decide), if_neg (show ¬ (27 : Int) = 1 by decide), if_neg (show ¬ (27 : Int) = 2 by decide), if_neg (show ¬ (27 : Int) = 3 by decide), if_neg (show ¬ (27 : Int) = 4 by decide), if_neg (show ¬ (27 : Int) = 5 by decide), if_neg (show ¬ (27 : Int) = 6 by decide), if_neg (show ¬ (27 : Int) = 7 by decide), if_neg (show ¬ (27 : Int) = 8 by decide), if_neg (show ¬ (27 : Int) = 9 by decide), if_neg (show ¬ (27 : Int) = 10 by decide), if_neg (show ¬ (27 : Int) = 11 by decide), if_neg (show ¬ (27 : Int) = 12 by decide), if_neg (show ¬ (27 : Int) = 13 by decide), if_neg (show ¬ (27 : Int) = 14 by decide), if_neg (show ¬ (27 : Int) = 15 by decide), if_neg (show ¬ (27 : Int) = 16 by decide), if_neg (show ¬ (27 : Int) = 17 by decide), if_neg (show ¬ (27 : Int) = 18 by decide), if_neg (show ¬ (27 : Int) = 19 by decide), if_neg (show ¬ (27 : Int) = 20 by decide), if_neg (show ¬ (27 : Int) = 21 by decide), if_neg (show ¬ (27 : Int) = 22 by decide), if_neg (show ¬ (27 : Int) = 23 by decide), if_neg (show ¬ (27 : Int) = 24 by decide), if_neg (show ¬ (27 : Int) = 25 by decide), if_neg (show ¬ (27 : Int) = 26 by decide), if_pos (show (27 : Int) = 27 from rfl)]
  simp only [w1, w2, w3, w4, w5, if_pos c1, if_pos c2, if_pos c3, if_pos c4, if_pos c5, e1, e2, Option.bind_some, if_true]
  unfold f_L_law_1330
  show rec_18 (tp_w (x3 + 6)) _ = _
  rw [w6]
set_option maxHeartbeats 4000000 in
set_option maxRecDepth 100000 in
theorem law_cell {Inv : tp_M → Prop} (hop : op_cell Inv) {L : Int} {xs : Int → Int} (hx : ∀ i, tp_r (xs i)) (rec_18 : Int → tp_M → Option (Int × tp_M)) {x3 : Int} {M : tp_M} (hM : Inv M) (h0 : 0 ≤ x3) (h1 : x3 + 6 ≤ L) (h2 : L ≤ 3072) (ht : tp_and (xs x3) 31 = 28) : ∃ M', Inv M' ∧ f_L_law_18B L xs rec_18 x3 M = rec_18 (x3 + 6) M' := by
  obtain ⟨r, M1, M2, e1, e2, hI⟩ := hop M hM (xs (x3 + 1)) (xs (x3 + 2)) (xs (x3 + 3)) (hx _) (hx _) (hx _)
  refine ⟨M2, hI, ?_⟩
  have w1 : tp_w (x3 + 1) = x3 + 1 := tp_w_id (by unfold tp_r; omega)
  have w2 : tp_w (x3 + 2) = x3 + 2 := tp_w_id (by unfold tp_r; omega)
  have w3 : tp_w (x3 + 3) = x3 + 3 := tp_w_id (by unfold tp_r; omega)
  have w4 : tp_w (x3 + 4) = x3 + 4 := tp_w_id (by unfold tp_r; omega)
  have w5 : tp_w (x3 + 5) = x3 + 5 := tp_w_id (by unfold tp_r; omega)
  have w6 : tp_w (x3 + 6) = x3 + 6 := tp_w_id (by unfold tp_r; omega)
  have w7 : tp_w (L - 6) = L - 6 := tp_w_id (by unfold tp_r; omega)
  have c0 : 0 ≤ x3 ∧ x3 < L := ⟨h0, by omega⟩
  have c1 : 0 ≤ x3 + 1 ∧ x3 + 1 < L := by omega
  have c2 : 0 ≤ x3 + 2 ∧ x3 + 2 < L := by omega
  have c3 : 0 ≤ x3 + 3 ∧ x3 + 3 < L := by omega
  have c4 : 0 ≤ x3 + 4 ∧ x3 + 4 < L := by omega
  have c5 : 0 ≤ x3 + 5 ∧ x3 + 5 < L := by omega
  have c7 : ¬ L - 6 < x3 := by omega
  unfold f_L_law_18B
  rw [w7, if_neg c7, if_pos c0, ht]
  rw [if_neg (show ¬ (28 : Int) = 0 by decide), if_neg (show ¬ (28 : Int) = 1 by decide), if_neg (show ¬ (28 : Int) = 2 by decide), if_neg (show ¬ (28 : Int) = 3 by decide), if_neg (show ¬ (28 : Int) = 4 by decide), if_neg (show ¬ (28 : Int) = 5 by decide), if_neg (show ¬ (28 : Int) = 6 by decide), if_neg (show ¬ (28 : Int) = 7 by decide), if_neg (show ¬ (28 : Int) = 8 by decide), if_neg (show ¬ (28 : Int) = 9 by decide), if_neg (show ¬ (28 : Int) = 10 by decide), if_neg (show ¬ (28 : Int) = 11 by decide), if_neg (show ¬ (28 : Int) = 12 by decide), if_neg (show ¬ (28 : Int) = 13 by decide), if_neg (show ¬ (28 : Int) = 14 by decide), if_neg (show ¬ (28 : Int) = 15 by decide), if_neg (show ¬ (28 : Int) = 16 by decide), if_neg (show ¬ (28 : Int) = 17 by decide), if_neg (show ¬ (28 : Int) = 18 by decide), if_neg (show ¬ (28 : Int) = 19 by decide), if_neg (show ¬ (28 : Int) = 20 by decide), if_neg (show ¬ (28 : Int) = 21 by decide), if_neg (show ¬ (28 : Int) = 22 by decide), if_neg (show ¬ (28 : Int) = 23 by decide), if_neg (show ¬ (28 : Int) = 24 by decide), if_neg (show ¬ (28 : Int) = 25 by decide), if_neg (show ¬ (28 : Int) = 26 by decide), if_neg (show ¬ (28 : Int) = 27 by decide), if_pos (show (28 : Int) = 28 from rfl)]
  simp only [w1, w2, w3, w4, w5, if_pos c1, if_pos c2, if_pos c3, if_pos c4, if_pos c5, e1, e2, Option.bind_some, if_true]
  unfold f_L_law_1330
  show rec_18 (tp_w (x3 + 6)) _ = _
  rw [w6]
set_option maxHeartbeats 4000000 in
set_option maxRecDepth 100000 in
theorem law_item {Inv : tp_M → Prop} (hop : op_item Inv) {L : Int} {xs : Int → Int} (hx : ∀ i, tp_r (xs i)) (rec_18 : Int → tp_M → Option (Int × tp_M)) {x3 : Int} {M : tp_M} (hM : Inv M) (h0 : 0 ≤ x3) (h1 : x3 + 6 ≤ L) (h2 : L ≤ 3072) (ht : tp_and (xs x3) 31 = 29) : ∃ M', Inv M' ∧ f_L_law_18B L xs rec_18 x3 M = rec_18 (x3 + 6) M' := by
  obtain ⟨r, e1, e2, hI⟩ := hop M hM (xs (x3 + 1)) (xs (x3 + 2)) (hx _) (hx _)
  refine ⟨M, hI, ?_⟩
  have w1 : tp_w (x3 + 1) = x3 + 1 := tp_w_id (by unfold tp_r; omega)
  have w2 : tp_w (x3 + 2) = x3 + 2 := tp_w_id (by unfold tp_r; omega)
  have w3 : tp_w (x3 + 3) = x3 + 3 := tp_w_id (by unfold tp_r; omega)
  have w4 : tp_w (x3 + 4) = x3 + 4 := tp_w_id (by unfold tp_r; omega)
  have w5 : tp_w (x3 + 5) = x3 + 5 := tp_w_id (by unfold tp_r; omega)
  have w6 : tp_w (x3 + 6) = x3 + 6 := tp_w_id (by unfold tp_r; omega)
  have w7 : tp_w (L - 6) = L - 6 := tp_w_id (by unfold tp_r; omega)
  have c0 : 0 ≤ x3 ∧ x3 < L := ⟨h0, by omega⟩
  have c1 : 0 ≤ x3 + 1 ∧ x3 + 1 < L := by omega
  have c2 : 0 ≤ x3 + 2 ∧ x3 + 2 < L := by omega
  have c3 : 0 ≤ x3 + 3 ∧ x3 + 3 < L := by omega
  have c4 : 0 ≤ x3 + 4 ∧ x3 + 4 < L := by omega
  have c5 : 0 ≤ x3 + 5 ∧ x3 + 5 < L := by omega
  have c7 : ¬ L - 6 < x3 := by omega
  unfold f_L_law_18B
  rw [w7, if_neg c7, if_pos c0, ht]
  rw [if_neg (show ¬ (29 : Int) = 0 by decide), if_neg (show ¬ (29 : Int) = 1 by decide), if_neg (show ¬ (29 : Int) = 2 by decide), if_neg (show ¬ (29 : Int) = 3 by decide), if_neg (show ¬ (29 : Int) = 4 by decide), if_neg (show ¬ (29 : Int) = 5 by decide), if_neg (show ¬ (29 : Int) = 6 by decide), if_neg (show ¬ (29 : Int) = 7 by decide), if_neg (show ¬ (29 : Int) = 8 by decide), if_neg (show ¬ (29 : Int) = 9 by decide), if_neg (show ¬ (29 : Int) = 10 by decide), if_neg (show ¬ (29 : Int) = 11 by decide), if_neg (show ¬ (29 : Int) = 12 by decide), if_neg (show ¬ (29 : Int) = 13 by decide), if_neg (show ¬ (29 : Int) = 14 by decide), if_neg (show ¬ (29 : Int) = 15 by decide), if_neg (show ¬ (29 : Int) = 16 by decide), if_neg (show ¬ (29 : Int) = 17 by decide), if_neg (show ¬ (29 : Int) = 18 by decide), if_neg (show ¬ (29 : Int) = 19 by decide), if_neg (show ¬ (29 : Int) = 20 by decide), if_neg (show ¬ (29 : Int) = 21 by decide), if_neg (show ¬ (29 : Int) = 22 by decide), if_neg (show ¬ (29 : Int) = 23 by decide), if_neg (show ¬ (29 : Int) = 24 by decide), if_neg (show ¬ (29 : Int) = 25 by decide), if_neg (show ¬ (29 : Int) = 26 by decide), if_neg (show ¬ (29 : Int) = 27 by decide), if_neg (show ¬ (29 : Int) = 28 by decide), if_pos (show (29 : Int) = 29 from rfl)]
  simp only [w1, w2, w3, w4, w5, if_pos c1, if_pos c2, if_pos c3, if_pos c4, if_pos c5, e1, e2, Option.bind_some, if_true]
  unfold f_L_law_1330
  show rec_18 (tp_w (x3 + 6)) _ = _
  rw [w6]
set_option maxHeartbeats 4000000 in
set_option maxRecDepth 100000 in
theorem law_shift {Inv : tp_M → Prop} (hop : op_shift Inv) {L : Int} {xs : Int → Int} (hx : ∀ i, tp_r (xs i)) (rec_18 : Int → tp_M → Option (Int × tp_M)) {x3 : Int} {M : tp_M} (hM : Inv M) (h0 : 0 ≤ x3) (h1 : x3 + 6 ≤ L) (h2 : L ≤ 3072) (ht : tp_and (xs x3) 31 = 30) : ∃ M', Inv M' ∧ f_L_law_18B L xs rec_18 x3 M = rec_18 (x3 + 6) M' := by
  obtain ⟨r, M1, M2, e1, e2, hI⟩ := hop M hM (xs (x3 + 1)) (xs (x3 + 2)) (xs (x3 + 3)) (xs (x3 + 4)) (xs (x3 + 5)) (hx _) (hx _) (hx _) (hx _) (hx _)
  refine ⟨M2, hI, ?_⟩
  have w1 : tp_w (x3 + 1) = x3 + 1 := tp_w_id (by unfold tp_r; omega)
  have w2 : tp_w (x3 + 2) = x3 + 2 := tp_w_id (by unfold tp_r; omega)
  have w3 : tp_w (x3 + 3) = x3 + 3 := tp_w_id (by unfold tp_r; omega)
  have w4 : tp_w (x3 + 4) = x3 + 4 := tp_w_id (by unfold tp_r; omega)
  have w5 : tp_w (x3 + 5) = x3 + 5 := tp_w_id (by unfold tp_r; omega)
  have w6 : tp_w (x3 + 6) = x3 + 6 := tp_w_id (by unfold tp_r; omega)
  have w7 : tp_w (L - 6) = L - 6 := tp_w_id (by unfold tp_r; omega)
  have c0 : 0 ≤ x3 ∧ x3 < L := ⟨h0, by omega⟩
  have c1 : 0 ≤ x3 + 1 ∧ x3 + 1 < L := by omega
  have c2 : 0 ≤ x3 + 2 ∧ x3 + 2 < L := by omega
  have c3 : 0 ≤ x3 + 3 ∧ x3 + 3 < L := by omega
  have c4 : 0 ≤ x3 + 4 ∧ x3 + 4 < L := by omega
  have c5 : 0 ≤ x3 + 5 ∧ x3 + 5 < L := by omega
  have c7 : ¬ L - 6 < x3 := by omega
  unfold f_L_law_18B
  rw [w7, if_neg c7, if_pos c0, ht]
  rw [if_neg (show ¬ (30 : Int) = 0 by decide), if_neg (show ¬ (30 : Int) = 1 by decide), if_neg (show ¬ (30 : Int) = 2 by decide), if_neg (show ¬ (30 : Int) = 3 by decide), if_neg (show ¬ (30 : Int) = 4 by decide), if_neg (show ¬ (30 : Int) = 5 by decide), if_neg (show ¬ (30 : Int) = 6 by decide), if_neg (show ¬ (30 : Int) = 7 by decide), if_neg (show ¬ (30 : Int) = 8 by decide), if_neg (show ¬ (30 : Int) = 9 by decide), if_neg (show ¬ (30 : Int) = 10 by decide), if_neg (show ¬ (30 : Int) = 11 by decide), if_neg (show ¬ (30 : Int) = 12 by decide), if_neg (show ¬ (30 : Int) = 13 by decide), if_neg (show ¬ (30 : Int) = 14 by decide), if_neg (show ¬ (30 : Int) = 15 by decide), if_neg (show ¬ (30 : Int) = 16 by decide), if_neg (show ¬ (30 : Int) = 17 by decide), if_neg (show ¬ (30 : Int) = 18 by decide), if_neg (show ¬ (30 : Int) = 19 by decide), if_neg (show ¬ (30 : Int) = 20 by decide), if_neg (show ¬ (30 : Int) = 21 by decide), if_neg (show ¬ (30 : Int) = 22 by decide), if_neg (show ¬ (30 : Int) = 23 by decide), if_neg (show ¬ (30 : Int) = 24 by decide), if_neg (show ¬ (30 : Int) = 25 by decide), if_neg (show ¬ (30 : Int) = 26 by decide), if_neg (show ¬ (30 : Int) = 27 by decide), if_neg (show ¬ (30 : Int) = 28 by decide), if_neg (show ¬ (30 : Int) = 29 by decide), if_pos (show (30 : Int) = 30 from rfl)]
  simp only [w1, w2, w3, w4, w5, if_pos c1, if_pos c2, if_pos c3, if_pos c4, if_pos c5, e1, e2, Option.bind_some, if_true]
  unfold f_L_law_1330
  show rec_18 (tp_w (x3 + 6)) _ = _
  rw [w6]
set_option maxHeartbeats 4000000 in
set_option maxRecDepth 100000 in
theorem law_count {Inv : tp_M → Prop} (hop : op_count Inv) {L : Int} {xs : Int → Int} (hx : ∀ i, tp_r (xs i)) (rec_18 : Int → tp_M → Option (Int × tp_M)) {x3 : Int} {M : tp_M} (hM : Inv M) (h0 : 0 ≤ x3) (h1 : x3 + 6 ≤ L) (h2 : L ≤ 3072) (ht : tp_and (xs x3) 31 = 31) : ∃ M', Inv M' ∧ f_L_law_18B L xs rec_18 x3 M = rec_18 (x3 + 6) M' := by
  obtain ⟨r, e1, e2, hI⟩ := hop M hM (xs (x3 + 1)) (hx _)
  refine ⟨M, hI, ?_⟩
  have w1 : tp_w (x3 + 1) = x3 + 1 := tp_w_id (by unfold tp_r; omega)
  have w2 : tp_w (x3 + 2) = x3 + 2 := tp_w_id (by unfold tp_r; omega)
  have w3 : tp_w (x3 + 3) = x3 + 3 := tp_w_id (by unfold tp_r; omega)
  have w4 : tp_w (x3 + 4) = x3 + 4 := tp_w_id (by unfold tp_r; omega)
  have w5 : tp_w (x3 + 5) = x3 + 5 := tp_w_id (by unfold tp_r; omega)
  have w6 : tp_w (x3 + 6) = x3 + 6 := tp_w_id (by unfold tp_r; omega)
  have w7 : tp_w (L - 6) = L - 6 := tp_w_id (by unfold tp_r; omega)
  have c0 : 0 ≤ x3 ∧ x3 < L := ⟨h0, by omega⟩
  have c1 : 0 ≤ x3 + 1 ∧ x3 + 1 < L := by omega
  have c2 : 0 ≤ x3 + 2 ∧ x3 + 2 < L := by omega
  have c3 : 0 ≤ x3 + 3 ∧ x3 + 3 < L := by omega
  have c4 : 0 ≤ x3 + 4 ∧ x3 + 4 < L := by omega
  have c5 : 0 ≤ x3 + 5 ∧ x3 + 5 < L := by omega
  have c7 : ¬ L - 6 < x3 := by omega
  unfold f_L_law_18B
  rw [w7, if_neg c7, if_pos c0, ht]
  rw [if_neg (show ¬ (31 : Int) = 0 by decide), if_neg (show ¬ (31 : Int) = 1 by decide), if_neg (show ¬ (31 : Int) = 2 by decide), if_neg (show ¬ (31 : Int) = 3 by decide), if_neg (show ¬ (31 : Int) = 4 by decide), if_neg (show ¬ (31 : Int) = 5 by decide), if_neg (show ¬ (31 : Int) = 6 by decide), if_neg (show ¬ (31 : Int) = 7 by decide), if_neg (show ¬ (31 : Int) = 8 by decide), if_neg (show ¬ (31 : Int) = 9 by decide), if_neg (show ¬ (31 : Int) = 10 by decide), if_neg (show ¬ (31 : Int) = 11 by decide), if_neg (show ¬ (31 : Int) = 12 by decide), if_neg (show ¬ (31 : Int) = 13 by decide), if_neg (show ¬ (31 : Int) = 14 by decide), if_neg (show ¬ (31 : Int) = 15 by decide), if_neg (show ¬ (31 : Int) = 16 by decide), if_neg (show ¬ (31 : Int) = 17 by decide), if_neg (show ¬ (31 : Int) = 18 by decide), if_neg (show ¬ (31 : Int) = 19 by decide), if_neg (show ¬ (31 : Int) = 20 by decide), if_neg (show ¬ (31 : Int) = 21 by decide), if_neg (show ¬ (31 : Int) = 22 by decide), if_neg (show ¬ (31 : Int) = 23 by decide), if_neg (show ¬ (31 : Int) = 24 by decide), if_neg (show ¬ (31 : Int) = 25 by decide), if_neg (show ¬ (31 : Int) = 26 by decide), if_neg (show ¬ (31 : Int) = 27 by decide), if_neg (show ¬ (31 : Int) = 28 by decide), if_neg (show ¬ (31 : Int) = 29 by decide), if_neg (show ¬ (31 : Int) = 30 by decide), if_pos (show (31 : Int) = 31 from rfl)]
  simp only [w1, w2, w3, w4, w5, if_pos c1, if_pos c2, if_pos c3, if_pos c4, if_pos c5, e1, e2, Option.bind_some, if_true]
  unfold f_L_law_1330
  show rec_18 (tp_w (x3 + 6)) _ = _
  rw [w6]
set_option maxHeartbeats 4000000 in
set_option maxRecDepth 100000 in
theorem law_one {Inv : tp_M → Prop} (hop : op_all Inv) {L : Int} {xs : Int → Int} (hx : ∀ i, tp_r (xs i)) (rec_18 : Int → tp_M → Option (Int × tp_M)) {x3 : Int} {M : tp_M} (hM : Inv M) (h0 : 0 ≤ x3) (h1 : x3 + 6 ≤ L) (h2 : L ≤ 3072) : ∃ M', Inv M' ∧ f_L_law_18B L xs rec_18 x3 M = rec_18 (x3 + 6) M' := by
  have hr := tp_and31 (xs x3)
  obtain ⟨hprime, hfeed, hwipe, htext, hset, hat, htold, hmix, htimes, hworth, hexpansion, hfactor, hgrow, htree, hknot, hkey, hpoint, hside, hresidual, hmonomial, hleaf, hspelling, hask, hcorner, hslope, hwhyNot, hspill, hsheet, hcell, hitem, hshift, hcount⟩ := hop
  have ho : tp_and (xs x3) 31 = 0 ∨ tp_and (xs x3) 31 = 1 ∨ tp_and (xs x3) 31 = 2 ∨ tp_and (xs x3) 31 = 3 ∨ tp_and (xs x3) 31 = 4 ∨ tp_and (xs x3) 31 = 5 ∨ tp_and (xs x3) 31 = 6 ∨ tp_and (xs x3) 31 = 7 ∨ tp_and (xs x3) 31 = 8 ∨ tp_and (xs x3) 31 = 9 ∨ tp_and (xs x3) 31 = 10 ∨ tp_and (xs x3) 31 = 11 ∨ tp_and (xs x3) 31 = 12 ∨ tp_and (xs x3) 31 = 13 ∨ tp_and (xs x3) 31 = 14 ∨ tp_and (xs x3) 31 = 15 ∨ tp_and (xs x3) 31 = 16 ∨ tp_and (xs x3) 31 = 17 ∨ tp_and (xs x3) 31 = 18 ∨ tp_and (xs x3) 31 = 19 ∨ tp_and (xs x3) 31 = 20 ∨ tp_and (xs x3) 31 = 21 ∨ tp_and (xs x3) 31 = 22 ∨ tp_and (xs x3) 31 = 23 ∨ tp_and (xs x3) 31 = 24 ∨ tp_and (xs x3) 31 = 25 ∨ tp_and (xs x3) 31 = 26 ∨ tp_and (xs x3) 31 = 27 ∨ tp_and (xs x3) 31 = 28 ∨ tp_and (xs x3) 31 = 29 ∨ tp_and (xs x3) 31 = 30 ∨ tp_and (xs x3) 31 = 31 := by omega
  rcases ho with hk | hk | hk | hk | hk | hk | hk | hk | hk | hk | hk | hk | hk | hk | hk | hk | hk | hk | hk | hk | hk | hk | hk | hk | hk | hk | hk | hk | hk | hk | hk | hk
  · exact law_prime hprime hx _ hM h0 h1 h2 hk
  · exact law_feed hfeed hx _ hM h0 h1 h2 hk
  · exact law_wipe hwipe hx _ hM h0 h1 h2 hk
  · exact law_text htext hx _ hM h0 h1 h2 hk
  · exact law_set hset hx _ hM h0 h1 h2 hk
  · exact law_at hat hx _ hM h0 h1 h2 hk
  · exact law_told htold hx _ hM h0 h1 h2 hk
  · exact law_mix hmix hx _ hM h0 h1 h2 hk
  · exact law_times htimes hx _ hM h0 h1 h2 hk
  · exact law_worth hworth hx _ hM h0 h1 h2 hk
  · exact law_expansion hexpansion hx _ hM h0 h1 h2 hk
  · exact law_factor hfactor hx _ hM h0 h1 h2 hk
  · exact law_grow hgrow hx _ hM h0 h1 h2 hk
  · exact law_tree htree hx _ hM h0 h1 h2 hk
  · exact law_knot hknot hx _ hM h0 h1 h2 hk
  · exact law_key hkey hx _ hM h0 h1 h2 hk
  · exact law_point hpoint hx _ hM h0 h1 h2 hk
  · exact law_side hside hx _ hM h0 h1 h2 hk
  · exact law_residual hresidual hx _ hM h0 h1 h2 hk
  · exact law_monomial hmonomial hx _ hM h0 h1 h2 hk
  · exact law_leaf hleaf hx _ hM h0 h1 h2 hk
  · exact law_spelling hspelling hx _ hM h0 h1 h2 hk
  · exact law_ask hask hx _ hM h0 h1 h2 hk
  · exact law_corner hcorner hx _ hM h0 h1 h2 hk
  · exact law_slope hslope hx _ hM h0 h1 h2 hk
  · exact law_whyNot hwhyNot hx _ hM h0 h1 h2 hk
  · exact law_spill hspill hx _ hM h0 h1 h2 hk
  · exact law_sheet hsheet hx _ hM h0 h1 h2 hk
  · exact law_cell hcell hx _ hM h0 h1 h2 hk
  · exact law_item hitem hx _ hM h0 h1 h2 hk
  · exact law_shift hshift hx _ hM h0 h1 h2 hk
  · exact law_count hcount hx _ hM h0 h1 h2 hk
set_option maxHeartbeats 4000000 in
set_option maxRecDepth 100000 in
theorem law_loop {Inv : tp_M → Prop} (hop : op_all Inv) {L : Int} {xs : Int → Int} (hx : ∀ i, tp_r (xs i)) (h2 : L ≤ 3072) (h3 : 0 ≤ L) : ∀ (n : Nat) (x3 : Int) (M : tp_M), Inv M → 0 ≤ x3 → x3 ≤ L + 6 → L + 6 - x3 < (n : Int) → ∃ M1, tp_lp (σ := Int × tp_M) (fun rec_ u => f_L_law_18B L xs (fun x3' M0' => rec_ (x3', M0')) u.1 u.2) n (x3, M) = some (1, M1) := by
  intro n
  induction n with
  | zero => intro x3 M hM h0 hl hn; exact absurd hn (by omega)
  | succ n ih =>
    intro x3 M hM h0 hl hn
    show ∃ M1, f_L_law_18B L xs (fun x3' M0' => tp_lp (σ := Int × tp_M) (fun rec_ u => f_L_law_18B L xs (fun x3' M0' => rec_ (x3', M0')) u.1 u.2) n (x3', M0')) x3 M = some (1, M1)
    by_cases hc : L - 6 < x3
    · refine ⟨M, ?_⟩
      have w7 : tp_w (L - 6) = L - 6 := tp_w_id (by unfold tp_r; omega)
      unfold f_L_law_18B
      rw [w7, if_pos hc]
    · obtain ⟨M', hM', e⟩ := law_one hop hx (fun x3' M0' => tp_lp (σ := Int × tp_M) (fun rec_ u => f_L_law_18B L xs (fun x3' M0' => rec_ (x3', M0')) u.1 u.2) n (x3', M0')) hM h0 (by omega) h2
      rw [e]
      exact ih (x3 + 6) M' hM' (by omega) (by omega) (by omega)
theorem law_all {Inv : tp_M → Prop} (hop : op_all Inv) (h00 : Inv tp_M0) (L : Int) (xs : Int → Int) (h0 : 0 ≤ L) (h1 : L ≤ 3072) (hx : ∀ i, tp_r (xs i)) : ∃ M1, f_L_law_18 L xs 0 tp_M0 = some (1, M1) := by
  unfold f_L_law_18
  exact law_loop hop hx h1 h0 tp_N 0 tp_M0 h00 (by omega) (by omega) (by unfold tp_N; omega)
