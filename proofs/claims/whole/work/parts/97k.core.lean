def fellM (X : tp_M) : tp_M := tp_up (tp_up (tp_up (tp_up (tp_up (tp_up X 41 0 0) 41 1 0) 41 2 0) 41 6 0) 41 3 0) 41 4 0
theorem fellM_o {X : tp_M} {c k : Int} (h : c ≠ 41) : fellM X c k = X c k := by
  unfold fellM
  rw [up_ne (fun hh => h hh.1), up_ne (fun hh => h hh.1), up_ne (fun hh => h hh.1), up_ne (fun hh => h hh.1), up_ne (fun hh => h hh.1), up_ne (fun hh => h hh.1)]
theorem fellM_v {X : tp_M} : fellM X 41 2 = 0 ∧ fellM X 41 6 = 0 ∧ fellM X 41 3 = 0 := by
  unfold fellM
  refine ⟨?_, ?_, ?_⟩ <;> simp (disch := omega) only [up_eq, up_ne, ho_w, ho_wl, ho_b]
def plE (x1 x2 : Int) (M0 : tp_M) : Option tp_M := (f_X1_branch 0 x1 1 (-2) M0).bind fun r5 => (f_X9_spell (tp_up r5 41 1 x2)).bind fun r8 => some (tp_up r8 41 0 1)
set_option maxHeartbeats 4000000 in
set_option maxRecDepth 100000 in
theorem s_plant {X : tp_M} {a1 dg P : Int} (ta : tp_tg a1 = 21) (al : tp_al a1 = 9) (ha : a1 < 41) (hP : X 1 2 = P) (hP2 : 0 < P ∧ P ≤ 400000000) : f_X1_plant a1 dg X = plE a1 dg (tp_wr (fellM X) 303 0 9 (fun k => X a1 k % P)) := by
  unfold f_X1_plant
  have e0 : f_X9_fell X = some (fellM X) := rfl
  rw [if_pos ta, e0, Option.bind_some]
  unfold f_X1_plant_9
  have e1 : ((0 : Int), fellM X) = (((0 : Nat) : Int), tp_wr (fellM X) 303 0 ((0 : Nat) : Int) (fun k => X a1 k % P)) := by rw [show ((0 : Nat) : Int) = 0 from rfl, wr_zero]
  rw [e1]
  refine lp_seq (fun j => ((j : Int), tp_wr (fellM X) 303 0 j (fun k => X a1 k % P))) 9 (fun j hj rc => ?_) (fun rc => ?_) tp_N (by unfold tp_N; omega)
  · have u := wr_succ0 (fellM X) 303 j (fun k => X a1 k % P)
    have o : ∀ c k, c ≠ 303 → c ≠ 41 → tp_wr (fellM X) 303 0 j (fun k => X a1 k % P) c k = X c k := fun c k h1 h2 => by rw [wr_out (fun hh => h1 hh.1), fellM_o h2]
    have j9 : 0 ≤ (j : Int) ∧ (j : Int) < 9 := by omega
    have eP : tp_wr (fellM X) 303 0 j (fun k => X a1 k % P) 1 2 = P := by rw [o _ _ (by decide) (by decide)]; exact hP
    have er : f_X4_rest (X a1 j) (tp_wr (fellM X) 303 0 j (fun k => X a1 k % P)) = some (X a1 j % P) := by rw [s_rest (by rw [eP]; exact hP2), eP]
    simp only [f_X1_plant_9B, f_X1_plant_41, tp_mp, tp_lt, al]
    rw [if_neg (by omega), if_neg (by omega), if_pos j9, o _ _ (by omega) (by omega), er, Option.bind_some, if_pos j9, u, w_succ (show j < 1000000 by omega)]
  · simp only [f_X1_plant_9B]
    rw [if_pos (by omega)]
    rfl
/-- the reference, begun -/
def tx_RI (Y : tp_M) (f : Int → Int) (dg : Int) : tp_M := tp_up (tp_up (tp_up (tp_up (tp_up (tp_up (tp_up (tp_up (tp_up (tp_wr Y 495 0 9 f) 483 20 dg) 483 18 1) 483 21 0) 483 22 0) 483 23 0) 483 61 0) 528 0 0) 529 0 0) 530 0 0
theorem tx_RIv {Y : tp_M} {f : Int → Int} {dg : Int} : (tx_RI Y f dg 483 21 = 0 ∧ tx_RI Y f dg 483 22 = 0 ∧ tx_RI Y f dg 483 23 = 0 ∧ tx_RI Y f dg 483 61 = 0) ∧ (tx_RI Y f dg 528 0 = 0 ∧ tx_RI Y f dg 529 0 = 0 ∧ tx_RI Y f dg 530 0 = 0) ∧ (tx_RI Y f dg 483 18 = 1 ∧ tx_RI Y f dg 483 20 = dg) ∧ (∀ k, 0 ≤ k → k < 9 → tx_RI Y f dg 495 k = f k) ∧ ∀ c k, c ≠ 495 → ¬ (c = 483 ∧ 18 ≤ k) → ¬ (528 ≤ c ∧ c ≤ 530) → tx_RI Y f dg c k = Y c k := by
  unfold tx_RI
  refine ⟨⟨?_, ?_, ?_, ?_⟩, ⟨?_, ?_, ?_⟩, ⟨?_, ?_⟩, fun k k0 k1 => ?_, fun c k g1 g2 g3 => ?_⟩
  · simp (disch := omega) only [up_eq, up_ne, ho_w, ho_wl, ho_b, fl_in, fl_out, wr_in, wr_out, cp_in, cp_out]
  · simp (disch := omega) only [up_eq, up_ne, ho_w, ho_wl, ho_b, fl_in, fl_out, wr_in, wr_out, cp_in, cp_out]
  · simp (disch := omega) only [up_eq, up_ne, ho_w, ho_wl, ho_b, fl_in, fl_out, wr_in, wr_out, cp_in, cp_out]
  · simp (disch := omega) only [up_eq, up_ne, ho_w, ho_wl, ho_b, fl_in, fl_out, wr_in, wr_out, cp_in, cp_out]
  · simp (disch := omega) only [up_eq, up_ne, ho_w, ho_wl, ho_b, fl_in, fl_out, wr_in, wr_out, cp_in, cp_out]
  · simp (disch := omega) only [up_eq, up_ne, ho_w, ho_wl, ho_b, fl_in, fl_out, wr_in, wr_out, cp_in, cp_out]
  · simp (disch := omega) only [up_eq, up_ne, ho_w, ho_wl, ho_b, fl_in, fl_out, wr_in, wr_out, cp_in, cp_out]
  · simp (disch := omega) only [up_eq, up_ne, ho_w, ho_wl, ho_b, fl_in, fl_out, wr_in, wr_out, cp_in, cp_out]
  · simp (disch := omega) only [up_eq, up_ne, ho_w, ho_wl, ho_b, fl_in, fl_out, wr_in, wr_out, cp_in, cp_out]
  · rw [up_ne (by omega), up_ne (by omega), up_ne (by omega), up_ne (by omega), up_ne (by omega), up_ne (by omega), up_ne (by omega), up_ne (by omega), up_ne (by omega), wr_in ⟨rfl, by omega, by omega⟩, Int.sub_zero]
  · rw [up_ne (by omega), up_ne (by omega), up_ne (by omega), up_ne (by omega), up_ne (by omega), up_ne (by omega), up_ne (by omega), up_ne (by omega), up_ne (by omega), wr_out (by omega)]
set_option maxHeartbeats 4000000 in
set_option maxRecDepth 100000 in
theorem s_grow22 {Y : tp_M} {a0 dg P : Int} (hs : 0 ≤ a0 ∧ a0 < 5) (hP : Y 483 2 = P) (hP2 : 0 < P ∧ P ≤ 400000000) (hdg : tp_dg (fun k => Y 484 (9 * a0 + k)) 9 = dg) : f_X11_grow_22 a0 0 Y = f_X11_grow_106 (tx_RI Y (fun k => Y 484 (9 * a0 + k) % P) dg) := by
  unfold f_X11_grow_22
  have e1 : ((0 : Int), Y) = (((0 : Nat) : Int), tp_wr Y 495 0 ((0 : Nat) : Int) (fun k => Y 484 (9 * a0 + k) % P)) := by rw [show ((0 : Nat) : Int) = 0 from rfl, wr_zero]
  rw [e1]
  refine lp_seq (fun j => ((j : Int), tp_wr Y 495 0 j (fun k => Y 484 (9 * a0 + k) % P))) 9 (fun j hj rc => ?_) (fun rc => ?_) tp_N (by unfold tp_N; omega)
  · have u := wr_succ0 Y 495 j (fun k => Y 484 (9 * a0 + k) % P)
    have o : ∀ c k, c ≠ 495 → tp_wr Y 495 0 j (fun k => Y 484 (9 * a0 + k) % P) c k = Y c k := fun c k h1 => wr_out (fun hh => h1 hh.1)
    have j9 : 0 ≤ (j : Int) ∧ (j : Int) < 9 := by omega
    have eP : tp_wr Y 495 0 j (fun k => Y 484 (9 * a0 + k) % P) 483 2 = P := by rw [o _ _ (by decide)]; exact hP
    have er : f_X11_number (Y 484 (9 * a0 + j)) (tp_wr Y 495 0 j (fun k => Y 484 (9 * a0 + k) % P)) = some (Y 484 (9 * a0 + j) % P) := by rw [s_number (by rw [eP]; exact hP2), eP]
    simp only [f_X11_grow_22B, tp_mp, tp_lt]
    rw [if_neg (by omega), s_coefficient hs j9, Option.bind_some, o _ _ (by decide), er, Option.bind_some, if_pos j9, u, w_succ (show j < 1000000 by omega)]
  · have e9 : ∀ k, tp_wr Y 495 0 ((9 : Nat) : Int) (fun k => Y 484 (9 * a0 + k) % P) 484 k = Y 484 k := fun k => wr_out (fun hh => absurd hh.1 (by decide))
    simp only [f_X11_grow_22B, tp_mp]
    rw [if_pos (by omega), s_degreeOf2 hs, Option.bind_some]
    simp only [e9, hdg]
    rfl
theorem Rel_fr2 {C C' R R' : tp_M} {nk ns nl : Int} (h : Rel C R nk ns nl) (hn : nk ≤ 24 ∧ ns ≤ 48 ∧ nl ≤ 16) (hc : ∀ c k, 46 ≤ c → c ≤ 277 → C' c k = C c k) (h1 : C' 41 2 = C 41 2 ∧ C' 41 6 = C 41 6 ∧ C' 41 3 = C 41 3) (hr : ∀ c k, c = 488 ∨ (496 ≤ c ∧ c ≤ 520) ∨ (c = 483 ∧ 21 ≤ k ∧ k ≤ 23) → R' c k = R c k) : Rel C' R' nk ns nl := by
  obtain ⟨⟨b1, b2, b3⟩, ⟨b4, b5, b6⟩, b7, b8, b9⟩ := h
  have q : ∀ c k, 496 ≤ c → c ≤ 520 → R' c k = R c k := fun c k x1 x2 => hr c k (Or.inr (Or.inl ⟨x1, x2⟩))
  refine ⟨⟨by rw [h1.1]; exact b1, by rw [h1.2.1]; exact b2, by rw [h1.2.2]; exact b3⟩, ⟨by rw [hr _ _ (by decide)]; exact b4, by rw [hr _ _ (by decide)]; exact b5, by rw [hr _ _ (by decide)]; exact b6⟩, fun i i0 i1 => ?_, fun i i0 i1 => ?_, fun i i0 i1 => ?_⟩
  · exact KE_fr (b7 i i0 i1) (Int.le_refl _) (fun a c k x1 x2 x3 x4 => hc c k (by omega) (by omega)) (fun c x1 x2 _ => q c i x1 (by omega)) (fun k _ _ => ⟨hr _ _ (Or.inl rfl), q _ _ (by decide) (by decide)⟩) i0
  · exact SE_fr (b8 i i0 i1) (fun c k x1 x2 => hc c k (by omega) (by omega)) (fun c x1 x2 => q c i (by omega) (by omega)) (fun t _ _ => q _ _ (by decide) (by decide)) (fun k _ _ => q _ _ (by decide) (by decide))
  · exact LE_fr (b9 i i0 i1) (fun k => hc _ k (by omega) (by omega)) (fun c x1 x2 => q c i (by omega) (by omega))
theorem chS_out {c k : Int} (h : c < 483 ∨ c = 484 ∨ c = 485 ∨ 532 ≤ c ∨ (c = 483 ∧ k < 11) ∨ (c = 483 ∧ (k = 18 ∨ k = 20))) : chS 0 0 0 0 c k := by
  unfold chS
  rcases h with h | h | h | h | h | h <;> (refine ⟨?_, ?_, ⟨?_, ?_, ?_⟩, ?_, ?_, ?_, ?_, ?_, ?_, ?_, ?_, ?_, ?_, ?_, ?_⟩ <;> omega)
theorem p_dvd {p K P : Int} (h : pKP p K P) : p ∣ P := by
  obtain ⟨_, h2, _, h4, _⟩ := h
  obtain ⟨n, hn⟩ : ∃ n, K.toNat = n + 1 := ⟨K.toNat - 1, by omega⟩
  rw [h4, hn, Int.pow_succ]
  exact Int.dvd_mul_left _ _
