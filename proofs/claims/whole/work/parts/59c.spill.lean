def lowv (M : tp_M) (s v : Int) : Int := if M (10 + 2 * s) 0 = 0 then tp_b v else v
theorem tb_r2 (x : Int) : -128 ≤ tp_b x ∧ tp_b x ≤ 127 := by unfold tp_b; omega
set_option maxHeartbeats 4000000 in
set_option maxRecDepth 100000 in
theorem s_spill1 {M : tp_M} {i s f : Int} {n : Nat} (hi : 0 ≤ i ∧ i < 24) (hs : 0 ≤ s ∧ s < 4) (hn : n ≤ 9) (hf : 0 ≤ f) (hfn : f + n ≤ M (10 + 2 * s) 1) (h40 : M (10 + 2 * s) 1 ≤ 40) : f_X10_spill_76 f (10 + 2 * s) (46 + 3 * i) n 0 M = some ((n : Int), tp_wr M (10 + 2 * s + 1) f n (fun k => lowv M s (M (46 + 3 * i + 2) k))) := by
  unfold f_X10_spill_76
  have tg := (tg_sheet hs).1
  have tk := (tg_knot hi).1
  have e0 : ((0 : Int), M) = (((0 : Nat) : Int), tp_wr M (10 + 2 * s + 1) f ((0 : Nat) : Int) (fun k => lowv M s (M (46 + 3 * i + 2) k))) := by rw [show ((0 : Nat) : Int) = 0 from rfl, wr_zero]
  rw [e0]
  refine lp_seq (fun j => ((j : Int), tp_wr M (10 + 2 * s + 1) f j (fun k => lowv M s (M (46 + 3 * i + 2) k)))) n (fun j hj rc => ?_) (fun rc => ?_) tp_N (by unfold tp_N; omega)
  · have e := wr_succ M (10 + 2 * s + 1) f j (fun k => lowv M s (M (46 + 3 * i + 2) k)) (by omega)
    have e1 : ∀ k, tp_wr M (10 + 2 * s + 1) f j (fun k => lowv M s (M (46 + 3 * i + 2) k)) (10 + 2 * s) k = M (10 + 2 * s) k := fun k => wr_out (by omega)
    have e2 : ∀ k, tp_wr M (10 + 2 * s + 1) f j (fun k => lowv M s (M (46 + 3 * i + 2) k)) (46 + 3 * i + 2) k = M (46 + 3 * i + 2) k := fun k => wr_out (by omega)
    have w := ho_w (x := f + j) (by omega) (by omega)
    rw [show (j : Int) + 1 = ((j + 1 : Nat) : Int) by omega] at e
    simp only [f_X10_spill_76B, f_X6_put, f_X6_has, tp_lt, tp_mp, w_succ (show j < 1000000 by omega), e1, e2, w, ← e]
    by_cases c : M (10 + 2 * s) 0 = 0
    · simp only [lowv, if_pos c]
      repeat (first | rw [if_pos (by omega)] | rw [if_neg (by omega)] | simp only [Option.bind_some, not_true_eq_false, not_false_eq_true, if_true, if_false])
    · simp only [lowv, if_neg c]
      repeat (first | rw [if_pos (by omega)] | rw [if_neg (by omega)] | simp only [Option.bind_some, not_true_eq_false, not_false_eq_true, if_true, if_false])
  · simp only [f_X10_spill_76B]
    rw [if_pos (by omega)]
set_option maxHeartbeats 4000000 in
set_option maxRecDepth 100000 in
theorem s_spill2 {M : tp_M} {g : Int → Int} {i s f : Int} {n : Nat} (hi : 0 ≤ i ∧ i < 24) (hs : 0 ≤ s ∧ s < 4) (hn : n ≤ 9) (hf : 0 ≤ f) (h40 : M 533 s ≤ 40) (hfn : f + n ≤ M 533 s) (he : n = 9 ∨ f + n = M 533 s) (hg : ∀ k : Int, 0 ≤ k → k < (n : Int) → g k = if M 532 s = 0 then tp_b (M 503 (9 * i + k)) else M 503 (9 * i + k)) : f_X11_spill_54 i s f 0 M = some ((n : Int), tp_wr M 534 (40 * s + f) n g) := by
  unfold f_X11_spill_54
  have e0 : ((0 : Int), M) = (((0 : Nat) : Int), tp_wr M 534 (40 * s + f) ((0 : Nat) : Int) g) := by rw [show ((0 : Nat) : Int) = 0 from rfl, wr_zero]
  rw [e0]
  refine lp_seq (fun j => ((j : Int), tp_wr M 534 (40 * s + f) j g)) n (fun j hj rc => ?_) (fun rc => ?_) tp_N (by unfold tp_N; omega)
  · have e := wr_succ M 534 (40 * s + f) j g (by omega)
    have hj' := hg j (by omega) (by omega)
    have e1 : tp_wr M 534 (40 * s + f) j g 533 s = M 533 s := wr_out (by omega)
    have e2 : tp_wr M 534 (40 * s + f) j g 532 s = M 532 s := wr_out (by omega)
    have e3 : ∀ k, tp_wr M 534 (40 * s + f) j g 503 k = M 503 k := fun k => wr_out (by omega)
    rw [show (j : Int) + 1 = ((j + 1 : Nat) : Int) by omega] at e
    have w1 := ho_w (x := f + j) (by omega) (by omega)
    have w2 := ho_w (x := 9 * i) (by omega) (by omega)
    have w3 := ho_w (x := 9 * i + j) (by omega) (by omega)
    have w4 := ho_w (x := 40 * s) (by omega) (by omega)
    have w5 := ho_w (x := 40 * s + f) (by omega) (by omega)
    have w6 := ho_w (x := 40 * s + f + j) (by omega) (by omega)
    simp only [f_X11_spill_54B, f_X11_point0, f_X11_lowest, tp_lt, tp_mp, w_succ (show j < 1000000 by omega), e1, e2, e3, w1, w2, w3, w4, w5, w6, ← e, hj']
    by_cases c : M 532 s = 0
    · simp only [if_pos c]
      repeat (first | rw [if_pos (by omega)] | rw [if_neg (by omega)] | simp only [Option.bind_some, not_true_eq_false, not_false_eq_true, if_true, if_false])
    · simp only [if_neg c]
      repeat (first | rw [if_pos (by omega)] | rw [if_neg (by omega)] | simp only [Option.bind_some, not_true_eq_false, not_false_eq_true, if_true, if_false])
  · simp only [f_X11_spill_54B]
    by_cases c : (9 : Int) ≤ n
    · rw [if_pos c]
    · rw [if_neg c, if_pos hs, ho_w (x := f + n) (by omega) (by omega), if_pos (by rw [wr_out (by omega)]; omega)]
theorem k_yes {M : tp_M} (h5 : iv_tree M) {i : Int} (hz : M 41 0 = 1 ∧ 0 ≤ i ∧ i < M 41 2) : f_X9_knotAt i M = some (46 + 3 * i) ∧ ∀ N : tp_M, N 483 18 = M 483 18 → N 483 21 = M 483 21 → f_X11_isKnot i N = some 1 := by
  unfold iv_tree at h5
  have hn := (h5.2.2.2 hz.1).1.1
  unfold tr_n at hn
  refine ⟨by unfold f_X9_knotAt; repeat (first | rw [if_pos (by omega)] | rw [if_neg (by omega)] | simp only [Option.bind_some, not_true_eq_false, not_false_eq_true, if_true, if_false]), fun N e1 e2 => ?_⟩
  unfold f_X11_isKnot f_X11_in
  rw [e2, ho_w (x := M 483 21 - 1) (by omega) (by omega)]
  repeat (first | rw [if_pos (by omega)] | rw [if_neg (by omega)] | simp only [Option.bind_some, not_true_eq_false, not_false_eq_true, if_true, if_false])
theorem k_no {M : tp_M} (h5 : iv_tree M) {i : Int} (hz : ¬ (M 41 0 = 1 ∧ 0 ≤ i ∧ i < M 41 2)) : f_X9_knotAt i M = some (-1) ∧ f_X11_isKnot i M = some 0 := by
  unfold iv_tree at h5
  constructor
  · unfold f_X9_knotAt
    by_cases c : i < 0
    · rw [if_pos c]
    · rw [if_neg c]
      by_cases c2 : M 41 0 = 0
      · rw [if_pos (by have := h5.2.2.1 c2; omega)]
      · rw [if_pos (by omega)]
  · unfold f_X11_isKnot f_X11_in
    by_cases c2 : M 41 0 = 0
    · rw [if_pos (by omega)]
    · have ht := (h5.2.2.2 (by omega)).1
      have hn := ht.1
      unfold tr_n at hn
      rw [ho_w (x := M 483 21 - 1) (by omega) (by omega)]
      by_cases c : i < 0
      · repeat (first | rw [if_pos (by omega)] | rw [if_neg (by omega)] | simp only [Option.bind_some, not_true_eq_false, not_false_eq_true, if_true, if_false])
      · repeat (first | rw [if_pos (by omega)] | rw [if_neg (by omega)] | simp only [Option.bind_some, not_true_eq_false, not_false_eq_true, if_true, if_false])
theorem sh_yes {s : Int} (hs : 0 ≤ s ∧ s < 4) (M : tp_M) : f_X10_sheetAt s M = some (10 + 2 * s) ∧ f_X11_isSheet s M = some 1 := by
  unfold f_X10_sheetAt f_X11_isSheet
  exact ⟨by repeat (first | rw [if_pos (by omega)] | rw [if_neg (by omega)] | simp only [Option.bind_some, not_true_eq_false, not_false_eq_true, if_true, if_false]), by repeat (first | rw [if_pos (by omega)] | rw [if_neg (by omega)] | simp only [Option.bind_some, not_true_eq_false, not_false_eq_true, if_true, if_false])⟩
theorem sh_no {s : Int} (hs : ¬ (0 ≤ s ∧ s < 4)) (M : tp_M) : f_X10_sheetAt s M = some (-1) ∧ f_X11_isSheet s M = some 0 := by
  unfold f_X10_sheetAt f_X11_isSheet
  by_cases c : s < 0
  · exact ⟨by repeat (first | rw [if_pos (by omega)] | rw [if_neg (by omega)] | simp only [Option.bind_some, not_true_eq_false, not_false_eq_true, if_true, if_false]), by repeat (first | rw [if_pos (by omega)] | rw [if_neg (by omega)] | simp only [Option.bind_some, not_true_eq_false, not_false_eq_true, if_true, if_false])⟩
  · exact ⟨by repeat (first | rw [if_pos (by omega)] | rw [if_neg (by omega)] | simp only [Option.bind_some, not_true_eq_false, not_false_eq_true, if_true, if_false]), by repeat (first | rw [if_pos (by omega)] | rw [if_neg (by omega)] | simp only [Option.bind_some, not_true_eq_false, not_false_eq_true, if_true, if_false])⟩
set_option maxHeartbeats 4000000 in
set_option maxRecDepth 100000 in
theorem ok_spill : op_spill Inv := by
  intro M hI a0 a1 a2 r0 r1 r2
  have hI' := hI
  obtain ⟨h1, h2, h3, h4, h5⟩ := hI
  unfold tp_r at r0 r1 r2
  by_cases hs : 0 ≤ a1 ∧ a1 < 4
  · have tg := (tg_sheet hs).1
    have hS := h4 a1 (by omega) (by omega)
    unfold iv_sheet at hS
    have em : f_X6_isMissing (10 + 2 * a1) M = some (if 0 ≤ M (10 + 2 * a1) 0 then 0 else 1) := by
      unfold f_X6_isMissing
      rw [if_pos tg]
      by_cases c : 0 ≤ M (10 + 2 * a1) 0
      · rw [if_pos c, if_pos c]
      · rw [if_neg c, if_neg c]
    unfold f_X10_spill f_X11_spill
    by_cases hz : M 41 0 = 1 ∧ 0 ≤ a0 ∧ a0 < M 41 2
    · obtain ⟨k1, k2⟩ := k_yes h5 hz
      have ht := (h5.2.2.2 hz.1).1
      have hn := ht.1
      unfold tr_n at hn
      have hk := ht.2.1 a0 (by omega) (by omega)
      unfold tr_knot at hk
      have hk := hk.2.2.2.2.2.2.2.2.2.2.2.2.2.2
      rw [(sh_yes hs M).1, k1]
      simp only [Option.bind_some]
      rw [em]
      by_cases cm : 0 ≤ M (10 + 2 * a1) 0
      · rw [if_pos cm]
        by_cases cf : 0 ≤ a2 ∧ a2 ≤ M (10 + 2 * a1) 1
        · obtain ⟨n, en⟩ : ∃ n : Nat, min 9 (M (10 + 2 * a1) 1 - a2) = n := ⟨(min 9 (M (10 + 2 * a1) 1 - a2)).toNat, by omega⟩
          have e1 := s_spill1 (M := M) (i := a0) (s := a1) (f := a2) (n := n) (by omega) hs (by omega) (by omega) (by omega) (by omega)
          refine ⟨n, tp_wr M (10 + 2 * a1 + 1) a2 n (fun k => lowv M a1 (M (46 + 3 * a0 + 2) k)), tp_wr (tp_wr M (10 + 2 * a1 + 1) a2 n (fun k => lowv M a1 (M (46 + 3 * a0 + 2) k))) 534 (40 * a1 + a2) n (fun k => lowv M a1 (M (46 + 3 * a0 + 2) k)), ?_, ?_, ?_⟩
          · simp only [tp_lt]
            rw [ho_w (x := M (10 + 2 * a1) 1 - a2) (by omega) (by omega), en]
            repeat (first | rw [if_pos (by omega)] | rw [if_neg (by omega)] | simp only [Option.bind_some, not_true_eq_false, not_false_eq_true, if_true, if_false])
            exact e1
          · have e2 := s_spill2 (M := tp_wr M (10 + 2 * a1 + 1) a2 n (fun k => lowv M a1 (M (46 + 3 * a0 + 2) k))) (g := fun k => lowv M a1 (M (46 + 3 * a0 + 2) k)) (i := a0) (s := a1) (f := a2) (n := n) (by omega) hs (by omega) (by omega) (by rw [wr_out (by omega)]; omega) (by rw [wr_out (by omega)]; omega) (by rw [wr_out (by omega)]; omega) (fun k k0 k1 => by
              have q1 : tp_wr M (10 + 2 * a1 + 1) a2 n (fun k => lowv M a1 (M (46 + 3 * a0 + 2) k)) 532 a1 = M (10 + 2 * a1) 0 := by rw [wr_out (by omega), hS.1]
              have q2 : tp_wr M (10 + 2 * a1 + 1) a2 n (fun k => lowv M a1 (M (46 + 3 * a0 + 2) k)) 503 (9 * a0 + k) = M (46 + 3 * a0 + 2) k := by rw [wr_out (by omega), (hk k k0 (by omega)).2.1]
              simp only [q1, q2]; rfl)
            have q1 : tp_wr M (10 + 2 * a1 + 1) a2 n (fun k => lowv M a1 (M (46 + 3 * a0 + 2) k)) 532 a1 = M (10 + 2 * a1) 0 := by rw [wr_out (by omega), hS.1]
            have q2 : tp_wr M (10 + 2 * a1 + 1) a2 n (fun k => lowv M a1 (M (46 + 3 * a0 + 2) k)) 533 a1 = M (10 + 2 * a1) 1 := by rw [wr_out (by omega), hS.2.2.2.1]
            rw [(sh_yes hs _).2, k2 _ (wr_out (by omega)) (wr_out (by omega))]
            simp only [Option.bind_some, q1, q2, f_X11_in]
            repeat (first | rw [if_pos (by omega)] | rw [if_neg (by omega)] | simp only [Option.bind_some, not_true_eq_false, not_false_eq_true, if_true, if_false])
            exact e2
          · refine ⟨fr_prime (fun k k0 k1 => by simp (disch := omega) only [up_eq, up_ne, ho_w, ho_wl, ho_b, fl_in, fl_out, wr_in, wr_out, cp_in, cp_out]) (fun k k0 k1 => by simp (disch := omega) only [up_eq, up_ne, ho_w, ho_wl, ho_b, fl_in, fl_out, wr_in, wr_out, cp_in, cp_out]) h1, fr_tape (by simp (disch := omega) only [up_eq, up_ne, ho_w, ho_wl, ho_b, fl_in, fl_out, wr_in, wr_out, cp_in, cp_out]) (by simp (disch := omega) only [up_eq, up_ne, ho_w, ho_wl, ho_b, fl_in, fl_out, wr_in, wr_out, cp_in, cp_out]) (fun i => by simp (disch := omega) only [up_eq, up_ne, ho_w, ho_wl, ho_b, fl_in, fl_out, wr_in, wr_out, cp_in, cp_out]) (fun i => by simp (disch := omega) only [up_eq, up_ne, ho_w, ho_wl, ho_b, fl_in, fl_out, wr_in, wr_out, cp_in, cp_out]) h2, fr_slots (fun c k c0 c1 => by simp (disch := omega) only [up_eq, up_ne, ho_w, ho_wl, ho_b, fl_in, fl_out, wr_in, wr_out, cp_in, cp_out]) (fun i => by simp (disch := omega) only [up_eq, up_ne, ho_w, ho_wl, ho_b, fl_in, fl_out, wr_in, wr_out, cp_in, cp_out]) h3, fun s s0 s1 => ?_, fr_tree (fun c k hc => by unfold tset at hc; simp (disch := omega) only [up_eq, up_ne, ho_w, ho_wl, ho_b, fl_in, fl_out, wr_in, wr_out, cp_in, cp_out]) h5⟩
            by_cases es : s = a1
            · subst es
              unfold iv_sheet
              have q1 : ∀ k, tp_wr (tp_wr M (10 + 2 * s + 1) a2 n (fun k => lowv M s (M (46 + 3 * a0 + 2) k))) 534 (40 * s + a2) n (fun k => lowv M s (M (46 + 3 * a0 + 2) k)) (10 + 2 * s) k = M (10 + 2 * s) k := fun k => by simp (disch := omega) only [up_eq, up_ne, ho_w, ho_wl, ho_b, fl_in, fl_out, wr_in, wr_out, cp_in, cp_out]
              simp only [q1]
              rw [wr_out (x := 532) (by omega), wr_out (x := 532) (by omega), wr_out (x := 533) (by omega), wr_out (x := 533) (by omega)]
              refine ⟨hS.1, hS.2.1, hS.2.2.1, hS.2.2.2.1, hS.2.2.2.2.1, hS.2.2.2.2.2.1, hS.2.2.2.2.2.2.1, fun i i0 i1 => ?_⟩
              have hold := hS.2.2.2.2.2.2.2 i i0 i1
              rw [wr_out (c := 534) (x := 10 + 2 * s + 1) (by omega)]
              by_cases ci : a2 ≤ i ∧ i < a2 + n
              · rw [wr_in (by omega), wr_in (by omega), show 40 * s + i - (40 * s + a2) = i - a2 by omega]
                refine ⟨rfl, ?_⟩
                have hb := hk (i - a2) (by omega) (by omega)
                have tb := tb_r2 (M (46 + 3 * a0 + 2) (i - a2))
                unfold lowv
                by_cases c : M (10 + 2 * s) 0 = 0
                · rw [if_pos c]; omega
                · rw [if_neg c]; omega
              · rw [wr_out (by omega), wr_out (by omega), wr_out (by omega)]
                exact hold
            · exact fr_sheet (fun k => by simp (disch := omega) only [up_eq, up_ne, ho_w, ho_wl, ho_b, fl_in, fl_out, wr_in, wr_out, cp_in, cp_out]) (fun k => by simp (disch := omega) only [up_eq, up_ne, ho_w, ho_wl, ho_b, fl_in, fl_out, wr_in, wr_out, cp_in, cp_out]) (by simp (disch := omega) only [up_eq, up_ne, ho_w, ho_wl, ho_b, fl_in, fl_out, wr_in, wr_out, cp_in, cp_out]) (by simp (disch := omega) only [up_eq, up_ne, ho_w, ho_wl, ho_b, fl_in, fl_out, wr_in, wr_out, cp_in, cp_out]) (fun i i0 i1 => by simp (disch := omega) only [up_eq, up_ne, ho_w, ho_wl, ho_b, fl_in, fl_out, wr_in, wr_out, cp_in, cp_out]) (h4 s s0 s1)
        · refine ⟨-12, M, M, ?_, ?_, hI'⟩
          · by_cases c : a2 < 0
            · repeat (first | rw [if_pos (by omega)] | rw [if_neg (by omega)] | simp only [Option.bind_some, not_true_eq_false, not_false_eq_true, if_true, if_false])
            · repeat (first | rw [if_pos (by omega)] | rw [if_neg (by omega)] | simp only [Option.bind_some, not_true_eq_false, not_false_eq_true, if_true, if_false])
          · rw [(sh_yes hs _).2, k2 _ rfl rfl]
            simp only [Option.bind_some, f_X11_in]
            by_cases c : a2 < 0
            · repeat (first | rw [if_pos (by omega)] | rw [if_neg (by omega)] | simp only [Option.bind_some, not_true_eq_false, not_false_eq_true, if_true, if_false])
            · repeat (first | rw [if_pos (by omega)] | rw [if_neg (by omega)] | simp only [Option.bind_some, not_true_eq_false, not_false_eq_true, if_true, if_false])
      · rw [if_neg cm]
        refine ⟨-11, M, M, by repeat (first | rw [if_pos (by omega)] | rw [if_neg (by omega)] | simp only [Option.bind_some, not_true_eq_false, not_false_eq_true, if_true, if_false]), ?_, hI'⟩
        rw [(sh_yes hs _).2, k2 _ rfl rfl]
        repeat (first | rw [if_pos (by omega)] | rw [if_neg (by omega)] | simp only [Option.bind_some, not_true_eq_false, not_false_eq_true, if_true, if_false])
    · obtain ⟨k1, k2⟩ := k_no h5 hz
      rw [(sh_yes hs M).1, k1]
      refine ⟨-2, M, M, by repeat (first | rw [if_pos (by omega)] | rw [if_neg (by omega)] | simp only [Option.bind_some, not_true_eq_false, not_false_eq_true, if_true, if_false]), ?_, hI'⟩
      rw [(sh_yes hs M).2, k2]
      repeat (first | rw [if_pos (by omega)] | rw [if_neg (by omega)] | simp only [Option.bind_some, not_true_eq_false, not_false_eq_true, if_true, if_false])
  · unfold f_X10_spill f_X11_spill
    rw [(sh_no hs M).1]
    refine ⟨-1, M, M, by repeat (first | rw [if_pos (by omega)] | rw [if_neg (by omega)] | simp only [Option.bind_some, not_true_eq_false, not_false_eq_true, if_true, if_false]), ?_, hI'⟩
    rw [(sh_no hs M).2]
    repeat (first | rw [if_pos (by omega)] | rw [if_neg (by omega)] | simp only [Option.bind_some, not_true_eq_false, not_false_eq_true, if_true, if_false])
