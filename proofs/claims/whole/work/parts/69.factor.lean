theorem iv_pm {M : tp_M} (h : iv_prime M) : Pm (M 1 0) ∧ M 483 0 = M 1 0 := by
  unfold iv_prime at h
  unfold Pm
  omega
set_option maxHeartbeats 4000000 in
set_option maxRecDepth 100000 in
theorem s_laysRes {M : tp_M} {p a0 : Int} {A : Int → Int} (hpm : Pm p) (hP : M 483 0 = p) (h0 : 0 ≤ a0 ∧ a0 < 5) (eA : ∀ k, 0 ≤ k → k < 9 → M 484 (9 * a0 + k) = A k) : f_X11_laysResidues a0 M = some (if tp_dg (rs p A) 9 < 0 then 0 else 1, tp_up (tp_wr M 489 0 9 (fun k => A k % p)) 483 11 (tp_dg (rs p A) 9)) := by
  have hp := pm_2 hpm
  unfold f_X11_laysResidues f_X11_laysResidues_2
  have e0 : ((0 : Int), M) = (((0 : Nat) : Int), tp_wr M 489 0 ((0 : Nat) : Int) (fun k => A k % p)) := by rw [show ((0 : Nat) : Int) = 0 from rfl, wr_zero]
  rw [e0]
  refine lp_seq (fun j => ((j : Int), tp_wr M 489 0 j (fun k => A k % p))) 9 (fun j hj rc => ?_) (fun rc => ?_) tp_N (by unfold tp_N; omega)
  · have u := wr_succ0 M 489 j (fun k => A k % p)
    simp only [f_X11_laysResidues_2B, tp_mp, tp_lt]
    rw [if_neg (by omega), s_coefficient h0 (by omega), wr_out (x := 484) (by omega), eA j (by omega) (by omega)]
    simp only [Option.bind_some]
    rw [s_residue1 (by rw [wr_out (by omega)]; exact hP) hp]
    simp only [Option.bind_some]
    rw [if_pos (by omega), u, w_succ (show j < 1000000 by omega)]
  · have ed : tp_dg (tp_wr M 489 0 9 (fun k => A k % p) 489) 9 = tp_dg (rs p A) 9 := tp_dg_cong 9 (fun k k0 k1 => by
      unfold rs
      rw [wr_in (by omega), if_pos (by omega), show k - 0 = k by omega])
    have e9 : tp_wr M 489 0 ((9 : Nat) : Int) (fun k => A k % p) = tp_wr M 489 0 9 (fun k => A k % p) := rfl
    simp only [f_X11_laysResidues_2B, e9]
    rw [if_pos (by omega), s_measures, ed]
    simp only [Option.bind_some]
    rw [up_eq ⟨rfl, rfl⟩]
    by_cases c : tp_dg (rs p A) 9 < 0
    · rw [if_pos c, if_pos c]
    · rw [if_neg c, if_neg c]
set_option maxHeartbeats 4000000 in
set_option maxRecDepth 100000 in
theorem ok_factor : op_factor Inv := by
  intro M hI a0 a1 a2 r0 r1 r2
  have hI' := hI
  obtain ⟨h1, h2, h3, h4, h5⟩ := hI
  obtain ⟨hpm, p3⟩ := iv_pm h1
  by_cases hs : (0 ≤ a0 ∧ a0 < 5) ∧ (-3 ≤ a2 ∧ a2 < 9)
  · have x1 : f_X10_isSlot a0 M = some 1 := by unfold f_X10_isSlot; repeat (first | rw [if_pos (by omega)] | rw [if_neg (by omega)] | simp only [Option.bind_some, not_true_eq_false, not_false_eq_true, if_true, if_false])
    have y1 : ∀ N, f_X11_isSlot a0 N = some 1 := fun N => by unfold f_X11_isSlot; repeat (first | rw [if_pos (by omega)] | rw [if_neg (by omega)] | simp only [Option.bind_some, not_true_eq_false, not_false_eq_true, if_true, if_false])
    have y2 : ∀ N, f_X11_in a2 (-3) 8 N = some 1 := fun N => by unfold f_X11_in; repeat (first | rw [if_pos (by omega)] | rw [if_neg (by omega)] | simp only [Option.bind_some, not_true_eq_false, not_false_eq_true, if_true, if_false])
    obtain ⟨n1, n2⟩ := s_find (M := M) (p := M 1 0) (c0 := 20) (a := 4 + a0) hpm tgF_20 (tg_slot hs.1).1 (tg_slot hs.1).2 (by omega)
    by_cases cd : tp_dg (rs (M 1 0) (M (4 + a0))) 9 < 0
    · obtain ⟨K, k1, k2⟩ := n1 cd
      have lr := s_laysRes (M := K) (p := M 1 0) (a0 := a0) (A := M (4 + a0)) hpm (by rw [k2 _ _ (by omega)]; exact p3) hs.1 (fun k k0 k1 => by rw [k2 _ _ (by omega)]; exact (h3 a0 k hs.1.1 hs.1.2 k0 k1).1)
      rw [if_pos cd] at lr
      refine ⟨-9223372036854775808, K, _, ?_, ?_, fr_inv (M := M) (N := tp_up (tp_wr K 489 0 9 (fun k => M (4 + a0) k % M 1 0)) 483 11 (tp_dg (rs (M 1 0) (M (4 + a0))) 9)) (fun c k hc => ?_) hI'⟩
      · unfold f_X10_factor
        rw [x1, k1]
        repeat (first | rw [if_pos (by omega)] | rw [if_neg (by omega)] | simp only [Option.bind_some, not_true_eq_false, not_false_eq_true, if_true, if_false])
      · unfold f_X11_factor
        rw [y1, y2, lr]
        repeat (first | rw [if_pos (by omega)] | rw [if_neg (by omega)] | simp only [Option.bind_some, not_true_eq_false, not_false_eq_true, if_true, if_false])
      · unfold iset tset at hc
        rw [up_ne (by omega), wr_out (by omega), k2 _ _ (by omega)]
    · obtain ⟨K, k1, k2, k3⟩ := n2 (by omega)
      have lr := s_laysRes (M := K) (p := M 1 0) (a0 := a0) (A := M (4 + a0)) hpm (by rw [k3 _ _ (by omega)]; exact p3) hs.1 (fun k k0 k1 => by rw [k3 _ _ (by omega)]; exact (h3 a0 k hs.1.1 hs.1.2 k0 k1).1)
      rw [if_neg cd] at lr
      generalize hN : tp_up (tp_wr K 489 0 9 (fun k => M (4 + a0) k % M 1 0)) 483 11 (tp_dg (rs (M 1 0) (M (4 + a0))) 9) = N at lr
      have e89 : rd (N 489) = rs (M 1 0) (M (4 + a0)) := by
        funext k
        unfold rs
        by_cases c : 0 ≤ k ∧ k < 9
        · rw [rd_in c, if_pos c, ← hN, up_ne (by omega), wr_in (by omega), show k - 0 = k by omega]
        · rw [rd_out c, if_neg c]
      obtain ⟨L, l1, l2, l3⟩ := s_takesApart (M := N) (p := M 1 0) hpm (by rw [← hN, up_ne (by omega), wr_out (by omega), k3 _ _ (by omega)]; exact p3) (by rw [e89]; exact rs_ro hpm _) (by rw [e89]; omega)
      rw [e89] at l2
      have hmo := mon_mo hpm (r := rs (M 1 0) (M (4 + a0))) (m := (tp_dg (rs (M 1 0) (M (4 + a0))) 9).toNat) (by omega) (rs_ro hpm _)
      obtain ⟨s1, s2⟩ := fzl_sum hpm hmo
      have hlen := fsm_len s2
      have hm8 := hmo.2.1
      generalize fzl (M 1 0) (mon (M 1 0) (rs (M 1 0) (M (4 + a0)))) = l at *
      have iL : Inv L := fr_inv (M := M) (fun c k hc => by
        unfold iset tset at hc
        rw [l3 _ _ (by omega) (by omega), ← hN, up_ne (by omega), wr_out (by omega), k3 _ _ (by omega)]) hI'
      have cK : K 20 0 = l.length := k2.1
      have cL : L 483 12 = l.length := l2.1
      have w1 := ho_w (x := (l.length : Int) - 1) (by omega) (by omega)
      by_cases c1 : a2 = -1
      · refine ⟨l.length, K, L, ?_, ?_, iL⟩
        · unfold f_X10_factor
          rw [x1, k1]
          repeat (first | rw [if_pos (by omega)] | rw [if_neg (by omega)] | simp only [Option.bind_some, not_true_eq_false, not_false_eq_true, if_true, if_false])
          rw [cK]
        · unfold f_X11_factor
          rw [y1, y2, lr]
          repeat (first | rw [if_pos (by omega)] | rw [if_neg (by omega)] | simp only [Option.bind_some, not_true_eq_false, not_false_eq_true, if_true, if_false])
          rw [l1]
          repeat (first | rw [if_pos (by omega)] | rw [if_neg (by omega)] | simp only [Option.bind_some, not_true_eq_false, not_false_eq_true, if_true, if_false])
          rw [cL]
      · by_cases c2 : 0 ≤ a1 ∧ a1 < l.length
        · obtain ⟨i, hi⟩ : ∃ i : Nat, a1 = i := ⟨a1.toNat, by omega⟩
          have hil : i < l.length := by omega
          obtain ⟨u1, u2, u3⟩ := k2.2 i l[i] (List.getElem?_eq_getElem hil)
          obtain ⟨v1, v2, v3⟩ := l2.2 i l[i] (List.getElem?_eq_getElem hil)
          generalize l[i] = x at *
          have u1' : K 21 i = x.1 := u1
          have u2' : K 22 i = x.2.1 := u2
          have y3 : ∀ N, f_X11_in a1 0 ((l.length : Int) - 1) N = some 1 := fun N => by unfold f_X11_in; repeat (first | rw [if_pos (by omega)] | rw [if_neg (by omega)] | simp only [Option.bind_some, not_true_eq_false, not_false_eq_true, if_true, if_false])
          have clsA : f_X10_factor a0 a1 a2 M = if ¬ a2 = -2 then if ¬ a2 = -3 then (if 0 ≤ a1 ∧ a1 < 9 then if 0 ≤ a2 ∧ a2 < 9 then some (K (24 + a1) a2, K) else none else none) else (if 0 ≤ a1 ∧ a1 < 9 then some (K 21 a1, K) else none) else (if 0 ≤ a1 ∧ a1 < 9 then some (K 22 a1, K) else none) := by
            unfold f_X10_factor
            rw [x1, k1]
            simp only [Option.bind_some, cK]
            rw [if_neg (by omega), if_neg (by omega), if_pos (by omega), if_pos (by omega), if_pos (by omega), if_pos c1, if_neg (by omega), if_neg (by omega), if_pos (by omega)]
          have refA : f_X11_factor a0 a1 a2 K = if ¬ a2 = -2 then if ¬ a2 = -3 then (if 0 ≤ tp_w (tp_w (9 * a1) + a2) ∧ tp_w (tp_w (9 * a1) + a2) < 81 then some (L 492 (tp_w (tp_w (9 * a1) + a2)), L) else none) else (if 0 ≤ a1 ∧ a1 < 9 then some (L 490 a1, L) else none) else (if 0 ≤ a1 ∧ a1 < 9 then some (L 491 a1, L) else none) := by
            unfold f_X11_factor
            rw [y1, y2, lr]
            simp only [Option.bind_some]
            rw [if_neg (by omega), if_neg (by omega), if_pos (by omega), l1]
            simp only [Option.bind_some]
            rw [if_pos c1, cL, w1, y3]
            simp only [Option.bind_some]
            rw [if_pos (by omega)]
          by_cases c3 : a2 = -2
          · refine ⟨x.2.1, K, L, ?_, ?_, iL⟩
            · rw [clsA, if_neg (by omega), if_pos (by omega), hi, u2']
            · rw [refA, if_neg (by omega), if_pos (by omega), hi, v2]
          · by_cases c4 : a2 = -3
            · refine ⟨x.1, K, L, ?_, ?_, iL⟩
              · rw [clsA, if_pos c3, if_neg (by omega), if_pos (by omega), hi, u1']
              · rw [refA, if_pos c3, if_neg (by omega), if_pos (by omega), hi, v1]
            · refine ⟨x.2.2 a2, K, L, ?_, ?_, iL⟩
              · rw [clsA, if_pos c3, if_pos c4, if_pos (by omega), if_pos (by omega), ← u3 a2 (by omega) (by omega), hi, show (20 : Int) + 4 + i = 24 + i by omega]
              · rw [refA, if_pos c3, if_pos c4, ho_w (x := 9 * a1) (by omega) (by omega), ho_w (x := 9 * a1 + a2) (by omega) (by omega), if_pos (by omega), ← v3 a2 (by omega) (by omega), hi]
        · have y3 : ∀ N, f_X11_in a1 0 ((l.length : Int) - 1) N = some 0 := fun N => by
            unfold f_X11_in
            by_cases ca : 0 ≤ a1
            · repeat (first | rw [if_pos (by omega)] | rw [if_neg (by omega)] | simp only [Option.bind_some, not_true_eq_false, not_false_eq_true, if_true, if_false])
            · repeat (first | rw [if_pos (by omega)] | rw [if_neg (by omega)] | simp only [Option.bind_some, not_true_eq_false, not_false_eq_true, if_true, if_false])
          refine ⟨-9223372036854775808, K, L, ?_, ?_, iL⟩
          · unfold f_X10_factor
            rw [x1, k1]
            simp only [Option.bind_some, cK]
            by_cases ca : 0 ≤ a1
            · repeat (first | rw [if_pos (by omega)] | rw [if_neg (by omega)] | simp only [Option.bind_some, not_true_eq_false, not_false_eq_true, if_true, if_false])
            · repeat (first | rw [if_pos (by omega)] | rw [if_neg (by omega)] | simp only [Option.bind_some, not_true_eq_false, not_false_eq_true, if_true, if_false])
          · unfold f_X11_factor
            rw [y1, y2, lr]
            simp only [Option.bind_some]
            rw [if_neg (by omega), if_neg (by omega), if_pos (by omega), l1]
            simp only [Option.bind_some]
            rw [if_pos c1, cL, w1, y3]
            repeat (first | rw [if_pos (by omega)] | rw [if_neg (by omega)] | simp only [Option.bind_some, not_true_eq_false, not_false_eq_true, if_true, if_false])
  · refine ⟨-9223372036854775808, M, M, ?_, ?_, hI'⟩
    · unfold f_X10_factor f_X10_isSlot
      by_cases c0 : 0 ≤ a0
      · by_cases c1 : a0 < 5
        · by_cases c2 : a2 < -3
          · repeat (first | rw [if_pos (by omega)] | rw [if_neg (by omega)] | simp only [Option.bind_some, not_true_eq_false, not_false_eq_true, if_true, if_false])
          · repeat (first | rw [if_pos (by omega)] | rw [if_neg (by omega)] | simp only [Option.bind_some, not_true_eq_false, not_false_eq_true, if_true, if_false])
        · repeat (first | rw [if_pos (by omega)] | rw [if_neg (by omega)] | simp only [Option.bind_some, not_true_eq_false, not_false_eq_true, if_true, if_false])
      · repeat (first | rw [if_pos (by omega)] | rw [if_neg (by omega)] | simp only [Option.bind_some, not_true_eq_false, not_false_eq_true, if_true, if_false])
    · unfold f_X11_factor f_X11_isSlot f_X11_in
      by_cases c0 : 0 ≤ a0
      · by_cases c1 : a0 < 5
        · by_cases c2 : -3 ≤ a2
          · repeat (first | rw [if_pos (by omega)] | rw [if_neg (by omega)] | simp only [Option.bind_some, not_true_eq_false, not_false_eq_true, if_true, if_false])
          · repeat (first | rw [if_pos (by omega)] | rw [if_neg (by omega)] | simp only [Option.bind_some, not_true_eq_false, not_false_eq_true, if_true, if_false])
        · repeat (first | rw [if_pos (by omega)] | rw [if_neg (by omega)] | simp only [Option.bind_some, not_true_eq_false, not_false_eq_true, if_true, if_false])
      · repeat (first | rw [if_pos (by omega)] | rw [if_neg (by omega)] | simp only [Option.bind_some, not_true_eq_false, not_false_eq_true, if_true, if_false])
