set_option maxHeartbeats 4000000 in
set_option maxRecDepth 100000 in
theorem ok_expansion : op_expansion Inv := by
  intro M hI a0 a1 a2 a3 r0 r1 r2 r3
  have hI' := hI
  obtain ⟨h1, h2, h3, h4, h5⟩ := hI
  obtain ⟨p1, p2, p3⟩ := iv_P h1
  by_cases hs : (0 ≤ a0 ∧ a0 < 5) ∧ (0 ≤ a1 ∧ a1 < 5) ∧ (0 ≤ a2 ∧ a2 < 9) ∧ (0 ≤ a3 ∧ a3 < 9)
  · obtain ⟨i1, i2⟩ := s_isMonic h3 hs.2.1
    have dg : f_X10_degreeOf (4 + a1) M = some (tp_dg (M (4 + a1)) 9) := s_degreeOf (tg_slot hs.2.1).1 (tg_slot hs.2.1).2
    have d1 := tp_dg_r (M (4 + a1)) 9
    have x1 : f_X10_isSlot a0 M = some 1 := by unfold f_X10_isSlot; repeat (first | rw [if_pos (by omega)] | rw [if_neg (by omega)] | simp only [Option.bind_some, not_true_eq_false, not_false_eq_true, if_true, if_false])
    have x2 : f_X10_isSlot a1 M = some 1 := by unfold f_X10_isSlot; repeat (first | rw [if_pos (by omega)] | rw [if_neg (by omega)] | simp only [Option.bind_some, not_true_eq_false, not_false_eq_true, if_true, if_false])
    have x3 : f_X10_isPower a2 M = some 1 := by unfold f_X10_isPower; repeat (first | rw [if_pos (by omega)] | rw [if_neg (by omega)] | simp only [Option.bind_some, not_true_eq_false, not_false_eq_true, if_true, if_false])
    have x4 : f_X10_isPower a3 M = some 1 := by unfold f_X10_isPower; repeat (first | rw [if_pos (by omega)] | rw [if_neg (by omega)] | simp only [Option.bind_some, not_true_eq_false, not_false_eq_true, if_true, if_false])
    have y1 : ∀ N, f_X11_isSlot a0 N = some 1 := fun N => by unfold f_X11_isSlot; repeat (first | rw [if_pos (by omega)] | rw [if_neg (by omega)] | simp only [Option.bind_some, not_true_eq_false, not_false_eq_true, if_true, if_false])
    have y2 : ∀ N, f_X11_isSlot a1 N = some 1 := fun N => by unfold f_X11_isSlot; repeat (first | rw [if_pos (by omega)] | rw [if_neg (by omega)] | simp only [Option.bind_some, not_true_eq_false, not_false_eq_true, if_true, if_false])
    have y3 : ∀ N, f_X11_isPower a2 N = some 1 := fun N => by unfold f_X11_isPower; repeat (first | rw [if_pos (by omega)] | rw [if_neg (by omega)] | simp only [Option.bind_some, not_true_eq_false, not_false_eq_true, if_true, if_false])
    have y4 : ∀ N, f_X11_isPower a3 N = some 1 := fun N => by unfold f_X11_isPower; repeat (first | rw [if_pos (by omega)] | rw [if_neg (by omega)] | simp only [Option.bind_some, not_true_eq_false, not_false_eq_true, if_true, if_false])
    have z1 : ∀ N, f_X10_expansion a0 a1 a2 a3 M = some N ∨ True := fun _ => Or.inr trivial
    by_cases cm : 1 ≤ tp_dg (M (4 + a1)) 9 ∧ M (4 + a1) (tp_dg (M (4 + a1)) 9) = 1
    · rw [if_pos cm] at i1 i2
      have mod : ∀ N : tp_M, (∀ k, N 484 k = M 484 k) → N 483 2 = M 483 2 → ∃ K, f_X11_expansion a0 a1 a2 a3 N = some (if a3 < tp_dg (M (4 + a1)) 9 ∧ a2 * tp_dg (M (4 + a1)) 9 + a3 < 9 then oux (M 1 2) (fun k => M (4 + a1) k % M 1 2) (tp_dg (M (4 + a1)) 9) 9 101 0 (fun k => M (4 + a0) k % M 1 2) (a2 * tp_dg (M (4 + a1)) 9 + a3) else 0, K) ∧ ∀ c k, c ≠ 487 → ¬ (c = 488 ∧ 360 ≤ k ∧ k < 369) → K c k = N c k := fun N hN hN2 => by
        obtain ⟨K, k1, k2⟩ := s_exp51 (M := N) (P := M 1 2) (a := a0) (b := a1) (d := tp_dg (M (4 + a1)) 9) (i := a2) (k0 := a3) (A := M (4 + a0)) (B := M (4 + a1)) (by rw [hN2, p3]) ⟨p1, p2⟩ hs.1 hs.2.1 (by omega) hs.2.2.1 hs.2.2.2 (fun k k0 k1 => by rw [hN]; exact (h3 a0 k hs.1.1 hs.1.2 k0 k1).1) (fun k k0 k1 => by rw [hN]; exact (h3 a1 k hs.2.1.1 hs.2.1.2 k0 k1).1)
        refine ⟨K, ?_, k2⟩
        unfold f_X11_expansion
        rw [y1, y2, y3, y4, (i2 N hN).1, (i2 N hN).2]
        simp only [Option.bind_some]
        rw [k1]
        repeat (first | rw [if_pos (by omega)] | rw [if_neg (by omega)] | simp only [Option.bind_some, not_true_eq_false, not_false_eq_true, if_true, if_false])
      have hid : 0 ≤ a2 * tp_dg (M (4 + a1)) 9 ∧ a2 * tp_dg (M (4 + a1)) 9 ≤ 64 := ⟨Int.mul_nonneg hs.2.2.1.1 (by omega), by
        have h1 : (a2 * tp_dg (M (4 + a1)) 9).natAbs ≤ 8 * 8 := by
          rw [Int.natAbs_mul]
          exact Nat.mul_le_mul (by omega) (by omega)
        omega⟩
      have wa := ho_w (x := a2 * tp_dg (M (4 + a1)) 9) (by omega) (by omega)
      have wb := ho_w (x := a2 * tp_dg (M (4 + a1)) 9 + a3) (by omega) (by omega)
      have cls : f_X10_expansion a0 a1 a2 a3 M = if tp_dg (M (4 + a1)) 9 ≤ a3 then some (0, M) else if a2 * tp_dg (M (4 + a1)) 9 + a3 < 9 then f_X10_expansion_80 a0 a1 (tp_dg (M (4 + a1)) 9) (a2 * tp_dg (M (4 + a1)) 9 + a3) 0 M else some (0, M) := by
        unfold f_X10_expansion
        rw [x1, x2, x3, x4, i1, dg]
        simp only [Option.bind_some, tp_lt, wa, wb]
        repeat (first | rw [if_pos (by omega)] | rw [if_neg (by omega)] | simp only [Option.bind_some, not_true_eq_false, not_false_eq_true, if_true, if_false])
      generalize tp_dg (M (4 + a1)) 9 = d at *
      by_cases cc : a3 < d ∧ a2 * d + a3 < 9
      · obtain ⟨N, n1, n2⟩ := s_exp80 (M := M) (P := M 1 2) (a := a0) (b := a1) (d := d) (pl := a2 * d + a3) rfl ⟨p1, p2⟩ hs.1 hs.2.1 (by omega) (by omega)
        obtain ⟨K, k1, k2⟩ := mod N (fun k => n2 _ _ (by omega) (by omega)) (n2 _ _ (by omega) (by omega))
        rw [if_pos cc] at k1
        refine ⟨_, N, K, ?_, k1, fr_inv (fun c k hc => ?_) hI'⟩
        · rw [cls, if_neg (by omega), if_pos cc.2]; exact n1
        · unfold iset tset at hc
          rw [k2 c k (by omega) (by omega), n2 c k (by omega) (by omega)]
      · obtain ⟨K, k1, k2⟩ := mod M (fun k => rfl) rfl
        rw [if_neg cc] at k1
        refine ⟨0, M, K, ?_, k1, fr_inv (fun c k hc => ?_) hI'⟩
        · rw [cls]
          by_cases c2 : d ≤ a3
          · repeat (first | rw [if_pos (by omega)] | rw [if_neg (by omega)] | simp only [Option.bind_some, not_true_eq_false, not_false_eq_true, if_true, if_false])
          · repeat (first | rw [if_pos (by omega)] | rw [if_neg (by omega)] | simp only [Option.bind_some, not_true_eq_false, not_false_eq_true, if_true, if_false])
        · unfold iset tset at hc
          rw [k2 c k (by omega) (by omega)]
    · rw [if_neg cm] at i1 i2
      refine ⟨-9223372036854775808, M, M, ?_, ?_, hI'⟩
      · unfold f_X10_expansion
        rw [x1, x2, x3, x4, i1]
        repeat (first | rw [if_pos (by omega)] | rw [if_neg (by omega)] | simp only [Option.bind_some, not_true_eq_false, not_false_eq_true, if_true, if_false])
      · unfold f_X11_expansion
        rw [y1, y2, y3, y4, (i2 M (fun _ => rfl)).1]
        repeat (first | rw [if_pos (by omega)] | rw [if_neg (by omega)] | simp only [Option.bind_some, not_true_eq_false, not_false_eq_true, if_true, if_false])
  · have x1 : ∀ s, f_X10_isSlot s M = some (if 0 ≤ s ∧ s < 5 then 1 else 0) := fun s => by
      unfold f_X10_isSlot
      by_cases c : s < 0
      · repeat (first | rw [if_pos (by omega)] | rw [if_neg (by omega)] | simp only [Option.bind_some, not_true_eq_false, not_false_eq_true, if_true, if_false])
      · by_cases c2 : 5 ≤ s
        · repeat (first | rw [if_pos (by omega)] | rw [if_neg (by omega)] | simp only [Option.bind_some, not_true_eq_false, not_false_eq_true, if_true, if_false])
        · repeat (first | rw [if_pos (by omega)] | rw [if_neg (by omega)] | simp only [Option.bind_some, not_true_eq_false, not_false_eq_true, if_true, if_false])
    have y1 : ∀ s, f_X11_isSlot s M = some (if 0 ≤ s ∧ s < 5 then 1 else 0) := fun s => by
      unfold f_X11_isSlot
      by_cases c : s < 0
      · repeat (first | rw [if_pos (by omega)] | rw [if_neg (by omega)] | simp only [Option.bind_some, not_true_eq_false, not_false_eq_true, if_true, if_false])
      · by_cases c2 : 5 ≤ s
        · repeat (first | rw [if_pos (by omega)] | rw [if_neg (by omega)] | simp only [Option.bind_some, not_true_eq_false, not_false_eq_true, if_true, if_false])
        · repeat (first | rw [if_pos (by omega)] | rw [if_neg (by omega)] | simp only [Option.bind_some, not_true_eq_false, not_false_eq_true, if_true, if_false])
    have x2 : ∀ s, f_X10_isPower s M = some (if 0 ≤ s ∧ s < 9 then 1 else 0) := fun s => by
      unfold f_X10_isPower
      by_cases c : s < 0
      · repeat (first | rw [if_pos (by omega)] | rw [if_neg (by omega)] | simp only [Option.bind_some, not_true_eq_false, not_false_eq_true, if_true, if_false])
      · by_cases c2 : 9 ≤ s
        · repeat (first | rw [if_pos (by omega)] | rw [if_neg (by omega)] | simp only [Option.bind_some, not_true_eq_false, not_false_eq_true, if_true, if_false])
        · repeat (first | rw [if_pos (by omega)] | rw [if_neg (by omega)] | simp only [Option.bind_some, not_true_eq_false, not_false_eq_true, if_true, if_false])
    have y2 : ∀ s, f_X11_isPower s M = some (if 0 ≤ s ∧ s < 9 then 1 else 0) := fun s => by
      unfold f_X11_isPower
      by_cases c : s < 0
      · repeat (first | rw [if_pos (by omega)] | rw [if_neg (by omega)] | simp only [Option.bind_some, not_true_eq_false, not_false_eq_true, if_true, if_false])
      · by_cases c2 : 9 ≤ s
        · repeat (first | rw [if_pos (by omega)] | rw [if_neg (by omega)] | simp only [Option.bind_some, not_true_eq_false, not_false_eq_true, if_true, if_false])
        · repeat (first | rw [if_pos (by omega)] | rw [if_neg (by omega)] | simp only [Option.bind_some, not_true_eq_false, not_false_eq_true, if_true, if_false])
    refine ⟨-9223372036854775808, M, M, ?_, ?_, hI'⟩
    · unfold f_X10_expansion
      rw [x1, x1, x2, x2]
      by_cases c0 : 0 ≤ a0 ∧ a0 < 5
      · rw [if_pos c0]
        by_cases c1 : 0 ≤ a1 ∧ a1 < 5
        · rw [if_pos c1]
          by_cases c2 : 0 ≤ a2 ∧ a2 < 9
          · rw [if_pos c2]
            by_cases c3 : 0 ≤ a3 ∧ a3 < 9
            · exact absurd ⟨c0, c1, c2, c3⟩ hs
            · rw [if_neg c3]; rfl
          · rw [if_neg c2]; rfl
        · rw [if_neg c1]; rfl
      · rw [if_neg c0]; rfl
    · unfold f_X11_expansion
      rw [y1, y1, y2, y2]
      by_cases c0 : 0 ≤ a0 ∧ a0 < 5
      · rw [if_pos c0]
        by_cases c1 : 0 ≤ a1 ∧ a1 < 5
        · rw [if_pos c1]
          by_cases c2 : 0 ≤ a2 ∧ a2 < 9
          · rw [if_pos c2]
            by_cases c3 : 0 ≤ a3 ∧ a3 < 9
            · exact absurd ⟨c0, c1, c2, c3⟩ hs
            · rw [if_neg c3]; rfl
          · rw [if_neg c2]; rfl
        · rw [if_neg c1]; rfl
      · rw [if_neg c0]; rfl
