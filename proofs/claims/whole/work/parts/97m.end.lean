theorem m0_pr : (tp_M0 483 0 = 3 ∧ tp_M0 483 1 = 18 ∧ tp_M0 483 2 = 387420489) ∧ (tp_M0 1 0 = 3 ∧ tp_M0 1 1 = 18 ∧ tp_M0 1 2 = 387420489) ∧ (tp_M0 0 2 = 0 ∧ tp_M0 483 5 = 0) ∧ (tp_M0 483 18 = 0 ∧ tp_M0 41 0 = 0 ∧ tp_M0 41 2 = 0 ∧ tp_M0 41 3 = 0 ∧ tp_M0 41 4 = 0) := by decide +kernel
theorem m0_sl : ∀ s : Fin 5, ∀ k : Fin 9, tp_M0 484 (9 * (s.val : Int) + (k.val : Int)) = tp_M0 (4 + (s.val : Int)) (k.val : Int) ∧ -9999 ≤ tp_M0 (4 + (s.val : Int)) (k.val : Int) ∧ tp_M0 (4 + (s.val : Int)) (k.val : Int) ≤ 9999 := by decide +kernel
theorem m0_sh : ∀ s : Fin 4, (tp_M0 532 (s.val : Int) = tp_M0 (10 + 2 * (s.val : Int)) 0 ∧ -1 ≤ tp_M0 (10 + 2 * (s.val : Int)) 0 ∧ tp_M0 (10 + 2 * (s.val : Int)) 0 ≤ 1 ∧ tp_M0 533 (s.val : Int) = tp_M0 (10 + 2 * (s.val : Int)) 1 ∧ tp_M0 (10 + 2 * (s.val : Int)) 1 = 0) ∧ ∀ i : Fin 40, tp_M0 534 (40 * (s.val : Int) + (i.val : Int)) = tp_M0 (10 + 2 * (s.val : Int) + 1) (i.val : Int) ∧ -2147483648 ≤ tp_M0 (10 + 2 * (s.val : Int) + 1) (i.val : Int) ∧ tp_M0 (10 + 2 * (s.val : Int) + 1) (i.val : Int) ≤ 2147483647 := by decide +kernel
theorem inv_M0 : Inv tp_M0 := by
  obtain ⟨⟨a1, a2, a3⟩, ⟨a4, a5, a6⟩, ⟨a7, a8⟩, a9, a10, a11, a12, a13⟩ := m0_pr
  refine ⟨⟨⟨by rw [a1, a4], by rw [a2, a5], by rw [a3, a6]⟩, Or.inr (Or.inl ⟨a4, a5, a6⟩)⟩, ⟨by rw [a7]; decide, by rw [a7]; decide, by rw [a7, a8], fun i i0 i1 => by rw [a7] at i1; omega⟩, fun s k s0 s1 k0 k1 => ?_, fun s s0 s1 => ?_, ⟨by rw [a9, a10], Or.inl a10, fun _ => ⟨a11, a12, a13⟩, fun hh => by rw [a10] at hh; exact absurd hh (by decide)⟩⟩
  · have h := m0_sl ⟨s.toNat, by omega⟩ ⟨k.toNat, by omega⟩
    simp only [show ((s.toNat : Nat) : Int) = s by omega, show ((k.toNat : Nat) : Int) = k by omega] at h
    exact h
  · have h := m0_sh ⟨s.toNat, by omega⟩
    simp only [show ((s.toNat : Nat) : Int) = s by omega] at h
    obtain ⟨⟨b1, b2, b3, b4, b5⟩, b6⟩ := h
    refine ⟨b1, b2, b3, b4, by rw [b5]; decide, by rw [b5]; decide, fun _ => b5, fun i i0 i1 => ?_⟩
    have g := b6 ⟨i.toNat, by omega⟩
    simp only [show ((i.toNat : Nat) : Int) = i by omega] at g
    exact g
theorem all_ok : op_all Inv := ⟨ok_prime, ok_feed, ok_wipe, ok_text, ok_set, ok_at, ok_told, ok_mix, ok_times, ok_worth, ok_expansion, ok_factor, ok_grow, ok_tree, ok_knot, ok_key, ok_point, ok_side, ok_residual, ok_monomial, ok_leaf, ok_spelling, ok_ask, ok_corner, ok_slope, ok_whyNot, ok_spill, ok_sheet, ok_cell, ok_item, ok_shift, ok_count⟩
theorem tp_pure (L : Int) (xs : Int → Int) (h0 : 0 ≤ L) (h1 : L ≤ 3072) (hx : ∀ i, tp_r (xs i)) : ∃ M1, f_L_law_18 L xs 0 tp_M0 = some (1, M1) := law_all all_ok inv_M0 L xs h0 h1 hx
