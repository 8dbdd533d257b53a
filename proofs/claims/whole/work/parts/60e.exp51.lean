set_option maxHeartbeats 4000000 in
set_option maxRecDepth 100000 in
theorem s_exp51 {M : tp_M} {P a b d i k0 q : Int} {A B : Int → Int} (hq : q = 360) (hP : M 483 2 = P) (hP2 : 0 < P ∧ P ≤ 400000000) (ha : 0 ≤ a ∧ a < 5) (hb : 0 ≤ b ∧ b < 5) (hd : 1 ≤ d ∧ d ≤ 8) (hi : 0 ≤ i ∧ i < 9) (hk : 0 ≤ k0 ∧ k0 < 9) (eA : ∀ k, 0 ≤ k → k < 9 → M 484 (9 * a + k) = A k) (eB : ∀ k, 0 ≤ k → k < 9 → M 484 (9 * b + k) = B k) : ∃ N, f_X11_expansion_51 a b i k0 d 0 M = some (if k0 < d ∧ i * d + k0 < 9 then oux P (fun k => B k % P) d 9 101 0 (fun k => A k % P) (i * d + k0) else 0, N) ∧ ∀ c k, c ≠ 487 → ¬ (c = 488 ∧ q ≤ k ∧ k < q + 9) → N c k = M c k := by
  have key0 : f_X11_expansion_51 a b i k0 d 0 M = (f_X11_splits 0 9 q d (tp_wr (tp_wr M 487 0 9 (fun k => A k % P)) 488 q 9 (fun k => B k % P))).bind fun r19 => if d ≤ k0 then some (0, r19) else if 9 ≤ tp_w (tp_w (i * d) + k0) then some (0, r19) else if 0 ≤ tp_w (tp_w (i * d) + k0) ∧ tp_w (tp_w (i * d) + k0) < 24 then some (r19 487 (tp_w (tp_w (i * d) + k0)), r19) else none := by
    unfold f_X11_expansion_51
    have e0 : ((0 : Int), M) = (((0 : Nat) : Int), tp_wr (tp_wr M 487 0 ((0 : Nat) : Int) (fun k => A k % P)) 488 q ((0 : Nat) : Int) (fun k => B k % P)) := by rw [show ((0 : Nat) : Int) = 0 from rfl, wr_zero, wr_zero]
    rw [e0]
    refine lp_seq (fun j => ((j : Int), tp_wr (tp_wr M 487 0 j (fun k => A k % P)) 488 q j (fun k => B k % P))) 9 (fun j hj rc => ?_) (fun rc => ?_) tp_N (by unfold tp_N; omega)
    · have hj9 : (0 : Int) ≤ j ∧ (j : Int) < 9 := by omega
      have ws := w_succ (show j < 1000000 by omega)
      have w : tp_w (360 + (j : Int)) = q + j := by
        have w0 := ho_w (x := 360 + (j : Int)) (by omega) (by omega)
        rw [w0]; omega
      have r1 : tp_wr (tp_wr M 487 0 j (fun k => A k % P)) 488 q j (fun k => B k % P) 484 (9 * a + j) = A j := Eq.trans (wr_out (fun h => absurd h.1 (by decide))) (Eq.trans (wr_out (fun h => absurd h.1 (by decide))) (eA j hj9.1 hj9.2))
      have r2 : tp_wr (tp_wr M 487 0 j (fun k => A k % P)) 488 q j (fun k => B k % P) 483 2 = P := by rw [wr_out (by omega), wr_out (by omega), hP]
      have u1 : tp_up (tp_wr (tp_wr M 487 0 j (fun k => A k % P)) 488 q j (fun k => B k % P)) 487 j (A j % P) = tp_wr (tp_wr M 487 0 ((j + 1 : Nat) : Int) (fun k => A k % P)) 488 q j (fun k => B k % P) := by
        rw [← wr_succ0 M 487 j (fun k => A k % P)]
        funext x y
        by_cases h1 : x = 487 ∧ y = (j : Int)
        · rw [up_eq h1, wr_out (by omega), up_eq h1]
        · rw [up_ne h1]
          by_cases h2 : x = 488 ∧ q ≤ y ∧ y < q + (j : Int)
          · rw [wr_in h2, wr_in h2]
          · rw [wr_out h2, wr_out h2, up_ne h1]
      have r3 : tp_wr (tp_wr M 487 0 ((j + 1 : Nat) : Int) (fun k => A k % P)) 488 q j (fun k => B k % P) 484 (9 * b + j) = B j := Eq.trans (wr_out (fun h => absurd h.1 (by decide))) (Eq.trans (wr_out (fun h => absurd h.1 (by decide))) (eB j hj9.1 hj9.2))
      have r4 : tp_wr (tp_wr M 487 0 ((j + 1 : Nat) : Int) (fun k => A k % P)) 488 q j (fun k => B k % P) 483 2 = P := by rw [wr_out (by omega), wr_out (by omega), hP]
      have u2 := wr_succ (tp_wr M 487 0 ((j + 1 : Nat) : Int) (fun k => A k % P)) 488 q j (fun k => B k % P) (by omega)
      rw [show (j : Int) + 1 = ((j + 1 : Nat) : Int) by omega] at u2
      have c1 := s_coefficient (M := tp_wr (tp_wr M 487 0 j (fun k => A k % P)) 488 q j (fun k => B k % P)) ha hj9
      have c2 := s_coefficient (M := tp_wr (tp_wr M 487 0 ((j + 1 : Nat) : Int) (fun k => A k % P)) 488 q j (fun k => B k % P)) hb hj9
      rw [r1] at c1
      rw [r3] at c2
      have n1 := s_number (M := tp_wr (tp_wr M 487 0 j (fun k => A k % P)) 488 q j (fun k => B k % P)) (a := A j) (by rw [r2]; exact hP2)
      have n2 := s_number (M := tp_wr (tp_wr M 487 0 ((j + 1 : Nat) : Int) (fun k => A k % P)) 488 q j (fun k => B k % P)) (a := B j) (by rw [r4]; exact hP2)
      rw [r2] at n1
      rw [r4] at n2
      have hj24 : (0 : Int) ≤ j ∧ (j : Int) < 24 := ⟨hj9.1, by omega⟩
      have hj369 : 0 ≤ q + (j : Int) ∧ q + (j : Int) < 369 := ⟨by omega, by omega⟩
      clear r1 r2 r3 r4
      unfold f_X11_expansion_51B
      simp only [tp_lt, tp_mp]
      rw [if_neg (show ¬ (9 : Int) ≤ j by omega), c1]
      simp only [Option.bind_some]
      rw [n1]
      simp only [Option.bind_some]
      rw [if_pos hj24, u1, c2]
      simp only [Option.bind_some]
      rw [n2]
      simp only [Option.bind_some]
      rw [w, if_pos hj369, ws, u2]
    · simp only [f_X11_expansion_51B]
      rw [if_pos (by omega), show ((9 : Nat) : Int) = 9 from rfl, ← hq]
  have hid : 0 ≤ i * d ∧ i * d ≤ 64 := ⟨Int.mul_nonneg hi.1 (by omega), by
    have h1 : (i * d).natAbs ≤ 8 * 8 := by
      rw [Int.natAbs_mul]
      exact Nat.mul_le_mul (by omega) (by omega)
    omega⟩
  have key := key0
  rw [ho_w (x := i * d) (by omega) (by omega), ho_w (x := i * d + k0) (by omega) (by omega)] at key
  clear key0
  have fA : ∀ k, 0 ≤ k → k < 9 → tp_wr (tp_wr M 487 0 9 (fun k => A k % P)) 488 q 9 (fun k => B k % P) 487 k = A k % P := fun k k0 k1 => by
    rw [wr_out (by omega), wr_in (by omega), show k - 0 = k by omega]
  have fB : ∀ k, 0 ≤ k → k < 9 → tp_wr (tp_wr M 487 0 9 (fun k => A k % P)) 488 q 9 (fun k => B k % P) 488 (q + k) = B k % P := fun k k0 k1 => by
    rw [wr_in (by omega), show q + k - q = k by omega]
  have fP : tp_wr (tp_wr M 487 0 9 (fun k => A k % P)) 488 q 9 (fun k => B k % P) 483 2 = P := by rw [wr_out (by omega), wr_out (by omega), hP]
  have fO : ∀ c k, c ≠ 487 → ¬ (c = 488 ∧ q ≤ k ∧ k < q + 9) → tp_wr (tp_wr M 487 0 9 (fun k => A k % P)) 488 q 9 (fun k => B k % P) c k = M c k := fun c k c0 c1 => by rw [wr_out (by omega), wr_out (by omega)]
  rw [key]
  generalize tp_wr (tp_wr M 487 0 9 (fun k => A k % P)) 488 q 9 (fun k => B k % P) = K at *
  have ex := s_splits (M := K) (P := P) (a := 0) (n := 9) (ky := q) (d := d) fP hP2 (by omega) (by omega) (by omega) (fun k k0 k1 => by rw [fA k k0 (by omega)]; exact md_in hP2.1) (fun k k0 k1 => by simp only; rw [fB k k0 (by omega)]; exact md_in hP2.1)
  rw [ex]
  refine ⟨tp_row K 487 (oux P (fun k => K 488 (q + k)) d (0 + 9) 101 0 (K 487)), ?_, fun c k c0 c1 => by rw [row_ne c0, fO c k c0 c1]⟩
  simp only [Option.bind_some]
  by_cases c1 : k0 < d ∧ i * d + k0 < 9
  · rw [row_eq, show (0 : Int) + 9 = 9 by omega, oux_cong (g' := fun k => B k % P) (by omega) (fun k k0 k1 => fB k k0 (by omega)) 101 0 (c' := fun k => A k % P) (Int.le_refl _) fA (i * d + k0) (by omega) (by omega)]
    repeat (first | rw [if_pos (by omega)] | rw [if_neg (by omega)] | simp only [Option.bind_some, not_true_eq_false, not_false_eq_true, if_true, if_false])
  · by_cases c2 : d ≤ k0
    · repeat (first | rw [if_pos (by omega)] | rw [if_neg (by omega)] | simp only [Option.bind_some, not_true_eq_false, not_false_eq_true, if_true, if_false])
    · repeat (first | rw [if_pos (by omega)] | rw [if_neg (by omega)] | simp only [Option.bind_some, not_true_eq_false, not_false_eq_true, if_true, if_false])
