def xcp (M : tp_M) (P : Int) (A B : Int → Int) : Nat → tp_M
  | 0 => M
  | n + 1 => tp_up (tp_up (xcp M P A B n) 487 n (A n % P)) 488 (360 + n) (B n % P)
theorem xcp_fr (M : tp_M) (P : Int) (A B : Int → Int) : ∀ (n : Nat) (c k : Int), c ≠ 487 → ¬ (c = 488 ∧ 360 ≤ k ∧ k < 360 + n) → xcp M P A B n c k = M c k := by
  intro n
  induction n with
  | zero => intro c k _ _; rfl
  | succ n ih =>
    intro c k h1 h2
    show tp_up (tp_up (xcp M P A B n) 487 n (A n % P)) 488 (360 + n) (B n % P) c k = M c k
    rw [up_ne (by omega), up_ne (by omega)]
    exact ih c k h1 (by omega)
theorem xcp_a (M : tp_M) (P : Int) (A B : Int → Int) : ∀ (n : Nat) (k : Int), 0 ≤ k → k < n → xcp M P A B n 487 k = A k % P := by
  intro n
  induction n with
  | zero => intro k h1 h2; omega
  | succ n ih =>
    intro k h1 h2
    show tp_up (tp_up (xcp M P A B n) 487 n (A n % P)) 488 (360 + n) (B n % P) 487 k = A k % P
    rw [up_ne (by omega)]
    by_cases e : k = n
    · rw [up_eq ⟨rfl, e⟩, e]
    · rw [up_ne (by omega)]; exact ih k h1 (by omega)
theorem xcp_b (M : tp_M) (P : Int) (A B : Int → Int) : ∀ (n : Nat) (k : Int), 0 ≤ k → k < n → xcp M P A B n 488 (360 + k) = B k % P := by
  intro n
  induction n with
  | zero => intro k h1 h2; omega
  | succ n ih =>
    intro k h1 h2
    show tp_up (tp_up (xcp M P A B n) 487 n (A n % P)) 488 (360 + n) (B n % P) 488 (360 + k) = B k % P
    by_cases e : k = n
    · rw [up_eq ⟨rfl, by omega⟩, e]
    · rw [up_ne (by omega), up_ne (by omega)]; exact ih k h1 (by omega)
theorem s_exp51b {P a b d i k0 : Int} {A B : Int → Int} {K : tp_M} {j : Nat} (hj : j < 9) (hK : K 483 2 = P) (hP2 : 0 < P ∧ P ≤ 400000000) (ha : 0 ≤ a ∧ a < 5) (hb : 0 ≤ b ∧ b < 5) (eA : K 484 (9 * a + j) = A j) (eB : K 484 (9 * b + j) = B j) (rc : Int → tp_M → Option (Int × tp_M)) : f_X11_expansion_51B a b i k0 d rc j K = rc ((j + 1 : Nat) : Int) (tp_up (tp_up K 487 j (A j % P)) 488 (360 + j) (B j % P)) := by
  have hj9 : (0 : Int) ≤ j ∧ (j : Int) < 9 := by omega
  have hn9 : ¬ (9 : Int) ≤ j := by omega
  have hj24 : (0 : Int) ≤ j ∧ (j : Int) < 24 := by omega
  have hj369 : (0 : Int) ≤ 360 + j ∧ (360 : Int) + j < 369 := by omega
  have ws := w_succ (show j < 1000000 by omega)
  have w : tp_w (360 + (j : Int)) = 360 + j := ho_w (by omega) (by omega)
  have c1 := s_coefficient (M := K) ha hj9
  rw [eA] at c1
  have n1 := s_number (M := K) (a := A j) (by rw [hK]; exact hP2)
  rw [hK] at n1
  generalize hK1 : tp_up K 487 j (A j % P) = K1
  have g484 : K1 484 (9 * b + j) = B j := by rw [← hK1, up_ne (fun h => absurd h.1 (by decide))]; exact eB
  have g483 : K1 483 2 = P := by rw [← hK1, up_ne (fun h => absurd h.1 (by decide))]; exact hK
  have c2 := s_coefficient (M := K1) hb hj9
  rw [g484] at c2
  have n2 := s_number (M := K1) (a := B j) (by rw [g483]; exact hP2)
  rw [g483] at n2
  unfold f_X11_expansion_51B
  rw [if_neg hn9, c1, Option.bind_some, n1, Option.bind_some, if_pos hj24]
  dsimp only [tp_mp, tp_lt]
  rw [hK1, c2, Option.bind_some, n2, Option.bind_some, w, if_pos hj369, ws]
theorem s_exp51a {M : tp_M} {P a b d i k0 : Int} {A B : Int → Int} (hP : M 483 2 = P) (hP2 : 0 < P ∧ P ≤ 400000000) (ha : 0 ≤ a ∧ a < 5) (hb : 0 ≤ b ∧ b < 5) (eA : ∀ k, 0 ≤ k → k < 9 → M 484 (9 * a + k) = A k) (eB : ∀ k, 0 ≤ k → k < 9 → M 484 (9 * b + k) = B k) : f_X11_expansion_51 a b i k0 d 0 M = (f_X11_splits 0 9 360 d (xcp M P A B 9)).bind fun r19 => if d ≤ k0 then some (0, r19) else if 9 ≤ tp_w (tp_w (i * d) + k0) then some (0, r19) else if 0 ≤ tp_w (tp_w (i * d) + k0) ∧ tp_w (tp_w (i * d) + k0) < 24 then some (r19 487 (tp_w (tp_w (i * d) + k0)), r19) else none := by
  unfold f_X11_expansion_51
  have fin : ∀ (K : tp_M) (rc : Int → tp_M → Option (Int × tp_M)), f_X11_expansion_51B a b i k0 d rc 9 K = (f_X11_splits 0 9 360 d K).bind fun r19 => if d ≤ k0 then some (0, r19) else if 9 ≤ tp_w (tp_w (i * d) + k0) then some (0, r19) else if 0 ≤ tp_w (tp_w (i * d) + k0) ∧ tp_w (tp_w (i * d) + k0) < 24 then some (r19 487 (tp_w (tp_w (i * d) + k0)), r19) else none := fun K rc => by
    unfold f_X11_expansion_51B
    rw [if_pos (Int.le_refl 9)]
  have stp : ∀ (j : Nat), j < 9 → ∀ rc : Int → tp_M → Option (Int × tp_M), f_X11_expansion_51B a b i k0 d rc j (xcp M P A B j) = rc ((j + 1 : Nat) : Int) (xcp M P A B (j + 1)) := fun j hj rc => by
    have h484 : ∀ k, xcp M P A B j 484 k = M 484 k := fun k => xcp_fr M P A B j 484 k (by decide) (fun h => absurd h.1 (by decide))
    have h483 : xcp M P A B j 483 2 = P := (xcp_fr M P A B j 483 2 (by decide) (fun h => absurd h.1 (by decide))).trans hP
    exact s_exp51b hj h483 hP2 ha hb ((h484 _).trans (eA j (by omega) (by omega))) ((h484 _).trans (eB j (by omega) (by omega))) rc
  have h0 : ((0 : Int), M) = (fun j : Nat => ((j : Int), xcp M P A B j)) 0 := rfl
  rw [h0]
  exact lp_seq (fun j : Nat => ((j : Int), xcp M P A B j)) 9 (fun j hj rc => stp j hj (fun x6' M0' => rc (x6', M0'))) (fun rc => fin (xcp M P A B 9) (fun x6' M0' => rc (x6', M0'))) tp_N (by unfold tp_N; omega)
set_option maxHeartbeats 4000000 in
set_option maxRecDepth 100000 in
theorem s_exp51 {M : tp_M} {P a b d i k0 : Int} {A B : Int → Int} (hP : M 483 2 = P) (hP2 : 0 < P ∧ P ≤ 400000000) (ha : 0 ≤ a ∧ a < 5) (hb : 0 ≤ b ∧ b < 5) (hd : 1 ≤ d ∧ d ≤ 8) (hi : 0 ≤ i ∧ i < 9) (hk : 0 ≤ k0 ∧ k0 < 9) (eA : ∀ k, 0 ≤ k → k < 9 → M 484 (9 * a + k) = A k) (eB : ∀ k, 0 ≤ k → k < 9 → M 484 (9 * b + k) = B k) : ∃ N, f_X11_expansion_51 a b i k0 d 0 M = some (if k0 < d ∧ i * d + k0 < 9 then oux P (fun k => B k % P) d 9 101 0 (fun k => A k % P) (i * d + k0) else 0, N) ∧ ∀ c k, c ≠ 487 → ¬ (c = 488 ∧ 360 ≤ k ∧ k < 369) → N c k = M c k := by
  have hid : 0 ≤ i * d ∧ i * d ≤ 64 := ⟨Int.mul_nonneg hi.1 (by omega), by
    have h1 : (i * d).natAbs ≤ 8 * 8 := by
      rw [Int.natAbs_mul]
      exact Nat.mul_le_mul (by omega) (by omega)
    omega⟩
  have key := s_exp51a (M := M) (P := P) (a := a) (b := b) (d := d) (i := i) (k0 := k0) (A := A) (B := B) hP hP2 ha hb eA eB
  rw [ho_w (x := i * d) (by omega) (by omega), ho_w (x := i * d + k0) (by omega) (by omega)] at key
  have fA : ∀ k, 0 ≤ k → k < 9 → xcp M P A B 9 487 k = A k % P := fun k h0 h1 => xcp_a M P A B 9 k h0 (by omega)
  have fB : ∀ k, 0 ≤ k → k < 9 → xcp M P A B 9 488 (360 + k) = B k % P := fun k h0 h1 => xcp_b M P A B 9 k h0 (by omega)
  have fP : xcp M P A B 9 483 2 = P := (xcp_fr M P A B 9 483 2 (by decide) (fun h => absurd h.1 (by decide))).trans hP
  have fO : ∀ c k, c ≠ 487 → ¬ (c = 488 ∧ 360 ≤ k ∧ k < 369) → xcp M P A B 9 c k = M c k := fun c k c0 c1 => xcp_fr M P A B 9 c k c0 (by omega)
  rw [key]
  generalize xcp M P A B 9 = K at *
  have ex := s_splits (M := K) (P := P) (a := 0) (n := 9) (ky := 360) (d := d) fP hP2 (by omega) (by omega) (by omega) (fun k k0 k1 => by rw [fA k k0 (by omega)]; exact md_in hP2.1) (fun k k0 k1 => by simp only; rw [fB k k0 (by omega)]; exact md_in hP2.1)
  rw [ex]
  refine ⟨tp_row K 487 (oux P (fun k => K 488 (360 + k)) d (0 + 9) 101 0 (K 487)), ?_, fun c k c0 c1 => by rw [row_ne c0, fO c k c0 c1]⟩
  simp only [Option.bind_some]
  by_cases c1 : k0 < d ∧ i * d + k0 < 9
  · rw [row_eq, show (0 : Int) + 9 = 9 by omega, oux_cong (g' := fun k => B k % P) (by omega) (fun k k0 k1 => fB k k0 (by omega)) 101 0 (c' := fun k => A k % P) (Int.le_refl _) fA (i * d + k0) (by omega) (by omega)]
    repeat (first | rw [if_pos (by omega)] | rw [if_neg (by omega)] | simp only [Option.bind_some, not_true_eq_false, not_false_eq_true, if_true, if_false])
  · by_cases c2 : d ≤ k0
    · repeat (first | rw [if_pos (by omega)] | rw [if_neg (by omega)] | simp only [Option.bind_some, not_true_eq_false, not_false_eq_true, if_true, if_false])
    · repeat (first | rw [if_pos (by omega)] | rw [if_neg (by omega)] | simp only [Option.bind_some, not_true_eq_false, not_false_eq_true, if_true, if_false])
