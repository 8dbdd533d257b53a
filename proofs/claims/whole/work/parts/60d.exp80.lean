set_option maxHeartbeats 4000000 in
set_option maxRecDepth 100000 in
theorem s_exp80 {M : tp_M} {P a b d pl : Int} (hP : M 1 2 = P) (hP2 : 0 < P ∧ P ≤ 400000000) (ha : 0 ≤ a ∧ a < 5) (hb : 0 ≤ b ∧ b < 5) (hd : 1 ≤ d ∧ d ≤ 8) (hpl : 0 ≤ pl ∧ pl < 9) : ∃ N, f_X10_expansion_80 a b d pl 0 M = some (oux P (fun k => M (4 + b) k % P) d 9 101 0 (fun k => M (4 + a) k % P) pl, N) ∧ ∀ c k, c ≠ 480 → c ≠ 481 → N c k = M c k := by
  have key : f_X10_expansion_80 a b d pl 0 M = (f_X4_expand 480 0 9 481 d (tp_wr (tp_wr M 480 0 9 (fun k => M (4 + a) k % P)) 481 0 9 (fun k => M (4 + b) k % P))).bind fun r23 => if 0 ≤ pl ∧ pl < 9 then some (r23 480 pl, r23) else none := by
    unfold f_X10_expansion_80
    have e0 : ((0 : Int), M) = (((0 : Nat) : Int), tp_wr (tp_wr M 480 0 ((0 : Nat) : Int) (fun k => M (4 + a) k % P)) 481 0 ((0 : Nat) : Int) (fun k => M (4 + b) k % P)) := by rw [show ((0 : Nat) : Int) = 0 from rfl, wr_zero, wr_zero]
    rw [e0]
    refine lp_seq (fun j => ((j : Int), tp_wr (tp_wr M 480 0 j (fun k => M (4 + a) k % P)) 481 0 j (fun k => M (4 + b) k % P))) 9 (fun j hj rc => ?_) (fun rc => ?_) tp_N (by unfold tp_N; omega)
    · have r1 : tp_wr (tp_wr M 480 0 j (fun k => M (4 + a) k % P)) 481 0 j (fun k => M (4 + b) k % P) (4 + a) j = M (4 + a) j := by simp (disch := omega) only [up_eq, up_ne, ho_w, ho_wl, ho_b, fl_in, fl_out, wr_in, wr_out, cp_in, cp_out]
      have r2 : tp_wr (tp_wr M 480 0 j (fun k => M (4 + a) k % P)) 481 0 j (fun k => M (4 + b) k % P) 1 2 = P := by rw [← hP]; simp (disch := omega) only [up_eq, up_ne, ho_w, ho_wl, ho_b, fl_in, fl_out, wr_in, wr_out, cp_in, cp_out]
      have u1 : tp_up (tp_wr (tp_wr M 480 0 j (fun k => M (4 + a) k % P)) 481 0 j (fun k => M (4 + b) k % P)) 480 j (M (4 + a) j % P) = tp_wr (tp_wr M 480 0 ((j + 1 : Nat) : Int) (fun k => M (4 + a) k % P)) 481 0 j (fun k => M (4 + b) k % P) := by
        rw [wr_upc (by omega), wr_succ0 M 480 j (fun k => M (4 + a) k % P)]
      have r3 : tp_wr (tp_wr M 480 0 ((j + 1 : Nat) : Int) (fun k => M (4 + a) k % P)) 481 0 j (fun k => M (4 + b) k % P) (4 + b) j = M (4 + b) j := by simp (disch := omega) only [up_eq, up_ne, ho_w, ho_wl, ho_b, fl_in, fl_out, wr_in, wr_out, cp_in, cp_out]
      have r4 : tp_wr (tp_wr M 480 0 ((j + 1 : Nat) : Int) (fun k => M (4 + a) k % P)) 481 0 j (fun k => M (4 + b) k % P) 1 2 = P := by rw [← hP]; simp (disch := omega) only [up_eq, up_ne, ho_w, ho_wl, ho_b, fl_in, fl_out, wr_in, wr_out, cp_in, cp_out]
      have u2 := wr_succ0 (tp_wr M 480 0 ((j + 1 : Nat) : Int) (fun k => M (4 + a) k % P)) 481 j (fun k => M (4 + b) k % P)
      simp only [f_X10_expansion_80B, tp_lt, tp_mp, w_succ (show j < 1000000 by omega), r1, s_rest (M := tp_wr (tp_wr M 480 0 j (fun k => M (4 + a) k % P)) 481 0 j (fun k => M (4 + b) k % P)) (by rw [r2]; exact hP2), r2, Option.bind_some, u1, r3, s_rest (M := tp_wr (tp_wr M 480 0 ((j + 1 : Nat) : Int) (fun k => M (4 + a) k % P)) 481 0 j (fun k => M (4 + b) k % P)) (by rw [r4]; exact hP2), r4, u2]
      repeat (first | rw [if_pos (by omega)] | rw [if_neg (by omega)] | simp only [Option.bind_some, not_true_eq_false, not_false_eq_true, if_true, if_false])
    · simp only [f_X10_expansion_80B]
      rw [if_pos (by omega)]; rfl
  have fA : ∀ k, 0 ≤ k → k < 9 → tp_wr (tp_wr M 480 0 9 (fun k => M (4 + a) k % P)) 481 0 9 (fun k => M (4 + b) k % P) 480 k = M (4 + a) k % P := fun k k0 k1 => by
    rw [wr_out (by omega), wr_in (by omega), show k - 0 = k by omega]
  have fB : ∀ k, 0 ≤ k → k < 9 → tp_wr (tp_wr M 480 0 9 (fun k => M (4 + a) k % P)) 481 0 9 (fun k => M (4 + b) k % P) 481 k = M (4 + b) k % P := fun k k0 k1 => by
    rw [wr_in (by omega), show k - 0 = k by omega]
  have fP : tp_wr (tp_wr M 480 0 9 (fun k => M (4 + a) k % P)) 481 0 9 (fun k => M (4 + b) k % P) 1 2 = P := by rw [← hP]; simp (disch := omega) only [up_eq, up_ne, ho_w, ho_wl, ho_b, fl_in, fl_out, wr_in, wr_out, cp_in, cp_out]
  have fO : ∀ c k, c ≠ 480 → c ≠ 481 → tp_wr (tp_wr M 480 0 9 (fun k => M (4 + a) k % P)) 481 0 9 (fun k => M (4 + b) k % P) c k = M c k := fun c k c0 c1 => by rw [wr_out (by omega), wr_out (by omega)]
  rw [key]
  generalize tp_wr (tp_wr M 480 0 9 (fun k => M (4 + a) k % P)) 481 0 9 (fun k => M (4 + b) k % P) = K at *
  have t4 := tg480
  have ex := s_expand (M := K) (P := P) (c := 480) (kc := 481) (d := d) (a := 0) (n := 9) t4.1 t4.2.2.1 fP hP2 (by omega) (by omega) (by omega) (by omega) (by omega) (by omega) (by omega) (fun k k0 k1 => by rw [fA k k0 (by omega)]; exact md_in hP2.1) (fun k k0 k1 => by rw [fB k k0 (by omega)]; exact md_in hP2.1)
  rw [ex]
  refine ⟨tp_row K 480 (oux P (K 481) d (0 + 9) 101 0 (K 480)), ?_, fun c k c0 c1 => by rw [row_ne c0, fO c k c0 c1]⟩
  simp only [Option.bind_some]
  rw [if_pos hpl, row_eq, show (0 : Int) + 9 = 9 by omega, oux_cong (by omega) (fun k k0 k1 => fB k k0 (by omega)) 101 0 (c' := fun k => M (4 + a) k % P) (Int.le_refl _) fA pl hpl.1 hpl.2]
