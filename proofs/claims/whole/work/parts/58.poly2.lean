theorem wr_up {M : tp_M} {c n k v : Int} {g : Int → Int} (h : 0 ≤ k ∧ k < n) : tp_up (tp_wr M c 0 n g) c k v = tp_wr M c 0 n (fun x => if x = k then v else g x) := by
  funext x y
  by_cases h1 : x = c ∧ y = k
  · rw [up_eq h1, wr_in (by omega), if_pos (by omega)]
  · rw [up_ne h1]
    by_cases h2 : x = c ∧ 0 ≤ y ∧ y < 0 + n
    · rw [wr_in h2, wr_in h2, if_neg (by omega)]
    · rw [wr_out h2, wr_out h2]
theorem up_up {M : tp_M} {c k v w : Int} : tp_up (tp_up M c k v) c k w = tp_up M c k w := by
  funext x y
  by_cases h1 : x = c ∧ y = k
  · rw [up_eq h1, up_eq h1]
  · rw [up_ne h1, up_ne h1, up_ne h1]
theorem fl_wr (M : tp_M) (c n v : Int) : tp_fl M c n v = tp_wr M c 0 n (fun _ => v) := by
  funext x y
  by_cases h2 : x = c ∧ 0 ≤ y ∧ y < 0 + n
  · rw [wr_in h2, fl_in (by omega)]
  · rw [wr_out h2, fl_out (by omega)]
def cvs (X Y : Int → Int) (k : Int) : Nat → Int
  | 0 => 0
  | n + 1 => cvs X Y k n + if 0 ≤ k - n ∧ k - n < 9 then X n * Y (k - n) else 0
theorem tp_mulc {a b : Int} (ha : -9999 ≤ a ∧ a ≤ 9999) (hb : -9999 ≤ b ∧ b ≤ 9999) : -100000000 ≤ a * b ∧ a * b ≤ 100000000 := by
  have h1 : (a * b).natAbs ≤ 9999 * 9999 := by
    rw [Int.natAbs_mul]
    exact Nat.mul_le_mul (by omega) (by omega)
  omega
theorem cvs_b {X Y : Int → Int} (hX : fit X) (hY : fit Y) (k : Int) : ∀ n : Nat, n ≤ 9 → -100000000 * (n : Int) ≤ cvs X Y k n ∧ cvs X Y k n ≤ 100000000 * (n : Int) := by
  intro n
  induction n with
  | zero => intro _; unfold cvs; omega
  | succ n ih =>
    intro hn
    have := ih (by omega)
    unfold cvs
    by_cases h : 0 ≤ k - n ∧ k - n < 9
    · have h1 := tp_mulc (hX n (by omega) (by omega)) (hY (k - n) (by omega) (by omega))
      rw [if_pos h]; omega
    · rw [if_neg h]; omega
theorem cvs_top (X Y : Int → Int) (k : Nat) : ∀ n : Nat, k + 1 ≤ n → cvs X Y k n = cvs X Y k (k + 1) := by
  intro n
  induction n with
  | zero => intro h; omega
  | succ n ih =>
    intro h
    by_cases e : n = k
    · rw [e]
    · rw [show cvs X Y k (n + 1) = cvs X Y k n + (if 0 ≤ (k : Int) - n ∧ (k : Int) - n < 9 then X n * Y (k - n) else 0) from rfl, if_neg (by omega), ih (by omega)]; omega
set_option maxHeartbeats 4000000 in
set_option maxRecDepth 100000 in
theorem s_times1 {M : tp_M} {a0 a1 a2 : Int} (h0 : 0 ≤ a0 ∧ a0 < 5) (h1 : 0 ≤ a1 ∧ a1 < 5) (hX : fit (M (4 + a0))) (hY : fit (M (4 + a1))) : f_X10_times_68 a0 a1 a2 M = (f_X10_store a2 (tp_wr M 481 0 18 (fun k => cvs (M (4 + a0)) (M (4 + a1)) k 9))).bind fun r => if r.1 = 0 then some (-3, r.2) else some (1, r.2) := by
  unfold f_X10_times_68
  rw [s_filll (n := 18) (by decide +kernel) (by decide +kernel) (by omega)]
  simp only [Option.bind_some]
  unfold f_X10_times_79
  have e0 : (0, tp_fl M 481 18 0) = (((0 : Nat) : Int), tp_wr M 481 0 18 (fun k => cvs (M (4 + a0)) (M (4 + a1)) k 0)) := by rw [fl_wr]; rfl
  rw [e0]
  refine lp_seq (fun i => ((i : Int), tp_wr M 481 0 18 (fun k => cvs (M (4 + a0)) (M (4 + a1)) k i))) 9 (fun i hi rc => ?_) (fun rc => ?_) tp_N (by unfold tp_N; omega)
  · simp only [f_X10_times_79B]
    rw [if_neg (by omega)]
    unfold f_X10_times_89
    have e1 : ((0 : Int), tp_wr M 481 0 18 (fun k => cvs (M (4 + a0)) (M (4 + a1)) k i)) = (((0 : Nat) : Int), tp_wr M 481 0 18 (fun k => cvs (M (4 + a0)) (M (4 + a1)) k i + if 0 ≤ k - i ∧ k - i < ((0 : Nat) : Int) then M (4 + a0) i * M (4 + a1) (k - i) else 0)) := congrArg (fun z => ((0 : Int), z)) (wr_cong (fun k k0 k1 => by rw [if_neg (by omega)]; omega))
    rw [e1]
    refine lp_seq (fun j => ((j : Int), tp_wr M 481 0 18 (fun k => cvs (M (4 + a0)) (M (4 + a1)) k i + if 0 ≤ k - i ∧ k - i < (j : Int) then M (4 + a0) i * M (4 + a1) (k - i) else 0))) 9 (fun j hj rc2 => ?_) (fun rc2 => ?_) tp_N (by unfold tp_N; omega)
    · have q := tp_mulc (hX i (by omega) (by omega)) (hY j (by omega) (by omega))
      have b := cvs_b hX hY (i + j) i (by omega)
      simp only [f_X10_times_89B, tp_lt, tp_mp, w_succ (show j < 1000000 by omega)]
      rw [if_neg (by omega), ho_w (x := (i : Int) + j) (by omega) (by omega), if_pos (by omega), if_pos (by omega), if_pos (by omega), if_pos (by omega), if_pos (by omega), if_pos (by omega), wr_out (x := 4 + a0) (by omega), wr_out (x := 4 + a1) (by omega), wr_in (by omega), show (i : Int) + j - 0 = i + j by omega, if_neg (by omega), ho_wl (x := M (4 + a0) i * M (4 + a1) j) (by omega) (by omega), ho_wl (by omega) (by omega), wr_up (by omega)]
      refine congrArg (fun z => rc2 (((j + 1 : Nat) : Int), z)) (wr_cong (fun k k0 k1 => ?_))
      by_cases e : k = i + j
      · subst e
        rw [if_pos rfl, if_pos (by omega), show (i : Int) + j - i = j by omega]; omega
      · rw [if_neg e]
        by_cases c : 0 ≤ k - i ∧ k - i < (j : Int)
        · rw [if_pos c, if_pos (by omega)]
        · rw [if_neg c, if_neg (by omega)]
    · simp only [f_X10_times_89B, tp_lt, w_succ (show i < 1000000 by omega)]
      rw [if_pos (by omega)]
      refine congrArg (fun z => rc (((i + 1 : Nat) : Int), z)) (wr_cong (fun k k0 k1 => by rw [show ((9 : Nat) : Int) = 9 from rfl]; rfl))
  · simp only [f_X10_times_79B]
    rw [if_pos (by omega)]
set_option maxHeartbeats 4000000 in
set_option maxRecDepth 100000 in
theorem s_times2 {M : tp_M} {X Y : Int → Int} {a0 a1 a2 : Int} (h0 : 0 ≤ a0 ∧ a0 < 5) (h1 : 0 ≤ a1 ∧ a1 < 5) (eX : ∀ k, 0 ≤ k → k < 9 → M 484 (9 * a0 + k) = X k) (eY : ∀ k, 0 ≤ k → k < 9 → M 484 (9 * a1 + k) = Y k) (hX : fit X) (hY : fit Y) : f_X11_times_60 a0 a1 a2 M = (f_X11_takesRead a2 (tp_wr M 486 0 9 (fun k => cvs X Y k 9))).bind fun r => if r.1 = 0 then some (-3, r.2) else some (1, r.2) := by
  unfold f_X11_times_60 f_X11_times_63
  have e0 : (0, M) = (((0 : Nat) : Int), tp_wr M 486 0 ((0 : Nat) : Int) (fun k => cvs X Y k 9)) := by rw [show ((0 : Nat) : Int) = 0 from rfl, wr_zero]
  rw [e0]
  refine lp_seq (fun i => ((i : Int), tp_wr M 486 0 i (fun k => cvs X Y k 9))) 9 (fun i hi rc => ?_) (fun rc => ?_) tp_N (by unfold tp_N; omega)
  · simp only [f_X11_times_63B, tp_mp]
    rw [if_neg (by omega), if_pos (by omega)]
    unfold f_X11_times_81
    have e1 : ((0 : Int), tp_up (tp_wr M 486 0 i (fun k => cvs X Y k 9)) 486 i 0) = (((0 : Nat) : Int), tp_up (tp_wr M 486 0 i (fun k => cvs X Y k 9)) 486 i (cvs X Y i 0)) := rfl
    rw [e1]
    refine lp_seq (fun j => ((j : Int), tp_up (tp_wr M 486 0 i (fun k => cvs X Y k 9)) 486 i (cvs X Y i j))) (i + 1) (fun j hj rc => ?_) (fun rc => ?_) tp_N (by unfold tp_N; omega)
    · have q := tp_mulc (hX j (by omega) (by omega)) (hY (i - j) (by omega) (by omega))
      have b := cvs_b hX hY i j (by omega)
      simp only [f_X11_times_81B, tp_lt, tp_mp, w_succ (show j < 1000000 by omega)]
      rw [if_neg (by omega), if_pos (by omega), s_coefficient h0 (by omega), ho_w (x := (i : Int) - j) (by omega) (by omega), s_coefficient h1 (by omega)]
      simp only [Option.bind_some]
      rw [if_pos (by omega), up_ne (c' := 484) (by omega), up_ne (c' := 484) (by omega), wr_out (x := 484) (by omega), wr_out (x := 484) (by omega), eX _ (by omega) (by omega), eY _ (by omega) (by omega), up_eq (by omega), ho_wl (x := X j * Y (i - j)) (by omega) (by omega), ho_wl (by omega) (by omega), up_up]
      rw [show cvs X Y i (j + 1) = cvs X Y i j + (if 0 ≤ (i : Int) - j ∧ (i : Int) - j < 9 then X j * Y (i - j) else 0) from rfl, if_pos (by omega)]
    · simp only [f_X11_times_81B, tp_lt, w_succ (show i < 1000000 by omega)]
      rw [if_pos (by omega), ← cvs_top X Y i 9 (by omega), wr_succ0 M 486 i (fun k => cvs X Y k 9)]
  · simp only [f_X11_times_63B]
    rw [if_pos (by omega)]; rfl
set_option maxHeartbeats 4000000 in
set_option maxRecDepth 100000 in
theorem ok_times : op_times Inv := by
  intro M hI a0 a1 a2 r0 r1 r2
  have hI' := hI
  obtain ⟨h1, h2, h3, h4, h5⟩ := hI
  by_cases hs : (0 ≤ a0 ∧ a0 < 5) ∧ (0 ≤ a1 ∧ a1 < 5) ∧ (0 ≤ a2 ∧ a2 < 5)
  · have e1 : f_X10_degreeOf (4 + a0) M = some (tp_dg (M (4 + a0)) 9) := s_degreeOf (tg_slot hs.1).1 (tg_slot hs.1).2
    have e2 : f_X10_degreeOf (4 + a1) M = some (tp_dg (M (4 + a1)) 9) := s_degreeOf (tg_slot hs.2.1).1 (tg_slot hs.2.1).2
    have d1 := tp_dg_r (M (4 + a0)) 9
    have d2 := tp_dg_r (M (4 + a1)) 9
    have hX : fit (M (4 + a0)) := fun k k0 k1 => (h3 a0 k (by omega) (by omega) k0 k1).2
    have hY : fit (M (4 + a1)) := fun k k0 k1 => (h3 a1 k (by omega) (by omega) k0 k1).2
    by_cases hd : 0 ≤ tp_dg (M (4 + a0)) 9 ∧ 0 ≤ tp_dg (M (4 + a1)) 9 ∧ 9 ≤ tp_dg (M (4 + a0)) 9 + tp_dg (M (4 + a1)) 9
    · have e3 : f_X11_degreeOf a0 M = some (tp_dg (M (4 + a0)) 9) := by rw [s_degreeOf2 hs.1, s_deg_same h3 hs.1]
      have e4 : f_X11_degreeOf a1 M = some (tp_dg (M (4 + a1)) 9) := by rw [s_degreeOf2 hs.2.1, s_deg_same h3 hs.2.1]
      refine ⟨-6, M, M, ?_, ?_, hI'⟩
      · unfold f_X10_times f_X10_isSlot
        rw [e1, e2]
        generalize tp_dg (M (4 + a0)) 9 = x at *
        generalize tp_dg (M (4 + a1)) 9 = y at *
        have w := ho_w (x := x + y) (by omega) (by omega)
        simp only [Option.bind_some, w]
        repeat (first | rw [if_pos (by omega)] | rw [if_neg (by omega)] | simp only [Option.bind_some, not_true_eq_false, not_false_eq_true, if_true, if_false])
      · unfold f_X11_times f_X11_isSlot
        rw [e3, e4]
        generalize tp_dg (M (4 + a0)) 9 = x at *
        generalize tp_dg (M (4 + a1)) 9 = y at *
        have w := ho_w (x := x + y) (by omega) (by omega)
        simp only [Option.bind_some, w]
        repeat (first | rw [if_pos (by omega)] | rw [if_neg (by omega)] | simp only [Option.bind_some, not_true_eq_false, not_false_eq_true, if_true, if_false])
    · refine s_ends (s := a2) (g := fun k => cvs (M (4 + a0)) (M (4 + a1)) k 9) (N := tp_wr M 481 0 18 (fun k => cvs (M (4 + a0)) (M (4 + a1)) k 9)) hs.2.2 hI' (f_X10_times a0 a1 a2) (f_X11_times a0 a1 a2) (fun c k hc => wr_out (by omega)) (fun k k0 k1 => by rw [wr_in (by omega), show k - 0 = k by omega]) ?_ ?_
      · rw [← s_times1 hs.1 hs.2.1 hX hY]
        unfold f_X10_times f_X10_isSlot
        simp only [e1, e2]
        rw [if_neg (by omega), if_neg (by omega)]
        simp only [Option.bind_some]
        rw [if_neg (by omega), if_neg (by omega), if_neg (by omega)]
        simp only [Option.bind_some]
        rw [if_neg (by omega), if_neg (by omega), if_neg (by omega)]
        simp only [Option.bind_some]
        rw [if_pos (by omega), if_pos (by omega), if_pos (by omega), ho_w (x := tp_dg (M (4 + a0)) 9 + tp_dg (M (4 + a1)) 9) (by omega) (by omega)]
        by_cases c1 : tp_dg (M (4 + a0)) 9 < 0
        · rw [if_pos c1]
        · rw [if_neg c1]
          by_cases c2 : tp_dg (M (4 + a1)) 9 < 0
          · rw [if_pos c2]
          · rw [if_neg c2, if_pos (by omega)]
      · intro K hK
        have iK : ∀ s, (0 ≤ s ∧ s < 5) → ∀ k, 0 ≤ k → k < 9 → K 484 (9 * s + k) = M (4 + s) k := fun s hs k k0 k1 => by rw [hK 484 _ (by omega) (by omega)]; exact (h3 s k (by omega) (by omega) k0 k1).1
        have e3 : f_X11_degreeOf a0 K = some (tp_dg (M (4 + a0)) 9) := by rw [s_degreeOf2 hs.1, tp_dg_cong (b := M (4 + a0)) 9 (fun k k0 k1 => iK a0 hs.1 k k0 (by omega))]
        have e4 : f_X11_degreeOf a1 K = some (tp_dg (M (4 + a1)) 9) := by rw [s_degreeOf2 hs.2.1, tp_dg_cong (b := M (4 + a1)) 9 (fun k k0 k1 => iK a1 hs.2.1 k k0 (by omega))]
        refine ⟨tp_wr K 486 0 9 (fun k => cvs (M (4 + a0)) (M (4 + a1)) k 9), fun c k hc => wr_out (by omega), fun k k0 k1 => by rw [wr_in (by omega), show k - 0 = k by omega], ?_⟩
        rw [← s_times2 hs.1 hs.2.1 (iK a0 hs.1) (iK a1 hs.2.1) hX hY]
        unfold f_X11_times f_X11_isSlot
        simp only [e3, e4]
        rw [if_neg (by omega), if_neg (by omega)]
        simp only [Option.bind_some]
        rw [if_neg (by omega), if_neg (by omega), if_neg (by omega)]
        simp only [Option.bind_some]
        rw [if_neg (by omega), if_neg (by omega), if_neg (by omega)]
        simp only [Option.bind_some]
        rw [if_pos (by omega), ho_w (x := tp_dg (M (4 + a0)) 9 + tp_dg (M (4 + a1)) 9) (by omega) (by omega)]
        by_cases c1 : tp_dg (M (4 + a0)) 9 < 0
        · rw [if_pos c1]
        · rw [if_neg c1]
          by_cases c2 : tp_dg (M (4 + a1)) 9 < 0
          · rw [if_pos c2]
          · rw [if_neg c2, if_pos (by omega)]
  · apply tw_out (f := f_X10_times a0 a1 a2) (g := f_X11_times a0 a1 a2)
    unfold tw f_X10_times f_X11_times
    simp only [tp_lt, tp_mp, f_X10_isSlot, f_X11_isSlot]
    repeat' (first
        | with_reducible refine ho_some ?_
        | with_reducible refine ho_bind' ?_
        | with_reducible refine ho_chk (by omega) ?_
        | with_reducible refine ho_nchk (by omega) ?_
        | with_reducible refine ho_chk (by simp (disch := omega) only [up_eq, up_ne, ho_w, ho_wl, ho_b]; first | done | omega) ?_
        | with_reducible refine ho_nchk (by simp (disch := omega) only [up_eq, up_ne, ho_w, ho_wl, ho_b]; first | done | omega) ?_
        | (with_reducible refine ho_ite (fun hq => ?_) (fun hq => ?_) <;> try (simp (disch := omega) only [up_eq, up_ne, ho_w, ho_wl, ho_b] at hq)))
    all_goals first
      | exact ⟨trivial, hI'⟩
      | exact ⟨rfl, hI'⟩
theorem lx_neg {a b : Int} (ha : tp_rl a) (hb : tp_rl b) : (tp_lxor a b < 0) ↔ ¬ (a < 0 ↔ b < 0) := by
  unfold tp_lxor
  have h1 : ((Int64.ofInt a ^^^ Int64.ofInt b).toInt < 0) ↔ ((Int64.ofInt a ^^^ Int64.ofInt b).toBitVec.msb = true) := by
    rw [BitVec.msb_eq_toInt]; simp only [decide_eq_true_eq]; rfl
  have h2 : ∀ x : Int, tp_rl x → ((Int64.ofInt x).toBitVec.msb = true ↔ x < 0) := fun x hx => by
    rw [BitVec.msb_eq_toInt]; simp only [decide_eq_true_eq]
    show (Int64.ofInt x).toInt < 0 ↔ _
    rw [tp_l_rt hx]
  rw [h1, Int64.toBitVec_xor, BitVec.msb_xor, ← h2 a ha, ← h2 b hb]
  cases (Int64.ofInt a).toBitVec.msb <;> cases (Int64.ofInt b).toBitVec.msb <;> decide
theorem la_neg {a b : Int} (ha : tp_rl a) (hb : tp_rl b) : (tp_land a b < 0) ↔ (a < 0 ∧ b < 0) := by
  unfold tp_land
  have h1 : ((Int64.ofInt a &&& Int64.ofInt b).toInt < 0) ↔ ((Int64.ofInt a &&& Int64.ofInt b).toBitVec.msb = true) := by
    rw [BitVec.msb_eq_toInt]; simp only [decide_eq_true_eq]; rfl
  have h2 : ∀ x : Int, tp_rl x → ((Int64.ofInt x).toBitVec.msb = true ↔ x < 0) := fun x hx => by
    rw [BitVec.msb_eq_toInt]; simp only [decide_eq_true_eq]
    show (Int64.ofInt x).toInt < 0 ↔ _
    rw [tp_l_rt hx]
  rw [h1, Int64.toBitVec_and, BitVec.msb_and, ← h2 a ha, ← h2 b hb]
  cases (Int64.ofInt a).toBitVec.msb <;> cases (Int64.ofInt b).toBitVec.msb <;> decide
theorem lxor_r (a b : Int) : tp_rl (tp_lxor a b) := ⟨Int64.le_toInt _, by have := Int64.toInt_lt (Int64.ofInt a ^^^ Int64.ofInt b); unfold tp_lxor; omega⟩
theorem tp_safe {h x : Int} {M N : tp_M} (hh : tp_rl h) (hx : tp_r x) : ∃ r, f_X10_isLongProduct h x M = some r ∧ f_X11_isSafe h x N = some r := by
  unfold tp_rl at hh
  unfold tp_r at hx
  unfold f_X10_isLongProduct f_X11_isSafe f_X11_isSafe_34 f_X11_isSafe_35
  by_cases c0 : x = 0
  · exact ⟨1, by repeat (first | rw [if_pos (by omega)] | rw [if_neg (by omega)] | simp only [Option.bind_some, not_true_eq_false, not_false_eq_true, if_true, if_false]), by repeat (first | rw [if_pos (by omega)] | rw [if_neg (by omega)] | simp only [Option.bind_some, not_true_eq_false, not_false_eq_true, if_true, if_false])⟩
  by_cases c3 : h = 0
  · subst c3
    have e : tp_wl (Int.tdiv (tp_wl (0 * x)) x) = 0 := by rw [Int.zero_mul, ho_wl (x := 0) (by omega) (by omega), Int.zero_tdiv]; rfl
    refine ⟨1, ?_, by repeat (first | rw [if_pos (by omega)] | rw [if_neg (by omega)] | simp only [Option.bind_some, not_true_eq_false, not_false_eq_true, if_true, if_false])⟩
    by_cases c1 : x = -1
    · repeat (first | rw [if_pos (by omega)] | rw [if_neg (by omega)] | simp only [Option.bind_some, not_true_eq_false, not_false_eq_true, if_true, if_false])
    · repeat (first | rw [if_pos (by omega)] | rw [if_neg (by omega)] | simp only [Option.bind_some, not_true_eq_false, not_false_eq_true, if_true, if_false])
  by_cases c1 : x = -1
  · by_cases c2 : h = -9223372036854775808
    · exact ⟨0, by repeat (first | rw [if_pos (by omega)] | rw [if_neg (by omega)] | simp only [Option.bind_some, not_true_eq_false, not_false_eq_true, if_true, if_false]), by repeat (first | rw [if_pos (by omega)] | rw [if_neg (by omega)] | simp only [Option.bind_some, not_true_eq_false, not_false_eq_true, if_true, if_false])⟩
    · have e : tp_wl (Int.tdiv (tp_wl (h * x)) x) = h := by
        rw [c1, ho_wl (x := h * -1) (by omega) (by omega), Int.mul_neg, Int.mul_one, Int.tdiv_neg, Int.neg_tdiv, Int.tdiv_one, Int.neg_neg, ho_wl (by omega) (by omega)]
      exact ⟨1, by repeat (first | rw [if_pos (by omega)] | rw [if_neg (by omega)] | simp only [Option.bind_some, not_true_eq_false, not_false_eq_true, if_true, if_false]), by repeat (first | rw [if_pos (by omega)] | rw [if_neg (by omega)] | simp only [Option.bind_some, not_true_eq_false, not_false_eq_true, if_true, if_false])⟩
  by_cases c4 : tp_wl (Int.tdiv (tp_wl (h * x)) x) = h
  · refine ⟨1, by repeat (first | rw [if_pos (by omega)] | rw [if_neg (by omega)] | simp only [Option.bind_some, not_true_eq_false, not_false_eq_true, if_true, if_false]), ?_⟩
    by_cases c2 : h = -9223372036854775808
    · repeat (first | rw [if_pos (by omega)] | rw [if_neg (by omega)] | simp only [Option.bind_some, not_true_eq_false, not_false_eq_true, if_true, if_false])
    · repeat (first | rw [if_pos (by omega)] | rw [if_neg (by omega)] | simp only [Option.bind_some, not_true_eq_false, not_false_eq_true, if_true, if_false])
  · refine ⟨0, by repeat (first | rw [if_pos (by omega)] | rw [if_neg (by omega)] | simp only [Option.bind_some, not_true_eq_false, not_false_eq_true, if_true, if_false]), ?_⟩
    by_cases c2 : h = -9223372036854775808
    · repeat (first | rw [if_pos (by omega)] | rw [if_neg (by omega)] | simp only [Option.bind_some, not_true_eq_false, not_false_eq_true, if_true, if_false])
    · repeat (first | rw [if_pos (by omega)] | rw [if_neg (by omega)] | simp only [Option.bind_some, not_true_eq_false, not_false_eq_true, if_true, if_false])
def wB1 (s x : Int) (M : tp_M) : (Int × Int → Option Int) → Int × Int → Option Int := fun rec_ u => f_X10_worth_17B s x M (fun x3' x5' => rec_ (x3', x5')) u.1 u.2
def wB2 (s x : Int) (M : tp_M) : (Int × Int → Option Int) → Int × Int → Option Int := fun rec_ u => f_X11_worth_17B s x M (fun x3' x5' => rec_ (x3', x5')) u.1 u.2
set_option maxHeartbeats 4000000 in
set_option maxRecDepth 100000 in
theorem s_worth {M : tp_M} (hI : iv_slots M) {s x : Int} (hs : 0 ≤ s ∧ s < 5) (hx : tp_r x) : ∀ (k n : Nat) (h : Int), k ≤ 9 → k < n → tp_rl h → ∃ r, tp_lp (wB1 s x M) n (h, (k : Int) - 1) = some r ∧ tp_lp (wB2 s x M) n (h, (k : Int) - 1) = some r := by
  intro k
  induction k with
  | zero =>
    intro n h _ hn hh
    obtain ⟨n, rfl⟩ : ∃ k, n = k + 1 := ⟨n - 1, by omega⟩
    refine ⟨h, ?_, ?_⟩
    · show wB1 s x M (tp_lp (wB1 s x M) n) _ = _
      unfold wB1 f_X10_worth_17B
      simp only
      rw [if_pos (by omega)]
    · show wB2 s x M (tp_lp (wB2 s x M) n) _ = _
      unfold wB2 f_X11_worth_17B
      simp only
      rw [if_pos (by omega)]
  | succ k ih =>
    intro n h hk hn hh
    obtain ⟨n, rfl⟩ : ∃ k, n = k + 1 := ⟨n - 1, by omega⟩
    show ∃ r, wB1 s x M (tp_lp (wB1 s x M) n) _ = some r ∧ wB2 s x M (tp_lp (wB2 s x M) n) _ = some r
    have key := fun y hy => ih n y (by omega) (by omega) hy
    generalize tp_lp (wB1 s x M) n = R1 at key ⊢
    generalize tp_lp (wB2 s x M) n = R2 at key ⊢
    rw [show (((k + 1 : Nat) : Int) - 1) = k by omega]
    simp only [wB1, wB2, f_X10_worth_17B, f_X11_worth_17B, f_X11_worth_71, f_X11_worth_89, tp_lt]
    obtain ⟨r, q1, q2⟩ := tp_safe (M := M) (N := M) hh hx
    have hc := hI s k (by omega) (by omega) (by omega) (by omega)
    rw [q1, q2, s_coefficient hs (by omega)]
    simp only [Option.bind_some]
    rw [hc.1]
    have hc := hc.2
    have hm : tp_rl (tp_wl (h * x)) := tp_wl_r _
    generalize tp_wl (h * x) = m at hm
    generalize M (4 + s) k = c at hc
    have hy : tp_rl (tp_wl (m + c)) := tp_wl_r _
    have ey : tp_wl (m + c) = (m + c + 9223372036854775808) % 18446744073709551616 - 9223372036854775808 := rfl
    generalize tp_wl (m + c) = y at hy ey
    have w : tp_w ((k : Int) + -1) = (k : Int) - 1 := ho_w (by omega) (by omega)
    have ha := la_neg (lxor_r m y) (lxor_r c y)
    rw [lx_neg hm hy, lx_neg (show tp_rl c by unfold tp_rl; omega) hy] at ha
    rw [w]
    obtain ⟨r', q3, q4⟩ := key y hy
    unfold tp_rl at hm hy
    generalize tp_land (tp_lxor m y) (tp_lxor c y) = z at ha
    by_cases c0 : r = 0
    · exact ⟨-9223372036854775808, by repeat (first | rw [if_pos (by omega)] | rw [if_neg (by omega)] | simp only [Option.bind_some, not_true_eq_false, not_false_eq_true, if_true, if_false]), by repeat (first | rw [if_pos (by omega)] | rw [if_neg (by omega)] | simp only [Option.bind_some, not_true_eq_false, not_false_eq_true, if_true, if_false])⟩
    · by_cases c1 : z < 0
      · have ha := ha.mp c1
        refine ⟨-9223372036854775808, by repeat (first | rw [if_pos (by omega)] | rw [if_neg (by omega)] | simp only [Option.bind_some, not_true_eq_false, not_false_eq_true, if_true, if_false]), ?_⟩
        by_cases c2 : c ≤ 0
        · repeat (first | rw [if_pos (by omega)] | rw [if_neg (by omega)] | simp only [Option.bind_some, not_true_eq_false, not_false_eq_true, if_true, if_false])
        · repeat (first | rw [if_pos (by omega)] | rw [if_neg (by omega)] | simp only [Option.bind_some, not_true_eq_false, not_false_eq_true, if_true, if_false])
      · have ha : ¬ (¬(m < 0 ↔ y < 0) ∧ ¬(c < 0 ↔ y < 0)) := fun hq => c1 (ha.mpr hq)
        refine ⟨r', ?_, ?_⟩
        · repeat (first | rw [if_pos (by omega)] | rw [if_neg (by omega)] | simp only [Option.bind_some, not_true_eq_false, not_false_eq_true, if_true, if_false])
          exact q3
        · by_cases c2 : c ≤ 0
          · by_cases c3 : 0 ≤ c
            · repeat (first | rw [if_pos (by omega)] | rw [if_neg (by omega)] | simp only [Option.bind_some, not_true_eq_false, not_false_eq_true, if_true, if_false])
              exact q4
            · repeat (first | rw [if_pos (by omega)] | rw [if_neg (by omega)] | simp only [Option.bind_some, not_true_eq_false, not_false_eq_true, if_true, if_false])
              exact q4
          · repeat (first | rw [if_pos (by omega)] | rw [if_neg (by omega)] | simp only [Option.bind_some, not_true_eq_false, not_false_eq_true, if_true, if_false])
            exact q4
theorem ok_worth : op_worth Inv := by
  intro M hI a0 a1 r0 r1
  obtain ⟨h1, h2, h3, h4, h5⟩ := id hI
  unfold f_X10_worth f_X11_worth f_X10_isSlot f_X11_isSlot
  by_cases hs : 0 ≤ a0 ∧ a0 < 5
  · obtain ⟨r, q1, q2⟩ := s_worth h3 hs r1 9 tp_N 0 (by omega) (by unfold tp_N; omega) (by unfold tp_rl; omega)
    refine ⟨r, ?_, ?_, hI⟩
    · repeat (first | rw [if_pos (by omega)] | rw [if_neg (by omega)] | simp only [Option.bind_some, not_true_eq_false, not_false_eq_true, if_true, if_false])
      exact q1
    · repeat (first | rw [if_pos (by omega)] | rw [if_neg (by omega)] | simp only [Option.bind_some, not_true_eq_false, not_false_eq_true, if_true, if_false])
      exact q2
  · refine ⟨-9223372036854775808, ?_, ?_, hI⟩
    · by_cases c : a0 < 0
      · repeat (first | rw [if_pos (by omega)] | rw [if_neg (by omega)] | simp only [Option.bind_some, not_true_eq_false, not_false_eq_true, if_true, if_false])
      · repeat (first | rw [if_pos (by omega)] | rw [if_neg (by omega)] | simp only [Option.bind_some, not_true_eq_false, not_false_eq_true, if_true, if_false])
    · by_cases c : a0 < 0
      · repeat (first | rw [if_pos (by omega)] | rw [if_neg (by omega)] | simp only [Option.bind_some, not_true_eq_false, not_false_eq_true, if_true, if_false])
      · repeat (first | rw [if_pos (by omega)] | rw [if_neg (by omega)] | simp only [Option.bind_some, not_true_eq_false, not_false_eq_true, if_true, if_false])
