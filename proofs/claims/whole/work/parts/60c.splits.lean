set_option maxHeartbeats 4000000 in
set_option maxRecDepth 100000 in
theorem s_s34 {M : tp_M} {P : Int} {a n ky d st top : Int} {f : Int → Int} {rec_3 rec_21 : Int → tp_M → Option tp_M} (hP : M 483 2 = P) (hP2 : 0 < P ∧ P ≤ 400000000) (hd : 1 ≤ d ∧ d ≤ 24) (hk : 0 ≤ ky ∧ ky + d ≤ 369) (ht : d ≤ top ∧ top < 24) (hf : inP P f 0 (top + 1)) (hg : inP P (fun k => M 488 (ky + k)) 0 d) : f_X11_splits_34 rec_3 rec_21 a n ky d st top 0 (tp_row M 487 f) = rec_21 (top - 1) (tp_row M 487 (e1 P (fun k => M 488 (ky + k)) d top f)) := by
  unfold f_X11_splits_34
  obtain ⟨m, em⟩ : ∃ n : Nat, d = n := ⟨d.toNat, by omega⟩
  have e0 : ((0 : Int), tp_row M 487 f) = (((0 : Nat) : Int), tp_row M 487 (e1p P (fun k => M 488 (ky + k)) d top ((0 : Nat) : Int) f)) := by rw [e1p_0]; rfl
  rw [e0]
  refine lp_seq (fun j => ((j : Int), tp_row M 487 (e1p P (fun k => M 488 (ky + k)) d top j f))) m (fun j hj rc => ?_) (fun rc => ?_) tp_N (by unfold tp_N; omega)
  · have w0 := ho_w (x := top - d) (by omega) (by omega)
    have w := ho_w (x := top - d + j) (by omega) (by omega)
    have w2 := ho_w (x := ky + j) (by omega) (by omega)
    have r1 : tp_row M 487 (e1p P (fun k => M 488 (ky + k)) d top j f) 487 (top - d + j) = f (top - d + j) := by
      rw [row_eq]; unfold e1p; rw [if_neg (by omega)]
    have r1' : tp_row M 487 (e1p P (fun k => M 488 (ky + k)) d top j f) 487 top = f top := by
      rw [row_eq]; unfold e1p; rw [if_neg (by omega)]
    have r2 : tp_row M 487 (e1p P (fun k => M 488 (ky + k)) d top j f) 488 (ky + j) = M 488 (ky + j) := row_ne (by omega)
    have r3 : tp_row M 487 (e1p P (fun k => M 488 (ky + k)) d top j f) 483 2 = P := by rw [row_ne (by omega)]; exact hP
    have q1 := hf (top - d + j) (by omega) (by omega)
    have q2 := hf top (by omega) (by omega)
    have q3 := hg j (by omega) (by omega)
    simp only at q3
    have q4 := mulP (x := f top) (y := M 488 (ky + j)) (by omega) (by omega)
    simp only [f_X11_splits_34B, tp_lt, tp_mp, w0, w, w2, w_succ (show j < 1000000 by omega), r1, r1', r2, s_number (M := tp_row M 487 (e1p P (fun k => M 488 (ky + k)) d top j f)) (by rw [r3]; exact hP2), Option.bind_some, r3, row_up]
    rw [ho_wl (x := f top * M 488 (ky + j)) (by omega) (by omega), ho_wl (x := f (top - d + j) - f top * M 488 (ky + j)) (by omega) (by omega)]
    have es := e1p_s (P := P) (g := fun k => M 488 (ky + k)) (d := d) (top := top) (n := j) (c := f)
    rw [es]
    repeat (first | rw [if_pos (by omega)] | rw [if_neg (by omega)] | simp only [Option.bind_some, not_true_eq_false, not_false_eq_true, if_true, if_false])
  · simp only [f_X11_splits_34B, tp_lt]
    rw [if_pos (by omega), ho_w (by omega) (by omega), e1p_d em]
    rfl
def yB21 (rec_3 : Int → tp_M → Option tp_M) (x1 x2 x3 x4 x5 : Int) : (Int × tp_M → Option tp_M) → Int × tp_M → Option tp_M := fun rec_ u => f_X11_splits_21B rec_3 x1 x2 x3 x4 x5 (fun x6' M0' => rec_ (x6', M0')) u.1 u.2
set_option maxHeartbeats 4000000 in
set_option maxRecDepth 100000 in
theorem s_s21 {M : tp_M} {P : Int} {a n ky d st e : Int} {rec_3 : Int → tp_M → Option tp_M} (he : e ≤ 24) (hP : M 483 2 = P) (hP2 : 0 < P ∧ P ≤ 400000000) (hd : 1 ≤ d ∧ d ≤ 24) (hk : 0 ≤ ky ∧ ky + d ≤ 369) (hst : 0 ≤ st) (hg : inP P (fun k => M 488 (ky + k)) 0 d) : ∀ (m N : Nat) (f : Int → Int), m < N → st + d + m ≤ e → inP P f 0 e → tp_lp (yB21 rec_3 a n ky d st) N (st + d + m - 1, tp_row M 487 f) = rec_3 (st + d) (tp_row M 487 (pas P (fun k => M 488 (ky + k)) d st m f)) := by
  intro m
  induction m with
  | zero =>
    intro N f hN hn hf
    rw [lp_1 (by omega)]
    simp only [yB21, f_X11_splits_21B, tp_lt]
    rw [ho_w (x := st + d) (by omega) (by omega), if_pos (by omega)]
    rfl
  | succ m ih =>
    intro N f hN hn hf
    have key := ih (N - 1) (e1 P (fun k => M 488 (ky + k)) d (st + d + m) f) (by omega) (by omega) (e1_in hP2.1 hf)
    rw [lp_1 (by omega)]
    generalize tp_lp (yB21 rec_3 a n ky d st) (N - 1) = R at key ⊢
    have et : st + d + ((m + 1 : Nat) : Int) - 1 = st + d + m := by omega
    rw [et]
    have w1 := ho_w (x := st + d) (by omega) (by omega)
    have e34 := s_s34 (M := M) (P := P) (a := a) (n := n) (ky := ky) (d := d) (st := st) (top := st + d + m) (f := f) (rec_3 := rec_3) (rec_21 := fun x8' M0' => R (x8', M0')) hP hP2 hd hk (by omega) (fun k k0 k1 => hf k k0 (by omega)) hg
    simp only [yB21, f_X11_splits_21B, tp_lt, w1]
    rw [if_neg (by omega), e34]
    exact key
def yB3 (x1 x2 x3 x4 : Int) : (Int × tp_M → Option tp_M) → Int × tp_M → Option tp_M := fun rec_ u => f_X11_splits_3B x1 x2 x3 x4 (fun x5' M0' => rec_ (x5', M0')) u.1 u.2
set_option maxHeartbeats 4000000 in
set_option maxRecDepth 100000 in
theorem s_s3 {M : tp_M} {P : Int} {a n ky d : Int} (hP : M 483 2 = P) (hP2 : 0 < P ∧ P ≤ 400000000) (hd : 1 ≤ d ∧ d ≤ 24) (hk : 0 ≤ ky ∧ ky + d ≤ 369) (ha : 0 ≤ a ∧ 0 ≤ n ∧ a + n ≤ 24) (hg : inP P (fun k => M 488 (ky + k)) 0 d) : ∀ (m N : Nat) (st : Int) (f : Int → Int), m < N → a + n - st < m → 0 ≤ st → st ≤ 100 → inP P f 0 (a + n) → tp_lp (yB3 a n ky d) N (st, tp_row M 487 f) = some (tp_row M 487 (oux P (fun k => M 488 (ky + k)) d (a + n) m st f)) := by
  intro m
  induction m with
  | zero =>
    intro N st f hN hn h0 h100 hf
    rw [lp_1 (by omega)]
    simp only [yB3, f_X11_splits_3B]
    rw [ho_w (x := st + d) (by omega) (by omega), ho_w (x := a + n) (by omega) (by omega), if_pos (by omega)]
    rfl
  | succ m ih =>
    intro N st f hN hn h0 h100 hf
    rw [lp_1 (by omega)]
    have key := ih (N - 1) (st + d) (pas P (fun k => M 488 (ky + k)) d st (a + n - st - d).toNat f) (by omega) (by omega) (by omega)
    generalize tp_lp (yB3 a n ky d) (N - 1) = R at key ⊢
    simp only [yB3, f_X11_splits_3B, tp_lt]
    rw [ho_w (x := st + d) (by omega) (by omega), ho_w (x := a + n) (by omega) (by omega)]
    unfold oux
    by_cases hs : st + d < a + n
    · rw [if_neg (by omega), if_pos hs, ho_w (x := a + n - 1) (by omega) (by omega)]
      unfold f_X11_splits_21
      have e54 := s_s21 (M := M) (P := P) (a := a) (n := n) (ky := ky) (d := d) (st := st) (e := a + n) (rec_3 := fun x7' M0' => R (x7', M0')) (by omega) hP hP2 hd hk h0 hg (a + n - st - d).toNat tp_N f (by unfold tp_N; omega) (by omega) hf
      rw [show st + d + ((a + n - st - d).toNat : Int) - 1 = a + n - 1 by omega] at e54
      refine Eq.trans e54 ?_
      exact key (by omega) (pas_in hP2.1 _ hf)
    · rw [if_pos (by omega), if_neg hs]
theorem s_splits {M : tp_M} {P : Int} {a n ky d : Int} (hP : M 483 2 = P) (hP2 : 0 < P ∧ P ≤ 400000000) (hd : 1 ≤ d ∧ d ≤ 24) (hk : 0 ≤ ky ∧ ky + d ≤ 369) (ha : 0 ≤ a ∧ 0 ≤ n ∧ a + n ≤ 24) (hf : inP P (M 487) 0 (a + n)) (hg : inP P (fun k => M 488 (ky + k)) 0 d) : f_X11_splits a n ky d M = some (tp_row M 487 (oux P (fun k => M 488 (ky + k)) d (a + n) 101 a (M 487))) := by
  unfold f_X11_splits f_X11_splits_3
  have := s_s3 (M := M) (P := P) (a := a) (n := n) (ky := ky) (d := d) hP hP2 hd hk ha hg 101 tp_N a (M 487) (by unfold tp_N; omega) (by omega) (by omega) (by omega) hf
  rw [row_id] at this
  exact this
theorem iv_P {M : tp_M} (h : iv_prime M) : 0 < M 1 2 ∧ M 1 2 ≤ 400000000 ∧ M 483 2 = M 1 2 := by
  unfold iv_prime at h
  omega
theorem tg480 : tp_tg 480 = 22 ∧ tp_al 480 = 9 ∧ tp_tg 481 = 22 ∧ tp_al 481 = 18 := by decide +kernel
theorem md_in {x P : Int} (h : 0 < P) : 0 ≤ x % P ∧ x % P < P := ⟨Int.emod_nonneg _ (by omega), Int.emod_lt_of_pos _ h⟩
theorem wr_upc {M : tp_M} {c n k v a : Int} {g : Int → Int} (h : a ≠ c) : tp_up (tp_wr M c 0 n g) a k v = tp_wr (tp_up M a k v) c 0 n g := by
  funext x y
  by_cases h1 : x = a ∧ y = k
  · rw [up_eq h1, wr_out (by omega), up_eq h1]
  · rw [up_ne h1]
    by_cases h2 : x = c ∧ 0 ≤ y ∧ y < 0 + n
    · rw [wr_in h2, wr_in h2]
    · rw [wr_out h2, wr_out h2, up_ne h1]
theorem s_isMonic {M : tp_M} (h3 : iv_slots M) {s : Int} (hs : 0 ≤ s ∧ s < 5) : f_X10_isMonic s M = some (if 1 ≤ tp_dg (M (4 + s)) 9 ∧ M (4 + s) (tp_dg (M (4 + s)) 9) = 1 then 1 else 0) ∧ ∀ N : tp_M, (∀ k, N 484 k = M 484 k) → f_X11_isMonic s N = some (if 1 ≤ tp_dg (M (4 + s)) 9 ∧ M (4 + s) (tp_dg (M (4 + s)) 9) = 1 then 1 else 0) ∧ f_X11_degreeOf s N = some (tp_dg (M (4 + s)) 9) := by
  have e1 : f_X10_degreeOf (4 + s) M = some (tp_dg (M (4 + s)) 9) := s_degreeOf (tg_slot hs).1 (tg_slot hs).2
  have d1 := tp_dg_r (M (4 + s)) 9
  have e2 : ∀ N : tp_M, (∀ k, N 484 k = M 484 k) → f_X11_degreeOf s N = some (tp_dg (M (4 + s)) 9) := fun N hN => by
    rw [s_degreeOf2 hs, tp_dg_cong (b := M (4 + s)) 9 (fun k k0 k1 => by rw [hN]; exact (h3 s k hs.1 hs.2 k0 (by omega)).1)]
  have q := h3 s (tp_dg (M (4 + s)) 9) hs.1 hs.2
  refine ⟨?_, fun N hN => ⟨?_, e2 N hN⟩⟩
  · unfold f_X10_isMonic
    rw [e1]
    generalize tp_dg (M (4 + s)) 9 = x at *
    simp only [Option.bind_some]
    by_cases c : 1 ≤ x
    · by_cases c2 : M (4 + s) x = 1
      · repeat (first | rw [if_pos (by omega)] | rw [if_neg (by omega)] | simp only [Option.bind_some, not_true_eq_false, not_false_eq_true, if_true, if_false])
      · repeat (first | rw [if_pos (by omega)] | rw [if_neg (by omega)] | simp only [Option.bind_some, not_true_eq_false, not_false_eq_true, if_true, if_false])
    · repeat (first | rw [if_pos (by omega)] | rw [if_neg (by omega)] | simp only [Option.bind_some, not_true_eq_false, not_false_eq_true, if_true, if_false])
  · unfold f_X11_isMonic
    rw [e2 N hN]
    generalize tp_dg (M (4 + s)) 9 = x at *
    simp only [Option.bind_some]
    by_cases c : 1 ≤ x
    · rw [s_coefficient hs (by omega), hN, (q (by omega) (by omega)).1]
      simp only [Option.bind_some]
      by_cases c2 : M (4 + s) x = 1
      · repeat (first | rw [if_pos (by omega)] | rw [if_neg (by omega)] | simp only [Option.bind_some, not_true_eq_false, not_false_eq_true, if_true, if_false])
      · repeat (first | rw [if_pos (by omega)] | rw [if_neg (by omega)] | simp only [Option.bind_some, not_true_eq_false, not_false_eq_true, if_true, if_false])
    · repeat (first | rw [if_pos (by omega)] | rw [if_neg (by omega)] | simp only [Option.bind_some, not_true_eq_false, not_false_eq_true, if_true, if_false])
