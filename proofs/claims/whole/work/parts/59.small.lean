theorem s_pow48 {M : tp_M} {p : Int} (rec_2 : Int → tp_M → Option (Int × tp_M)) (L : Nat) (h1 : M 1 1 = L) (hL : L ≤ 28) (hb : ∀ j : Nat, j < 29 → j ≤ L → 0 ≤ p ^ j ∧ p ^ j ≤ 400000000) : f_X4_choose_48 rec_2 p 0 (tp_up M 1 2 1) = some (1, tp_up M 1 2 (p ^ L)) := by
  unfold f_X4_choose_48
  have e0 : ((0 : Int), tp_up M 1 2 1) = (((0 : Nat) : Int), tp_up M 1 2 (p ^ 0)) := by rw [Int.pow_zero]; rfl
  rw [e0]
  refine lp_seq (fun j => ((j : Int), tp_up M 1 2 (p ^ j))) L (fun j hj rc => ?_) (fun rc => ?_) tp_N (by unfold tp_N; omega)
  · have b := hb (j + 1) (by omega) (by omega)
    rw [Int.pow_succ] at b
    simp only [f_X4_choose_48B, tp_lt, tp_mp, w_succ (show j < 1000000 by omega)]
    rw [if_neg (by rw [up_ne (by omega)]; omega), up_eq ⟨rfl, rfl⟩, ho_wl (by omega) (by omega), up_up, ← Int.pow_succ]
  · simp only [f_X4_choose_48B]
    rw [if_pos (by rw [up_ne (by omega)]; omega)]
theorem s_chooseY {x1 : Int} {M : tp_M} (i : Nat) (hi : i < 4) (hne : ∀ j : Nat, j < i → ¬ tp_primes.getD j 0 = x1) (he : tp_primes.getD i 0 = x1) (L : Nat) (hL : tp_limits.getD i 0 = L) (hL2 : L ≤ 28) (hb : ∀ j : Nat, j < 29 → j ≤ L → 0 ≤ x1 ^ j ∧ x1 ^ j ≤ 400000000) : f_X4_choose x1 M = some (1, tp_up (tp_up (tp_up M 1 0 x1) 1 1 L) 1 2 (x1 ^ L)) := by
  unfold f_X4_choose f_X4_choose_2
  refine lp_seq (fun j => ((j : Int), M)) i (fun j hj rc => ?_) (fun rc => ?_) tp_N (by unfold tp_N; omega)
  · simp only [f_X4_choose_2B, tp_lt, tp_mp, w_succ (show j < 1000000 by omega), Int.toNat_natCast]
    rw [if_neg (by omega), if_neg (by omega), if_pos (by omega), if_pos (hne j hj)]
  · simp only [f_X4_choose_2B, tp_lt, tp_mp, Int.toNat_natCast]
    rw [if_neg (by omega), if_neg (by omega), if_pos (by omega), if_neg (by rw [he]; exact fun h => h rfl), if_pos (by omega), hL]
    exact s_pow48 _ L (up_eq ⟨rfl, rfl⟩) hL2 hb
theorem s_chooseN {x1 : Int} {M : tp_M} (hne : ∀ j : Nat, j < 4 → ¬ tp_primes.getD j 0 = x1) : f_X4_choose x1 M = some (0, M) := by
  unfold f_X4_choose f_X4_choose_2
  refine lp_seq (fun j => ((j : Int), M)) 4 (fun j hj rc => ?_) (fun rc => ?_) tp_N (by unfold tp_N; omega)
  · simp only [f_X4_choose_2B, tp_lt, tp_mp, w_succ (show j < 1000000 by omega), Int.toNat_natCast]
    rw [if_neg (by omega), if_neg (by omega), if_pos (by omega), if_pos (hne j hj)]
  · simp only [f_X4_choose_2B]
    rw [if_pos (by omega)]
theorem s_lays {p : Int} {M : tp_M} (L : Nat) (hL : L ≤ 28) (hb : ∀ j : Nat, j < 29 → j ≤ L → 0 ≤ p ^ j ∧ p ^ j ≤ 400000000) : f_X11_lays p L M = some (tp_up (tp_up (tp_up (tp_up M 483 0 p) 483 1 L) 483 2 (p ^ L)) 483 18 0) := by
  unfold f_X11_lays f_X11_lays_17
  simp only [tp_mp]
  have e0 : ∀ N : tp_M, ((0 : Int), tp_up N 483 2 1) = (((0 : Nat) : Int), tp_up N 483 2 (p ^ 0)) := fun N => by rw [Int.pow_zero]; rfl
  rw [e0]
  refine lp_seq (fun j => ((j : Int), tp_up (tp_up (tp_up M 483 0 p) 483 1 L) 483 2 (p ^ j))) L (fun j hj rc => ?_) (fun rc => ?_) tp_N (by unfold tp_N; omega)
  · have b := hb (j + 1) (by omega) (by omega)
    rw [Int.pow_succ] at b
    simp only [f_X11_lays_17B, tp_lt, tp_mp, w_succ (show j < 1000000 by omega)]
    rw [if_neg (by omega), up_eq ⟨rfl, rfl⟩, ho_wl (by omega) (by omega), up_up, ← Int.pow_succ]
  · simp only [f_X11_lays_17B, tp_mp]
    rw [if_pos (by omega)]
theorem inv_prime {M N : tp_M} (hI : Inv M) (h1 : iv_prime N) (h2 : N 483 18 = 0) (h3 : ∀ k, (k = 0 ∨ k = 2 ∨ k = 3 ∨ k = 4) → N 41 k = 0) (hf : ∀ c k, ¬ (c = 1 ∨ c = 41 ∨ (c = 483 ∧ (k ≤ 2 ∨ k = 18))) → N c k = M c k) : Inv N := by
  obtain ⟨a, b, c, d, e⟩ := hI
  refine ⟨h1, fr_tape (hf _ _ (by omega)) (hf _ _ (by omega)) (fun i => hf _ _ (by omega)) (fun i => hf _ _ (by omega)) b, fr_slots (fun c k c0 c1 => hf _ _ (by omega)) (fun i => hf _ _ (by omega)) c, fun s s0 s1 => fr_sheet (fun k => hf _ _ (by omega)) (fun k => hf _ _ (by omega)) (hf _ _ (by omega)) (hf _ _ (by omega)) (fun i i0 i1 => hf _ _ (by omega)) (d s s0 s1), ?_⟩
  unfold iv_tree
  rw [h2, h3 0 (by omega), h3 2 (by omega), h3 3 (by omega), h3 4 (by omega)]
  exact ⟨rfl, Or.inl rfl, fun _ => ⟨rfl, rfl, rfl⟩, fun h => absurd h (by omega)⟩
set_option maxHeartbeats 4000000 in
set_option maxRecDepth 100000 in
theorem ok_prime1 {M : tp_M} (hI : Inv M) {p : Int} (i : Nat) (hi : i < 4) (hne : ∀ j : Nat, j < i → ¬ tp_primes.getD j 0 = p) (he : tp_primes.getD i 0 = p) (L : Nat) (hL : tp_limits.getD i 0 = L) (hL2 : L ≤ 28) (hb : ∀ j : Nat, j < 29 → j ≤ L → 0 ≤ p ^ j ∧ p ^ j ≤ 400000000) (hpr : (p = 2 ∧ (L : Int) = 28 ∧ p ^ L = 268435456) ∨ (p = 3 ∧ (L : Int) = 18 ∧ p ^ L = 387420489) ∨ (p = 5 ∧ (L : Int) = 12 ∧ p ^ L = 244140625) ∨ (p = 7 ∧ (L : Int) = 10 ∧ p ^ L = 282475249)) (hm : ∀ N, f_X11_prime p N = (f_X11_lays p L N).bind fun r => some (N 483 0, r)) : ∃ (r : Int) (M1 : tp_M) (M2 : tp_M), f_X10_prime p M = some (r, M1) ∧ f_X11_prime p M1 = some (r, M2) ∧ Inv M2 := by
  have e1 := s_chooseY (M := M) i hi hne he L hL hL2 hb
  refine ⟨M 1 0, _, _, by unfold f_X10_prime f_X9_fell; simp only [tp_lt, tp_mp, e1, Option.bind_some]; rw [if_pos (by omega)], by rw [hm, s_lays L hL2 hb]; simp only [Option.bind_some]; refine congrArg (fun z => some (z, _)) ?_; simp (disch := omega) only [up_eq, up_ne, ho_w, ho_wl, ho_b]; exact hI.1.1.1, ?_⟩
  generalize p ^ L = P at *
  refine inv_prime hI ?_ (by simp (disch := omega) only [up_eq, up_ne, ho_w, ho_wl, ho_b]) (fun k hk => ?_) (fun c k hc => by simp (disch := omega) only [up_eq, up_ne, ho_w, ho_wl, ho_b])
  · unfold iv_prime
    simp (disch := omega) only [up_eq, up_ne, ho_w, ho_wl, ho_b]
    exact ⟨⟨trivial, trivial, trivial⟩, hpr⟩
  · rcases hk with rfl | rfl | rfl | rfl <;> simp (disch := omega) only [up_eq, up_ne, ho_w, ho_wl, ho_b]
set_option maxHeartbeats 4000000 in
set_option maxRecDepth 100000 in
theorem ok_prime : op_prime Inv := by
  intro M hI a0 r0
  by_cases h2 : a0 = 2
  · subst h2
    exact ok_prime1 hI 0 (by omega) (by decide) rfl 28 rfl (by omega) (by decide +kernel) (by decide +kernel) (fun N => rfl)
  by_cases h3 : a0 = 3
  · subst h3
    exact ok_prime1 hI 1 (by omega) (by decide) rfl 18 rfl (by omega) (by decide +kernel) (by decide +kernel) (fun N => rfl)
  by_cases h5 : a0 = 5
  · subst h5
    exact ok_prime1 hI 2 (by omega) (by decide) rfl 12 rfl (by omega) (by decide +kernel) (by decide +kernel) (fun N => rfl)
  by_cases h7 : a0 = 7
  · subst h7
    exact ok_prime1 hI 3 (by omega) (by decide) rfl 10 rfl (by omega) (by decide +kernel) (by decide +kernel) (fun N => rfl)
  refine ⟨-1, M, M, ?_, ?_, hI⟩
  · unfold f_X10_prime
    rw [s_chooseN (fun j hj => ?_)]
    · rfl
    · have : j = 0 ∨ j = 1 ∨ j = 2 ∨ j = 3 := by omega
      rcases this with rfl | rfl | rfl | rfl
      · exact fun h => h2 h.symm
      · exact fun h => h3 h.symm
      · exact fun h => h5 h.symm
      · exact fun h => h7 h.symm
  · unfold f_X11_prime
    rw [if_neg h2, if_neg h3, if_neg h5, if_neg h7]
/-- folds -/
def fo (h : Nat → Int → Int) : Nat → Int → Int
  | 0, v => v
  | n + 1, v => h n (fo h n v)
theorem fo_cong {f g : Nat → Int → Int} (P : Int → Prop) {v : Int} (n : Nat) (hv : P v) (h : ∀ j v, j < n → P v → f j v = g j v ∧ P (f j v)) : fo f n v = fo g n v ∧ P (fo f n v) := by
  induction n with
  | zero => exact ⟨rfl, hv⟩
  | succ n ih =>
    obtain ⟨e, hp⟩ := ih (fun j v hj => h j v (by omega))
    have := h n (fo f n v) (by omega) hp
    refine ⟨?_, this.2⟩
    show f n (fo f n v) = g n (fo g n v)
    rw [this.1, e]
theorem fo_id {f : Nat → Int → Int} {v : Int} (n : Nat) (h : ∀ j, j < n → f j v = v) : fo f n v = v := by
  induction n with
  | zero => rfl
  | succ n ih =>
    show f n (fo f n v) = v
    rw [ih (fun j hj => h j (by omega))]; exact h n (by omega)
def hIx (M : tp_M) (j : Nat) (v : Int) : Int := tp_w (v + M (46 + 3 * (j : Int)) 5)
def hLv (M : tp_M) (j : Nat) (v : Int) : Int := max v (M (46 + 3 * (j : Int)) 0)
def hOp (M : tp_M) (j : Nat) (v : Int) : Int := if M (262 + (j : Int)) 0 ≤ 1 then v else tp_w (v + M (262 + (j : Int)) 3)
def hRa (M : tp_M) (j : Nat) (v : Int) : Int := if 1 < M (262 + (j : Int)) 0 then v else max v (M (262 + (j : Int)) 1)
set_option maxHeartbeats 4000000 in
set_option maxRecDepth 100000 in
theorem s_wholeIndex {M : tp_M} {n : Nat} (h : M 41 2 = n) (hn : n ≤ 24) : f_X9_wholeIndex M = some (fo (hIx M) n 0) := by
  unfold f_X9_wholeIndex f_X9_wholeIndex_4
  refine lp_seq (fun j => (fo (hIx M) j 0, (j : Int))) n (fun j hj rc => ?_) (fun rc => ?_) tp_N (by unfold tp_N; omega)
  · have tg := (tg_knot (i := j) (by omega)).1
    simp only [f_X9_wholeIndex_4B, f_X9_wholeIndex_29, f_X9_knotAt, tp_lt, w_succ (show j < 1000000 by omega)]
    rw [if_neg (by omega), if_neg (by omega), if_neg (by omega), if_neg (by omega), if_pos (by omega)]
    simp only [Option.bind_some]
    rw [if_neg (by omega), if_pos tg]
    rfl
  · simp only [f_X9_wholeIndex_4B]
    rw [if_pos (by omega)]
set_option maxHeartbeats 4000000 in
set_option maxRecDepth 100000 in
theorem s_greatestLevel {M : tp_M} {n : Nat} (h : M 41 2 = n) (hn : n ≤ 24) : f_X9_greatestLevel M = some (fo (hLv M) n 0) := by
  unfold f_X9_greatestLevel f_X9_greatestLevel_4
  refine lp_seq (fun j => (fo (hLv M) j 0, (j : Int))) n (fun j hj rc => ?_) (fun rc => ?_) tp_N (by unfold tp_N; omega)
  · have tg := (tg_knot (i := j) (by omega)).1
    simp only [f_X9_greatestLevel_4B, f_X9_greatestLevel_31, f_X9_knotAt, tp_lt, w_succ (show j < 1000000 by omega)]
    rw [if_neg (by omega), if_neg (by omega), if_neg (by omega), if_neg (by omega), if_pos (by omega)]
    simp only [Option.bind_some]
    rw [if_neg (by omega), if_pos tg]
    rfl
  · simp only [f_X9_greatestLevel_4B]
    rw [if_pos (by omega)]
set_option maxHeartbeats 4000000 in
set_option maxRecDepth 100000 in
theorem s_openDegree {M : tp_M} {n : Nat} (h : M 41 3 = n) (hn : n ≤ 16) : f_X9_openDegree M = some (fo (hOp M) n 0) := by
  unfold f_X9_openDegree f_X9_openDegree_4
  refine lp_seq (fun j => (fo (hOp M) j 0, (j : Int))) n (fun j hj rc => ?_) (fun rc => ?_) tp_N (by unfold tp_N; omega)
  · have tg := tg_leaf (i := j) (by omega)
    simp only [f_X9_openDegree_4B, f_X9_openDegree_37, f_X9_leafAt, tp_lt, w_succ (show j < 1000000 by omega)]
    rw [if_neg (by omega), if_neg (by omega), if_neg (by omega), if_neg (by omega), if_pos (by omega)]
    simp only [Option.bind_some]
    rw [if_neg (by omega), if_pos tg]
    simp only [fo]
    generalize fo (hOp M) j 0 = v
    unfold hOp
    by_cases c : M (262 + (j : Int)) 0 ≤ 1
    · rw [if_pos c, if_pos c]
    · rw [if_neg c, if_neg c]
  · simp only [f_X9_openDegree_4B]
    rw [if_pos (by omega)]
set_option maxHeartbeats 4000000 in
set_option maxRecDepth 100000 in
theorem s_greatestRam {M : tp_M} {n : Nat} (h : M 41 3 = n) (hn : n ≤ 16) : f_X9_greatestRamification M = some (fo (hRa M) n 0) := by
  unfold f_X9_greatestRamification f_X9_greatestRamification_4
  refine lp_seq (fun j => (fo (hRa M) j 0, (j : Int))) n (fun j hj rc => ?_) (fun rc => ?_) tp_N (by unfold tp_N; omega)
  · have tg := tg_leaf (i := j) (by omega)
    simp only [f_X9_greatestRamification_4B, f_X9_greatestRamification_39, f_X9_leafAt, tp_lt, w_succ (show j < 1000000 by omega)]
    rw [if_neg (by omega), if_neg (by omega), if_neg (by omega), if_neg (by omega), if_pos (by omega)]
    simp only [Option.bind_some]
    rw [if_neg (by omega), if_pos tg]
    simp only [fo]
    generalize fo (hRa M) j 0 = v
    unfold hRa
    by_cases c : 1 < M (262 + (j : Int)) 0
    · rw [if_pos c, if_pos c]
    · rw [if_neg c, if_neg c]
  · simp only [f_X9_greatestRamification_4B]
    rw [if_pos (by omega)]
def hl (M : tp_M) (a : Int) (j : Nat) (v : Int) : Int := if a = 3 ∧ ¬ (M 516 j = 0 ∨ M 516 j = 1) then tp_w (v + M 519 j) else if a = 4 ∧ (M 516 j = 0 ∨ M 516 j = 1) ∧ ¬ M 517 j ≤ tp_w (v + 0) then M 517 j else tp_w (v + 0)
def hk (M : tp_M) (a : Int) (j : Nat) (v : Int) : Int := if a = 2 then tp_w (v + M 502 j) else if a = 5 ∧ ¬ M 496 j ≤ tp_w (v + 0) then M 496 j else tp_w (v + 0)
def askv (M : tp_M) (a : Int) (n l : Nat) : Int := if a = 0 then M 483 21 else if a = 1 then M 483 23 else if a = 6 then M 483 63 else if a = 7 then M 483 20 else fo (hk M a) n (fo (hl M a) l 0)
set_option maxHeartbeats 4000000 in
set_option maxRecDepth 100000 in
theorem s_asked {M : tp_M} {a : Int} {n l : Nat} (h : M 483 21 = n) (hn : n ≤ 40) (h' : M 483 23 = l) (hl' : l ≤ 20) : f_X11_asked a M = some (askv M a n l) := by
  unfold f_X11_asked f_X11_asked_4
  refine lp_seq (fun j => (fo (hl M a) j 0, (j : Int))) l (fun j hj rc => ?_) (fun rc => ?_) tp_N (by unfold tp_N; omega)
  · simp only [f_X11_asked_4B, f_X11_asked_31, f_X11_asked_36, f_X11_asked_58, f_X11_asked_59, f_X11_asked_90, f_X11_asked_91, tp_lt, w_succ (show j < 1000000 by omega)]
    rw [if_neg (by omega), if_pos (by omega)]
    simp only [fo]
    generalize fo (hl M a) j 0 = v
    unfold hl
    by_cases c0 : M 516 j = 0 <;> by_cases c1 : M 516 j = 1 <;> by_cases c3 : a = 3 <;> by_cases c4 : a = 4 <;> by_cases c5 : M 517 j ≤ tp_w (v + 0) <;> first | (exfalso; omega) | (repeat (first | rw [if_pos (by omega)] | rw [if_neg (by omega)] | simp only [Option.bind_some, not_true_eq_false, not_false_eq_true, if_true, if_false]))
  · simp only [f_X11_asked_4B]
    rw [if_pos (by omega)]
    unfold f_X11_asked_100
    refine lp_seq (fun j => (fo (hk M a) j (fo (hl M a) l 0), (j : Int))) n (fun j hj rc => ?_) (fun rc => ?_) tp_N (by unfold tp_N; omega)
    · simp only [f_X11_asked_100B, f_X11_asked_124, f_X11_asked_150, f_X11_asked_151, tp_lt, w_succ (show j < 1000000 by omega)]
      rw [if_neg (by omega)]
      simp only [fo]
      generalize fo (hk M a) j (fo (hl M a) l 0) = v
      unfold hk
      by_cases c3 : a = 2 <;> by_cases c4 : a = 5 <;> by_cases c5 : M 496 j ≤ tp_w (v + 0) <;> first | (exfalso; omega) | (repeat (first | rw [if_pos (by omega)] | rw [if_neg (by omega)] | simp only [Option.bind_some, not_true_eq_false, not_false_eq_true, if_true, if_false]))
    · simp only [f_X11_asked_100B]
      rw [if_pos (by omega)]
      unfold askv
      generalize fo (hk M a) n (fo (hl M a) l 0) = v
      by_cases c0 : a = 0 <;> by_cases c1 : a = 1 <;> by_cases c6 : a = 6 <;> by_cases c7 : a = 7 <;> first | (exfalso; omega) | (repeat (first | rw [if_pos (by omega)] | rw [if_neg (by omega)] | simp only [Option.bind_some, not_true_eq_false, not_false_eq_true, if_true, if_false]))
def treev (M : tp_M) (a : Int) (n l : Nat) : Int := if a = 0 then M 41 2 else if a = 1 then M 41 3 else if a = 2 then fo (hIx M) n 0 else if a = 3 then fo (hOp M) l 0 else if a = 4 then fo (hRa M) l 0 else if a = 5 then fo (hLv M) n 0 else if a = 6 then M 41 4 else M 41 1
set_option maxHeartbeats 4000000 in
set_option maxRecDepth 100000 in
theorem s_tree {M : tp_M} {a : Int} {n l : Nat} (ha : 0 ≤ a ∧ a ≤ 7) (h1 : ¬ M 41 0 = 0) (h : M 41 2 = n) (hn : n ≤ 24) (h' : M 41 3 = l) (hl' : l ≤ 16) : f_X10_tree a M = some (treev M a n l) := by
  unfold f_X10_tree treev
  rw [if_neg (by omega), if_pos (by omega), if_pos h1, s_wholeIndex h hn, s_openDegree h' hl', s_greatestRam h' hl', s_greatestLevel h hn]
  simp only [Option.bind_some]
  have : a = 0 ∨ a = 1 ∨ a = 2 ∨ a = 3 ∨ a = 4 ∨ a = 5 ∨ a = 6 ∨ a = 7 := by omega
  rcases this with rfl | rfl | rfl | rfl | rfl | rfl | rfl | rfl <;> rfl
set_option maxHeartbeats 4000000 in
set_option maxRecDepth 100000 in
theorem tree_ask {M : tp_M} {a : Int} {n l : Nat} (ha : 0 ≤ a ∧ a ≤ 7) (ht : tr_all M) (he : tr_end M) (h : M 41 2 = n) (h' : M 41 3 = l) : treev M a n l = askv M a n l := by
  obtain ⟨hn, hk1, hs1, hl1⟩ := ht
  unfold tr_n at hn
  unfold tr_end at he
  have w0 : ∀ x : Int, -2147483648 ≤ x → x ≤ 2147483647 → tp_w (x + 0) = x := fun x a b => by rw [Int.add_zero]; exact ho_w a b
  have wr : ∀ x : Int, -2147483648 ≤ tp_w x ∧ tp_w x ≤ 2147483647 := fun x => by unfold tp_w; omega
  have lf : ∀ j : Nat, j < l → tr_leaf M j := fun j hj => hl1 j (by omega) (by omega)
  have kn : ∀ j : Nat, j < n → tr_knot M j := fun j hj => hk1 j (by omega) (by omega)
  unfold treev askv
  by_cases c0 : a = 0
  · rw [if_pos c0, if_pos c0]; omega
  rw [if_neg c0, if_neg c0]
  by_cases c1 : a = 1
  · rw [if_pos c1, if_pos c1]; omega
  rw [if_neg c1, if_neg c1]
  by_cases c6 : a = 6
  · subst c6
    rw [if_neg (by omega), if_neg (by omega), if_neg (by omega), if_neg (by omega), if_pos rfl, if_pos rfl]; omega
  by_cases c7 : a = 7
  · subst c7
    rw [if_neg (by omega), if_neg (by omega), if_neg (by omega), if_neg (by omega), if_neg (by omega), if_neg (by omega), if_pos rfl]; omega
  rw [show (if a = 6 then M 483 63 else if a = 7 then M 483 20 else fo (hk M a) n (fo (hl M a) l 0)) = fo (hk M a) n (fo (hl M a) l 0) by rw [if_neg c6, if_neg c7]]
  have z : ¬ a = 3 → ¬ a = 4 → fo (hl M a) l 0 = 0 := fun c3 c4 => fo_id l (fun j hj => by
    unfold hl
    rw [if_neg (by omega), if_neg (by omega)]; rfl)
  have z2 : ¬ a = 2 → ¬ a = 5 → ∀ v : Int, -2147483648 ≤ v → v ≤ 2147483647 → fo (hk M a) n v = v := fun c3 c4 v v0 v1 => fo_id n (fun j hj => by
    unfold hk
    rw [if_neg (by omega), if_neg (by omega)]; exact w0 v v0 v1)
  by_cases c2 : a = 2
  · rw [if_pos c2, z (by omega) (by omega)]
    exact (fo_cong (f := hIx M) (g := hk M a) (fun _ => True) n trivial (fun j v hj _ => ⟨by
      have := kn j hj
      unfold tr_knot at this
      unfold hIx hk
      rw [if_pos c2, this.2.2.2.2.2.2.2.1], trivial⟩)).1
  rw [if_neg c2]
  by_cases c3 : a = 3
  · rw [if_pos c3]
    have := fo_cong (f := hOp M) (g := hl M a) (fun v => -2147483648 ≤ v ∧ v ≤ 2147483647) (v := 0) l (by omega) (fun j v hj hv => by
      have := lf j hj
      unfold tr_leaf at this
      unfold hOp hl
      by_cases c : M (262 + (j : Int)) 0 ≤ 1
      · rw [if_pos c, if_neg (by omega), if_neg (by omega), w0 v hv.1 hv.2]
        exact ⟨rfl, hv⟩
      · rw [if_neg c, if_pos (by omega), this.2.2.2.1]
        exact ⟨rfl, wr _⟩)
    rw [z2 (by omega) (by omega) _ (by rw [← this.1]; exact this.2.1) (by rw [← this.1]; exact this.2.2)]
    exact this.1
  rw [if_neg c3]
  by_cases c4 : a = 4
  · rw [if_pos c4]
    have := fo_cong (f := hRa M) (g := hl M a) (fun v => 0 ≤ v ∧ v ≤ 8) (v := 0) l (by omega) (fun j v hj hv => by
      have := lf j hj
      unfold tr_leaf at this
      unfold hRa hl
      rw [w0 v (by omega) (by omega), this.2.1]
      by_cases c : 1 < M (262 + (j : Int)) 0
      · rw [if_pos c, if_neg (by omega), if_neg (by omega)]
        exact ⟨rfl, hv⟩
      · rw [if_neg c, if_neg (by omega)]
        by_cases c' : M (262 + (j : Int)) 1 ≤ v
        · rw [if_neg (by omega)]; omega
        · rw [if_pos (by omega)]; omega)
    rw [z2 (by omega) (by omega) _ (by rw [← this.1]; omega) (by rw [← this.1]; omega)]
    exact this.1
  rw [if_neg c4, if_pos (by omega), z (by omega) (by omega)]
  exact (fo_cong (f := hLv M) (g := hk M a) (fun v => 0 ≤ v ∧ v ≤ 6) n (by omega) (fun j v hj hv => by
    have := kn j hj
    unfold tr_knot at this
    unfold hLv hk
    rw [w0 v (by omega) (by omega), if_neg (by omega), this.1]
    by_cases c' : M (46 + 3 * (j : Int)) 0 ≤ v
    · rw [if_neg (by omega)]; omega
    · rw [if_pos (by omega)]; omega)).1
set_option maxHeartbeats 4000000 in
set_option maxRecDepth 100000 in
theorem ok_tree : op_tree Inv := by
  intro M hI a0 r0
  have hI' := hI
  obtain ⟨h1, h2, h3, h4, h5⟩ := hI
  unfold iv_tree at h5
  by_cases ha : 0 ≤ a0 ∧ a0 ≤ 7
  · by_cases hz : M 41 0 = 0
    · refine ⟨-2, ?_, ?_, hI'⟩
      · unfold f_X10_tree
        rw [if_neg (by omega), if_pos (by omega), if_neg (by omega)]
      · unfold f_X11_tree f_X11_in
        rw [if_neg (by omega), if_neg (by omega)]
        simp only [Option.bind_some]
        rw [if_pos (by omega), if_pos (by omega)]
    · have ht := h5.2.2.2 (by omega)
      have hn := ht.1.1
      unfold tr_n at hn
      obtain ⟨n, en⟩ : ∃ n : Nat, M 41 2 = n := ⟨(M 41 2).toNat, by omega⟩
      obtain ⟨l, el⟩ : ∃ n : Nat, M 41 3 = n := ⟨(M 41 3).toNat, by omega⟩
      refine ⟨treev M a0 n l, s_tree ha hz en (by omega) el (by omega), ?_, hI'⟩
      unfold f_X11_tree f_X11_in
      rw [if_neg (by omega), if_neg (by omega)]
      simp only [Option.bind_some]
      rw [if_pos (by omega), if_neg (by omega), s_asked (n := n) (l := l) (by omega) (by omega) (by omega) (by omega), tree_ask ha ht.1 ht.2 en el]
      rfl
  · refine ⟨-1, ?_, ?_, hI'⟩
    · unfold f_X10_tree
      by_cases c : a0 < 0
      · rw [if_pos c]
      · rw [if_neg c, if_neg (by omega)]
    · unfold f_X11_tree f_X11_in
      by_cases c : a0 < 0
      · rw [if_pos c]; rfl
      · rw [if_neg c, if_pos (by omega)]; rfl
