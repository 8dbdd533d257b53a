theorem tp_mulb {a b : Int} (ha : -2147483648 ≤ a ∧ a ≤ 2147483647) (hb : -9999 ≤ b ∧ b ≤ 9999) : -21474836480000 ≤ a * b ∧ a * b ≤ 21474836480000 := by
  have h1 : (a * b).natAbs ≤ 2147483648 * 9999 := by
    rw [Int.natAbs_mul]
    exact Nat.mul_le_mul (by omega) (by omega)
  omega
theorem lp_seq {σ ρ : Type} {body : (σ → Option ρ) → σ → Option ρ} {out : Option ρ} (st : Nat → σ) (n : Nat) (h1 : ∀ j, j < n → ∀ rc : σ → Option ρ, body rc (st j) = rc (st (j + 1))) (h2 : ∀ rc : σ → Option ρ, body rc (st n) = out) (N : Nat) (hN : n < N) : tp_lp body N (st 0) = out := by
  have key : ∀ (m j N : Nat), j + m = n → m < N → tp_lp body N (st j) = out := by
    intro m
    induction m with
    | zero =>
      intro j N e hN
      obtain ⟨N, rfl⟩ : ∃ k, N = k + 1 := ⟨N - 1, by omega⟩
      have : j = n := by omega
      subst this
      exact h2 _
    | succ m ih =>
      intro j N e hN
      obtain ⟨N, rfl⟩ : ∃ k, N = k + 1 := ⟨N - 1, by omega⟩
      show body _ (st j) = out
      rw [h1 j (by omega)]
      exact ih (j + 1) N (by omega) (by omega)
  exact key n 0 N (by omega) hN
theorem wr_succ0 (M : tp_M) (c : Int) (n : Nat) (g : Int → Int) : tp_up (tp_wr M c 0 n g) c n (g n) = tp_wr M c 0 ((n + 1 : Nat) : Int) g := by
  have := wr_succ M c 0 n g (by omega)
  rw [show (0 : Int) + n = n by omega] at this
  rw [this]; rfl
theorem w_succ {k : Nat} (h : k < 1000000) : tp_w ((k : Int) + 1) = ((k + 1 : Nat) : Int) := by rw [ho_w (by omega) (by omega)]; rfl
def fit (a : Int → Int) : Prop := ∀ k, 0 ≤ k → k < 9 → -9999 ≤ a k ∧ a k ≤ 9999
def fitn (a : Int → Int) (n : Nat) : Prop := ∀ k, 0 ≤ k → k < (n : Int) → -9999 ≤ a k ∧ a k ≤ 9999
theorem not_fit {a : Int → Int} (h : ¬ fit a) : ∃ n : Nat, n < 9 ∧ fitn a n ∧ ¬ (-9999 ≤ a n ∧ a n ≤ 9999) := by
  have key : ∀ n : Nat, n ≤ 9 → fitn a n ∨ ∃ m : Nat, m < n ∧ fitn a m ∧ ¬ (-9999 ≤ a m ∧ a m ≤ 9999) := by
    intro n
    induction n with
    | zero => intro _; exact Or.inl (fun k h0 h1 => absurd h1 (by omega))
    | succ n ih =>
      intro hn
      rcases ih (by omega) with h1 | ⟨m, hm, h1⟩
      · by_cases hc : -9999 ≤ a n ∧ a n ≤ 9999
        · refine Or.inl (fun k k0 k1 => ?_)
          by_cases e : k = n
          · rw [e]; exact hc
          · exact h1 k k0 (by omega)
        · exact Or.inr ⟨n, by omega, h1, hc⟩
      · exact Or.inr ⟨m, by omega, h1⟩
  rcases key 9 (by omega) with h1 | ⟨m, hm, h1⟩
  · exact absurd (fun k k0 k1 => h1 k k0 (by omega)) h
  · exact ⟨m, hm, h1⟩
set_option maxHeartbeats 4000000 in
set_option maxRecDepth 100000 in
theorem s_store1 {s : Int} {M : tp_M} (hs : 0 ≤ s ∧ s < 5) (h : fit (M 481)) : f_X10_store s M = some (1, tp_wr M (4 + s) 0 9 (M 481)) := by
  unfold f_X10_store f_X10_store_2
  refine lp_seq (fun j => (j : Int)) 9 (fun j hj rc => ?_) (fun rc => ?_) tp_N (by unfold tp_N; omega)
  · have hf := h j (by omega) (by omega)
    simp only [f_X10_store_2B, f_X10_isCoefficient, tp_lt, w_succ (show j < 1000000 by omega)]
    rw [if_neg (by omega), if_pos (by omega), if_neg (by omega), if_neg (by omega)]
    rfl
  · simp only [f_X10_store_2B]
    rw [if_pos (by omega)]
    unfold f_X10_store_30
    have e0 : (0, M) = (((0 : Nat) : Int), tp_wr M (4 + s) 0 ((0 : Nat) : Int) (M 481)) := by rw [show ((0 : Nat) : Int) = 0 from rfl, wr_zero]
    rw [e0]
    refine lp_seq (fun j => ((j : Int), tp_wr M (4 + s) 0 j (M 481))) 9 (fun j hj rc => ?_) (fun rc => ?_) tp_N (by unfold tp_N; omega)
    · have hf := h j (by omega) (by omega)
      simp only [f_X10_store_30B, tp_lt, tp_mp, w_succ (show j < 1000000 by omega)]
      rw [if_neg (by omega), if_pos (by omega), if_pos (by omega), if_pos (by omega), wr_out (c := 4 + s) (x := 481) (by omega), ho_w (by omega) (by omega), wr_succ0]
    · simp only [f_X10_store_30B]
      rw [if_pos (by omega)]; rfl
set_option maxHeartbeats 4000000 in
set_option maxRecDepth 100000 in
theorem s_store0 {s : Int} {M : tp_M} (h : ¬ fit (M 481)) : f_X10_store s M = some (0, M) := by
  obtain ⟨n, hn, h1, h2⟩ := not_fit h
  unfold f_X10_store f_X10_store_2
  refine lp_seq (fun j => (j : Int)) n (fun j hj rc => ?_) (fun rc => ?_) tp_N (by unfold tp_N; omega)
  · have hf := h1 j (by omega) (by omega)
    simp only [f_X10_store_2B, f_X10_isCoefficient, tp_lt, w_succ (show j < 1000000 by omega)]
    rw [if_neg (by omega), if_pos (by omega), if_neg (by omega), if_neg (by omega)]
    rfl
  · simp only [f_X10_store_2B, f_X10_isCoefficient, tp_lt]
    rw [if_neg (by omega), if_pos (by omega)]
    by_cases hc : M 481 n < -9999
    · rw [if_pos hc]; rfl
    · rw [if_neg hc, if_pos (by omega)]; rfl
set_option maxHeartbeats 4000000 in
set_option maxRecDepth 100000 in
theorem s_read1 {s : Int} {M : tp_M} (hs : 0 ≤ s ∧ s < 5) (h : fit (M 486)) : f_X11_takesRead s M = some (1, tp_wr M 484 (9 * s) 9 (M 486)) := by
  unfold f_X11_takesRead f_X11_takesRead_4
  refine lp_seq (fun j => ((1 : Int), (j : Int))) 9 (fun j hj rc => ?_) (fun rc => ?_) tp_N (by unfold tp_N; omega)
  · have hf := h j (by omega) (by omega)
    simp only [f_X11_takesRead_4B, f_X11_takesRead_37, f_X11_in, tp_lt, w_succ (show j < 1000000 by omega)]
    rw [if_neg (by omega), if_neg (by omega), if_pos (by omega), if_neg (by omega), if_neg (by omega)]
    rfl
  · simp only [f_X11_takesRead_4B]
    rw [if_pos (by omega)]
    unfold f_X11_takesRead_46
    have e0 : (0, M) = (((0 : Nat) : Int), tp_wr M 484 (9 * s) ((0 : Nat) : Int) (M 486)) := by rw [show ((0 : Nat) : Int) = 0 from rfl, wr_zero]
    rw [e0]
    refine lp_seq (fun j => ((j : Int), tp_wr M 484 (9 * s) j (M 486))) 9 (fun j hj rc => ?_) (fun rc => ?_) tp_N (by unfold tp_N; omega)
    · have hf := h j (by omega) (by omega)
      simp only [f_X11_takesRead_46B, tp_lt, tp_mp, w_succ (show j < 1000000 by omega)]
      rw [if_neg (by omega), if_neg (by omega), if_pos (by omega), ho_w (x := 9 * s) (by omega) (by omega), ho_w (x := 9 * s + j) (by omega) (by omega), if_pos (by omega), wr_out (c := 484) (x := 486) (by omega), ho_w (x := M 486 j) (by omega) (by omega), wr_succ _ _ _ _ _ (by omega)]
      rfl
    · simp only [f_X11_takesRead_46B]
      rw [if_pos (by omega)]
      first | rfl | simp
set_option maxHeartbeats 4000000 in
set_option maxRecDepth 100000 in
theorem s_read0 {s : Int} {M : tp_M} (h : ¬ fit (M 486)) : f_X11_takesRead s M = some (0, M) := by
  obtain ⟨n, hn, h1, h2⟩ := not_fit h
  unfold f_X11_takesRead f_X11_takesRead_4
  refine lp_seq (fun j => (if j ≤ n then (1 : Int) else 0, (j : Int))) 9 (fun j hj rc => ?_) (fun rc => ?_) tp_N (by unfold tp_N; omega)
  · simp only [f_X11_takesRead_4B, f_X11_takesRead_37, f_X11_takesRead_36, f_X11_in, tp_lt, w_succ (show j < 1000000 by omega)]
    rw [if_neg (by omega)]
    by_cases c1 : j ≤ n
    · rw [if_pos c1, if_neg (by omega), if_pos (by omega)]
      by_cases c2 : j = n
      · subst c2
        rw [if_neg (show ¬ (j + 1 ≤ j) by omega)]
        by_cases hc : M 486 j < -9999
        · rw [if_pos hc]; rfl
        · rw [if_neg hc, if_pos (by omega)]; rfl
      · have hf := h1 j (by omega) (by omega)
        rw [if_neg (by omega), if_neg (by omega), if_pos (show j + 1 ≤ n by omega)]
        rfl
    · rw [if_neg c1, if_pos rfl, if_neg (show ¬ (j + 1 ≤ n) by omega)]
  · simp only [f_X11_takesRead_4B]
    rw [if_pos (by omega), if_neg (by omega)]
    unfold f_X11_takesRead_46
    refine lp_seq (fun j => ((j : Int), M)) 0 (fun j hj rc => absurd hj (by omega)) (fun rc => ?_) tp_N (by unfold tp_N; omega)
    simp only [f_X11_takesRead_46B]
    rw [if_neg (by omega)]
    first | rfl | simp
theorem inv_store {M N : tp_M} {s : Int} (g : Int → Int) (hg : fit g) (h : Inv M) (e1 : ∀ k, 0 ≤ k → k < 9 → N (4 + s) k = g k) (e2 : ∀ k, 0 ≤ k → k < 9 → N 484 (9 * s + k) = g k) (e3 : ∀ c k, 4 ≤ c → c ≤ 8 → c ≠ 4 + s → N c k = M c k) (e4 : ∀ k, ¬ (9 * s ≤ k ∧ k < 9 * s + 9) → N 484 k = M 484 k) (e5 : ∀ c k, iset c k → c ≠ 484 → ¬ (4 ≤ c ∧ c ≤ 8) → N c k = M c k) : Inv N := by
  obtain ⟨a, b, c, d, e⟩ := h
  refine ⟨fr_prime (fun k k0 k1 => e5 _ _ (by unfold iset; omega) (by omega) (by omega)) (fun k k0 k1 => e5 _ _ (by unfold iset; omega) (by omega) (by omega)) a, fr_tape (e5 _ _ (by unfold iset; omega) (by omega) (by omega)) (e5 _ _ (by unfold iset; omega) (by omega) (by omega)) (fun i => e5 _ _ (by unfold iset; omega) (by omega) (by omega)) (fun i => e5 _ _ (by unfold iset; omega) (by omega) (by omega)) b, ?_, fun s s0 s1 => fr_sheet (fun k => e5 _ _ (by unfold iset; omega) (by omega) (by omega)) (fun k => e5 _ _ (by unfold iset; omega) (by omega) (by omega)) (e5 _ _ (by unfold iset; omega) (by omega) (by omega)) (e5 _ _ (by unfold iset; omega) (by omega) (by omega)) (fun i i0 i1 => e5 _ _ (by unfold iset; omega) (by omega) (by omega)) (d s s0 s1), fr_tree (fun c k hc => e5 _ _ (Or.inl hc) (by unfold tset at hc; omega) (by unfold tset at hc; omega)) e⟩
  intro t k t0 t1 k0 k1
  by_cases ht : t = s
  · subst ht
    rw [e1 k k0 k1, e2 k k0 k1]
    exact ⟨rfl, hg k k0 k1⟩
  · rw [e3 (4 + t) k (by omega) (by omega) (by omega), e4 _ (by omega)]
    exact c t k t0 t1 k0 k1
/-- the end of mix, times: what lies in the rows is stored by both -/
theorem s_ends {M N : tp_M} {s : Int} {g : Int → Int} (hs : 0 ≤ s ∧ s < 5) (hI : Inv M) (kx : tp_M → Option (Int × tp_M)) (km : tp_M → Option (Int × tp_M)) (hN : ∀ c k, c ≠ 481 → N c k = M c k) (hg : ∀ k, 0 ≤ k → k < 9 → N 481 k = g k)
    (hx : kx M = (f_X10_store s N).bind fun r => if r.1 = 0 then some (-3, r.2) else some (1, r.2))
    (hm : ∀ K : tp_M, (∀ c k, ¬ (4 ≤ c ∧ c ≤ 8) → c ≠ 481 → K c k = M c k) → ∃ K', (∀ c k, c ≠ 486 → K' c k = K c k) ∧ (∀ k, 0 ≤ k → k < 9 → K' 486 k = g k) ∧ km K = (f_X11_takesRead s K').bind fun r => if r.1 = 0 then some (-3, r.2) else some (1, r.2)) :
    ∃ (r : Int) (M1 : tp_M) (M2 : tp_M), kx M = some (r, M1) ∧ km M1 = some (r, M2) ∧ Inv M2 := by
  by_cases hf : fit g
  · have f1 : fit (N 481) := fun k k0 k1 => by rw [hg k k0 k1]; exact hf k k0 k1
    obtain ⟨K', q1, q2, q3⟩ := hm (tp_wr N (4 + s) 0 9 (N 481)) (fun c k h1 h2 => by rw [wr_out (by omega), hN _ _ h2])
    have f2 : fit (K' 486) := fun k k0 k1 => by rw [q2 k k0 k1]; exact hf k k0 k1
    refine ⟨1, _, _, by rw [hx, s_store1 hs f1]; rfl, by rw [q3, s_read1 hs f2]; rfl, ?_⟩
    refine inv_store (s := s) g hf hI (fun k k0 k1 => ?_) (fun k k0 k1 => ?_) (fun c k c0 c1 c2 => ?_) (fun k hk => ?_) (fun c k h1 h2 h3 => ?_)
    all_goals dsimp only
    · rw [wr_out (by omega), q1 _ _ (by omega), wr_in (by omega), show k - 0 = k by omega, hg k k0 k1]
    · rw [wr_in (by omega), show 9 * s + k - 9 * s = k by omega, q2 k k0 k1]
    · rw [wr_out (by omega), q1 _ _ (by omega), wr_out (by omega), hN _ _ (by omega)]
    · rw [wr_out (by omega), q1 _ _ (by omega), wr_out (by omega), hN _ _ (by omega)]
    · have : c ≠ 486 ∧ c ≠ 481 := by unfold iset tset at h1; omega
      rw [wr_out (by omega), q1 _ _ this.1, wr_out (by omega), hN _ _ this.2]
  · have f1 : ¬ fit (N 481) := fun h => hf (fun k k0 k1 => by rw [← hg k k0 k1]; exact h k k0 k1)
    obtain ⟨K', q1, q2, q3⟩ := hm N (fun c k h1 h2 => hN _ _ h2)
    have f2 : ¬ fit (K' 486) := fun h => hf (fun k k0 k1 => by rw [← q2 k k0 k1]; exact h k k0 k1)
    refine ⟨-3, _, _, by rw [hx, s_store0 f1]; rfl, by rw [q3, s_read0 f2]; rfl, ?_⟩
    refine fr_inv (fun c k h1 => ?_) hI
    have : c ≠ 486 ∧ c ≠ 481 := by unfold iset tset at h1; omega
    dsimp only
    rw [q1 _ _ this.1, hN _ _ this.2]
set_option maxHeartbeats 4000000 in
set_option maxRecDepth 100000 in
theorem ok_mix : op_mix Inv := by
  intro M hI a0 a1 a2 a3 a4 r0 r1 r2 r3 r4
  have hI' := hI
  obtain ⟨h1, h2, h3, h4, h5⟩ := hI
  unfold tp_r at r1 r3
  by_cases hs : (0 ≤ a0 ∧ a0 < 5) ∧ (0 ≤ a2 ∧ a2 < 5) ∧ (0 ≤ a4 ∧ a4 < 5)
  · refine s_ends (s := a4) (g := fun k => a1 * M (4 + a0) k + a3 * M (4 + a2) k) (N := tp_wr M 481 0 9 (fun k => a1 * M (4 + a0) k + a3 * M (4 + a2) k)) hs.2.2 hI' (f_X10_mix a0 a1 a2 a3 a4) (f_X11_mix a0 a1 a2 a3 a4) (fun c k hc => wr_out (by omega)) (fun k k0 k1 => by rw [wr_in (by omega), show k - 0 = k by omega]) ?_ ?_
    · unfold f_X10_mix f_X10_isSlot
      rw [if_neg (by omega), if_neg (by omega)]
      simp only [Option.bind_some]
      rw [if_neg (by omega), if_neg (by omega), if_neg (by omega)]
      simp only [Option.bind_some]
      rw [if_neg (by omega), if_neg (by omega), if_neg (by omega)]
      simp only [Option.bind_some]
      rw [if_pos (by omega)]
      unfold f_X10_mix_27
      have e0 : (0, M) = (((0 : Nat) : Int), tp_wr M 481 0 ((0 : Nat) : Int) (fun k => a1 * M (4 + a0) k + a3 * M (4 + a2) k)) := by rw [show ((0 : Nat) : Int) = 0 from rfl, wr_zero]
      rw [e0]
      refine lp_seq (fun j => ((j : Int), tp_wr M 481 0 j (fun k => a1 * M (4 + a0) k + a3 * M (4 + a2) k))) 9 (fun j hj rc => ?_) (fun rc => ?_) tp_N (by unfold tp_N; omega)
      · have q0 := (h3 a0 j (by omega) (by omega) (by omega) (by omega)).2
        have q1 := (h3 a2 j (by omega) (by omega) (by omega) (by omega)).2
        have q2 : -21474836480000 ≤ a1 * M (4 + a0) j ∧ a1 * M (4 + a0) j ≤ 21474836480000 := tp_mulb r1 q0
        have q3 : -21474836480000 ≤ a3 * M (4 + a2) j ∧ a3 * M (4 + a2) j ≤ 21474836480000 := tp_mulb r3 q1
        simp only [f_X10_mix_27B, tp_lt, tp_mp, w_succ (show j < 1000000 by omega)]
        rw [if_neg (by omega), if_pos (by omega), if_pos (by omega), if_pos (by omega), if_pos (by omega), if_pos (by omega), wr_out (c := 481) (x := 4 + a0) (by omega), wr_out (c := 481) (x := 4 + a2) (by omega), ho_wl (x := a1 * M (4 + a0) j) (by omega) (by omega), ho_wl (x := a3 * M (4 + a2) j) (by omega) (by omega), ho_wl (by omega) (by omega), ← wr_succ0]
      · simp only [f_X10_mix_27B]
        rw [if_pos (by omega)]; rfl
    · intro K hK
      refine ⟨tp_wr K 486 0 9 (fun k => a1 * M (4 + a0) k + a3 * M (4 + a2) k), fun c k hc => wr_out (by omega), fun k k0 k1 => by rw [wr_in (by omega), show k - 0 = k by omega], ?_⟩
      unfold f_X11_mix f_X11_isSlot
      rw [if_neg (by omega), if_neg (by omega)]
      simp only [Option.bind_some]
      rw [if_neg (by omega), if_neg (by omega), if_neg (by omega)]
      simp only [Option.bind_some]
      rw [if_neg (by omega), if_neg (by omega), if_neg (by omega)]
      simp only [Option.bind_some]
      rw [if_pos (by omega)]
      unfold f_X11_mix_27
      have e0 : (0, K) = (((0 : Nat) : Int), tp_wr K 486 0 ((0 : Nat) : Int) (fun k => a1 * M (4 + a0) k + a3 * M (4 + a2) k)) := by rw [show ((0 : Nat) : Int) = 0 from rfl, wr_zero]
      rw [e0]
      refine lp_seq (fun j => ((j : Int), tp_wr K 486 0 j (fun k => a1 * M (4 + a0) k + a3 * M (4 + a2) k))) 9 (fun j hj rc => ?_) (fun rc => ?_) tp_N (by unfold tp_N; omega)
      · have q0 := (h3 a0 j (by omega) (by omega) (by omega) (by omega)).2
        have q1 := (h3 a2 j (by omega) (by omega) (by omega) (by omega)).2
        have p0 := (h3 a0 j (by omega) (by omega) (by omega) (by omega)).1
        have p1 := (h3 a2 j (by omega) (by omega) (by omega) (by omega)).1
        have q2 : -21474836480000 ≤ a1 * M (4 + a0) j ∧ a1 * M (4 + a0) j ≤ 21474836480000 := tp_mulb r1 q0
        have q3 : -21474836480000 ≤ a3 * M (4 + a2) j ∧ a3 * M (4 + a2) j ≤ 21474836480000 := tp_mulb r3 q1
        simp only [f_X11_mix_27B, tp_lt, tp_mp, w_succ (show j < 1000000 by omega)]
        rw [if_neg (by omega), s_coefficient (by omega) (by omega), s_coefficient (by omega) (by omega), wr_out (c := 486) (x := 484) (by omega), wr_out (c := 486) (x := 484) (by omega), hK 484 _ (by omega) (by omega), hK 484 _ (by omega) (by omega), p0, p1]
        simp only [Option.bind_some]
        rw [if_pos (by omega), ho_wl (x := a1 * M (4 + a0) j) (by omega) (by omega), ho_wl (x := a3 * M (4 + a2) j) (by omega) (by omega), ho_wl (by omega) (by omega), ← wr_succ0]
      · simp only [f_X11_mix_27B]
        rw [if_pos (by omega)]; rfl
  · apply tw_out (f := f_X10_mix a0 a1 a2 a3 a4) (g := f_X11_mix a0 a1 a2 a3 a4)
    unfold tw f_X10_mix f_X11_mix
    simp only [tp_lt, tp_mp, f_X10_isSlot, f_X11_isSlot]
    repeat' (first
        | with_reducible refine ho_some ?_
        | with_reducible refine ho_bind' ?_
        | with_reducible refine ho_chk (by omega) ?_
        | with_reducible refine ho_nchk (by omega) ?_
        | with_reducible refine ho_chk (by simp (disch := omega) only [up_eq, up_ne, ho_w, ho_wl, ho_b]; first | done | omega) ?_
        | with_reducible refine ho_nchk (by simp (disch := omega) only [up_eq, up_ne, ho_w, ho_wl, ho_b]; first | done | omega) ?_
        | (with_reducible refine ho_ite (fun hq => ?_) (fun hq => ?_) <;> try (simp (disch := omega) only [up_eq, up_ne, ho_w, ho_wl, ho_b] at hq)))
    all_goals first
      | exact ⟨trivial, hI'⟩
      | exact ⟨rfl, hI'⟩
