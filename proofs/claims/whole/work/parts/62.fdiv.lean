def tgF (c0 : Int) : Prop := tp_tg c0 = 0 ∧ 20 ≤ c0 ∧ (∀ j, 1 ≤ j → j ≤ 19 → j ≠ 3 → tp_tg (c0 + j) = 21 ∧ tp_al (c0 + j) = 9) ∧ tp_tg (c0 + 20) = 21 ∧ tp_al (c0 + 20) = 18
theorem tgF_20 : tgF 20 := by
  refine ⟨by decide +kernel, by decide, fun j h1 h2 h3 => ?_, by decide +kernel, by decide +kernel⟩
  have h : j = 1 ∨ j = 2 ∨ j = 4 ∨ j = 5 ∨ j = 6 ∨ j = 7 ∨ j = 8 ∨ j = 9 ∨ j = 10 ∨ j = 11 ∨ j = 12 ∨ j = 13 ∨ j = 14 ∨ j = 15 ∨ j = 16 ∨ j = 17 ∨ j = 18 ∨ j = 19 := by omega
  rcases h with rfl | rfl | rfl | rfl | rfl | rfl | rfl | rfl | rfl | rfl | rfl | rfl | rfl | rfl | rfl | rfl | rfl | rfl <;> decide +kernel
theorem tgF_l {i : Int} (hi : 0 ≤ i ∧ i < 8) : tgF (312 + 21 * i) := by
  have h : i = 0 ∨ i = 1 ∨ i = 2 ∨ i = 3 ∨ i = 4 ∨ i = 5 ∨ i = 6 ∨ i = 7 := by omega
  rcases h with rfl | rfl | rfl | rfl | rfl | rfl | rfl | rfl
  all_goals
    refine ⟨by decide +kernel, by decide, fun j h1 h2 h3 => ?_, by decide +kernel, by decide +kernel⟩
    have h : j = 1 ∨ j = 2 ∨ j = 4 ∨ j = 5 ∨ j = 6 ∨ j = 7 ∨ j = 8 ∨ j = 9 ∨ j = 10 ∨ j = 11 ∨ j = 12 ∨ j = 13 ∨ j = 14 ∨ j = 15 ∨ j = 16 ∨ j = 17 ∨ j = 18 ∨ j = 19 := by omega
    rcases h with rfl | rfl | rfl | rfl | rfl | rfl | rfl | rfl | rfl | rfl | rfl | rfl | rfl | rfl | rfl | rfl | rfl | rfl <;> decide +kernel
theorem s_residue0 {M : tp_M} {c0 a p : Int} (tg : tp_tg c0 = 0) (hp : M c0 4 = p) (hp2 : 2 ≤ p ∧ p ≤ 7) : f_X0_residue c0 a M = some (a % p) := by
  subst hp
  obtain ⟨t1, t2, t3, t4⟩ := tm_em (a := a) (P := M c0 4) (by omega)
  unfold f_X0_residue
  simp only [tp_lt]
  rw [if_pos tg, if_pos (by omega), if_neg (by omega)]
  by_cases c : 0 ≤ Int.tmod a (M c0 4)
  · rw [if_pos c, t1 c]
  · rw [if_neg c, ho_w (by omega) (by omega), t2 c]
theorem s_residue1 {M : tp_M} {a p : Int} (hp : M 483 0 = p) (hp2 : 2 ≤ p ∧ p ≤ 7) : f_X11_residue a M = some (a % p) := by
  subst hp
  obtain ⟨t1, t2, t3, t4⟩ := tm_em (a := a) (P := M 483 0) (by omega)
  unfold f_X11_residue
  simp only [tp_lt]
  rw [if_neg (by omega), ho_w (x := Int.tmod a (M 483 0)) (by omega) (by omega)]
  by_cases c : 0 ≤ Int.tmod a (M 483 0)
  · rw [if_pos c, t1 c]
  · rw [if_neg c, ho_w (by omega) (by omega), t2 c]
theorem mul7 {x y : Int} (hx : 0 ≤ x ∧ x ≤ 7) (hy : 0 ≤ y ∧ y ≤ 7) : 0 ≤ x * y ∧ x * y ≤ 49 := by
  refine ⟨Int.mul_nonneg hx.1 hy.1, ?_⟩
  have h1 : (x * y).natAbs ≤ 7 * 7 := by
    rw [Int.natAbs_mul]
    exact Nat.mul_le_mul (by omega) (by omega)
  omega
theorem lack_eq {x t b p : Int} (hp : 2 ≤ p ∧ p ≤ 7) (hx : 0 ≤ x ∧ x < p) (ht : 0 ≤ t ∧ t < p) (hb : 0 ≤ b ∧ b < p) : Int.tmod (tp_w (x + tp_w ((p - t) * b))) p = (x - t * b) % p := by
  have q := mul7 (x := p - t) (y := b) (by omega) (by omega)
  rw [ho_w (x := (p - t) * b) (by omega) (by omega), ho_w (x := x + (p - t) * b) (by omega) (by omega), Int.tmod_eq_emod_of_nonneg (by omega), show x + (p - t) * b = x - t * b + p * b by rw [Int.sub_mul]; omega, Int.add_mul_emod_self_left]
set_option maxHeartbeats 4000000 in
set_option maxRecDepth 100000 in
theorem s_d69 {M : tp_M} {p c0 a b d top : Int} {f : Int → Int} {rec_24 : Int → tp_M → Option tp_M} (hP : M c0 4 = p) (hp : 2 ≤ p ∧ p ≤ 7) (hc : a ≠ c0 ∧ a ≠ b) (hal : tp_al a ≤ 100) (hd : 0 ≤ d ∧ d < tp_al b) (hal2 : tp_al b ≤ 100) (ht : d ≤ top ∧ top < tp_al a) (hf : inP p f 0 (tp_al a)) (hg : inP p (M b) 0 d) : f_X0_divide_69 rec_24 c0 a b d top (top - d) (p - f top) 0 (tp_row M a f) = rec_24 (top - 1) (tp_row M a (e1 p (M b) d top f)) := by
  unfold f_X0_divide_69
  obtain ⟨n, en⟩ : ∃ n : Nat, d = n := ⟨d.toNat, by omega⟩
  have e0 : ((0 : Int), tp_row M a f) = (((0 : Nat) : Int), tp_row M a (e1p p (M b) d top ((0 : Nat) : Int) f)) := by rw [e1p_0]; rfl
  rw [e0]
  refine lp_seq (fun j => ((j : Int), tp_row M a (e1p p (M b) d top j f))) n (fun j hj rc => ?_) (fun rc => ?_) tp_N (by unfold tp_N; omega)
  · have w := ho_w (x := top - d + j) (by omega) (by omega)
    have r1 : tp_row M a (e1p p (M b) d top j f) a (top - d + j) = f (top - d + j) := by
      rw [row_eq]; unfold e1p; rw [if_neg (by omega)]
    have r2 : tp_row M a (e1p p (M b) d top j f) b j = M b j := row_ne (by omega)
    have r3 : tp_row M a (e1p p (M b) d top j f) c0 4 = p := by rw [row_ne (by omega)]; exact hP
    have q1 := hf (top - d + j) (by omega) (by omega)
    have q2 := hf top (by omega) (by omega)
    have q3 := hg j (by omega) (by omega)
    simp only [f_X0_divide_69B, tp_lt, tp_mp, w, w_succ (show j < 1000000 by omega), r1, r2, r3, row_up]
    rw [lack_eq hp q1 q2 q3, e1p_s]
    repeat (first | rw [if_pos (by omega)] | rw [if_neg (by omega)] | simp only [Option.bind_some, not_true_eq_false, not_false_eq_true, if_true, if_false])
  · simp only [f_X0_divide_69B, f_X0_divide_108, tp_lt]
    rw [if_pos (by omega), ho_w (by omega) (by omega), e1p_d en]
    rfl
def dB24 (x0 x1 x2 x3 : Int) : (Int × tp_M → Option tp_M) → Int × tp_M → Option tp_M := fun rec_ u => f_X0_divide_24B x0 x1 x2 x3 (fun x4' M0' => rec_ (x4', M0')) u.1 u.2
set_option maxHeartbeats 4000000 in
set_option maxRecDepth 100000 in
theorem s_d24 {M : tp_M} {p c0 a b : Int} {d : Nat} (hP : M c0 4 = p) (hp : 2 ≤ p ∧ p ≤ 7) (hc : a ≠ c0 ∧ a ≠ b) (hal : tp_al a ≤ 100) (hd : (d : Int) < tp_al b) (hal2 : tp_al b ≤ 100) (hg : inP p (M b) 0 d) : ∀ (n N : Nat) (f : Int → Int), n < N → (d : Int) + n ≤ tp_al a → inP p f 0 (tp_al a) → tp_lp (dB24 c0 a b d) N ((d : Int) + n - 1, tp_row M a f) = some (tp_row M a (dv p (M b) d n f)) := by
  intro n
  induction n with
  | zero =>
    intro N f hN hn hf
    rw [lp_1 (by omega)]
    simp only [dB24, f_X0_divide_24B, tp_lt]
    rw [if_pos (by omega)]
    rfl
  | succ n ih =>
    intro N f hN hn hf
    have key := ih (N - 1) (e1 p (M b) d ((d + n : Nat) : Int) f) (by omega) (by omega) (e1_in (by omega) hf)
    rw [lp_1 (by omega)]
    generalize tp_lp (dB24 c0 a b d) (N - 1) = R at key ⊢
    have et : (d : Int) + ((n + 1 : Nat) : Int) - 1 = (d : Int) + n := by omega
    have et2 : (((d + n : Nat)) : Int) = (d : Int) + n := by omega
    rw [et2] at key
    rw [et]
    have w2 := ho_w (x := (d : Int) + n - d) (by omega) (by omega)
    have r3 : tp_row M a f c0 4 = p := by rw [row_ne (by omega)]; exact hP
    have q2 := hf ((d : Int) + n) (by omega) (by omega)
    have w3 := ho_w (x := p - f ((d : Int) + n)) (by omega) (by omega)
    have e69 := s_d69 (M := M) (p := p) (c0 := c0) (a := a) (b := b) (d := d) (top := (d : Int) + n) (f := f) (rec_24 := fun x4' M0' => R (x4', M0')) hP hp hc hal (by omega) hal2 (by omega) hf hg
    simp only [dB24, f_X0_divide_24B, tp_lt, w2, row_eq, r3, w3]
    rw [if_neg (by omega), if_pos (by omega)]
    unfold f_X0_divide_56
    show _ = some (tp_row M a (dv p (M b) d n (e1 p (M b) d ((d + n : Nat) : Int) f)))
    rw [et2]
    by_cases cz : f ((d : Int) + n) = 0
    · rw [if_neg (by omega), if_neg (by omega)]
      unfold f_X0_divide_108
      simp only [tp_lt]
      rw [ho_w (x := (d : Int) + n + -1) (by omega) (by omega), show (d : Int) + (n : Int) + -1 = (d : Int) + n - 1 by omega]
      rw [e1_z cz (fun k k0 k1 => hf k (by omega) (by omega))] at key ⊢
      exact key
    · rw [if_pos cz, if_pos (by omega), if_pos (by omega), e69]
      exact key
theorem s_divide {M : tp_M} {p c0 a b : Int} {d L : Nat} (tg0 : tp_tg c0 = 0) (tga : tp_tg a = 21) (tgb : tp_tg b = 21) (hL : tp_al a = L) (hL2 : 9 ≤ L ∧ L ≤ 18) (hb9 : tp_al b = 9) (hP : M c0 4 = p) (hp : 2 ≤ p ∧ p ≤ 7) (hc : a ≠ c0 ∧ a ≠ b) (hd : d ≤ 8) (hf : inP p (M a) 0 L) (hg : inP p (M b) 0 d) : f_X0_divide c0 a b d M = some (tp_row M a (dv p (M b) d (L - d) (M a))) := by
  unfold f_X0_divide
  simp only [tp_lt]
  rw [if_pos tg0, if_pos tga, if_pos tgb, hb9, hL, if_neg (by omega), if_neg (by omega), hP, if_pos (by omega), ho_w (x := (L : Int) - 1) (by omega) (by omega)]
  unfold f_X0_divide_24
  have := s_d24 (M := M) (p := p) (c0 := c0) (a := a) (b := b) (d := d) hP hp hc (by omega) (by omega) (by omega) hg (L - d) tp_N (M a) (by unfold tp_N; omega) (by omega) (by rw [hL]; exact hf)
  rw [row_id, show (d : Int) + ((L - d : Nat) : Int) - 1 = (L : Int) - 1 by omega] at this
  exact this
def cutz (d L : Int) (g : Int → Int) : Int → Int := fun k => if d ≤ k ∧ k < L then 0 else g k
theorem s_keepRem {M : tp_M} {p c0 a b : Int} {d L : Nat} (tg0 : tp_tg c0 = 0) (tga : tp_tg a = 21) (tgb : tp_tg b = 21) (hL : tp_al a = L) (hL2 : 9 ≤ L ∧ L ≤ 18) (hb9 : tp_al b = 9) (hP : M c0 4 = p) (hp : 2 ≤ p ∧ p ≤ 7) (hc : a ≠ c0 ∧ a ≠ b) (hd : d ≤ 8) (hf : inP p (M a) 0 L) (hg : inP p (M b) 0 d) : f_X0_keepRemainder c0 a b d M = some (tp_row M a (cutz d L (dv p (M b) d (L - d) (M a)))) := by
  unfold f_X0_keepRemainder
  rw [if_pos tg0, if_pos tga, if_pos tgb, s_divide tg0 tga tgb hL hL2 hb9 hP hp hc hd hf hg]
  simp only [Option.bind_some, tp_lt]
  rw [show max (0 : Int) (d : Int) = d by omega]
  unfold f_X0_keepRemainder_14
  generalize dv p (M b) d (L - d) (M a) = g
  have e0 : ((d : Int), tp_row M a g) = ((d : Int) + ((0 : Nat) : Int), tp_row M a (cutz d ((d : Int) + ((0 : Nat) : Int)) g)) := by
    have : cutz d ((d : Int) + ((0 : Nat) : Int)) g = g := by
      funext k; unfold cutz; rw [if_neg (by omega)]
    rw [this]
    exact congrArg (fun z => (z, tp_row M a g)) (by omega)
  rw [e0]
  refine lp_seq (fun j => ((d : Int) + j, tp_row M a (cutz d ((d : Int) + j) g))) (L - d) (fun j hj rc => ?_) (fun rc => ?_) tp_N (by unfold tp_N; omega)
  · simp only [f_X0_keepRemainder_14B, tp_lt, tp_mp, row_up]
    rw [if_neg (by omega), if_pos (by omega), ho_w (x := (d : Int) + j + 1) (by omega) (by omega)]
    have e : udS (cutz d ((d : Int) + j) g) ((d : Int) + j) 0 = cutz d ((d : Int) + ((j + 1 : Nat) : Int)) g := by
      funext k
      unfold udS cutz
      by_cases h : k = (d : Int) + j
      · rw [if_pos h, if_pos (by omega)]
      · rw [if_neg h]
        by_cases h2 : (d : Int) ≤ k ∧ k < (d : Int) + j
        · rw [if_pos h2, if_pos (by omega)]
        · rw [if_neg h2, if_neg (by omega)]
    rw [e, show (d : Int) + j + 1 = (d : Int) + ((j + 1 : Nat) : Int) by omega]
  · simp only [f_X0_keepRemainder_14B]
    rw [if_pos (by omega), show (d : Int) + ((L - d : Nat) : Int) = L by omega]
/-- the inverse of a residue -/
def iv (p v : Int) : Int := if (1 * v) % p = 1 then 1 else if (2 * v) % p = 1 then 2 else if (3 * v) % p = 1 then 3 else if (4 * v) % p = 1 then 4 else if (5 * v) % p = 1 then 5 else 6
theorem iv_spec {p v : Int} (hp : Pm p) (hv : 0 < v ∧ v < p) : 1 ≤ iv p v ∧ iv p v < p ∧ (iv p v * v) % p = 1 ∧ ∀ j : Nat, j < 7 → 1 ≤ j → (j : Int) < iv p v → ¬ ((j : Int) * v) % p = 1 := by
  unfold Pm at hp
  rcases hp with rfl | rfl | rfl | rfl
  · have h : v = 1 := by omega
    subst h; decide
  · have h : v = 1 ∨ v = 2 := by omega
    rcases h with rfl | rfl <;> decide
  · have h : v = 1 ∨ v = 2 ∨ v = 3 ∨ v = 4 := by omega
    rcases h with rfl | rfl | rfl | rfl <;> decide
  · have h : v = 1 ∨ v = 2 ∨ v = 3 ∨ v = 4 ∨ v = 5 ∨ v = 6 := by omega
    rcases h with rfl | rfl | rfl | rfl | rfl | rfl <;> decide
def mkc (p u m : Int) (r : Int → Int) : Int → Int := fun k => if 0 ≤ k ∧ k < m then (r k * u) % p else r k
set_option maxHeartbeats 4000000 in
set_option maxRecDepth 100000 in
theorem s_makeMonic {M : tp_M} {p c0 a : Int} {m : Nat} (hpm : Pm p) (tg0 : tp_tg c0 = 0) (tga : tp_tg a = 21) (h9 : tp_al a = 9) (hP : M c0 4 = p) (hc : a ≠ c0) (hm : tp_dg (M a) 9 = m) (hf : inP p (M a) 0 9) : f_X0_makeMonic c0 a M = some (tp_row M a (mkc p (iv p (M a m)) (m + 1) (M a))) := by
  have hp := pm_2 hpm
  have hr := tp_dg_r (M a) 9
  have hat := tp_dg_at (M a) 9 (by omega)
  rw [hm] at hat hr
  have hv := hf m (by omega) (by omega)
  obtain ⟨i1, i2, i3, i4⟩ := iv_spec hpm (v := M a m) (by omega)
  unfold f_X0_makeMonic
  rw [if_pos tg0, if_pos tga, s_degreeOf tga h9, hm]
  simp only [Option.bind_some]
  rw [if_pos (by omega)]
  unfold f_X0_makeMonic_12
  have e39 : f_X0_makeMonic_39 c0 a m (iv p (M a m)) M = some (tp_row M a (mkc p (iv p (M a m)) (m + 1) (M a))) := by
    unfold f_X0_makeMonic_39 f_X0_makeMonic_42
    generalize iv p (M a m) = u at *
    have e0 : ((0 : Int), M) = (((0 : Nat) : Int), tp_row M a (mkc p u ((0 : Nat) : Int) (M a))) := by
      have : mkc p u ((0 : Nat) : Int) (M a) = M a := by
        funext k; unfold mkc; rw [if_neg (by omega)]
      rw [this, row_id]; rfl
    rw [e0]
    refine lp_seq (fun j => ((j : Int), tp_row M a (mkc p u j (M a)))) (m + 1) (fun j hj rc => ?_) (fun rc => ?_) tp_N (by unfold tp_N; omega)
    · have r1 : tp_row M a (mkc p u j (M a)) a j = M a j := by
        rw [row_eq]; unfold mkc; rw [if_neg (by omega)]
      have r3 : tp_row M a (mkc p u j (M a)) c0 4 = p := by rw [row_ne (by omega)]; exact hP
      have q1 := hf j (by omega) (by omega)
      have q2 := mul7 (x := M a j) (y := u) (by omega) (by omega)
      simp only [f_X0_makeMonic_42B, tp_lt, tp_mp, r1, row_up]
      rw [if_neg (by omega), if_pos (by omega), ho_w (x := M a j * u) (by omega) (by omega), s_residue0 tg0 r3 hp]
      simp only [Option.bind_some]
      rw [if_pos (by omega), w_succ (show j < 1000000 by omega)]
      have e : udS (mkc p u j (M a)) j ((M a j * u) % p) = mkc p u ((j + 1 : Nat) : Int) (M a) := by
        funext k
        unfold udS mkc
        by_cases h : k = j
        · rw [if_pos h, if_pos (by omega), h]
        · rw [if_neg h]
          by_cases h2 : 0 ≤ k ∧ k < (j : Int)
          · rw [if_pos h2, if_pos (by omega)]
          · rw [if_neg h2, if_neg (by omega)]
      rw [e]
    · simp only [f_X0_makeMonic_42B]
      rw [if_pos (by omega), show ((m + 1 : Nat) : Int) = (m : Int) + 1 by omega]
  have e0 : (1 : Int) = ((0 : Nat) : Int) + 1 := by omega
  conv => lhs; rw [e0]
  refine lp_seq (fun j => (j : Int) + 1) (iv p (M a m) - 1).toNat (fun j hj rc => ?_) (fun rc => ?_) tp_N (by unfold tp_N; omega)
  · have q2 := mul7 (x := (j : Int) + 1) (y := M a m) (by omega) (by omega)
    have n1 := i4 (j + 1) (by omega) (by omega) (by omega)
    rw [show ((j + 1 : Nat) : Int) = (j : Int) + 1 by omega] at n1
    simp only [f_X0_makeMonic_12B, tp_lt]
    rw [if_neg (by omega), if_pos (by omega), ho_w (x := ((j : Int) + 1) * M a m) (by omega) (by omega), s_residue0 tg0 hP hp]
    simp only [Option.bind_some]
    rw [if_neg n1, ho_w (x := (j : Int) + 1 + 1) (by omega) (by omega), show (j : Int) + 1 + 1 = ((j + 1 : Nat) : Int) + 1 by omega]
  · have eu : (((iv p (M a m) - 1).toNat : Nat) : Int) + 1 = iv p (M a m) := by omega
    have q2 := mul7 (x := iv p (M a m)) (y := M a m) (by omega) (by omega)
    simp only [f_X0_makeMonic_12B, eu]
    rw [if_neg (by omega), if_pos (by omega), ho_w (x := iv p (M a m) * M a m) (by omega) (by omega), s_residue0 tg0 hP hp]
    simp only [Option.bind_some]
    rw [if_pos i3, e39]
/-- what counts of a row -/
def rd (f : Int → Int) : Int → Int := fun k => if 0 ≤ k ∧ k < 9 then f k else 0
theorem rd_in {f : Int → Int} {k : Int} (h : 0 ≤ k ∧ k < 9) : rd f k = f k := by unfold rd; rw [if_pos h]
theorem rd_out {f : Int → Int} {k : Int} (h : ¬ (0 ≤ k ∧ k < 9)) : rd f k = 0 := by unfold rd; rw [if_neg h]
theorem rd_cong {f g : Int → Int} (h : ∀ k, 0 ≤ k → k < 9 → f k = g k) : rd f = rd g := by
  funext k; unfold rd
  by_cases c : 0 ≤ k ∧ k < 9
  · rw [if_pos c, if_pos c, h k c.1 c.2]
  · rw [if_neg c, if_neg c]
theorem rd_ro {p : Int} {f : Int → Int} (h : inP p f 0 9) : Ro p (rd f) := ⟨fun k k0 k1 => by rw [rd_in ⟨k0, k1⟩]; exact h k k0 k1, fun k hk => rd_out hk⟩
theorem rd_id {p : Int} {f : Int → Int} (h : Ro p f) : rd f = f := by
  funext k
  by_cases c : 0 ≤ k ∧ k < 9
  · rw [rd_in c]
  · rw [rd_out c, h.2 k c]
theorem rd_inP {p : Int} {f : Int → Int} (h : Ro p (rd f)) : inP p f 0 9 := fun k k0 k1 => by have := h.1 k k0 k1; rw [rd_in ⟨k0, k1⟩] at this; exact this
theorem rd_dg (f : Int → Int) : tp_dg (rd f) 9 = tp_dg f 9 := tp_dg_cong 9 (fun k k0 k1 => rd_in ⟨k0, by omega⟩)
theorem ac_rd (f : Int → Int) (s : Nat → Int) (i : Nat) : ac (rd f) 9 s i = ac f 9 s i := ac_cong (fun k hk => rd_in (by omega)) s i
theorem kr_rd (p : Int) (f : Int → Int) (s : Nat → Int) : Kr p (rd f) 9 s ↔ Kr p f 9 s := by
  unfold Kr
  exact ⟨fun h i => by rw [← ac_rd]; exact h i, fun h i => by rw [ac_rd]; exact h i⟩
/-- made monic -/
theorem mk_mo {p : Int} (hp : Pm p) {r : Int → Int} {m : Nat} (hm : tp_dg r 9 = m) (hf : inP p r 0 9) : Mo p (rd (mkc p (iv p (r m)) (m + 1) r)) m ∧ ∀ s, Kr p (rd (mkc p (iv p (r m)) (m + 1) r)) 9 s ↔ Kr p r 9 s := by
  have hp2 := pm_2 hp
  have hr := tp_dg_r r 9
  have hat := tp_dg_at r 9 (by omega)
  have htop := tp_dg_top r 9
  rw [hm] at hat hr htop
  have hv := hf m (by omega) (by omega)
  obtain ⟨i1, i2, i3, i4⟩ := iv_spec hp (v := r m) (by omega)
  generalize hu : iv p (r m) = u at *
  have eq : ∀ k : Int, 0 ≤ k → k < 9 → rd (mkc p u (m + 1) r) k = (r k * u) % p := fun k k0 k1 => by
    rw [rd_in ⟨k0, k1⟩]; unfold mkc
    by_cases c : 0 ≤ k ∧ k < (m : Int) + 1
    · rw [if_pos c]
    · rw [if_neg c, htop k (by omega) (by omega), Int.zero_mul]; rfl
  refine ⟨⟨⟨fun k k0 k1 => ?_, fun k hk => rd_out hk⟩, by omega, ?_, fun k hk => ?_⟩, fun s => ?_⟩
  · rw [eq k k0 k1]; exact ⟨Int.emod_nonneg _ (by omega), Int.emod_lt_of_pos _ (by omega)⟩
  · rw [eq m (by omega) (by omega), Int.mul_comm]; exact i3
  · by_cases c : k < 9
    · rw [eq k (by omega) c, htop k hk (by omega), Int.zero_mul]; rfl
    · exact rd_out (by omega)
  · have hmd : ∀ k : Nat, k < 9 → p ∣ rd (mkc p u (m + 1) r) k - u * r k := fun k hk => by
      rw [eq k (by omega) (by omega), Int.mul_comm (r k) u]; exact md_dvd _ _
    constructor
    · intro h i
      have h1 := ac_mod (b := fun k => u * r k) hmd s i
      rw [ac_smul] at h1
      have h2 := Int.dvd_sub (h i) h1
      rw [show ac (rd (mkc p u (m + 1) r)) 9 s i - (ac (rd (mkc p u (m + 1) r)) 9 s i - u * ac r 9 s i) = u * ac r 9 s i by omega] at h2
      have h3 : p ∣ (u * r m - 1) * ac r 9 s i := Int.dvd_mul_of_dvd_left (by
        have := md_dvd (u * r m) p
        rw [i3] at this
        have := Int.dvd_neg.mpr this
        exact dvd_of this (by omega))
      have h4 : p ∣ r m * (u * ac r 9 s i) := Int.dvd_mul_of_dvd_right h2
      have h5 := Int.dvd_sub h4 h3
      refine dvd_of h5 ?_
      rw [Int.sub_mul, Int.one_mul, ← Int.mul_assoc, Int.mul_comm (r m) u]; omega
    · intro h
      exact kr_mod (b := fun k => u * r k) hmd (fun i => by rw [ac_smul]; exact Int.dvd_mul_of_dvd_right (h i))
