theorem s_ml12b {W : tp_M} {P ky x y v : Int} {k j : Nat} {rec_3 : Int → tp_M → Option tp_M} {rc : Int → Int → Option tp_M} (hk : k < 9) (hj : j ≤ k) (hky : 0 ≤ ky ∧ ky + 9 ≤ 369) (hP2 : 0 < P ∧ P ≤ 400000000) (hx : 0 ≤ x ∧ x < P) (hy : 0 ≤ y ∧ y < P) (hv : 0 ≤ v ∧ v < P) (eP : W 483 2 = P) (ex : W 527 j = x) (ey : W 488 (ky + ((k : Int) - j)) = y) : f_X11_multiplies_12B rec_3 ky k W rc v j = rc ((v + x * y) % P) ((j + 1 : Nat) : Int) := by
  have q := mulP (x := x) (y := y) (by omega) (by omega)
  have b1 : -2147483648 ≤ ky + (k : Int) ∧ ky + (k : Int) ≤ 2147483647 := by omega
  have b2 : -2147483648 ≤ ky + (k : Int) - j ∧ ky + (k : Int) - j ≤ 2147483647 := by omega
  have b3 : -9223372036854775808 ≤ x * y ∧ x * y ≤ 9223372036854775807 := by omega
  have b4 : -9223372036854775808 ≤ v + x * y ∧ v + x * y ≤ 9223372036854775807 := by omega
  have g0 : ¬ (k : Int) < j := by omega
  have g1 : 0 ≤ (j : Int) ∧ (j : Int) < 9 := by omega
  have g2 : 0 ≤ ky + (k : Int) - j ∧ ky + (k : Int) - j < 369 := by omega
  have g3 : ky + (k : Int) - j = ky + ((k : Int) - j) := by omega
  have g4 : j < 1000000 := by omega
  have sr := s_number (M := W) (a := v + x * y) (by rw [eP]; exact hP2)
  rw [eP] at sr
  unfold f_X11_multiplies_12B
  dsimp only [tp_lt]
  rw [if_neg g0, if_pos g1, ho_w b1.1 b1.2, ho_w b2.1 b2.2, if_pos g2, g3, ex, ey, ho_wl b3.1 b3.2, ho_wl b4.1 b4.2, sr, Option.bind_some, w_succ g4]
theorem s_ml12 {W : tp_M} {P ky : Int} {X Y : Int → Int} {k : Nat} {rec_3 : Int → tp_M → Option tp_M} (hk : k < 9) (hky : 0 ≤ ky ∧ ky + 9 ≤ 369) (hP2 : 0 < P ∧ P ≤ 400000000) (eP : W 483 2 = P) (eX : ∀ j : Int, 0 ≤ j → j ≤ k → W 527 j = X j) (eY : ∀ j : Int, 0 ≤ j → j < 9 → W 488 (ky + j) = Y j) (iX : inP P X 0 9) (iY : inP P Y 0 9) : f_X11_multiplies_12 rec_3 ky k 0 0 W = rec_3 ((k : Int) - 1) (tp_up W 527 k (cvs X Y k 9 % P)) := by
  unfold f_X11_multiplies_12
  have e0 : ((0 : Int), (0 : Int)) = (cvs X Y k 0 % P, ((0 : Nat) : Int)) := by
    show _ = ((0 : Int) % P, _); rw [Int.zero_emod]; rfl
  rw [e0]
  refine lp_seq (fun j => (cvs X Y k j % P, (j : Int))) (k + 1) (fun j hj rc => ?_) (fun rc => ?_) tp_N (by unfold tp_N; omega)
  · have hjk : j ≤ k := by omega
    have gc : 0 ≤ (k : Int) - j ∧ (k : Int) - j < 9 := by omega
    have x1 := iX j (by omega) (by omega)
    have y1 := iY ((k : Int) - j) gc.1 gc.2
    have hb := s_ml12b (W := W) (rec_3 := rec_3) (rc := fun x3' x5' => rc (x3', x5')) hk hjk hky hP2 x1 y1 (md_in (x := cvs X Y k j) hP2.1) eP (eX j (by omega) (by omega)) (eY _ gc.1 gc.2)
    refine Eq.trans hb ?_
    have ec : cvs X Y k (j + 1) = cvs X Y k j + if 0 ≤ (k : Int) - j ∧ (k : Int) - j < 9 then X j * Y ((k : Int) - j) else 0 := rfl
    rw [Int.emod_add_emod, ec, if_pos gc]
  · have g0 : (k : Int) < ((k + 1 : Nat) : Int) := by omega
    have g1 : 0 ≤ (k : Int) ∧ (k : Int) < 9 := by omega
    simp only [f_X11_multiplies_12B, tp_mp, tp_lt]
    rw [if_pos g0, if_pos g1, ho_w (x := (k : Int) + -1) (by omega) (by omega), ← cvs_top X Y k 9 (by omega)]
    rfl
def nB3 (x1 : Int) : (Int × tp_M → Option tp_M) → Int × tp_M → Option tp_M := fun rec_ u => f_X11_multiplies_3B x1 (fun x2' M0' => rec_ (x2', M0')) u.1 u.2
theorem s_ml3 {P ky : Int} {X Y : Int → Int} (hky : 0 ≤ ky ∧ ky + 9 ≤ 369) (hP2 : 0 < P ∧ P ≤ 400000000) (iX : inP P X 0 9) (iY : inP P Y 0 9) : ∀ (n N : Nat) (W : tp_M), n ≤ 9 → n < N → W 483 2 = P → (∀ j : Int, 0 ≤ j → j < n → W 527 j = X j) → (∀ j : Int, 0 ≤ j → j < 9 → W 488 (ky + j) = Y j) → ∃ K, tp_lp (nB3 ky) N ((n : Int) - 1, W) = some K ∧ (∀ j : Int, 0 ≤ j → j < n → K 527 j = cvs X Y j 9 % P) ∧ ∀ c k, ¬ (c = 527 ∧ 0 ≤ k ∧ k < (n : Int)) → K c k = W c k := by
  intro n
  induction n with
  | zero =>
    intro N W h9 hN eP eX eY
    refine ⟨W, ?_, fun j h0 h1 => by omega, fun c k _ => rfl⟩
    rw [lp_1 (by omega)]
    simp only [nB3, f_X11_multiplies_3B]
    rw [if_pos (by omega)]
  | succ n ih =>
    intro N W h9 hN eP eX eY
    obtain ⟨K, k1, k2, k3⟩ := ih (N - 1) (tp_up W 527 n (cvs X Y n 9 % P)) (by omega) (by omega) (by rw [up_ne (by omega)]; exact eP) (fun j h0 h1 => by rw [up_ne (by omega)]; exact eX j h0 (by omega)) (fun j h0 h1 => by rw [up_ne (by omega)]; exact eY j h0 h1)
    have h12 := s_ml12 (W := W) (k := n) (rec_3 := fun x2' M0' => tp_lp (nB3 ky) (N - 1) (x2', M0')) (by omega) hky hP2 eP (fun j h0 h1 => eX j h0 (by omega)) eY iX iY
    refine ⟨K, ?_, fun j h0 h1 => ?_, fun c k hc => by rw [k3 c k (by omega), up_ne (by omega)]⟩
    · rw [lp_1 (by omega)]
      generalize tp_lp (nB3 ky) (N - 1) = Rc at k1 h12 ⊢
      simp only [nB3, f_X11_multiplies_3B]
      rw [if_neg (by omega), show ((n + 1 : Nat) : Int) - 1 = n by omega]
      exact h12.trans k1
    · by_cases c : j < n
      · exact k2 j h0 c
      · have : j = n := by omega
        rw [k3 _ _ (by omega), this, up_eq ⟨rfl, rfl⟩]
theorem s_multiplies {M : tp_M} {P ky : Int} (hP2 : 0 < P ∧ P ≤ 400000000) (hky : 0 ≤ ky ∧ ky + 9 ≤ 369) (hP : M 483 2 = P) (iX : inP P (M 527) 0 9) (iY : inP P (fun k => M 488 (ky + k)) 0 9) : ∃ K, f_X11_multiplies ky M = some K ∧ rd (K 527) = mul9 P (rd (M 527)) (rd (fun k => M 488 (ky + k))) ∧ ∀ c k, c ≠ 527 → K c k = M c k := by
  obtain ⟨K, k1, k2, k3⟩ := s_ml3 hky hP2 iX iY 9 tp_N M (by omega) (by unfold tp_N; omega) hP (fun j _ _ => rfl) (fun j _ _ => rfl)
  refine ⟨K, k1, ?_, fun c k hc => k3 c k (fun h => hc h.1)⟩
  rw [mul9_cong (X' := M 527) (Y' := fun k => M 488 (ky + k)) (fun k k0 k1 => rd_in ⟨k0, k1⟩) (fun k k0 k1 => rd_in (f := fun k => M 488 (ky + k)) ⟨k0, k1⟩)]
  funext k
  unfold mul9
  by_cases c : 0 ≤ k ∧ k < 9
  · rw [rd_in c, if_pos c, k2 k c.1 (by omega)]
  · rw [rd_out c, if_neg c]
set_option maxHeartbeats 4000000 in
set_option maxRecDepth 100000 in
theorem s_begins {M : tp_M} {P v : Int} (hP2 : 0 < P ∧ P ≤ 400000000) (hP : M 483 2 = P) : f_X11_begins v M = some (tp_wr M 527 0 9 (sc (v % P))) := by
  unfold f_X11_begins f_X11_begins_2
  have e0 : ((0 : Int), M) = (((0 : Nat) : Int), tp_wr M 527 0 ((0 : Nat) : Int) (sc (v % P))) := by rw [show ((0 : Nat) : Int) = 0 from rfl, wr_zero]
  rw [e0]
  refine lp_seq (fun j => ((j : Int), tp_wr M 527 0 j (sc (v % P)))) 9 (fun j hj rc => ?_) (fun rc => ?_) tp_N (by unfold tp_N; omega)
  · have u := wr_succ0 M 527 j (sc (v % P))
    have eP : tp_wr M 527 0 j (sc (v % P)) 483 2 = P := by rw [wr_out (fun h => absurd h.1 (by decide))]; exact hP
    have sr := s_number (M := tp_wr M 527 0 j (sc (v % P))) (a := v) (by rw [eP]; exact hP2)
    rw [eP] at sr
    simp only [f_X11_begins_2B, f_X11_begins_26, tp_mp, tp_lt]
    rw [if_neg (by omega), w_succ (show j < 1000000 by omega)]
    by_cases c : (j : Int) = 0
    · rw [if_neg (by omega), sr, Option.bind_some, if_pos (by omega)]
      have es : sc (v % P) j = v % P := by unfold sc; rw [if_pos c]
      rw [es] at u
      rw [u]
    · rw [if_pos c, if_pos (by omega)]
      have es : sc (v % P) j = 0 := by unfold sc; rw [if_neg c]
      rw [es] at u
      rw [u]
  · simp only [f_X11_begins_2B]
    rw [if_pos (by omega)]; rfl
def keyAt (M : tp_M) (i : Int) : Int → Int := rd (fun k => M 488 (9 * i + k))
theorem keyAt_cong {M N : tp_M} {i : Int} (h : ∀ k, 0 ≤ k → k < 9 → N 488 (9 * i + k) = M 488 (9 * i + k)) : keyAt N i = keyAt M i := rd_cong h
theorem mulN_succ (P : Int) (X Y : Int → Int) : ∀ n, mulN P (mul9 P X Y) Y n = mulN P X Y (n + 1) := by
  intro n
  induction n with
  | zero => rfl
  | succ n ih => show mul9 P _ Y = mul9 P _ Y; rw [ih]
def kB8 (x1 x2 x3 x4 : Int) : (Int × tp_M → Option tp_M) → Int × tp_M → Option tp_M := fun rec_ u => f_X11_laysKey_8B x1 x2 x3 x4 (fun x5' M0' => rec_ (x5', M0')) u.1 u.2
theorem s_lk8 {P to kn sd rt e : Int} {Y : Int → Int} (hP2 : 0 < P ∧ P ≤ 400000000) (hkn : 0 ≤ kn ∧ kn < 40) (hsd : 0 ≤ sd ∧ sd < 64) (he : e ≤ 1000) (hY : Ro P Y) : ∀ (m N : Nat) (x5 : Int) (M : tp_M), m < N → (e - x5).toNat = m → 0 ≤ x5 → x5 ≤ 1000 → M 483 2 = P → M 511 sd = e → keyAt M kn = Y → Ro P (rd (M 527)) → ∃ K, tp_lp (kB8 to kn sd rt) N (x5, M) = f_X11_laysKey_36 to sd rt 0 K ∧ rd (K 527) = mulN P (rd (M 527)) Y m ∧ ∀ c k, c ≠ 527 → K c k = M c k := by
  intro m
  induction m with
  | zero =>
    intro N x5 M hN hm h0 h1 hP h511 hK hR
    refine ⟨M, ?_, rfl, fun c k _ => rfl⟩
    rw [lp_1 (by omega)]
    simp only [kB8, f_X11_laysKey_8B]
    rw [if_pos hsd, if_pos (show M 511 sd ≤ x5 by rw [h511]; omega)]
  | succ m ih =>
    intro N x5 M hN hm h0 h1 hP h511 hK hR
    have iY : inP P (fun k => M 488 (9 * kn + k)) 0 9 := rd_inP (by have : rd (fun k => M 488 (9 * kn + k)) = Y := hK; rw [this]; exact hY)
    obtain ⟨K1, a1, a2, a3⟩ := s_multiplies (M := M) (P := P) (ky := 9 * kn) hP2 (by omega) hP (rd_inP hR) iY
    have a2' : rd (K1 527) = mul9 P (rd (M 527)) Y := by rw [a2]; have : rd (fun k => M 488 (9 * kn + k)) = Y := hK; rw [this]
    obtain ⟨K, k1, k2, k3⟩ := ih (N - 1) (x5 + 1) K1 (by omega) (by omega) (by omega) (by omega) (by rw [a3 _ _ (by decide)]; exact hP) (by rw [a3 _ _ (by decide)]; exact h511) (by rw [← hK]; exact keyAt_cong (fun k _ _ => a3 _ _ (by decide))) (by rw [a2']; exact mul9_ro hP2.1 _ _)
    rw [a2', mulN_succ] at k2
    refine ⟨K, ?_, k2, fun c k hc => by rw [k3 c k hc, a3 c k hc]⟩
    rw [lp_1 (by omega)]
    generalize tp_lp (kB8 to kn sd rt) (N - 1) = Rc at k1 ⊢
    simp only [kB8, f_X11_laysKey_8B, tp_lt]
    rw [if_pos hsd, if_neg (show ¬ M 511 sd ≤ x5 by rw [h511]; omega), ho_w (x := 9 * kn) (by omega) (by omega), a1, Option.bind_some, ho_w (x := x5 + 1) (by omega) (by omega)]
    exact k1
theorem s_lk36 {M : tp_M} {to sd rt : Int} (hto : 0 ≤ to ∧ to < 40) : f_X11_laysKey_36 to sd rt 0 M = (f_X11_begins rt (tp_wr M 488 (9 * to) 9 (M 527))).bind fun r5 => f_X11_laysKey_78 to sd 0 r5 := by
  unfold f_X11_laysKey_36
  have e0 : ((0 : Int), M) = (((0 : Nat) : Int), tp_wr M 488 (9 * to) ((0 : Nat) : Int) (M 527)) := by rw [show ((0 : Nat) : Int) = 0 from rfl, wr_zero]
  rw [e0]
  refine lp_seq (fun j => ((j : Int), tp_wr M 488 (9 * to) j (M 527))) 9 (fun j hj rc => ?_) (fun rc => ?_) tp_N (by unfold tp_N; omega)
  · have u := wr_succ M 488 (9 * to) j (M 527) (by omega)
    rw [show (j : Int) + 1 = ((j + 1 : Nat) : Int) by omega] at u
    simp only [f_X11_laysKey_36B, tp_mp, tp_lt]
    rw [if_neg (by omega), if_pos (by omega), ho_w (x := 9 * to) (by omega) (by omega), ho_w (x := 9 * to + j) (by omega) (by omega), if_pos (by omega), wr_out (x := 527) (by omega), u, w_succ (show j < 1000000 by omega)]
  · simp only [f_X11_laysKey_36B]
    rw [if_pos (by omega)]; rfl
def kB78 (x1 x3 : Int) : (Int × tp_M → Option tp_M) → Int × tp_M → Option tp_M := fun rec_ u => f_X11_laysKey_78B x1 x3 (fun x5' M0' => rec_ (x5', M0')) u.1 u.2
theorem s_lk95 {M : tp_M} {P p v to sd x5 : Int} {rec_78 : Int → tp_M → Option tp_M} (hP2 : 0 < P ∧ P ≤ 400000000) (hp2 : 2 ≤ p ∧ p ≤ 7) (hP : M 483 2 = P) (hp : M 483 0 = p) (hv : 0 ≤ v ∧ v < P) (h527 : ∀ k, 0 ≤ k → k < 9 → M 527 k = sc v k) : f_X11_laysKey_95 rec_78 to sd x5 0 M = rec_78 (tp_w (x5 + 1)) (tp_wr M 527 0 9 (sc (v * p % P))) := by
  unfold f_X11_laysKey_95
  have e0 : ((0 : Int), M) = (((0 : Nat) : Int), tp_wr M 527 0 ((0 : Nat) : Int) (sc (v * p % P))) := by rw [show ((0 : Nat) : Int) = 0 from rfl, wr_zero]
  rw [e0]
  refine lp_seq (fun j => ((j : Int), tp_wr M 527 0 j (sc (v * p % P)))) 9 (fun j hj rc => ?_) (fun rc => ?_) tp_N (by unfold tp_N; omega)
  · have u := wr_succ0 M 527 j (sc (v * p % P))
    have g0 : ¬ (9 : Int) ≤ j := by omega
    have g1 : 0 ≤ (j : Int) ∧ (j : Int) < 9 := by omega
    have q := mulP (x := v) (y := p) (by omega) (by omega)
    have b1 : -9223372036854775808 ≤ sc v j * p ∧ sc v j * p ≤ 9223372036854775807 := by
      unfold sc
      by_cases c : (j : Int) = 0
      · rw [if_pos c]; omega
      · rw [if_neg c, Int.zero_mul]; omega
    have es : sc v j * p % P = sc (v * p % P) j := by
      unfold sc
      by_cases c : (j : Int) = 0
      · rw [if_pos c, if_pos c]
      · rw [if_neg c, if_neg c, Int.zero_mul, Int.zero_emod]
    have g4 : j < 1000000 := by omega
    have gj := h527 j (by omega) (by omega)
    generalize hW : tp_wr M 527 0 j (sc (v * p % P)) = W at *
    have e1 : W 527 j = sc v j := by rw [← hW, wr_out (by omega)]; exact gj
    have e2 : W 483 0 = p := by rw [← hW, wr_out (fun h => absurd h.1 (by decide))]; exact hp
    have e3 : W 483 2 = P := by rw [← hW, wr_out (fun h => absurd h.1 (by decide))]; exact hP
    have sr := s_number (M := W) (a := sc v j * p) (by rw [e3]; exact hP2)
    rw [e3, es] at sr
    simp only [f_X11_laysKey_95B, tp_mp, tp_lt]
    rw [if_neg g0, if_pos g1, e1, e2, ho_wl b1.1 b1.2, sr, Option.bind_some, if_pos g1, u, w_succ g4]
  · simp only [f_X11_laysKey_95B, tp_lt]
    rw [if_pos (by omega)]; rfl
theorem pow_md (v p P : Int) (n : Nat) : (v * p ^ n % P) * p % P = v * p ^ (n + 1) % P := by
  rw [Int.pow_succ, ← Int.mul_assoc, Int.mul_emod (v * p ^ n % P) p, Int.emod_emod, ← Int.mul_emod]
theorem s_lk78 {P p to sd s v : Int} (hP2 : 0 < P ∧ P ≤ 400000000) (hp2 : 2 ≤ p ∧ p ≤ 7) (hsd : 0 ≤ sd ∧ sd < 64) (hs : s ≤ 10000) : ∀ (m N n : Nat) (M : tp_M), m < N → (s - n).toNat = m → n ≤ 10000 → M 483 2 = P → M 483 0 = p → M 514 (7 * sd) = s → rd (M 527) = sc (v * p ^ n % P) → ∃ K, tp_lp (kB78 to sd) N ((n : Int), M) = f_X11_laysKey_141 to sd 1 K ∧ rd (K 527) = sc (v * p ^ (n + m) % P) ∧ ∀ c k, c ≠ 527 → K c k = M c k := by
  intro m
  induction m with
  | zero =>
    intro N n M hN hm hn hP hp h514 h527
    refine ⟨M, ?_, h527, fun c k _ => rfl⟩
    rw [lp_1 (by omega)]
    simp only [kB78, f_X11_laysKey_78B]
    rw [ho_w (x := 7 * sd) (by omega) (by omega), if_pos (by omega), h514, if_pos (by omega)]
  | succ m ih =>
    intro N n M hN hm hn hP hp h514 h527
    obtain ⟨K, k1, k2, k3⟩ := ih (N - 1) (n + 1) (tp_wr M 527 0 9 (sc (v * p ^ n % P * p % P))) (by omega) (by omega) (by omega) (by rw [wr_out (fun h => absurd h.1 (by decide))]; exact hP) (by rw [wr_out (fun h => absurd h.1 (by decide))]; exact hp) (by rw [wr_out (fun h => absurd h.1 (by decide))]; exact h514) (by
      rw [pow_md]
      funext k
      by_cases c : 0 ≤ k ∧ k < 9
      · rw [rd_in c, wr_in (by omega), show k - 0 = k by omega]
      · rw [rd_out c]; unfold sc; rw [if_neg (by omega)])
    have h95 := s_lk95 (M := M) (P := P) (p := p) (v := v * p ^ n % P) (to := to) (sd := sd) (x5 := n) (rec_78 := fun x5' M0' => tp_lp (kB78 to sd) (N - 1) (x5', M0')) hP2 hp2 hP hp (md_in hP2.1) (fun k k0 k1 => by rw [← h527, rd_in ⟨k0, k1⟩])
    refine ⟨K, ?_, by rw [k2, show n + (m + 1) = n + 1 + m by omega], fun c k hc => by rw [k3 c k hc, wr_out (fun h => hc h.1)]⟩
    rw [lp_1 (by omega)]
    generalize tp_lp (kB78 to sd) (N - 1) = Rc at k1 h95 ⊢
    simp only [kB78, f_X11_laysKey_78B]
    rw [ho_w (x := 7 * sd) (by omega) (by omega), if_pos (by omega), h514, if_neg (by omega), h95, w_succ (show n < 1000000 by omega)]
    exact k1
def kB153 (rec_141 : Int → tp_M → Option tp_M) (x1 x3 x5 : Int) : (Int × tp_M → Option tp_M) → Int × tp_M → Option tp_M := fun rec_ u => f_X11_laysKey_153B rec_141 x1 x3 x5 (fun x6' M0' => rec_ (x6', M0')) u.1 u.2
theorem s_lk153 {P to sd lv kn t : Int} {Y : Int → Int} {rec_141 : Int → tp_M → Option tp_M} (hP2 : 0 < P ∧ P ≤ 400000000) (hsd : 0 ≤ sd ∧ sd < 64) (hlv : 1 ≤ lv ∧ lv ≤ 6) (hkn : 0 ≤ kn ∧ kn < 40) (ht : t ≤ 1000) (hY : Ro P Y) : ∀ (m N : Nat) (x6 : Int) (M : tp_M), m < N → (t - x6).toNat = m → 0 ≤ x6 → x6 ≤ 1000 → M 483 2 = P → M 514 (7 * sd + lv) = t → M 524 lv = kn → keyAt M kn = Y → Ro P (rd (M 527)) → ∃ K, tp_lp (kB153 rec_141 to sd lv) N (x6, M) = rec_141 (lv + 1) K ∧ rd (K 527) = mulN P (rd (M 527)) Y m ∧ ∀ c k, c ≠ 527 → K c k = M c k := by
  intro m
  induction m with
  | zero =>
    intro N x6 M hN hm h0 h1 hP h514 h524 hK hR
    refine ⟨M, ?_, rfl, fun c k _ => rfl⟩
    rw [lp_1 (by omega)]
    simp only [kB153, f_X11_laysKey_153B, tp_lt]
    rw [ho_w (x := 7 * sd) (by omega) (by omega), ho_w (x := 7 * sd + lv) (by omega) (by omega), if_pos (by omega), if_pos (show M 514 (7 * sd + lv) ≤ x6 by rw [h514]; omega), ho_w (x := lv + 1) (by omega) (by omega)]
  | succ m ih =>
    intro N x6 M hN hm h0 h1 hP h514 h524 hK hR
    have hK' : rd (fun k => M 488 (9 * kn + k)) = Y := hK
    obtain ⟨K1, a1, a2, a3⟩ := s_multiplies (M := M) (P := P) (ky := 9 * kn) hP2 (by omega) hP (rd_inP hR) (rd_inP (by rw [hK']; exact hY))
    rw [hK'] at a2
    obtain ⟨K, k1, k2, k3⟩ := ih (N - 1) (x6 + 1) K1 (by omega) (by omega) (by omega) (by omega) (by rw [a3 _ _ (by decide)]; exact hP) (by rw [a3 _ _ (by decide)]; exact h514) (by rw [a3 _ _ (by decide)]; exact h524) (by rw [← hK]; exact keyAt_cong (fun k _ _ => a3 _ _ (by decide))) (by rw [a2]; exact mul9_ro hP2.1 _ _)
    rw [a2, mulN_succ] at k2
    refine ⟨K, ?_, k2, fun c k hc => by rw [k3 c k hc, a3 c k hc]⟩
    rw [lp_1 (by omega)]
    generalize tp_lp (kB153 rec_141 to sd lv) (N - 1) = Rc at k1 ⊢
    simp only [kB153, f_X11_laysKey_153B, tp_lt]
    rw [ho_w (x := 7 * sd) (by omega) (by omega), ho_w (x := 7 * sd + lv) (by omega) (by omega), if_pos (by omega), if_neg (show ¬ M 514 (7 * sd + lv) ≤ x6 by rw [h514]; omega), if_pos (by omega), h524, ho_w (x := 9 * kn) (by omega) (by omega), a1, Option.bind_some, ho_w (x := x6 + 1) (by omega) (by omega)]
    exact k1
def kB141 (x1 x3 : Int) : (Int × tp_M → Option tp_M) → Int × tp_M → Option tp_M := fun rec_ u => f_X11_laysKey_141B x1 x3 (fun x5' M0' => rec_ (x5', M0')) u.1 u.2
theorem s_lk141 {P to sd r : Int} {q : Int → Int → Int} {t kn : Int → Int} {X : Int → Int} (hP2 : 0 < P ∧ P ≤ 400000000) (hsd : 0 ≤ sd ∧ sd < 64) (hr : 1 ≤ r ∧ r ≤ 6) (hq : ∀ k, 1 ≤ k → k < r → Ro P (q k)) (ht : ∀ k, 1 ≤ k → k < r → t k ≤ 1000) (hkn : ∀ k, 1 ≤ k → k < r → 0 ≤ kn k ∧ kn k < 40) (hX : Ro P X) : ∀ (m N n : Nat) (M : tp_M), m < N → (n : Int) + m + 1 = r → M 483 2 = P → M 483 49 = r → (∀ k, 1 ≤ k → k < r → M 524 k = kn k ∧ keyAt M (kn k) = q k) → (∀ k, 1 ≤ k → k < r → M 514 (7 * sd + k) = t k) → rd (M 527) = fcN P q t X n → ∃ K, tp_lp (kB141 to sd) N ((n : Int) + 1, M) = f_X11_laysKey_199 to 0 K ∧ rd (K 527) = fcN P q t X (n + m) ∧ ∀ c k, c ≠ 527 → K c k = M c k := by
  intro m
  induction m with
  | zero =>
    intro N n M hN hn hP hd hqM htM hF
    refine ⟨M, ?_, hF, fun c k _ => rfl⟩
    rw [lp_1 (by omega)]
    simp only [kB141, f_X11_laysKey_141B, hd]
    rw [if_pos (by omega)]
  | succ m ih =>
    intro N n M hN hn hP hd hqM htM hF
    have n1 : 1 ≤ (n : Int) + 1 := by omega
    have n2 : (n : Int) + 1 < r := by omega
    obtain ⟨K1, a1, a2, a3⟩ := s_lk153 (P := P) (to := to) (sd := sd) (lv := (n : Int) + 1) (kn := kn ((n : Int) + 1)) (t := t ((n : Int) + 1)) (Y := q ((n : Int) + 1)) (rec_141 := fun x5' M0' => tp_lp (kB141 to sd) (N - 1) (x5', M0')) hP2 hsd (by omega) (hkn _ n1 n2) (ht _ n1 n2) (hq _ n1 n2) (t ((n : Int) + 1)).toNat tp_N 0 M (by have := ht _ n1 n2; unfold tp_N; omega) (by omega) (by omega) (by omega) hP (htM _ n1 n2) (hqM _ n1 n2).1 (hqM _ n1 n2).2 (by rw [hF]; exact fcN_ro hP2.1 hX n)
    rw [hF] at a2
    obtain ⟨K, k1, k2, k3⟩ := ih (N - 1) (n + 1) K1 (by omega) (by omega) (by rw [a3 _ _ (by decide)]; exact hP) (by rw [a3 _ _ (by decide)]; exact hd) (fun k h1 h2 => ⟨by rw [a3 _ _ (by decide)]; exact (hqM k h1 h2).1, by rw [← (hqM k h1 h2).2]; exact keyAt_cong (fun j _ _ => a3 _ _ (by decide))⟩) (fun k h1 h2 => by rw [a3 _ _ (by decide)]; exact htM k h1 h2) a2
    refine ⟨K, ?_, by rw [k2, show n + (m + 1) = n + 1 + m by omega], fun c k hc => by rw [k3 c k hc, a3 c k hc]⟩
    rw [lp_1 (by omega)]
    generalize tp_lp (kB141 to sd) (N - 1) = Rc at k1 a1 ⊢
    simp only [kB141, f_X11_laysKey_141B, hd]
    rw [if_neg (by omega)]
    refine Eq.trans a1 ?_
    rw [show ((n + 1 : Nat) : Int) + 1 = (n : Int) + 1 + 1 by omega] at k1
    exact k1
theorem s_lk199 {M : tp_M} {P to : Int} (hP2 : 0 < P ∧ P ≤ 400000000) (hto : 0 ≤ to ∧ to < 40) (hP : M 483 2 = P) (iK : inP P (fun k => M 488 (9 * to + k)) 0 9) (iF : inP P (M 527) 0 9) : f_X11_laysKey_199 to 0 M = some (tp_wr M 488 (9 * to) 9 (fun k => (M 488 (9 * to + k) - M 527 k) % P)) := by
  unfold f_X11_laysKey_199
  have e0 : ((0 : Int), M) = (((0 : Nat) : Int), tp_wr M 488 (9 * to) ((0 : Nat) : Int) (fun k => (M 488 (9 * to + k) - M 527 k) % P)) := by rw [show ((0 : Nat) : Int) = 0 from rfl, wr_zero]
  rw [e0]
  refine lp_seq (fun j => ((j : Int), tp_wr M 488 (9 * to) j (fun k => (M 488 (9 * to + k) - M 527 k) % P))) 9 (fun j hj rc => ?_) (fun rc => ?_) tp_N (by unfold tp_N; omega)
  · have u := wr_succ M 488 (9 * to) j (fun k => (M 488 (9 * to + k) - M 527 k) % P) (by omega)
    rw [show (j : Int) + 1 = ((j + 1 : Nat) : Int) by omega] at u
    have z1 := iK j (by omega) (by omega)
    have z2 := iF j (by omega) (by omega)
    simp only at z1
    have b1 : -9223372036854775808 ≤ M 488 (9 * to + j) - M 527 j ∧ M 488 (9 * to + j) - M 527 j ≤ 9223372036854775807 := by omega
    have b2 : -2147483648 ≤ 9 * to ∧ 9 * to ≤ 2147483647 := by omega
    have b3 : -2147483648 ≤ 9 * to + (j : Int) ∧ 9 * to + (j : Int) ≤ 2147483647 := by omega
    have g0 : ¬ (9 : Int) ≤ j := by omega
    have g1 : 0 ≤ 9 * to + (j : Int) ∧ 9 * to + (j : Int) < 369 := by omega
    have g2 : 0 ≤ (j : Int) ∧ (j : Int) < 9 := by omega
    have g4 : j < 1000000 := by omega
    have g5 : ¬ ((488 : Int) = 488 ∧ 9 * to ≤ 9 * to + (j : Int) ∧ 9 * to + (j : Int) < 9 * to + j) := by omega
    generalize hW : tp_wr M 488 (9 * to) j (fun k => (M 488 (9 * to + k) - M 527 k) % P) = W at *
    have e1 : W 488 (9 * to + j) = M 488 (9 * to + j) := by rw [← hW, wr_out g5]
    have e2 : W 527 j = M 527 j := by rw [← hW, wr_out (fun h => absurd h.1 (by decide))]
    have e3 : W 483 2 = P := by rw [← hW, wr_out (fun h => absurd h.1 (by decide))]; exact hP
    have sr := s_number (M := W) (a := M 488 (9 * to + j) - M 527 j) (by rw [e3]; exact hP2)
    rw [e3] at sr
    simp only [f_X11_laysKey_199B, tp_mp, tp_lt]
    rw [if_neg g0, ho_w b2.1 b2.2, ho_w b3.1 b3.2, if_pos g1, if_pos g2, e1, e2, ho_wl b1.1 b1.2, sr, Option.bind_some, if_pos g1, u, w_succ g4]
  · simp only [f_X11_laysKey_199B]
    rw [if_pos (by omega)]; rfl
/-- a factor c goes through -/
def lin (P c : Int) (A B : Int → Int) : Prop := ∀ k, 0 ≤ k → k < 9 → A k = c * B k % P
theorem cvs_lin {P c : Int} {A B : Int → Int} (h : lin P c A B) (Y : Int → Int) (k : Int) : ∀ n : Nat, n ≤ 9 → P ∣ cvs A Y k n - c * cvs B Y k n := by
  intro n
  induction n with
  | zero => intro _; exact ⟨0, by show 0 - c * 0 = P * 0; omega⟩
  | succ n ih =>
    intro hn
    have h1 := ih (by omega)
    unfold cvs
    by_cases cc : 0 ≤ k - n ∧ k - n < 9
    · rw [if_pos cc, if_pos cc]
      have h2 : P ∣ (A n - c * B n) * Y (k - n) := Int.dvd_mul_of_dvd_left (by
        rw [h n (by omega) (by omega)]; exact md_dvd _ _)
      have h3 := Int.dvd_add h1 h2
      refine dvd_of h3 ?_
      rw [Int.mul_add, Int.sub_mul, Int.mul_assoc]; omega
    · rw [if_neg cc, if_neg cc, Int.add_zero, Int.add_zero]; exact h1
theorem mul9_lin {P c : Int} {A B : Int → Int} (h : lin P c A B) (Y : Int → Int) : lin P c (mul9 P A Y) (mul9 P B Y) := by
  intro k k0 k1
  unfold mul9
  rw [if_pos ⟨k0, k1⟩, if_pos ⟨k0, k1⟩]
  have h1 := cvs_lin h Y k 9 (by omega)
  have h2 := (Int.emod_eq_emod_iff_emod_sub_eq_zero (m := cvs A Y k 9) (n := P) (k := c * cvs B Y k 9)).mpr (Int.emod_eq_zero_of_dvd h1)
  rw [h2, Int.mul_emod c (cvs B Y k 9 % P), Int.emod_emod, ← Int.mul_emod]
theorem mulN_lin {P c : Int} {A B : Int → Int} (h : lin P c A B) (Y : Int → Int) : ∀ n, lin P c (mulN P A Y n) (mulN P B Y n) := by
  intro n
  induction n with
  | zero => exact h
  | succ n ih => exact mul9_lin ih Y
theorem fcN_lin {P c : Int} {q : Int → Int → Int} {t : Int → Int} {A B : Int → Int} (h : lin P c A B) : ∀ n, lin P c (fcN P q t A n) (fcN P q t B n) := by
  intro n
  induction n with
  | zero => exact h
  | succ n ih => exact mulN_lin ih _ _
theorem pow_pwr {p K P c s : Int} (h : pKP p K P) : c * p ^ s.toNat % P = c * pwr p K s % P := by
  obtain ⟨h1, h2, h3, h4, h5, h6⟩ := h
  unfold pwr
  by_cases cc : s < K
  · rw [if_pos cc]
  · rw [if_neg cc]
    obtain ⟨n, hn⟩ : ∃ n, s.toNat = K.toNat + n := ⟨s.toNat - K.toNat, by omega⟩
    rw [hn, Int.pow_add, ← h4, Int.mul_zero, Int.zero_emod]
    exact Int.emod_eq_zero_of_dvd ⟨c * p ^ n, by rw [Int.mul_left_comm]⟩
set_option maxHeartbeats 4000000 in
set_option maxRecDepth 100000 in
theorem s_laysKey {M : tp_M} {p K P to kn sd rt r : Int} {q : Int → Int → Int} {t kf : Int → Int} (h : pKP p K P) (hp : M 483 0 = p) (hP : M 483 2 = P) (hto : 0 ≤ to ∧ to < 40) (hkn : 0 ≤ kn ∧ kn < 40) (hne : ∀ k, 1 ≤ k → k < r → kf k ≠ to) (hsd : 0 ≤ sd ∧ sd < 64) (hr : 1 ≤ r ∧ r ≤ 6) (hd : M 483 49 = r) (hq : ∀ k, 1 ≤ k → k < r → Ro P (q k)) (hqr : Ro P (keyAt M kn)) (he : M 511 sd ≤ 1000) (ht : ∀ k, 1 ≤ k → k < r → t k ≤ 1000) (hkf : ∀ k, 1 ≤ k → k < r → 0 ≤ kf k ∧ kf k < 40) (hM : ∀ k, 1 ≤ k → k < r → M 524 k = kf k ∧ keyAt M (kf k) = q k) (htM : ∀ k, 1 ≤ k → k < r → M 514 (7 * sd + k) = t k) (hs : M 514 (7 * sd) ≤ 10000) (hrt : 0 ≤ rt ∧ rt < p) : ∃ N, f_X11_laysKey to kn sd rt M = some N ∧ keyAt N to = kyP P (pwr p K (M 514 (7 * sd))) rt (M 511 sd).toNat (keyAt M kn) q t (r - 1).toNat ∧ ∀ c k, c ≠ 527 → ¬ (c = 488 ∧ 9 * to ≤ k ∧ k < 9 * to + 9) → N c k = M c k := by
  have h' := h
  obtain ⟨h1, h2, h3, h4, h5, h6⟩ := h
  have hp2 := pm_2 h1
  have hP1 : 7 < P := by
    have a := pow_mono (p := p) (by omega) (a := 3) (b := K.toNat) (by omega)
    have b : (8 : Int) ≤ p ^ 3 := by
      unfold Pm at h1
      rcases h1 with rfl | rfl | rfl | rfl <;> decide
    omega
  have m1 : (1 : Int) % P = 1 := Int.emod_eq_of_lt (by omega) (by omega)
  generalize hM1 : tp_wr M 527 0 9 (sc 1) = M1
  have f1 : ∀ c k, c ≠ 527 → M1 c k = M c k := fun c k hc => by rw [← hM1, wr_out (fun h => hc h.1)]
  have r527 : rd (M1 527) = sc 1 := by
    funext k
    by_cases c : 0 ≤ k ∧ k < 9
    · rw [rd_in c, ← hM1, wr_in (by omega), show k - 0 = k by omega]
    · rw [rd_out c]; unfold sc; rw [if_neg (by omega)]
  obtain ⟨K1, a1, a2, a3⟩ := s_lk8 (P := P) (to := to) (kn := kn) (sd := sd) (rt := rt) (e := M 511 sd) (Y := keyAt M kn) ⟨h5, h6⟩ hkn hsd he hqr (M 511 sd).toNat tp_N 0 M1 (by unfold tp_N; omega) (by omega) (by omega) (by omega) (by rw [f1 _ _ (by decide)]; exact hP) (f1 _ _ (by decide)) (keyAt_cong (fun k _ _ => f1 _ _ (by decide))) (by rw [r527]; exact sc_ro h5 (by omega))
  rw [r527] at a2
  have g1 : ∀ c k, c ≠ 527 → K1 c k = M c k := fun c k hc => by rw [a3 c k hc, f1 c k hc]
  generalize hM2 : tp_wr (tp_wr K1 488 (9 * to) 9 (K1 527)) 527 0 9 (sc (rt % P)) = M2
  have f2 : ∀ c k, c ≠ 527 → ¬ (c = 488 ∧ 9 * to ≤ k ∧ k < 9 * to + 9) → M2 c k = M c k := fun c k hc hd => by rw [← hM2, wr_out (fun h => hc h.1), wr_out hd, g1 c k hc]
  have mr : rt % P = rt := Int.emod_eq_of_lt hrt.1 (by omega)
  have r2 : rd (M2 527) = sc (rt * p ^ 0 % P) := by
    rw [Int.pow_zero, Int.mul_one]
    funext k
    by_cases c : 0 ≤ k ∧ k < 9
    · rw [rd_in c, ← hM2, wr_in (by omega), show k - 0 = k by omega]
    · rw [rd_out c]; unfold sc; rw [if_neg (by omega)]
  have k2 : keyAt M2 to = mulN P (sc 1) (keyAt M kn) (M 511 sd).toNat := by
    rw [← a2]
    exact rd_cong (fun k k0 k1 => by rw [← hM2, wr_out (fun h => absurd h.1 (by decide)), wr_in (by omega), show 9 * to + k - 9 * to = k by omega])
  obtain ⟨K2, b1, b2, b3⟩ := s_lk78 (P := P) (p := p) (to := to) (sd := sd) (s := M 514 (7 * sd)) (v := rt) ⟨h5, h6⟩ hp2 hsd hs (M 514 (7 * sd)).toNat tp_N 0 M2 (by unfold tp_N; omega) (by omega) (by omega) (by rw [f2 _ _ (by decide) (fun h => absurd h.1 (by decide))]; exact hP) (by rw [f2 _ _ (by decide) (fun h => absurd h.1 (by decide))]; exact hp) (by rw [f2 _ _ (by decide) (fun h => absurd h.1 (by decide))]) r2
  rw [show 0 + (M 514 (7 * sd)).toNat = (M 514 (7 * sd)).toNat by omega, pow_pwr h'] at b2
  have pb := pwr_b (n := M 514 (7 * sd)) h'
  have oX : Ro P (sc (rt * pwr p K (M 514 (7 * sd)) % P)) := sc_ro h5 (md_in h5)
  obtain ⟨K3, c1, c2, c3⟩ := s_lk141 (P := P) (to := to) (sd := sd) (r := r) (q := q) (t := t) (kn := kf) (X := sc (rt * pwr p K (M 514 (7 * sd)) % P)) ⟨h5, h6⟩ hsd hr hq ht hkf oX (r - 1).toNat tp_N 0 K2 (by unfold tp_N; omega) (by omega) (by rw [b3 _ _ (by decide), f2 _ _ (by decide) (fun h => absurd h.1 (by decide))]; exact hP) (by rw [b3 _ _ (by decide), f2 _ _ (by decide) (fun h => absurd h.1 (by decide))]; exact hd) (fun k k0 k1 => ⟨by rw [b3 _ _ (by decide), f2 _ _ (by decide) (fun h => absurd h.1 (by decide))]; exact (hM k k0 k1).1, by
      rw [← (hM k k0 k1).2]
      have hn := hne k k0 k1
      exact keyAt_cong (fun j j0 j1 => by rw [b3 _ _ (by decide), f2 _ _ (by decide) (fun h => by have := h.2; omega)])⟩) (fun k k0 k1 => by rw [b3 _ _ (by decide), f2 _ _ (by decide) (fun h => absurd h.1 (by decide))]; exact htM k k0 k1) b2
  rw [show 0 + (r - 1).toNat = (r - 1).toNat by omega] at c2
  have k3 : keyAt K3 to = mulN P (sc 1) (keyAt M kn) (M 511 sd).toNat := by
    rw [← k2]; exact keyAt_cong (fun k _ _ => by rw [c3 _ _ (by decide), b3 _ _ (by decide)])
  have oK : Ro P (keyAt K3 to) := by rw [k3]; exact mulN_ro h5 (sc_ro h5 (by omega)) _ _
  have oF : Ro P (rd (K3 527)) := by rw [c2]; exact fcN_ro h5 oX _
  have l199 := s_lk199 (M := K3) (P := P) (to := to) ⟨h5, h6⟩ hto (by rw [c3 _ _ (by decide), b3 _ _ (by decide), f2 _ _ (by decide) (fun h => absurd h.1 (by decide))]; exact hP) (rd_inP oK) (rd_inP oF)
  refine ⟨tp_wr K3 488 (9 * to) 9 (fun k => (K3 488 (9 * to + k) - K3 527 k) % P), ?_, ?_, fun c k hc hd => by rw [wr_out hd, c3 c k hc, b3 c k hc, f2 c k hc hd]⟩
  · unfold f_X11_laysKey
    rw [s_begins ⟨h5, h6⟩ hP, m1, Option.bind_some, hM1]
    refine Eq.trans a1 ?_
    rw [s_lk36 hto, s_begins (P := P) ⟨h5, h6⟩ (by rw [wr_out (fun h => absurd h.1 (by decide)), g1 _ _ (by decide)]; exact hP), Option.bind_some, hM2]
    refine Eq.trans b1 ?_
    exact Eq.trans c1 l199
  · have hl : lin P rt (sc (rt * pwr p K (M 514 (7 * sd)) % P)) (sc (pwr p K (M 514 (7 * sd)))) := fun k k0 k1 => by
      unfold sc
      by_cases c : k = 0
      · rw [if_pos c, if_pos c]
      · rw [if_neg c, if_neg c, Int.mul_zero, Int.zero_emod]
    have hl2 := fcN_lin (q := q) (t := t) hl (r - 1).toNat
    funext k
    unfold kyP
    by_cases c : 0 ≤ k ∧ k < 9
    · have e1 : K3 488 (9 * to + k) = mulN P (sc 1) (keyAt M kn) (M 511 sd).toNat k := by
        rw [← k3]; unfold keyAt; rw [rd_in c]
      have e2 : K3 527 k = rt * fcN P q t (sc (pwr p K (M 514 (7 * sd)))) (r - 1).toNat k % P := by
        rw [← hl2 k c.1 c.2, ← c2, rd_in c]
      unfold keyAt
      rw [rd_in c, if_pos c, wr_in (by omega), show 9 * to + k - 9 * to = k by omega, e1, e2, Int.sub_emod_emod]
      rfl
    · unfold keyAt
      rw [rd_out c, if_neg c]
