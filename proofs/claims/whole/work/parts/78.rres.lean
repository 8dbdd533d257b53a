/-- how the way was made, of the reference -/
def CxM (M : tp_M) (r : Int) (rt mf : Int → Int) (mo : Int → Int → Int) : Prop := ∀ k, 1 ≤ k → k < r → M 525 k = mf k ∧ (0 ≤ mf k ∧ mf k < 40) ∧ M 506 (mf k) = rt k ∧ ∀ j, 0 ≤ j → j < 7 → M 507 (7 * mf k + j) = mo k j
theorem CxM_fr {M N : tp_M} {r : Int} {rt mf : Int → Int} {mo : Int → Int → Int} (h : CxM M r rt mf mo) (hf : ∀ c k, c = 506 ∨ c = 507 ∨ c = 525 → N c k = M c k) : CxM N r rt mf mo := fun k k0 k1 => by
  obtain ⟨a1, a2, a3, a4⟩ := h k k0 k1
  exact ⟨by rw [hf _ _ (by omega)]; exact a1, a2, by rw [hf _ _ (by omega)]; exact a3, fun j j0 j1 => by rw [hf _ _ (by omega)]; exact a4 j j0 j1⟩
set_option maxHeartbeats 4000000 in
set_option maxRecDepth 100000 in
theorem s_td44 {W : tp_M} {p k mfk rtk h0 : Int} {mk : Int → Int} {rec_7 : Int → tp_M → Option tp_M} {rec_12 : tp_M → Option tp_M} (hp : 2 ≤ p ∧ p ≤ 7) (hk : 1 ≤ k ∧ k ≤ 6) (hpW : W 483 0 = p) (h5 : W 525 k = mfk) (hmf : 0 ≤ mfk ∧ mfk < 40) (h6 : W 506 mfk = rtk) (h7 : ∀ j, 0 ≤ j → j < 7 → W 507 (7 * mfk + j) = mk j) (hrt : 0 ≤ rtk ∧ rtk < p) (hh : W 483 56 = h0) (hh2 : 0 ≤ h0 ∧ h0 < p) : f_X11_takesDown_44 rec_7 rec_12 k 0 W = rec_12 (tp_up (tp_wr W 526 0 7 (fun j => tp_w (W 526 j + mk j))) 483 56 (h0 * rtk % p)) := by
  unfold f_X11_takesDown_44
  have e0 : ((0 : Int), W) = (((0 : Nat) : Int), tp_wr W 526 0 ((0 : Nat) : Int) (fun j => tp_w (W 526 j + mk j))) := by rw [show ((0 : Nat) : Int) = 0 from rfl, wr_zero]
  rw [e0]
  have gk : 0 ≤ k ∧ k < 8 := by omega
  refine lp_seq (fun n => ((n : Int), tp_wr W 526 0 n (fun j => tp_w (W 526 j + mk j)))) 7 (fun n hn rc => ?_) (fun rc => ?_) tp_N (by unfold tp_N; omega)
  · have u := wr_succ0 W 526 n (fun j => tp_w (W 526 j + mk j))
    have g0 : ¬ 7 ≤ (n : Int) := by omega
    have g1 : 0 ≤ (n : Int) ∧ (n : Int) < 7 := by omega
    have b1 : -2147483648 ≤ 7 * mfk ∧ 7 * mfk ≤ 2147483647 := by omega
    have b2 : -2147483648 ≤ 7 * mfk + (n : Int) ∧ 7 * mfk + (n : Int) ≤ 2147483647 := by omega
    have g2 : 0 ≤ 7 * mfk + (n : Int) ∧ 7 * mfk + (n : Int) < 280 := by omega
    have g4 : n < 1000000 := by omega
    have nn : ¬ ((526 : Int) = 526 ∧ 0 ≤ (n : Int) ∧ (n : Int) < 0 + n) := by omega
    have m7 := h7 n g1.1 g1.2
    generalize hV : tp_wr W 526 0 n (fun j => tp_w (W 526 j + mk j)) = V at *
    have r1 : V 525 k = mfk := by rw [← hV, wr_out (fun h => absurd h.1 (by decide))]; exact h5
    have r2 : V 507 (7 * mfk + n) = mk n := by rw [← hV, wr_out (fun h => absurd h.1 (by decide))]; exact m7
    have r3 : V 526 n = W 526 n := by rw [← hV, wr_out nn]
    simp only [f_X11_takesDown_44B, tp_mp, tp_lt, r1]
    rw [if_neg g0, if_pos g1, if_pos gk, ho_w b1.1 b1.2, ho_w b2.1 b2.2, if_pos g2, if_pos g1, r2, r3, w_succ g4]
    exact congrArg (fun z => rc (((n + 1 : Nat) : Int), z)) u
  · have e7 : tp_wr W 526 0 ((7 : Nat) : Int) (fun j => tp_w (W 526 j + mk j)) = tp_wr W 526 0 7 (fun j => tp_w (W 526 j + mk j)) := rfl
    rw [e7]
    have q := mul7 (x := h0) (y := rtk) (by omega) (by omega)
    have g3 : ¬ p = 0 := by omega
    have b2 : -2147483648 ≤ h0 * rtk ∧ h0 * rtk ≤ 2147483647 := by omega
    generalize hV : tp_wr W 526 0 7 (fun j => tp_w (W 526 j + mk j)) = V
    have r1 : V 525 k = mfk := by rw [← hV, wr_out (fun h => absurd h.1 (by decide))]; exact h5
    have r2 : V 506 mfk = rtk := by rw [← hV, wr_out (fun h => absurd h.1 (by decide))]; exact h6
    have r3 : V 483 56 = h0 := by rw [← hV, wr_out (fun h => absurd h.1 (by decide))]; exact hh
    have r4 : V 483 0 = p := by rw [← hV, wr_out (fun h => absurd h.1 (by decide))]; exact hpW
    have tm := Int.tmod_eq_emod_of_nonneg (a := h0 * rtk) (b := p) q.1
    simp only [f_X11_takesDown_44B, tp_mp, r1, r2, r3, r4]
    rw [if_pos (by decide), if_pos gk, if_pos hmf, if_neg g3, ho_w b2.1 b2.2, tm]
def tB12 (rec_7 : Int → tp_M → Option tp_M) (x1 : Int) : (tp_M → Option tp_M) → tp_M → Option tp_M := fun rec_ u => f_X11_takesDown_12B rec_7 x1 (fun M0' => rec_ M0') u
set_option maxHeartbeats 4000000 in
set_option maxRecDepth 100000 in
theorem s_td12 {p k mfk rtk e : Int} {mk : Int → Int} {rec_7 : Int → tp_M → Option tp_M} (hp : 2 ≤ p ∧ p ≤ 7) (hk : 1 ≤ k ∧ k ≤ 6) (he : 1 ≤ e ∧ e ≤ 4) (hmf : 0 ≤ mfk ∧ mfk < 40) (hrt : 0 ≤ rtk ∧ rtk < p) (hm1 : ∀ j, 1 ≤ j → j < k → 0 ≤ mk j ∧ mk j ≤ 3) (hm2 : mk k = 0) : ∀ (T N : Nat) (B : Int) (W : tp_M), T < N → W 483 0 = p → W 525 k = mfk → W 506 mfk = rtk → (∀ j, 0 ≤ j → j < 7 → W 507 (7 * mfk + j) = mk j) → W 521 k = e → 0 ≤ W 526 k → W 526 k ≤ 90000 → W 526 k / e = T → 0 ≤ W 483 56 → W 483 56 < p → (∀ j, 1 ≤ j → j < k → 0 ≤ W 526 j ∧ W 526 j + 3 * T ≤ B) → B ≤ 400000 → ∃ K, tp_lp (tB12 rec_7 k) N W = rec_7 (k - 1) K ∧ (∀ j, 1 ≤ j → j < k → K 526 j = W 526 j + T * mk j) ∧ K 483 56 = pwm p rtk T (W 483 56) ∧ ∀ c j, c ≠ 526 → ¬ (c = 483 ∧ j = 56) → K c j = W c j := by
  have gk : 0 ≤ k ∧ k < 8 := by omega
  have gk7 : 0 ≤ k ∧ k < 7 := by omega
  intro T
  induction T with
  | zero =>
    intro N B W hN hpW h5 h6 h7 he1 hx0 hx1 hT hh0 hh1 hx hB
    refine ⟨W, ?_, fun j _ _ => by rw [show ((0 : Nat) : Int) * mk j = 0 from Int.zero_mul _, Int.add_zero], rfl, fun c j _ _ => rfl⟩
    have lt : W 526 k < e := by
      have d := Int.mul_ediv_add_emod (W 526 k) e
      have m := Int.emod_lt_of_pos (W 526 k) (show 0 < e by omega)
      rw [hT, show e * ((0 : Nat) : Int) = 0 from Int.mul_zero _] at d
      omega
    rw [lp_1 (by omega)]
    simp only [tB12, f_X11_takesDown_12B, tp_lt]
    rw [if_pos gk7, if_pos gk, if_pos (show W 526 k < W 521 k by rw [he1]; exact lt), ho_w (x := k + -1) (by omega) (by omega), show k + -1 = k - 1 by omega]
  | succ T ih =>
    intro N B W hN hpW h5 h6 h7 he1 hx0 hx1 hT hh0 hh1 hx hB
    have d := Int.mul_ediv_add_emod (W 526 k) e
    have m0 := Int.emod_nonneg (W 526 k) (show e ≠ 0 by omega)
    have ge : e ≤ W 526 k := by
      have : e * 1 ≤ e * (W 526 k / e) := Int.mul_le_mul_of_nonneg_left (by rw [hT]; omega) (by omega)
      omega
    have dT : (W 526 k - e) / e = T := by
      have := Int.sub_mul_ediv_right (W 526 k) 1 (show e ≠ 0 by omega)
      rw [Int.one_mul] at this
      rw [this, hT]; omega
    have b1 : -2147483648 ≤ W 526 k - e ∧ W 526 k - e ≤ 2147483647 := by omega
    generalize hW1 : tp_up W 526 k (W 526 k - e) = W1
    have f1 : ∀ c j, c ≠ 526 → W1 c j = W c j := fun c j h => by rw [← hW1, up_ne (fun hh => h hh.1)]
    have h44 := s_td44 (W := W1) (p := p) (k := k) (mfk := mfk) (rtk := rtk) (h0 := W 483 56) (mk := mk) (rec_7 := rec_7) (rec_12 := fun M0' => tp_lp (tB12 rec_7 k) (N - 1) M0') hp hk (by rw [f1 _ _ (by decide)]; exact hpW) (by rw [f1 _ _ (by decide)]; exact h5) hmf (by rw [f1 _ _ (by decide)]; exact h6) (fun j j0 j1 => by rw [f1 _ _ (by decide)]; exact h7 j j0 j1) hrt (f1 _ _ (by decide)) ⟨hh0, hh1⟩
    generalize hW2 : tp_up (tp_wr W1 526 0 7 (fun j => tp_w (W1 526 j + mk j))) 483 56 (W 483 56 * rtk % p) = W2 at h44
    have f2 : ∀ c j, c ≠ 526 → ¬ (c = 483 ∧ j = 56) → W2 c j = W c j := fun c j g1 g2 => by rw [← hW2, up_ne g2, wr_out (fun hh => g1 hh.1), f1 c j g1]
    have x2 : ∀ j, 1 ≤ j → j < k → W2 526 j = W 526 j + mk j := fun j j0 j1 => by
      have a := hm1 j j0 j1
      have b := hx j j0 j1
      rw [← hW2, up_ne (fun hh => absurd hh.1 (by decide)), wr_in (by omega), show j - 0 = j by omega, ← hW1, up_ne (fun hh => by omega), ho_w (by omega) (by omega)]
    have xk : W2 526 k = W 526 k - e := by
      rw [← hW2, up_ne (fun hh => absurd hh.1 (by decide)), wr_in (by omega), show k - 0 = k by omega, ← hW1, up_eq ⟨rfl, rfl⟩, hm2, Int.add_zero, ho_w b1.1 b1.2]
    have h56 : W2 483 56 = W 483 56 * rtk % p := by rw [← hW2, up_eq ⟨rfl, rfl⟩]
    obtain ⟨K, k1, k2, k3, k4⟩ := ih (N - 1) B W2 (by omega) (by rw [f2 _ _ (by decide) (fun h => absurd h.2 (by decide))]; exact hpW) (by rw [f2 _ _ (by decide) (fun h => absurd h.1 (by decide))]; exact h5) (by rw [f2 _ _ (by decide) (fun h => absurd h.1 (by decide))]; exact h6) (fun j j0 j1 => by rw [f2 _ _ (by decide) (fun h => absurd h.1 (by decide))]; exact h7 j j0 j1) (by rw [f2 _ _ (by decide) (fun h => absurd h.1 (by decide))]; exact he1) (by rw [xk]; omega) (by rw [xk]; omega) (by rw [xk]; exact dT) (by rw [h56]; exact Int.emod_nonneg _ (by omega)) (by rw [h56]; exact Int.emod_lt_of_pos _ (by omega)) (fun j j0 j1 => by
      have a := hm1 j j0 j1
      have b := hx j j0 j1
      rw [x2 j j0 j1]; omega) hB
    refine ⟨K, ?_, fun j j0 j1 => ?_, by rw [k3, h56]; rfl, fun c j g1 g2 => by rw [k4 c j g1 g2, f2 c j g1 g2]⟩
    · rw [lp_1 (by omega)]
      generalize tp_lp (tB12 rec_7 k) (N - 1) = Rc at k1 h44 ⊢
      simp only [tB12, f_X11_takesDown_12B, tp_mp]
      rw [if_pos gk7, if_pos gk, if_neg (show ¬ W 526 k < W 521 k by rw [he1]; omega), if_pos gk7, if_pos gk, if_pos gk7, he1, ho_w b1.1 b1.2, hW1]
      exact Eq.trans h44 k1
    · rw [k2 j j0 j1, x2 j j0 j1, show ((T + 1 : Nat) : Int) = (T : Int) + 1 by omega, Int.add_mul, Int.one_mul]; omega
def tB7 : (Int × tp_M → Option tp_M) → Int × tp_M → Option tp_M := fun rec_ u => f_X11_takesDown_7B (fun x1' M0' => rec_ (x1', M0')) u.1 u.2
set_option maxHeartbeats 4000000 in
set_option maxRecDepth 100000 in
theorem s_td7 {p r : Int} {e rt mf : Int → Int} {mo : Int → Int → Int} (hp : 2 ≤ p ∧ p ≤ 7) (hr : 1 ≤ r ∧ r ≤ 6) (ho : rok p r e rt mo) : ∀ (n N : Nat) (B : Int) (W : tp_M), n < N → (n : Int) < r → W 483 0 = p → CxM W r rt mf mo → (∀ k, 1 ≤ k → k < r → W 521 k = e k) → 0 ≤ W 483 56 → W 483 56 < p → (∀ j, 1 ≤ j → j ≤ (n : Int) → 0 ≤ W 526 j ∧ W 526 j ≤ B) → 0 ≤ B → B * 4 ^ n ≤ 90000 → ∃ K, tp_lp tB7 N ((n : Int), W) = some K ∧ K 483 56 = rdN p e rt mo n (W 526) (W 483 56) ∧ ∀ c k, c ≠ 526 → ¬ (c = 483 ∧ k = 56) → K c k = W c k := by
  intro n
  induction n with
  | zero =>
    intro N B W hN hn hpW hCM he h0 h1 hx hB hB2
    refine ⟨W, ?_, rfl, fun c k _ _ => rfl⟩
    rw [lp_1 (by omega)]
    simp only [tB7, f_X11_takesDown_7B]
    rw [if_pos (by decide)]
  | succ n ih =>
    intro N B W hN hn hpW hCM he h0 h1 hx hB hB2
    have n0 : 1 ≤ (n : Int) + 1 := by omega
    have n1 : (n : Int) + 1 < r := by omega
    obtain ⟨o1, o2, o3, o4⟩ := ho _ n0 n1
    obtain ⟨w1, w2, w3, w4⟩ := hCM _ n0 n1
    have hxk := hx ((n : Int) + 1) n0 (by omega)
    have p4 : (1 : Int) ≤ 4 ^ (n + 1) := (pow_mono (p := 4) (by decide) (a := n + 1) (b := n + 1) (Nat.le_refl _)).1
    have B90 : B ≤ 90000 := by
      have := Int.mul_le_mul_of_nonneg_left p4 hB
      omega
    have B4 : B * 4 * 4 ^ n ≤ 90000 := by
      rw [Int.pow_succ, Int.mul_comm (4 ^ n) 4, ← Int.mul_assoc] at hB2
      exact hB2
    have xs := xstep o1.1 hxk
    obtain ⟨T, hT⟩ : ∃ T : Nat, W 526 ((n : Int) + 1) / e ((n : Int) + 1) = T := ⟨(W 526 ((n : Int) + 1) / e ((n : Int) + 1)).toNat, by omega⟩
    rw [hT] at xs
    obtain ⟨K1, a1, a2, a3, a4⟩ := s_td12 (p := p) (k := (n : Int) + 1) (mfk := mf ((n : Int) + 1)) (rtk := rt ((n : Int) + 1)) (e := e ((n : Int) + 1)) (mk := mo ((n : Int) + 1)) (rec_7 := fun x1' M0' => tp_lp tB7 (N - 1) (x1', M0')) hp (by omega) o1 w2 o2 o3 (o4 _ (Int.le_refl _)) T tp_N (B * 4) W (by unfold tp_N; omega) hpW w1 w3 w4 (he _ n0 n1) hxk.1 (by omega) hT h0 h1 (fun j j0 j1 => by have := hx j j0 (by omega); omega) (by omega)
    obtain ⟨K, k1, k2, k3⟩ := ih (N - 1) (B * 4) K1 (by omega) (by omega) (by rw [a4 _ _ (by decide) (fun h => absurd h.2 (by decide))]; exact hpW) (CxM_fr hCM (fun c k hc => a4 _ _ (by omega) (by omega))) (fun k k0 k1 => by rw [a4 _ _ (by decide) (fun h => absurd h.1 (by decide))]; exact he k k0 k1) (by rw [a3]; exact (pwm_b (by omega) _ _ h0 h1).1) (by rw [a3]; exact (pwm_b (by omega) _ _ h0 h1).2) (fun j j0 j1 => by
      have m1 := o3 j j0 (by omega)
      have xj := hx j j0 (by omega)
      have mm := mulB (x := (T : Int)) (y := mo ((n : Int) + 1) j) (a := B) (b := 3) (by omega) m1
      rw [a2 j j0 (by omega)]
      omega) (by omega) B4
    refine ⟨K, ?_, ?_, fun c k g1 g2 => by rw [k3 c k g1 g2, a4 c k g1 g2]⟩
    · have en : ((n + 1 : Nat) : Int) = (n : Int) + 1 := by omega
      have e3 : (n : Int) + 1 - 1 = n := by omega
      rw [e3] at a1
      rw [lp_1 (by omega)]
      generalize tp_lp tB7 (N - 1) = Rc at k1 a1 ⊢
      simp only [tB7, f_X11_takesDown_7B, en]
      rw [if_neg (by omega)]
      exact Eq.trans a1 k1
    · rw [k2, a3]
      show _ = rdN p e rt mo n (fun j => W 526 j + W 526 ((n : Int) + 1) / e ((n : Int) + 1) * mo ((n : Int) + 1) j) (pwm p (rt ((n : Int) + 1)) (W 526 ((n : Int) + 1) / e ((n : Int) + 1)).toNat (W 483 56))
      rw [hT, Int.toNat_natCast]
      exact rdN_cong n _ (fun j j0 j1 => a2 j j0 (by omega))
set_option maxHeartbeats 4000000 in
set_option maxRecDepth 100000 in
theorem s_residualAt {M : tp_M} {p K P r kn sd i k m : Int} {D e s rt kf mf : Int → Int} {mo q : Int → Int → Int} (h : pKP p K P) (hp : M 483 0 = p) (hP : M 483 2 = P) (hb : cxb r D e s) (hr : 1 ≤ r ∧ r ≤ 6) (hm : 0 ≤ m ∧ m ≤ 8) (hmD : m * D r ≤ 8) (hkn : 0 ≤ kn ∧ kn < 40) (hC : CxR M r D e s kf q) (hkr : kf r = kn) (hCM : CxM M r rt mf mo) (ho : rok p r e rt mo) (hq : ∀ k, 1 ≤ k → k ≤ r → Ro P (q k)) (hdv : ∀ k, 1 ≤ k → k < r → D (k + 1) ∣ D r) (hf : inP P (M 495) 0 9) (hsd : 0 ≤ sd ∧ sd < 64) (hi : 0 ≤ i ∧ i ≤ m) (hk : 0 ≤ k ∧ k ≤ 8) (hmn : ∀ t, 1 ≤ t → t < r → 0 ≤ M 514 (7 * sd + t) ∧ M 514 (7 * sd + t) ≤ 3) (hH : 0 ≤ (Hd p K.toNat r D e s (rowN P q D r (M 495)) i).1) : ∃ N, f_X11_residualAt kn sd i k M = some (rsv p K.toNat (seg (rowN P q D r (M 495)) (D r) i (Hd p K.toNat r D e s (rowN P q D r (M 495)) i).2) * rdN p e rt mo (r - 1).toNat (fun t => xpt D e (Hd p K.toNat r D e s (rowN P q D r (M 495)) i).2 t + k * M 514 (7 * sd + t)) 1 % p, N) ∧ ∀ c j, c ≠ 487 → c ≠ 526 → ¬ (c = 483 ∧ j = 56) → N c j = M c j := by
  have h' := h
  obtain ⟨h1, h2, h3, h4, h5, h6⟩ := h
  have hp2 := pm_2 h1
  have hb1 := hb.1
  have cr := hC.2.1 r (by omega) (Int.le_refl _)
  rw [hkr] at cr
  obtain ⟨N1, a1, a2, a3⟩ := s_laysRow (M := M) (P := P) (kn := kn) (r := r) (D := D) (qr := q r) hP ⟨h5, h6⟩ hkn hC.1 hr cr.1 hb1 cr.2.2.2 (hq r (by omega) (Int.le_refl _)) hf
  have iD0 : 0 ≤ i * D r := Int.mul_nonneg hi.1 (by omega)
  have iD : i * D r ≤ m * D r := Int.mul_le_mul_of_nonneg_right hi.2 (by omega)
  have hC1 : CxR N1 r D e s kf q := CxR_fr hC (fun c k hc => a3 _ _ (by omega))
  have i1 : inP P (N1 487) 0 24 := fun j j0 j1 => by
    rw [a2 j j0 j1]
    refine oux_in h5 101 0 (a := 0) (b := 24) (fun k k0 k1 => ?_) j j0 j1
    by_cases c : k < 9
    · rw [rd_in ⟨k0, c⟩]; exact hf k k0 c
    · rw [rd_out (by omega)]; omega
  generalize hHd : Hd p K.toNat r D e s (rowN P q D r (M 495)) i = H at *
  obtain ⟨N2, b1, b2, b3, b4, b5⟩ := s_head (M := N1) (p := p) (K := K) (P := P) (r := r) (fr := i * D r) (D := D) (e := e) (s := s) (kf := kf) (X := oux P (q r) (D r) 9 101 0 (rd (M 495))) (q := q) h' (by rw [a3 _ _ (by decide)]; exact hp) (by rw [a3 _ _ (by decide)]; exact hP) hb hr hC1 hq (by omega) (fun k k0 k1 => ⟨Int.dvd_mul_of_dvd_right (hdv k k0 k1), hdv k k0 k1⟩) i1 (fun j j0 j1 => a2 j (by omega) (by omega)) (Y := seg (rowN P q D r (M 495)) (D r) i) (fun j j0 j1 => rfl) (H := H) (by rw [← hHd]; rfl)
  obtain ⟨b21, b22⟩ := b2 hH
  have f2 : ∀ c j, c ≠ 487 → c ≠ 526 → ¬ (c = 483 ∧ j = 56) → N2 c j = M c j := fun c j g1 g2 g3 => by rw [b5 c j g1 g2 g3, a3 c j g1]
  have rb := rsv_b hp2.1 K.toNat (seg (rowN P q D r (M 495)) (D r) i H.2)
  generalize rsv p K.toNat (seg (rowN P q D r (M 495)) (D r) i H.2) = hr0 at *
  have xv : ∀ t, 1 ≤ t → t < r → 0 ≤ xpt D e H.2 t + k * M 514 (7 * sd + t) ∧ xpt D e H.2 t + k * M 514 (7 * sd + t) ≤ 27 ∧ 0 ≤ k * M 514 (7 * sd + t) ∧ k * M 514 (7 * sd + t) ≤ 24 := fun t t0 t1 => by
    have a := xpt_b hb (j := H.2) t0 t1
    have b := (ho t t0 t1).1
    have c := mulB (x := k) (y := M 514 (7 * sd + t)) (a := 8) (b := 3) hk (hmn t t0 t1)
    omega
  generalize hW : tp_wr N2 526 0 7 (fun t => tp_w (N2 526 t + tp_w (k * M 514 (7 * sd + t)))) = W
  have fW : ∀ c j, c ≠ 526 → W c j = N2 c j := fun c j g => by rw [← hW, wr_out (fun hh => g hh.1)]
  have xW : ∀ t, 1 ≤ t → t < r → W 526 t = xpt D e H.2 t + k * M 514 (7 * sd + t) := fun t t0 t1 => by
    have := xv t t0 t1
    rw [← hW, wr_in (by omega), show t - 0 = t by omega, b21 t t0 (by omega), if_pos t1, ho_w (x := k * M 514 (7 * sd + t)) (by omega) (by omega), ho_w (by omega) (by omega)]
  have p4 : (4 : Int) ^ (r - 1).toNat ≤ 4 ^ 5 := (pow_mono (p := 4) (by decide) (a := (r - 1).toNat) (b := 5) (by omega)).2
  have e4 : (4 : Int) ^ 5 = 1024 := by decide
  have CW : ∀ k, 1 ≤ k → k < r → W 521 k = e k := fun k k0 k1 => by rw [fW _ _ (by decide), f2 _ _ (by decide) (by decide) (fun h => absurd h.1 (by decide))]; exact (hC.2.2 k k0 k1).1
  obtain ⟨K2, c1, c2, c3⟩ := s_td7 (p := p) (r := r) (e := e) (rt := rt) (mf := mf) (mo := mo) hp2 hr ho (r - 1).toNat tp_N 27 W (by unfold tp_N; omega) (by omega) (by rw [fW _ _ (by decide), f2 _ _ (by decide) (by decide) (fun h => absurd h.2 (by decide))]; exact hp) (CxM_fr hCM (fun c k hc => by rw [fW _ _ (by omega), f2 _ _ (by omega) (by omega) (by omega)])) CW (by rw [fW _ _ (by decide), b22]; exact rb.1) (by rw [fW _ _ (by decide), b22]; exact rb.2) (fun j j0 j1 => by have := xv j j0 (by omega); rw [xW j j0 (by omega)]; omega) (by decide) (by omega)
  have e56 : W 483 56 = hr0 * 1 % p := by rw [fW _ _ (by decide), b22, Int.mul_one, Int.emod_eq_of_lt rb.1 rb.2]
  rw [e56, rdN_lin, rdN_cong _ _ (fun j j0 j1 => xW j j0 (by omega))] at c2
  refine ⟨K2, ?_, fun c j g1 g2 g3 => by rw [c3 c j g2 g3, fW c j g2, f2 c j g1 g2 g3]⟩
  have g8 : 0 ≤ r ∧ r < 8 := by omega
  have r1 : N1 483 49 = r := hC1.1
  have r2 : N1 522 r = D r := (hC1.2.1 r (by omega) (Int.le_refl _)).1
  have bi : -2147483648 ≤ i * D r ∧ i * D r ≤ 2147483647 := by omega
  unfold f_X11_residualAt
  rw [a1, Option.bind_some, if_pos (show 0 ≤ N1 483 49 ∧ N1 483 49 < 8 by rw [r1]; exact g8), r1, r2, ho_w bi.1 bi.2, b1, Option.bind_some]
  dsimp only
  unfold f_X11_residualAt_25
  have e0 : ((0 : Int), N2) = (((0 : Nat) : Int), tp_wr N2 526 0 ((0 : Nat) : Int) (fun t => tp_w (N2 526 t + tp_w (k * M 514 (7 * sd + t))))) := by rw [show ((0 : Nat) : Int) = 0 from rfl, wr_zero]
  rw [e0]
  refine lp_seq (fun n => ((n : Int), tp_wr N2 526 0 n (fun t => tp_w (N2 526 t + tp_w (k * M 514 (7 * sd + t)))))) 7 (fun n hn rc => ?_) (fun rc => ?_) tp_N (by unfold tp_N; omega)
  · have u := wr_succ0 N2 526 n (fun t => tp_w (N2 526 t + tp_w (k * M 514 (7 * sd + t))))
    have g0 : ¬ 7 ≤ (n : Int) := by omega
    have g1 : 0 ≤ (n : Int) ∧ (n : Int) < 7 := by omega
    have b1 : -2147483648 ≤ 7 * sd ∧ 7 * sd ≤ 2147483647 := by omega
    have b2 : -2147483648 ≤ 7 * sd + (n : Int) ∧ 7 * sd + (n : Int) ≤ 2147483647 := by omega
    have g2 : 0 ≤ 7 * sd + (n : Int) ∧ 7 * sd + (n : Int) < 448 := by omega
    have g4 : n < 1000000 := by omega
    have nn : ¬ ((526 : Int) = 526 ∧ 0 ≤ (n : Int) ∧ (n : Int) < 0 + n) := by omega
    have q2 : N2 514 (7 * sd + n) = M 514 (7 * sd + n) := f2 _ _ (by decide) (by decide) (fun h => absurd h.1 (by decide))
    have r1 : tp_wr N2 526 0 n (fun t => tp_w (N2 526 t + tp_w (k * M 514 (7 * sd + t)))) 526 n = N2 526 n := wr_out nn
    have r2 : tp_wr N2 526 0 n (fun t => tp_w (N2 526 t + tp_w (k * M 514 (7 * sd + t)))) 514 (7 * sd + n) = M 514 (7 * sd + n) := by rw [wr_out (fun h => absurd h.1 (by decide))]; exact q2
    simp only [f_X11_residualAt_25B, tp_mp, tp_lt]
    rw [if_neg g0, if_pos g1, ho_w b1.1 b1.2, ho_w b2.1 b2.2, if_pos g2, if_pos g1, r1, r2, w_succ g4]
    exact congrArg (fun z => rc (((n + 1 : Nat) : Int), z)) u
  · have e7 : tp_wr N2 526 0 ((7 : Nat) : Int) (fun t => tp_w (N2 526 t + tp_w (k * M 514 (7 * sd + t)))) = W := hW
    have l1 : W 483 49 = r := by rw [fW _ _ (by decide), f2 _ _ (by decide) (by decide) (fun h => absurd h.2 (by decide))]; exact hC.1
    have td : f_X11_takesDown W = some K2 := by
      unfold f_X11_takesDown
      simp only [tp_lt]
      rw [l1, ho_w (x := r - 1) (by omega) (by omega), show r - 1 = (((r - 1).toNat : Nat) : Int) by omega]
      exact c1
    simp only [f_X11_residualAt_25B, e7]
    rw [if_pos (by decide), td, Option.bind_some, c2]
