theorem s_lm38 {W : tp_M} {v k e s B : Int} {rec_30 : Int → Int → tp_M → Option tp_M} (hk : 1 ≤ k ∧ k ≤ 6) (h1 : W 521 k = e) (h2 : W 523 k = s) (he : 1 ≤ e ∧ e ≤ 8) (hs : 0 ≤ s ∧ s ≤ 2000) (hv : -B ≤ v ∧ v ≤ B) (hB : 0 ≤ B ∧ B ≤ 1000000) : ∀ (n N : Nat) (t : Int), n < N → 0 ≤ t → t + n = e → (∃ t0, t ≤ t0 ∧ t0 < t + n ∧ (v - t0 * s) % e = 0) → tp_lp (σ := Int) (fun rec_ u => f_X11_laysMonomial_38B rec_30 v k W (fun x4' => rec_ x4') u) N t = rec_30 ((v - tsr e s v n t * s) / e) (k - 1) (tp_up W 526 k (tsr e s v n t)) := by
  intro n
  induction n with
  | zero => rintro N t _ _ _ ⟨t0, a, b, _⟩; omega
  | succ n ih =>
    rintro N t hN h0 ht ⟨t0, a1, a2, a3⟩
    have g0 : 0 ≤ k ∧ k < 8 := by omega
    have g0' : 0 ≤ k ∧ k < 7 := by omega
    have ms := mstep (t := t) he hs (by omega) hv hB.1
    have mb := mulB (x := t) (y := s) (a := 8) (b := 2000) (by omega) hs
    have b1 : -2147483648 ≤ t * s ∧ t * s ≤ 2147483647 := by omega
    have b2 : -2147483648 ≤ v - t * s ∧ v - t * s ≤ 2147483647 := by omega
    have b3 : -2147483648 ≤ t + 1 ∧ t + 1 ≤ 2147483647 := by omega
    have b4 : -2147483648 ≤ (v - t * s) / e ∧ (v - t * s) / e ≤ 2147483647 := by omega
    have b5 : -2147483648 ≤ k + -1 ∧ k + -1 ≤ 2147483647 := by omega
    have e5 : k + -1 = k - 1 := by omega
    have g3 : ¬ e = 0 := by omega
    have q1 : tp_up W 526 k t 521 k = e := by rw [up_ne (fun h => absurd h.1 (by decide))]; exact h1
    have q2 : tp_up W 526 k t 523 k = s := by rw [up_ne (fun h => absurd h.1 (by decide))]; exact h2
    rw [lp_1 (by omega)]
    unfold tsr
    by_cases cz : (v - t * s) % e = 0
    · have td := Int.tdiv_eq_ediv_of_dvd (Int.dvd_of_emod_eq_zero cz)
      simp only [f_X11_laysMonomial_38B, tp_mp, tp_lt]
      rw [if_pos g0, if_pos g0, if_neg (show ¬ W 521 k = 0 by rw [h1]; exact g3), h1, h2, ho_w b1.1 b1.2, ho_w b2.1 b2.2, if_pos (tm0.mpr cz), if_pos g0', if_pos g0, if_pos g0, if_neg (show ¬ tp_up W 526 k t 521 k = 0 by rw [q1]; exact g3), q1, q2, ho_w b1.1 b1.2, ho_w b2.1 b2.2, td, ho_w b4.1 b4.2, ho_w b5.1 b5.2, e5, if_pos cz]
    · have hne : t0 ≠ t := fun h => cz (h ▸ a3)
      have key := ih (N - 1) (t + 1) (by omega) (by omega) (by omega) ⟨t0, by omega, by omega, a3⟩
      generalize tp_lp (σ := Int) (fun rec_ u => f_X11_laysMonomial_38B rec_30 v k W (fun x4' => rec_ x4') u) (N - 1) = Rc at key ⊢
      simp only [f_X11_laysMonomial_38B, tp_mp, tp_lt]
      rw [if_pos g0, if_pos g0, if_neg (show ¬ W 521 k = 0 by rw [h1]; exact g3), h1, h2, ho_w b1.1 b1.2, ho_w b2.1 b2.2, if_neg (fun h => cz (tm0.mp h)), ho_w b3.1 b3.2, if_neg cz]
      exact key
def lB30 : (Int × Int × tp_M → Option tp_M) → Int × Int × tp_M → Option tp_M := fun rec_ u => f_X11_laysMonomial_30B (fun x2' x3' M0' => rec_ (x2', x3', M0')) u.1 u.2.1 u.2.2
set_option maxHeartbeats 4000000 in
set_option maxRecDepth 100000 in
theorem s_lm30 {r : Int} {D e s : Int → Int} (hb : cxb r D e s) (hc : copr r e s) (hr : 1 ≤ r ∧ r ≤ 6) : ∀ (n N : Nat) (v B : Int) (W : tp_M), n < N → (n : Int) < r → (∀ k, 1 ≤ k → k < r → W 521 k = e k ∧ W 523 k = s k) → -B ≤ v → v ≤ B → 0 ≤ B → B + 16000 * n ≤ 900000 → ∃ K, tp_lp lB30 N (v, (n : Int), W) = some K ∧ (∀ k, 0 ≤ k → k ≤ (n : Int) → K 526 k = mnl e s n v k) ∧ ∀ a k, ¬ (a = 526 ∧ 0 ≤ k ∧ k ≤ (n : Int)) → K a k = W a k := by
  intro n
  induction n with
  | zero =>
    intro N v B W hN hn hW b0 b1 b2 b3
    refine ⟨tp_up W 526 0 v, ?_, fun k k0 k1 => ?_, fun a k h => up_ne (fun hh => h ⟨hh.1, by omega, by omega⟩)⟩
    · rw [lp_1 (by omega)]
      simp only [lB30, f_X11_laysMonomial_30B, tp_mp]
      rw [if_pos (by decide), if_pos (by decide)]
    · have : k = 0 := by omega
      rw [this, up_eq ⟨rfl, rfl⟩]
      unfold mnl
      simp only
      rw [if_pos trivial]
  | succ n ih =>
    intro N v B W hN hn hW b0 b1 b2 b3
    have n0 : 1 ≤ (n : Int) + 1 := by omega
    have n1 : (n : Int) + 1 < r := by omega
    have hk := hb.2 _ n0 n1
    have hw := hW _ n0 n1
    have ts := tv_spec (v := v) hk.2.1.1 (hc _ n0 n1)
    have ms := mstep (t := tv (e ((n : Int) + 1)) (s ((n : Int) + 1)) v) hk.2.1 hk.2.2.1 (by omega) ⟨b0, b1⟩ b2
    have h38 := s_lm38 (W := W) (v := v) (k := (n : Int) + 1) (e := e ((n : Int) + 1)) (s := s ((n : Int) + 1)) (B := B) (rec_30 := fun x2' x3' M0' => tp_lp lB30 (N - 1) (x2', x3', M0')) (by omega) hw.1 hw.2 hk.2.1 hk.2.2.1 ⟨b0, b1⟩ (by omega) (e ((n : Int) + 1)).toNat tp_N 0 (by unfold tp_N; omega) (by omega) (by omega) ⟨tv (e ((n : Int) + 1)) (s ((n : Int) + 1)) v, ts.1, by omega, ts.2.2⟩
    have et : tsr (e ((n : Int) + 1)) (s ((n : Int) + 1)) v (e ((n : Int) + 1)).toNat 0 = tv (e ((n : Int) + 1)) (s ((n : Int) + 1)) v := rfl
    rw [et] at h38
    have emn : ∀ k, mnl e s (n + 1) v k = if k = (n : Int) + 1 then tv (e ((n : Int) + 1)) (s ((n : Int) + 1)) v else mnl e s n ((v - tv (e ((n : Int) + 1)) (s ((n : Int) + 1)) v * s ((n : Int) + 1)) / e ((n : Int) + 1)) k := fun k => rfl
    generalize tv (e ((n : Int) + 1)) (s ((n : Int) + 1)) v = t at *
    generalize hW1 : tp_up W 526 ((n : Int) + 1) t = W1 at h38
    have f1 : ∀ a k, ¬ (a = 526 ∧ k = (n : Int) + 1) → W1 a k = W a k := fun a k h => by rw [← hW1, up_ne h]
    obtain ⟨K, k1, k2, k3⟩ := ih (N - 1) ((v - t * s ((n : Int) + 1)) / e ((n : Int) + 1)) (B + 16000) W1 (by omega) (by omega) (fun k k0 k1 => by rw [f1 _ _ (fun h => absurd h.1 (by decide)), f1 _ _ (fun h => absurd h.1 (by decide))]; exact hW k k0 k1) ms.2.2.1 ms.2.2.2 (by omega) (by omega)
    refine ⟨K, ?_, fun k k0 k1 => ?_, fun a k h => by rw [k3 a k (fun hh => h ⟨hh.1, hh.2.1, by omega⟩), f1 a k (fun hh => h ⟨hh.1, by omega, by omega⟩)]⟩
    · have g0 : ¬ (n : Int) + 1 < 1 := by omega
      have en : ((n + 1 : Nat) : Int) = (n : Int) + 1 := by omega
      have e3 : (n : Int) + 1 - 1 = n := by omega
      rw [lp_1 (by omega)]
      generalize tp_lp lB30 (N - 1) = Rc at k1 h38 ⊢
      simp only [lB30, f_X11_laysMonomial_30B]
      rw [en, if_neg g0]
      unfold f_X11_laysMonomial_38
      refine Eq.trans h38 ?_
      rw [e3]
      exact k1
    · rw [emn]
      by_cases ck : k = (n : Int) + 1
      · rw [if_pos ck, k3 _ _ (fun hh => by omega), ck, ← hW1, up_eq ⟨rfl, rfl⟩]
      · rw [if_neg ck]; exact k2 k k0 (by omega)
theorem s_laysMonomial {M : tp_M} {r v : Int} {D e s kf : Int → Int} {q : Int → Int → Int} (hb : cxb r D e s) (hc : copr r e s) (hC : CxR M r D e s kf q) (hr : 1 ≤ r ∧ r ≤ 6) (hv : 0 ≤ v ∧ v ≤ 100000) : ∃ N, f_X11_laysMonomial v M = some N ∧ (∀ k, 0 ≤ k → k < 7 → N 526 k = mnl e s (r - 1).toNat v k) ∧ ∀ a k, a ≠ 526 → N a k = M a k := by
  generalize hW : tp_wr M 526 0 7 (fun _ => 0) = W
  have fW : ∀ c k, c ≠ 526 → W c k = M c k := fun c k hc => by rw [← hW, wr_out (fun h => hc h.1)]
  obtain ⟨K, k1, k2, k3⟩ := s_lm30 (r := r) hb hc hr (r - 1).toNat tp_N v v W (by unfold tp_N; omega) (by omega) (fun k k0 k1 => by rw [fW _ _ (by decide), fW _ _ (by decide)]; exact hC.2.2 k k0 k1) (by omega) (by omega) hv.1 (by omega)
  refine ⟨K, ?_, fun k k0 k1 => ?_, fun a k h => by rw [k3 a k (fun hh => h hh.1), fW a k h]⟩
  · unfold f_X11_laysMonomial f_X11_laysMonomial_4
    have e0 : ((0 : Int), M) = (((0 : Nat) : Int), tp_wr M 526 0 ((0 : Nat) : Int) (fun _ => 0)) := by rw [show ((0 : Nat) : Int) = 0 from rfl, wr_zero]
    rw [e0]
    refine lp_seq (fun n => ((n : Int), tp_wr M 526 0 n (fun _ => 0))) 7 (fun n hn rc => ?_) (fun rc => ?_) tp_N (by unfold tp_N; omega)
    · have u := wr_succ0 M 526 n (fun _ => 0)
      have g0 : ¬ 7 ≤ (n : Int) := by omega
      have g1 : 0 ≤ (n : Int) ∧ (n : Int) < 7 := by omega
      have g4 : n < 1000000 := by omega
      simp only [f_X11_laysMonomial_4B, tp_mp, tp_lt]
      rw [if_neg g0, if_pos g1, w_succ g4]
      exact congrArg (fun z => rc (((n + 1 : Nat) : Int), z)) u
    · have e7 : tp_wr M 526 0 ((7 : Nat) : Int) (fun _ => 0) = W := hW
      have r1 : W 483 49 = r := by rw [fW _ _ (by decide)]; exact hC.1
      have er : r - 1 = (((r - 1).toNat : Nat) : Int) := by omega
      simp only [f_X11_laysMonomial_4B, tp_lt, e7]
      rw [if_pos (by decide), r1, ho_w (x := r - 1) (by omega) (by omega), er]
      exact k1
  · by_cases c2 : k ≤ (((r - 1).toNat : Nat) : Int)
    · exact k2 k k0 c2
    · rw [k3 _ _ (fun hh => c2 hh.2.2), ← hW, wr_in (by omega), mnl_hi _ _ _ _ _ (by omega)]
/-- a residue times a root, so often -/
def pwm (p rt : Int) : Nat → Int → Int
  | 0, c => c
  | n + 1, c => pwm p rt n (c * rt % p)
def rdN (p : Int) (e rt : Int → Int) (mo : Int → Int → Int) : Nat → (Int → Int) → Int → Int
  | 0, _, c => c
  | n + 1, x, c => rdN p e rt mo n (fun j => x j + x ((n : Int) + 1) / e ((n : Int) + 1) * mo ((n : Int) + 1) j) (pwm p (rt ((n : Int) + 1)) (x ((n : Int) + 1) / e ((n : Int) + 1)).toNat c)
theorem rdN_cong {p : Int} {e rt : Int → Int} {mo : Int → Int → Int} : ∀ (n : Nat) {x y : Int → Int} (c : Int), (∀ j, 1 ≤ j → j ≤ (n : Int) → x j = y j) → rdN p e rt mo n x c = rdN p e rt mo n y c := by
  intro n
  induction n with
  | zero => intro x y c _; rfl
  | succ n ih =>
    intro x y c h
    unfold rdN
    rw [h ((n : Int) + 1) (by omega) (by omega)]
    exact ih _ (fun j j0 j1 => by rw [h j j0 (by omega)])
theorem pwm_lin {p rt h : Int} : ∀ (n : Nat) (c : Int), pwm p rt n (h * c % p) = h * pwm p rt n c % p := by
  intro n
  induction n with
  | zero => intro c; rfl
  | succ n ih =>
    intro c
    unfold pwm
    rw [← ih]
    congr 1
    rw [Int.mul_emod (h * c % p) rt, Int.emod_emod, ← Int.mul_emod, Int.mul_emod h (c * rt % p), Int.emod_emod, ← Int.mul_emod, Int.mul_assoc]
theorem rdN_lin {p h : Int} {e rt : Int → Int} {mo : Int → Int → Int} : ∀ (n : Nat) (x : Int → Int) (c : Int), rdN p e rt mo n x (h * c % p) = h * rdN p e rt mo n x c % p := by
  intro n
  induction n with
  | zero => intro x c; rfl
  | succ n ih => intro x c; unfold rdN; rw [pwm_lin, ih]
theorem pwm_b {p rt : Int} (hp : 0 < p) : ∀ (n : Nat) (c : Int), 0 ≤ c → c < p → 0 ≤ pwm p rt n c ∧ pwm p rt n c < p := by
  intro n
  induction n with
  | zero => intro c h0 h1; exact ⟨h0, h1⟩
  | succ n ih => intro c h0 h1; exact ih _ (Int.emod_nonneg _ (by omega)) (Int.emod_lt_of_pos _ hp)
/-- what reducing needs of the way -/
def rok (p r : Int) (e rt : Int → Int) (mo : Int → Int → Int) : Prop := ∀ k, 1 ≤ k → k < r → (1 ≤ e k ∧ e k ≤ 4) ∧ (0 ≤ rt k ∧ rt k < p) ∧ (∀ j, 1 ≤ j → j < k → 0 ≤ mo k j ∧ mo k j ≤ 3) ∧ ∀ j, k ≤ j → mo k j = 0
theorem xstep {x e B : Int} (he : 1 ≤ e) (hx : 0 ≤ x ∧ x ≤ B) : 0 ≤ x / e ∧ x / e ≤ B ∧ 0 ≤ x / e * e ∧ x / e * e ≤ x := by
  have a := Int.ediv_nonneg hx.1 (show 0 ≤ e by omega)
  have b := Int.ediv_le_self e hx.1
  have c := Int.mul_nonneg a (show 0 ≤ e by omega)
  have d := Int.mul_ediv_add_emod x e
  have m := Int.emod_nonneg x (show e ≠ 0 by omega)
  rw [Int.mul_comm] at d
  omega
theorem s_rd112 {W : tp_M} {p k T : Int} {rt : Int} {rec_13 : Int → Int → tp_M → Option (Int × tp_M)} (hp : 2 ≤ p ∧ p ≤ 7) (hk : 1 ≤ k ∧ k ≤ 6) (h1 : W 283 k = rt) (hrt : 0 ≤ rt ∧ rt < p) : ∀ (n N : Nat) (c x7 : Int), n < N → 0 ≤ x7 → x7 + n = T → T ≤ 90000 → 0 ≤ c → c < p → tp_lp (σ := Int × Int) (fun rec_ u => f_X5_reduce_112B rec_13 311 p k T W (fun x4' x7' => rec_ (x4', x7')) u.1 u.2) N (c, x7) = rec_13 (pwm p rt n c) (k - 1) W := by
  intro n
  induction n with
  | zero =>
    intro N c x7 hN h0 hT hT2 c0 c1
    rw [lp_1 (by omega)]
    simp only [f_X5_reduce_112B, f_X5_reduce_141, tp_lt]
    rw [if_pos (by omega), ho_w (x := k + -1) (by omega) (by omega), show k + -1 = k - 1 by omega]
    rfl
  | succ n ih =>
    intro N c x7 hN h0 hT hT2 c0 c1
    have q := mul7 (x := c) (y := rt) (by omega) (by omega)
    have key := ih (N - 1) (c * rt % p) (x7 + 1) (by omega) (by omega) (by omega) hT2 (Int.emod_nonneg _ (by omega)) (Int.emod_lt_of_pos _ (by omega))
    have g0 : ¬ T ≤ x7 := by omega
    have g1 : 0 ≤ k ∧ k < 8 := by omega
    have g3 : ¬ p = 0 := by omega
    have b1 : -2147483648 ≤ c * rt ∧ c * rt ≤ 2147483647 := by omega
    have b2 : -2147483648 ≤ x7 + 1 ∧ x7 + 1 ≤ 2147483647 := by omega
    have rm : f_X10_remainder (c * rt) p W = some (c * rt % p) := by
      unfold f_X10_remainder
      rw [if_pos g3, if_neg g3, Int.tmod_eq_emod_of_nonneg q.1]
    rw [lp_1 (by omega)]
    generalize tp_lp (σ := Int × Int) (fun rec_ u => f_X5_reduce_112B rec_13 311 p k T W (fun x4' x7' => rec_ (x4', x7')) u.1 u.2) (N - 1) = Rc at key ⊢
    simp only [f_X5_reduce_112B, tp_lt]
    rw [if_neg g0, if_pos g1, h1, ho_w b1.1 b1.2, rm, Option.bind_some, ho_w b2.1 b2.2]
    exact key
theorem t311 : tp_tg 311 = 21 ∧ tp_al 311 = 8 := by decide +kernel
theorem s_rd76 {W : tp_M} {p k T c : Int} {rec_13 : Int → Int → tp_M → Option (Int × tp_M)} (hk : 1 ≤ k ∧ k ≤ 6) : f_X5_reduce_76 rec_13 311 p c k T 0 W = f_X5_reduce_112 rec_13 311 p c k T 0 (tp_wr W 311 0 k (fun j => tp_w (W 311 j + tp_w (T * W (285 + k) j)))) := by
  obtain ⟨K, rfl⟩ : ∃ K : Nat, k = K := ⟨k.toNat, by omega⟩
  unfold f_X5_reduce_76
  have e0 : ((0 : Int), W) = (((0 : Nat) : Int), tp_wr W 311 0 ((0 : Nat) : Int) (fun j => tp_w (W 311 j + tp_w (T * W (285 + K) j)))) := by rw [show ((0 : Nat) : Int) = 0 from rfl, wr_zero]
  rw [e0]
  refine lp_seq (fun n => ((n : Int), tp_wr W 311 0 n (fun j => tp_w (W 311 j + tp_w (T * W (285 + K) j))))) K (fun n hn rc => ?_) (fun rc => ?_) tp_N (by unfold tp_N; omega)
  · have u := wr_succ0 W 311 n (fun j => tp_w (W 311 j + tp_w (T * W (285 + K) j)))
    have g0 : ¬ (K : Int) ≤ n := by omega
    have g1 : 0 ≤ (n : Int) ∧ (n : Int) < 8 := by omega
    have g2 : 0 ≤ (K : Int) ∧ (K : Int) < 8 := by omega
    have g4 : n < 1000000 := by omega
    have n1 : ¬ ((311 : Int) = 311 ∧ 0 ≤ (n : Int) ∧ (n : Int) < 0 + n) := by omega
    have n2 : ¬ (285 + (K : Int) = 311) := by omega
    have r1 : tp_wr W 311 0 n (fun j => tp_w (W 311 j + tp_w (T * W (285 + K) j))) 311 n = W 311 n := wr_out n1
    have r2 : tp_wr W 311 0 n (fun j => tp_w (W 311 j + tp_w (T * W (285 + K) j))) (285 + K) n = W (285 + K) n := wr_out (fun h => n2 h.1)
    simp only [f_X5_reduce_76B, tp_mp, tp_lt, t311.2]
    rw [if_neg g0, if_pos g1, if_pos g2, if_pos g1, if_pos g1, r1, r2, w_succ g4]
    exact congrArg (fun z => rc (((n + 1 : Nat) : Int), z)) u
  · simp only [f_X5_reduce_76B]
    rw [if_pos (Int.le_refl _)]
def dB13 (p : Int) : (Int × Int × tp_M → Option (Int × tp_M)) → Int × Int × tp_M → Option (Int × tp_M) := fun rec_ u => f_X5_reduce_13B 311 p (fun x4' x5' M0' => rec_ (x4', x5', M0')) u.1 u.2.1 u.2.2
set_option maxHeartbeats 4000000 in
set_option maxRecDepth 100000 in
theorem s_rd13 {p r : Int} {e rt : Int → Int} {mo : Int → Int → Int} (hp : 2 ≤ p ∧ p ≤ 7) (hr : 1 ≤ r ∧ r ≤ 6) (ho : rok p r e rt mo) : ∀ (n N : Nat) (c B : Int) (W : tp_M), n < N → (n : Int) < r → (∀ k, 1 ≤ k → k < r → W 281 k = e k ∧ W 283 k = rt k ∧ ∀ j, 0 ≤ j → j < 7 → W (285 + k) j = mo k j) → 0 ≤ c → c < p → (∀ j, 1 ≤ j → j ≤ (n : Int) → 0 ≤ W 311 j ∧ W 311 j ≤ B) → 0 ≤ B → B * 4 ^ n ≤ 90000 → ∃ K, tp_lp (dB13 p) N (c, (n : Int), W) = some (rdN p e rt mo n (W 311) c, K) ∧ ∀ a k, a ≠ 311 → K a k = W a k := by
  intro n
  induction n with
  | zero =>
    intro N c B W hN hn hW c0 c1 hx hB hB2
    refine ⟨W, ?_, fun a k _ => rfl⟩
    rw [lp_1 (by omega)]
    simp only [dB13, f_X5_reduce_13B]
    rw [if_pos (by decide)]
    rfl
  | succ n ih =>
    intro N c B W hN hn hW c0 c1 hx hB hB2
    have n0 : 1 ≤ (n : Int) + 1 := by omega
    have n1 : (n : Int) + 1 < r := by omega
    obtain ⟨o1, o2, o3, o4⟩ := ho _ n0 n1
    obtain ⟨w1, w2, w3⟩ := hW _ n0 n1
    have hxk := hx ((n : Int) + 1) n0 (by omega)
    have p4 : (1 : Int) ≤ 4 ^ (n + 1) := (pow_mono (p := 4) (by decide) (a := n + 1) (b := n + 1) (Nat.le_refl _)).1
    have B90 : B ≤ 90000 := by
      have := Int.mul_le_mul_of_nonneg_left p4 hB
      omega
    have B4 : B * 4 * 4 ^ n ≤ 90000 := by
      rw [Int.pow_succ, Int.mul_comm (4 ^ n) 4, ← Int.mul_assoc] at hB2
      exact hB2
    have xs := xstep o1.1 hxk
    generalize hT : W 311 ((n : Int) + 1) / e ((n : Int) + 1) = T at xs
    have en : ((n + 1 : Nat) : Int) = (n : Int) + 1 := by omega
    have g0 : ¬ (n : Int) + 1 < 1 := by omega
    have g1 : ¬ (8 : Int) ≤ (n : Int) + 1 := by omega
    have g2 : 0 ≤ (n : Int) + 1 ∧ (n : Int) + 1 < 8 := by omega
    have g3 : 1 ≤ e ((n : Int) + 1) := o1.1
    have g5 : ¬ e ((n : Int) + 1) = 0 := by omega
    have bT : -2147483648 ≤ T ∧ T ≤ 2147483647 := by omega
    have bTe : -2147483648 ≤ T * e ((n : Int) + 1) ∧ T * e ((n : Int) + 1) ≤ 2147483647 := by omega
    have bx : -2147483648 ≤ W 311 ((n : Int) + 1) - T * e ((n : Int) + 1) ∧ W 311 ((n : Int) + 1) - T * e ((n : Int) + 1) ≤ 2147483647 := by omega
    generalize hW1 : tp_up W 311 ((n : Int) + 1) (W 311 ((n : Int) + 1) - T * e ((n : Int) + 1)) = W1
    have f1 : ∀ a k, ¬ (a = 311 ∧ k = (n : Int) + 1) → W1 a k = W a k := fun a k h => by rw [← hW1, up_ne h]
    have n285 : ¬ (285 + ((n : Int) + 1) = 311) := by omega
    generalize hW2 : tp_wr W1 311 0 ((n : Int) + 1) (fun j => tp_w (W1 311 j + tp_w (T * W1 (285 + ((n : Int) + 1)) j))) = W2
    have f2 : ∀ a k, a ≠ 311 → W2 a k = W a k := fun a k h => by rw [← hW2, wr_out (fun hh => h hh.1), f1 a k (fun hh => h hh.1)]
    have x2 : ∀ j, 1 ≤ j → j ≤ (n : Int) → W2 311 j = W 311 j + T * mo ((n : Int) + 1) j := fun j j0 j1 => by
      have m1 := o3 j j0 (by omega)
      have xj := hx j j0 (by omega)
      have mm := mulB (x := T) (y := mo ((n : Int) + 1) j) (a := 90000) (b := 3) (by omega) m1
      rw [← hW2, wr_in (by omega), show j - 0 = j by omega, f1 _ _ (fun h => by omega), f1 _ _ (fun h => n285 h.1), w3 j (by omega) (by omega), ho_w (x := T * mo ((n : Int) + 1) j) (by omega) (by omega), ho_w (by omega) (by omega)]
    obtain ⟨K, k1, k2⟩ := ih (N - 1) (pwm p (rt ((n : Int) + 1)) T.toNat c) (B * 4) W2 (by omega) (by omega) (fun k k0 k1 => ⟨by rw [f2 _ _ (by decide)]; exact (hW k k0 k1).1, by rw [f2 _ _ (by decide)]; exact (hW k k0 k1).2.1, fun j j0 j1 => by rw [f2 _ _ (by omega)]; exact (hW k k0 k1).2.2 j j0 j1⟩) (pwm_b (by omega) _ _ c0 c1).1 (pwm_b (by omega) _ _ c0 c1).2 (fun j j0 j1 => by
      have m1 := o3 j j0 (by omega)
      have xj := hx j j0 (by omega)
      have mm := mulB (x := T) (y := mo ((n : Int) + 1) j) (a := B) (b := 3) (by omega) m1
      rw [x2 j j0 j1]
      omega) (by omega) B4
    have h112 := s_rd112 (W := W2) (p := p) (k := (n : Int) + 1) (T := T) (rt := rt ((n : Int) + 1)) (rec_13 := fun x4' x5' M0' => tp_lp (dB13 p) (N - 1) (x4', x5', M0')) hp (by omega) (by rw [f2 _ _ (by decide)]; exact w2) o2 T.toNat tp_N c 0 (by unfold tp_N; omega) (by omega) (by omega) (by omega) c0 c1
    have h76 := s_rd76 (W := W1) (p := p) (k := (n : Int) + 1) (T := T) (c := c) (rec_13 := fun x4' x5' M0' => tp_lp (dB13 p) (N - 1) (x4', x5', M0')) (by omega)
    rw [hW2] at h76
    have ern : rdN p e rt mo (n + 1) (W 311) c = rdN p e rt mo n (W2 311) (pwm p (rt ((n : Int) + 1)) T.toNat c) := by
      show rdN p e rt mo n (fun j => W 311 j + W 311 ((n : Int) + 1) / e ((n : Int) + 1) * mo ((n : Int) + 1) j) (pwm p (rt ((n : Int) + 1)) (W 311 ((n : Int) + 1) / e ((n : Int) + 1)).toNat c) = _
      rw [hT]
      exact rdN_cong n _ (fun j j0 j1 => (x2 j j0 j1).symm)
    rw [ern]
    refine ⟨K, ?_, fun a k h => by rw [k2 a k h, f2 a k h]⟩
    have td := Int.tdiv_eq_ediv_of_nonneg (a := W 311 ((n : Int) + 1)) (b := e ((n : Int) + 1)) hxk.1
    rw [hT] at td
    have qt : f_X10_quotient (W 311 ((n : Int) + 1)) (e ((n : Int) + 1)) W = some T := by
      unfold f_X10_quotient
      rw [if_pos g5, if_neg g5, td, ho_w bT.1 bT.2]
    have e3 : (n : Int) + 1 - 1 = n := by omega
    rw [e3] at h112
    rw [lp_1 (by omega)]
    generalize tp_lp (dB13 p) (N - 1) = Rc at k1 h112 h76 ⊢
    simp only [dB13, f_X5_reduce_13B, tp_mp, t311.2, en]
    rw [if_neg g0, if_neg g1, if_pos g2, if_pos (show 1 ≤ W 281 ((n : Int) + 1) by rw [w1]; exact g3), if_pos g2, if_pos g2, w1, qt, Option.bind_some, if_pos g2, if_pos g2, if_pos g2, ho_w bTe.1 bTe.2, ho_w bx.1 bx.2, hW1, h76]
    exact Eq.trans h112 k1
theorem s_reduce {M : tp_M} {p r B : Int} {e rt : Int → Int} {mo : Int → Int → Int} (hp : 2 ≤ p ∧ p ≤ 7) (hr : 1 ≤ r ∧ r ≤ 6) (ho : rok p r e rt mo) (hM : ∀ k, 1 ≤ k → k < r → M 281 k = e k ∧ M 283 k = rt k ∧ ∀ j, 0 ≤ j → j < 7 → M (285 + k) j = mo k j) (hx : ∀ j, 1 ≤ j → j < r → 0 ≤ M 311 j ∧ M 311 j ≤ 27) : ∃ K, f_X5_reduce 311 r p M = some (rdN p e rt mo (r - 1).toNat (M 311) 1, K) ∧ ∀ a k, a ≠ 311 → K a k = M a k := by
  have p4 : (4 : Int) ^ (r - 1).toNat ≤ 4 ^ 5 := (pow_mono (p := 4) (by decide) (a := (r - 1).toNat) (b := 5) (by omega)).2
  have e4 : (4 : Int) ^ 5 = 1024 := by decide
  obtain ⟨K, k1, k2⟩ := s_rd13 hp hr ho (r - 1).toNat tp_N 1 27 M (by unfold tp_N; omega) (by omega) hM (by omega) (by omega) (fun j j0 j1 => hx j j0 (by omega)) (by decide) (by omega)
  refine ⟨K, ?_, k2⟩
  unfold f_X5_reduce
  simp only [tp_lt]
  rw [if_pos t311.1, ho_w (x := r - 1) (by omega) (by omega), show min (r - 1) 6 = (((r - 1).toNat : Nat) : Int) by omega]
  exact k1
set_option maxHeartbeats 4000000 in
set_option maxRecDepth 100000 in
theorem s_residueOnSide {M : tp_M} {p K P kc sc i k r : Int} {D e s rt : Int → Int} {mo : Int → Int → Int} (h : pKP p K P) (hb : cxb r D e s) (hC : CxC M r D e s) (hr : 1 ≤ r ∧ r ≤ 6) (ho : rok p r e rt mo) (tk : kn_t kc) (ts : tp_tg sc = 7) (hkc : kc ≠ 311 ∧ sc + 1 ≠ 311) (hl : M kc 0 = r) (hp : M 1 0 = p) (hM : ∀ k, 1 ≤ k → k < r → M 283 k = rt k ∧ ∀ j, 0 ≤ j → j < 7 → M (285 + k) j = mo k j) (hi : 0 ≤ i ∧ i ≤ 8) (hk : 0 ≤ k ∧ k ≤ 8) (hH : 0 ≤ M 308 i ∧ M 308 i ≤ 100) (hR : 0 ≤ M 309 i ∧ M 309 i < p) (hmn : ∀ t, 1 ≤ t → t < r → 0 ≤ M (sc + 1) t ∧ M (sc + 1) t ≤ 3) : ∃ N, f_X1_residueOnSide kc sc i k M = some (M 309 i * rdN p e rt mo (r - 1).toNat (fun t => xpt D e (M 308 i) t + k * M (sc + 1) t) 1 % p, N) ∧ ∀ a j, a ≠ 311 → N a j = M a j := by
  obtain ⟨h1, h2, h3, h4, h5, h6⟩ := h
  have hp2 := pm_2 h1
  have xv : ∀ t, 1 ≤ t → t < r → 0 ≤ xpt D e (M 308 i) t + k * M (sc + 1) t ∧ xpt D e (M 308 i) t + k * M (sc + 1) t ≤ 27 ∧ 0 ≤ k * M (sc + 1) t ∧ k * M (sc + 1) t ≤ 24 := fun t t0 t1 => by
    have a := xpt_b hb (j := M 308 i) t0 t1
    have b := (ho t t0 t1).1
    have c := mulB (x := k) (y := M (sc + 1) t) (a := 8) (b := 3) hk (hmn t t0 t1)
    omega
  have i9 : 0 ≤ i ∧ i < 9 := by omega
  generalize hx : (fun t : Int => if t < r then xpt D e (M 308 i) t + k * M (sc + 1) t else 0) = x
  have hxt : ∀ t, x t = if t < r then xpt D e (M 308 i) t + k * M (sc + 1) t else 0 := fun t => by rw [← hx]
  generalize hW0 : tp_up M 311 0 0 = W0
  have f0 : ∀ a j, a ≠ 311 → W0 a j = M a j := fun a j h => by rw [← hW0, up_ne (fun hh => h hh.1)]
  generalize hW : tp_wr W0 311 1 7 (fun j => x (j + 1)) = W
  have fW : ∀ a j, a ≠ 311 → W a j = M a j := fun a j h => by rw [← hW, wr_out (fun hh => h hh.1), f0 a j h]
  have xW : ∀ t, 1 ≤ t → t < 8 → W 311 t = x t := fun t t0 t1 => by rw [← hW, wr_in (by omega), show t - 1 + 1 = t by omega]
  obtain ⟨K1, a1, a2⟩ := s_reduce (M := W) (p := p) (r := r) (B := 0) (e := e) (rt := rt) (mo := mo) hp2 hr ho (fun k k0 k1 => ⟨by rw [fW _ _ (by decide)]; exact (hC.2 k k0 k1).1, by rw [fW _ _ (by decide)]; exact (hM k k0 k1).1, fun j j0 j1 => by rw [fW _ _ (by omega)]; exact (hM k k0 k1).2 j j0 j1⟩) (fun j j0 j1 => by
    have := xv j j0 j1
    rw [xW j j0 (by omega), hxt, if_pos j1]; omega)
  have er : rdN p e rt mo (r - 1).toNat (W 311) 1 = rdN p e rt mo (r - 1).toNat (fun t => xpt D e (M 308 i) t + k * M (sc + 1) t) 1 := rdN_cong _ _ (fun j j0 j1 => by rw [xW j j0 (by omega), hxt, if_pos (by omega)])
  rw [er] at a1
  have rb : 0 ≤ rdN p e rt mo (r - 1).toNat (fun t => xpt D e (M 308 i) t + k * M (sc + 1) t) 1 ∧ rdN p e rt mo (r - 1).toNat (fun t => xpt D e (M 308 i) t + k * M (sc + 1) t) 1 < p := by
    have key : ∀ (n : Nat) (y : Int → Int) (c : Int), 0 ≤ c → c < p → 0 ≤ rdN p e rt mo n y c ∧ rdN p e rt mo n y c < p := by
      intro n
      induction n with
      | zero => intro y c c0 c1; exact ⟨c0, c1⟩
      | succ n ih => intro y c c0 c1; have := pwm_b (p := p) (rt := rt ((n : Int) + 1)) (by omega) (y ((n : Int) + 1) / e ((n : Int) + 1)).toNat c c0 c1; exact ih _ _ this.1 this.2
    exact key _ _ 1 (by omega) (by omega)
  generalize rdN p e rt mo (r - 1).toNat (fun t => xpt D e (M 308 i) t + k * M (sc + 1) t) 1 = R at a1 rb
  have mR := mul7 (x := M 309 i) (y := R) (by omega) (by omega)
  refine ⟨K1, ?_, fun a j h => by rw [a2 a j h, fW a j h]⟩
  unfold f_X1_residueOnSide
  simp only [tp_mp]
  rw [if_pos (show tp_tg kc = 2 from tk), if_pos ts, if_pos (by decide), hW0]
  unfold f_X1_residueOnSide_10
  have e0 : ((1 : Int), W0) = (((0 : Nat) : Int) + 1, tp_wr W0 311 1 ((0 : Nat) : Int) (fun j => x (j + 1))) := by rw [show ((0 : Nat) : Int) = 0 from rfl, wr_zero]; rfl
  rw [e0]
  refine lp_seq (fun n => ((n : Int) + 1, tp_wr W0 311 1 n (fun j => x (j + 1)))) 7 (fun n hn rc => ?_) (fun rc => ?_) tp_N (by unfold tp_N; omega)
  · have u := wr_succ W0 311 1 n (fun j => x (j + 1)) (by omega)
    rw [show (1 : Int) + n = (n : Int) + 1 by omega] at u
    have en : ((n + 1 : Nat) : Int) = (n : Int) + 1 := by omega
    have g0 : ¬ 8 ≤ (n : Int) + 1 := by omega
    have g1 : 0 ≤ (n : Int) + 1 ∧ (n : Int) + 1 < 8 := by omega
    have b1 : -2147483648 ≤ (n : Int) + 1 + 1 ∧ (n : Int) + 1 + 1 ≤ 2147483647 := by omega
    generalize hV : tp_wr W0 311 1 n (fun j => x (j + 1)) = V at *
    have fV : ∀ a j, a ≠ 311 → V a j = M a j := fun a j h => by rw [← hV, wr_out (fun hh => h hh.1), f0 a j h]
    have l1 : V kc 0 = r := by rw [fV _ _ hkc.1]; exact hl
    have l2 : V 308 i = M 308 i := fV _ _ (by decide)
    have l3 : V (sc + 1) ((n : Int) + 1) = M (sc + 1) ((n : Int) + 1) := fV _ _ hkc.2
    have hCV : CxC V r D e s := ⟨fun k k0 k1 => by rw [fV _ _ (by decide)]; exact hC.1 k k0 k1, fun k k0 k1 => ⟨by rw [fV _ _ (by decide)]; exact (hC.2 k k0 k1).1, by rw [fV _ _ (by decide)]; exact (hC.2 k k0 k1).2⟩⟩
    simp only [f_X1_residueOnSide_10B, f_X1_residueOnSide_62, tp_mp, tp_lt]
    rw [if_neg g0, ho_w b1.1 b1.2, en]
    by_cases c : r ≤ (n : Int) + 1
    · rw [if_pos (show V kc 0 ≤ (n : Int) + 1 by rw [l1]; exact c), if_pos g1]
      rw [hxt, if_neg (by omega)] at u
      rw [u]
    · have xt := xv ((n : Int) + 1) (by omega) (by omega)
      have ex := s_exponent hb hCV hr.2 (j := M 308 i) (k := (n : Int) + 1) hH (by omega) (by omega)
      have b2 : -2147483648 ≤ k * M (sc + 1) ((n : Int) + 1) ∧ k * M (sc + 1) ((n : Int) + 1) ≤ 2147483647 := by omega
      have b3 : -2147483648 ≤ xpt D e (M 308 i) ((n : Int) + 1) + k * M (sc + 1) ((n : Int) + 1) ∧ xpt D e (M 308 i) ((n : Int) + 1) + k * M (sc + 1) ((n : Int) + 1) ≤ 2147483647 := by omega
      rw [if_neg (show ¬ V kc 0 ≤ (n : Int) + 1 by rw [l1]; exact c), if_pos i9, l2, ex, Option.bind_some, if_pos g1, l3, ho_w b2.1 b2.2, ho_w b3.1 b3.2, if_pos g1]
      rw [hxt, if_pos (by omega)] at u
      rw [u]
  · have e7 : tp_wr W0 311 1 ((7 : Nat) : Int) (fun j => x (j + 1)) = W := hW
    have l1 : W kc 0 = r := by rw [fW _ _ hkc.1]; exact hl
    have l2 : W 1 0 = p := by rw [fW _ _ (by decide)]; exact hp
    have l3 : W 309 i = M 309 i := fW _ _ (by decide)
    have l4 : K1 1 0 = p := by rw [a2 _ _ (by decide), fW _ _ (by decide)]; exact hp
    have g3 : ¬ p = 0 := by omega
    have b2 : -2147483648 ≤ M 309 i * R ∧ M 309 i * R ≤ 2147483647 := by omega
    have rm : f_X10_remainder (M 309 i * R) p K1 = some (M 309 i * R % p) := by
      unfold f_X10_remainder
      rw [if_pos g3, if_neg g3, Int.tmod_eq_emod_of_nonneg mR.1]
    simp only [f_X1_residueOnSide_10B, e7]
    rw [if_pos (by decide), if_pos i9, l1, l2, a1, Option.bind_some, l3]
    dsimp only
    rw [l4, ho_w b2.1 b2.2, rm, Option.bind_some]
