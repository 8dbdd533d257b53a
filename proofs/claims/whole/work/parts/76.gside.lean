def nxS (w : Int → Int) (h : Int) : Nat → Int
  | 0 => -1
  | k + 1 => if 0 ≤ w (h + 1 + k) ∧ (nxS w h k < 0 ∨ (w (h + 1 + k) - w h) * (nxS w h k - h) ≤ (w (nxS w h k) - w h) * (h + 1 + k - h)) then h + 1 + k else nxS w h k
theorem nxS_mst (w : Int → Int) {h : Int} (h0 : 0 ≤ h) : ∀ k : Nat, mst w h (h + 1 + k) (nxS w h k) := by
  intro k
  induction k with
  | zero => exact Or.inl ⟨rfl, fun j j0 j1 => by omega⟩
  | succ k ih =>
    have ex : h + 1 + ((k + 1 : Nat) : Int) = h + 1 + k + 1 := by omega
    rw [ex]
    unfold nxS
    generalize nxS w h k = b at ih ⊢
    by_cases c : 0 ≤ w (h + 1 + k) ∧ (b < 0 ∨ (w (h + 1 + k) - w h) * (b - h) ≤ (w b - w h) * (h + 1 + k - h))
    · rw [if_pos c]
      refine Or.inr ⟨by omega, by omega, c.1, fun j j0 j1 j2 => ?_⟩
      by_cases e : j = h + 1 + k
      · rw [e]; exact ⟨Int.le_refl _, fun hlt => by omega⟩
      · rcases ih with ⟨b1, b2⟩ | ⟨b1, b2, b3, b4⟩
        · have := b2 j j0 (by omega); omega
        · have hc : (w (h + 1 + k) - w h) * (b - h) ≤ (w b - w h) * (h + 1 + k - h) := c.2.resolve_left (by omega)
          have := b4 j j0 (by omega) j2
          exact ⟨sl_le (xj := w (h + 1 + k) - w h) (xb := w b - w h) (xk := w j - w h) (J := h + 1 + k - h) (B := b - h) (K := j - h) (by omega) (by omega) (by omega) hc this.1, fun hlt => by omega⟩
    · rw [if_neg c]
      rcases ih with ⟨b1, b2⟩ | ⟨b1, b2, b3, b4⟩
      · refine Or.inl ⟨b1, fun j j0 j1 => ?_⟩
        by_cases e : j = h + 1 + k
        · rw [e]
          exact Classical.byContradiction fun hn => c ⟨by omega, Or.inl (by omega)⟩
        · exact b2 j j0 (by omega)
      · refine Or.inr ⟨b1, by omega, b3, fun j j0 j1 j2 => ?_⟩
        by_cases e : j = h + 1 + k
        · rw [e] at j2 ⊢
          have : ¬ (w (h + 1 + k) - w h) * (b - h) ≤ (w b - w h) * (h + 1 + k - h) := fun hh => c ⟨j2, Or.inr hh⟩
          exact ⟨by omega, fun _ => by omega⟩
        · exact b4 j j0 (by omega) j2
def nxF (w : Int → Int) (h t : Int) : Int := nxS w h (t - h).toNat
theorem nxF_nx {w : Int → Int} {h t : Int} (h0 : 0 ≤ h) (h1 : h < t) (ht : 0 ≤ w t) : nx w h (t + 1) (nxF w h t) := by
  have hm := nxS_mst w h0 (t - h).toNat
  rw [show h + 1 + (((t - h).toNat : Nat) : Int) = t + 1 by omega] at hm
  rcases hm with ⟨_, b2⟩ | hm
  · have := b2 t h1 (by omega); omega
  · exact hm
def sdL (w : Int → Int) (t : Int) : Nat → Int → List (Int × Int)
  | 0, _ => []
  | n + 1, h => if h < t then (h, nxF w h t) :: sdL w t n (nxF w h t) else []
/-- the greatest common divisor, as it is found -/
def gcf : Nat → Int → Int → Int
  | 0, a, _ => a
  | n + 1, a, b => if b = 0 then a else gcf n b (Int.tmod a b)
theorem s_gdiv {M : tp_M} {a b : Int} : f_X10_greatestDivisor a b M = some (gcf 64 a b) := by
  have key : ∀ (n N : Nat) (a b x : Int), n < N → x + n = 64 → 0 ≤ x → tp_lp (σ := Int × Int × Int) (fun rec_ u => f_X10_greatestDivisor_7B M (fun x2' x3' x4' => rec_ (x2', x3', x4')) u.1 u.2.1 u.2.2) N (a, b, x) = some (gcf n a b) := by
    intro n
    induction n with
    | zero =>
      intro N a b x hN hx h0
      rw [lp_1 (by omega)]
      simp only [f_X10_greatestDivisor_7B]
      rw [if_pos (by omega)]; rfl
    | succ n ih =>
      intro N a b x hN hx h0
      have k := ih (N - 1) b (Int.tmod a b) (x + 1) (by omega) (by omega) (by omega)
      rw [lp_1 (by omega)]
      generalize tp_lp (σ := Int × Int × Int) (fun rec_ u => f_X10_greatestDivisor_7B M (fun x2' x3' x4' => rec_ (x2', x3', x4')) u.1 u.2.1 u.2.2) (N - 1) = Rc at k ⊢
      have w := ho_w (x := x + 1) (by omega) (by omega)
      simp only [f_X10_greatestDivisor_7B, tp_lt, w]
      rw [if_neg (by omega)]
      unfold gcf
      by_cases c : b = 0
      · rw [if_pos c, if_pos c]
      · rw [if_neg c, if_neg c, if_neg c]; exact k
  unfold f_X10_greatestDivisor f_X10_greatestDivisor_7
  exact key 64 tp_N a b 0 (by unfold tp_N; omega) (by omega) (by omega)
theorem s_div4 {M : tp_M} : ∀ (n N : Nat) (a b : Int), n < N → 0 ≤ a → 0 ≤ b → b < n → tp_lp (σ := Int × Int) (fun rec_ u => f_X11_divisor_4B M (fun x2' x3' => rec_ (x2', x3')) u.1 u.2) N (a, b) = some (gcf n a b) := by
  intro n
  induction n with
  | zero => intro N a b _ _ _ h; omega
  | succ n ih =>
    intro N a b hN ha h0 h1
    rw [lp_1 (by omega)]
    unfold gcf
    by_cases c : b = 0
    · simp only [f_X11_divisor_4B]
      rw [if_pos c, if_pos c]
    · have t1 := Int.tmod_lt_of_pos a (show 0 < b by omega)
      have t0 := Int.tmod_nonneg b ha
      have k := ih (N - 1) b (Int.tmod a b) (by omega) h0 t0 (by omega)
      generalize tp_lp (σ := Int × Int) (fun rec_ u => f_X11_divisor_4B M (fun x2' x3' => rec_ (x2', x3')) u.1 u.2) (N - 1) = Rc at k ⊢
      simp only [f_X11_divisor_4B, tp_lt]
      rw [if_neg c, if_neg c, if_neg c]; exact k
theorem s_divisor {M : tp_M} {a b : Int} (ha : 0 ≤ a ∧ a ≤ 40) (hb : 0 ≤ b) : f_X11_divisor a b M = some (gcf 64 a b) := by
  unfold f_X11_divisor f_X11_divisor_4
  have e : gcf 64 a b = if b = 0 then a else gcf 63 b (Int.tmod a b) := rfl
  rw [e, lp_1 (by unfold tp_N; omega)]
  by_cases c : b = 0
  · simp only [f_X11_divisor_4B]
    rw [if_pos c, if_pos c]
  · have t0 := Int.tmod_nonneg b ha.1
    have t1 : Int.tmod a b ≤ a := by
      rw [Int.tmod_eq_emod_of_nonneg ha.1]
      have e := Int.mul_ediv_add_emod a b
      have q := Int.mul_nonneg hb (Int.ediv_nonneg ha.1 hb)
      omega
    have k := s_div4 (M := M) 63 (tp_N - 1) b (Int.tmod a b) (by unfold tp_N; omega) hb t0 (by omega)
    generalize tp_lp (σ := Int × Int) (fun rec_ u => f_X11_divisor_4B M (fun x2' x3' => rec_ (x2', x3')) u.1 u.2) (tp_N - 1) = Rc at k ⊢
    simp only [f_X11_divisor_4B, tp_lt]
    rw [if_neg c, if_neg c, if_neg c]; exact k
theorem gcf_spec : ∀ (n : Nat) (a b : Int), 0 ≤ a → 0 ≤ b → b < n → gcf n a b ∣ a ∧ gcf n a b ∣ b ∧ (∃ u v, gcf n a b = u * a + v * b) ∧ (0 < a ∨ 0 < b → 0 < gcf n a b) := by
  intro n
  induction n with
  | zero => intro a b _ _ h; omega
  | succ n ih =>
    intro a b ha hb h1
    unfold gcf
    by_cases c : b = 0
    · rw [if_pos c, c]
      exact ⟨⟨1, by omega⟩, ⟨0, by omega⟩, ⟨1, 0, by omega⟩, fun h => by omega⟩
    · rw [if_neg c, Int.tmod_eq_emod_of_nonneg ha]
      have m0 := Int.emod_nonneg a c
      have m1 := Int.emod_lt_of_pos a (show 0 < b by omega)
      obtain ⟨d1, d2, ⟨u, v, d3⟩, d4⟩ := ih b (a % b) hb m0 (by omega)
      have e := Int.mul_ediv_add_emod a b
      refine ⟨?_, d1, ⟨v, u - v * (a / b), ?_⟩, fun _ => d4 (Or.inl (by omega))⟩
      · have := Int.dvd_add (Int.dvd_mul_of_dvd_left (b := b) (c := a / b) d1) d2
        rw [e] at this
        exact this
      · rw [d3]
        have e2 : a % b = a - b * (a / b) := by omega
        rw [e2, Int.mul_sub, Int.sub_mul, Int.mul_assoc v (a / b) b, Int.mul_comm (a / b) b]; omega
theorem gcf_main {a b : Int} (ha : 1 ≤ a ∧ a ≤ 8) (hb : 0 ≤ b) : 1 ≤ gcf 64 a b ∧ gcf 64 a b ≤ a ∧ gcf 64 a b ∣ a ∧ gcf 64 a b ∣ b ∧ ∃ u v, gcf 64 a b = u * a + v * b := by
  have key : gcf 64 a b ∣ a ∧ gcf 64 a b ∣ b ∧ (∃ u v, gcf 64 a b = u * a + v * b) ∧ 0 < gcf 64 a b := by
    have e : gcf 64 a b = if b = 0 then a else gcf 63 b (Int.tmod a b) := rfl
    rw [e]
    by_cases c : b = 0
    · rw [if_pos c, c]
      exact ⟨⟨1, by omega⟩, ⟨0, by omega⟩, ⟨1, 0, by omega⟩, by omega⟩
    · rw [if_neg c, Int.tmod_eq_emod_of_nonneg (by omega)]
      have m0 := Int.emod_nonneg a c
      have e := Int.mul_ediv_add_emod a b
      have q := Int.mul_nonneg hb (Int.ediv_nonneg (show 0 ≤ a by omega) hb)
      obtain ⟨d1, d2, ⟨u, v, d3⟩, d4⟩ := gcf_spec 63 b (a % b) hb m0 (by omega)
      refine ⟨?_, d1, ⟨v, u - v * (a / b), ?_⟩, d4 (Or.inl (by omega))⟩
      · have := Int.dvd_add (Int.dvd_mul_of_dvd_left (b := b) (c := a / b) d1) d2
        rw [e] at this
        exact this
      · rw [d3]
        have e2 : a % b = a - b * (a / b) := by omega
        rw [e2, Int.mul_sub, Int.sub_mul, Int.mul_assoc v (a / b) b, Int.mul_comm (a / b) b]; omega
  obtain ⟨k1, k2, k3, k4⟩ := key
  exact ⟨by omega, Int.le_of_dvd (by omega) k1, k1, k2, k3⟩
/-- the exponent that leaves a multiple -/
def tsr (e s v : Int) : Nat → Int → Int
  | 0, t => t
  | k + 1, t => if (v - t * s) % e = 0 then t else tsr e s v k (t + 1)
theorem tsr_spec {e s v : Int} : ∀ (k : Nat) (t : Int), (∃ t0, t ≤ t0 ∧ t0 < t + k ∧ (v - t0 * s) % e = 0) → t ≤ tsr e s v k t ∧ tsr e s v k t < t + k ∧ (v - tsr e s v k t * s) % e = 0 := by
  intro k
  induction k with
  | zero => rintro t ⟨t0, h1, h2, _⟩; omega
  | succ k ih =>
    rintro t ⟨t0, h1, h2, h3⟩
    unfold tsr
    by_cases c : (v - t * s) % e = 0
    · rw [if_pos c]; exact ⟨Int.le_refl _, by omega, c⟩
    · rw [if_neg c]
      have hne : t0 ≠ t := fun h => c (h ▸ h3)
      have := ih (t + 1) ⟨t0, by omega, by omega, h3⟩
      exact ⟨by omega, by omega, this.2.2⟩
def tv (e s v : Int) : Int := tsr e s v e.toNat 0
def cop1 (e s : Int) : Prop := ∃ u, e ∣ u * s - 1
theorem tv_spec {e s v : Int} (he : 1 ≤ e) (h : cop1 e s) : 0 ≤ tv e s v ∧ tv e s v < e ∧ (v - tv e s v * s) % e = 0 := by
  obtain ⟨u, hu⟩ := h
  have := tsr_spec (e := e) (s := s) (v := v) e.toNat 0 ⟨(v * u) % e, Int.emod_nonneg _ (by omega), by have := Int.emod_lt_of_pos (v * u) (show 0 < e by omega); omega, by
    refine Int.emod_eq_zero_of_dvd ?_
    have h1 : e ∣ ((v * u) % e - v * u) * s := Int.dvd_mul_of_dvd_left (md_dvd _ _)
    have h2 : e ∣ v * (u * s - 1) := Int.dvd_mul_of_dvd_right hu
    have h3 := Int.dvd_neg.mpr (Int.dvd_add h1 h2)
    refine dvd_of h3 ?_
    rw [Int.sub_mul, Int.mul_sub, Int.mul_one, Int.mul_assoc v u s]; omega⟩
  unfold tv
  exact ⟨this.1, by omega, this.2.2⟩
def mnl (e s : Int → Int) : Nat → Int → (Int → Int)
  | 0, v => fun k => if k = 0 then v else 0
  | n + 1, v => fun k => if k = (n : Int) + 1 then tv (e ((n : Int) + 1)) (s ((n : Int) + 1)) v else mnl e s n ((v - tv (e ((n : Int) + 1)) (s ((n : Int) + 1)) v * s ((n : Int) + 1)) / e ((n : Int) + 1)) k
def copr (r : Int) (e s : Int → Int) : Prop := ∀ k, 1 ≤ k → k < r → cop1 (e k) (s k)
theorem mnl_hi (e s : Int → Int) : ∀ (n : Nat) (v : Int) (k : Int), (n : Int) < k → mnl e s n v k = 0 := by
  intro n
  induction n with
  | zero => intro v k h; unfold mnl; rw [if_neg (by omega)]
  | succ n ih => intro v k h; unfold mnl; rw [if_neg (by omega)]; exact ih _ k (by omega)
theorem mnl_b {r : Int} {D e s : Int → Int} (hb : cxb r D e s) (hc : copr r e s) : ∀ (n : Nat) (v : Int) (k : Int), (n : Int) < r → 1 ≤ k → k ≤ (n : Int) → 0 ≤ mnl e s n v k ∧ mnl e s n v k < e k := by
  intro n
  induction n with
  | zero => intro v k _ h1 h2; omega
  | succ n ih =>
    intro v k hn h1 h2
    unfold mnl
    by_cases c : k = (n : Int) + 1
    · rw [if_pos c, c]
      have := tv_spec (v := v) (hb.2 ((n : Int) + 1) (by omega) (by omega)).2.1.1 (hc _ (by omega) (by omega))
      exact ⟨this.1, this.2.1⟩
    · rw [if_neg c]; exact ih _ k (by omega) h1 (by omega)
theorem mnl_0 {r : Int} {D e s : Int → Int} (hb : cxb r D e s) (hc : copr r e s) : ∀ (n : Nat) (v : Int), (n : Int) < r → mnl e s n v 0 ≤ max v 0 := by
  intro n
  induction n with
  | zero => intro v _; unfold mnl; simp only; rw [if_pos trivial]; omega
  | succ n ih =>
    intro v hn
    have h1 := hb.2 ((n : Int) + 1) (by omega) (by omega)
    have h2 := tv_spec (v := v) h1.2.1.1 (hc _ (by omega) (by omega))
    unfold mnl
    rw [if_neg (by omega)]
    refine Int.le_trans (ih _ (by omega)) ?_
    have m0 := Int.mul_nonneg h2.1 h1.2.2.1.1
    generalize tv (e ((n : Int) + 1)) (s ((n : Int) + 1)) v * s ((n : Int) + 1) = x at *
    by_cases c : 0 ≤ v - x
    · have := Int.ediv_le_self (e ((n : Int) + 1)) c
      omega
    · have : (v - x) / e ((n : Int) + 1) ≤ 0 := Int.ediv_nonpos_of_nonpos_of_neg (by omega) (by omega)
      omega
/-- how far the numbers go -/
theorem mstep {e s v t B : Int} (he : 1 ≤ e ∧ e ≤ 8) (hs : 0 ≤ s ∧ s ≤ 2000) (ht : 0 ≤ t ∧ t ≤ 8) (hv : -B ≤ v ∧ v ≤ B) (hB : 0 ≤ B) : -(B + 16000) ≤ v - t * s ∧ v - t * s ≤ B + 16000 ∧ -(B + 16000) ≤ (v - t * s) / e ∧ (v - t * s) / e ≤ B + 16000 := by
  have m := mulB (x := t) (y := s) (a := 8) (b := 2000) ht hs
  generalize t * s = x at *
  refine ⟨by omega, by omega, ?_, ?_⟩
  · refine Int.le_ediv_of_mul_le (by omega) ?_
    have : -(B + 16000) * e ≤ -(B + 16000) * 1 := Int.mul_le_mul_of_nonpos_left (by omega) (by omega)
    omega
  · by_cases c : 0 ≤ v - x
    · have := Int.ediv_le_self e c; omega
    · have : (v - x) / e ≤ 0 := Int.ediv_nonpos_of_nonpos_of_neg (by omega) (by omega)
      omega
def mB18 (x3 : Int) : (Int × Int × tp_M → Option tp_M) → Int × Int × tp_M → Option tp_M := fun rec_ u => f_X5_writeMonomial_18B x3 (fun x4' x5' M0' => rec_ (x4', x5', M0')) u.1 u.2.1 u.2.2
theorem tm0 {x e : Int} : Int.tmod x e = 0 ↔ x % e = 0 := ⟨fun h => Int.emod_eq_zero_of_dvd (Int.dvd_of_tmod_eq_zero h), fun h => Int.tmod_eq_zero_of_dvd (Int.dvd_of_emod_eq_zero h)⟩
theorem s_wm27 {W : tp_M} {c v k e s B : Int} {rec_18 : Int → Int → tp_M → Option tp_M} (hk : 1 ≤ k ∧ k ≤ 6) (h1 : W 281 k = e) (h2 : W 282 k = s) (he : 1 ≤ e ∧ e ≤ 8) (hs : 0 ≤ s ∧ s ≤ 2000) (hv : -B ≤ v ∧ v ≤ B) (hB : 0 ≤ B ∧ B ≤ 1000000) : ∀ (n N : Nat) (t : Int), n < N → 0 ≤ t → t + n = e → (∃ t0, t ≤ t0 ∧ t0 < t + n ∧ (v - t0 * s) % e = 0) → tp_lp (σ := Int) (fun rec_ u => f_X5_writeMonomial_27B rec_18 c v k W (fun x6' => rec_ x6') u) N t = f_X5_writeMonomial_71 rec_18 c v k (tsr e s v n t) W := by
  intro n
  induction n with
  | zero => rintro N t _ _ _ ⟨t0, a, b, _⟩; omega
  | succ n ih =>
    rintro N t hN h0 ht ⟨t0, a1, a2, a3⟩
    have g0 : 0 ≤ k ∧ k < 8 := by omega
    have g1 : ¬ e ≤ t := by omega
    have ms := mstep (t := t) he hs (by omega) hv hB.1
    have mb := mulB (x := t) (y := s) (a := 8) (b := 2000) (by omega) hs
    have b1 : -2147483648 ≤ t * s ∧ t * s ≤ 2147483647 := by omega
    have b2 : -2147483648 ≤ v - t * s ∧ v - t * s ≤ 2147483647 := by omega
    have b3 : -2147483648 ≤ t + 1 ∧ t + 1 ≤ 2147483647 := by omega
    have g3 : ¬ e = 0 := by omega
    have rm : f_X10_remainder (v - t * s) e W = some (Int.tmod (v - t * s) e) := by
      unfold f_X10_remainder
      rw [if_pos g3, if_neg g3]
    rw [lp_1 (by omega)]
    unfold tsr
    by_cases cz : (v - t * s) % e = 0
    · simp only [f_X5_writeMonomial_27B, tp_lt]
      rw [if_pos g0, if_neg (show ¬ W 281 k ≤ t by rw [h1]; exact g1), if_pos g0, if_pos g0, h1, h2, ho_w b1.1 b1.2, ho_w b2.1 b2.2, rm, Option.bind_some, if_pos (tm0.mpr cz), if_pos cz]
    · have hne : t0 ≠ t := fun h => cz (h ▸ a3)
      have key := ih (N - 1) (t + 1) (by omega) (by omega) (by omega) ⟨t0, by omega, by omega, a3⟩
      generalize tp_lp (σ := Int) (fun rec_ u => f_X5_writeMonomial_27B rec_18 c v k W (fun x6' => rec_ x6') u) (N - 1) = Rc at key ⊢
      simp only [f_X5_writeMonomial_27B, tp_lt]
      rw [if_pos g0, if_neg (show ¬ W 281 k ≤ t by rw [h1]; exact g1), if_pos g0, if_pos g0, h1, h2, ho_w b1.1 b1.2, ho_w b2.1 b2.2, rm, Option.bind_some, if_neg (fun h => cz (tm0.mp h)), if_neg cz, ho_w b3.1 b3.2]
      exact key
theorem s_wm18 {r c : Int} {D e s : Int → Int} (hb : cxb r D e s) (hc : copr r e s) (hr : 1 ≤ r ∧ r ≤ 6) (tc : tp_al c = 8) (hcn : c ≠ 281 ∧ c ≠ 282) : ∀ (n N : Nat) (v B : Int) (W : tp_M), n < N → (n : Int) < r → (∀ k, 1 ≤ k → k < r → W 281 k = e k ∧ W 282 k = s k) → -B ≤ v → v ≤ B → 0 ≤ B → B + 16000 * n ≤ 900000 → ∃ K, tp_lp (mB18 c) N (v, (n : Int), W) = some K ∧ (∀ k, 0 ≤ k → k ≤ (n : Int) → K c k = mnl e s n v k) ∧ ∀ a k, ¬ (a = c ∧ 0 ≤ k ∧ k ≤ (n : Int)) → K a k = W a k := by
  intro n
  induction n with
  | zero =>
    intro N v B W hN hn hW b0 b1 b2 b3
    refine ⟨tp_up W c 0 v, ?_, fun k k0 k1 => ?_, fun a k h => up_ne (fun hh => h ⟨hh.1, by omega, by omega⟩)⟩
    · rw [lp_1 (by omega)]
      simp only [mB18, f_X5_writeMonomial_18B, tp_mp, tc]
      rw [if_pos (by decide), if_neg (by decide), if_pos (by decide)]
    · have : k = 0 := by omega
      rw [this, up_eq ⟨rfl, rfl⟩]
      unfold mnl
      simp only
      rw [if_pos trivial]
  | succ n ih =>
    intro N v B W hN hn hW b0 b1 b2 b3
    have n0 : 1 ≤ (n : Int) + 1 := by omega
    have n1 : (n : Int) + 1 < r := by omega
    have hk := hb.2 _ n0 n1
    have hw := hW _ n0 n1
    have ts := tv_spec (v := v) hk.2.1.1 (hc _ n0 n1)
    have ms := mstep (t := tv (e ((n : Int) + 1)) (s ((n : Int) + 1)) v) hk.2.1 hk.2.2.1 (by omega) ⟨b0, b1⟩ b2
    have mb := mulB (x := tv (e ((n : Int) + 1)) (s ((n : Int) + 1)) v) (y := s ((n : Int) + 1)) (a := 8) (b := 2000) (by omega) hk.2.2.1
    have h27 := s_wm27 (W := W) (c := c) (v := v) (k := (n : Int) + 1) (e := e ((n : Int) + 1)) (s := s ((n : Int) + 1)) (B := B) (rec_18 := fun x4' x5' M0' => tp_lp (mB18 c) (N - 1) (x4', x5', M0')) (by omega) hw.1 hw.2 hk.2.1 hk.2.2.1 ⟨b0, b1⟩ (by omega) (e ((n : Int) + 1)).toNat tp_N 0 (by unfold tp_N; omega) (by omega) (by omega) ⟨tv (e ((n : Int) + 1)) (s ((n : Int) + 1)) v, ts.1, by omega, ts.2.2⟩
    have et : tsr (e ((n : Int) + 1)) (s ((n : Int) + 1)) v (e ((n : Int) + 1)).toNat 0 = tv (e ((n : Int) + 1)) (s ((n : Int) + 1)) v := rfl
    rw [et] at h27
    have emn : ∀ k, mnl e s (n + 1) v k = if k = (n : Int) + 1 then tv (e ((n : Int) + 1)) (s ((n : Int) + 1)) v else mnl e s n ((v - tv (e ((n : Int) + 1)) (s ((n : Int) + 1)) v * s ((n : Int) + 1)) / e ((n : Int) + 1)) k := fun k => rfl
    generalize tv (e ((n : Int) + 1)) (s ((n : Int) + 1)) v = t at *
    generalize hW1 : tp_up W c ((n : Int) + 1) t = W1
    have f1 : ∀ a k, ¬ (a = c ∧ k = (n : Int) + 1) → W1 a k = W a k := fun a k h => by rw [← hW1, up_ne h]
    obtain ⟨K, k1, k2, k3⟩ := ih (N - 1) ((v - t * s ((n : Int) + 1)) / e ((n : Int) + 1)) (B + 16000) W1 (by omega) (by omega) (fun k k0 k1 => by rw [f1 _ _ (fun h => hcn.1 h.1.symm), f1 _ _ (fun h => hcn.2 h.1.symm)]; exact hW k k0 k1) ms.2.2.1 ms.2.2.2 (by omega) (by omega)
    refine ⟨K, ?_, fun k k0 k1 => ?_, fun a k h => by rw [k3 a k (fun hh => h ⟨hh.1, hh.2.1, by omega⟩), f1 a k (fun hh => h ⟨hh.1, by omega, by omega⟩)]⟩
    · have g0 : ¬ (n : Int) + 1 < 1 := by omega
      have g1 : 0 ≤ (n : Int) + 1 ∧ (n : Int) + 1 < 8 := by omega
      have g2 : ¬ (8 : Int) ≤ (n : Int) + 1 := by omega
      have b4 : -2147483648 ≤ t * s ((n : Int) + 1) ∧ t * s ((n : Int) + 1) ≤ 2147483647 := by omega
      have b5 : -2147483648 ≤ v - t * s ((n : Int) + 1) ∧ v - t * s ((n : Int) + 1) ≤ 2147483647 := by omega
      have b6 : -2147483648 ≤ (v - t * s ((n : Int) + 1)) / e ((n : Int) + 1) ∧ (v - t * s ((n : Int) + 1)) / e ((n : Int) + 1) ≤ 2147483647 := by omega
      have g3 : ¬ e ((n : Int) + 1) = 0 := by omega
      have td := Int.tdiv_eq_ediv_of_dvd (Int.dvd_of_emod_eq_zero ts.2.2)
      have e3 : (n : Int) + 1 + -1 = n := by omega
      have b7 : -2147483648 ≤ (n : Int) + 1 + -1 ∧ (n : Int) + 1 + -1 ≤ 2147483647 := by omega
      have en : ((n + 1 : Nat) : Int) = (n : Int) + 1 := by omega
      have q1 : W1 281 ((n : Int) + 1) = e ((n : Int) + 1) := by rw [f1 _ _ (fun h => hcn.1 h.1.symm)]; exact hw.1
      have q2 : W1 282 ((n : Int) + 1) = s ((n : Int) + 1) := by rw [f1 _ _ (fun h => hcn.2 h.1.symm)]; exact hw.2
      have qt : f_X10_quotient (v - t * s ((n : Int) + 1)) (e ((n : Int) + 1)) W1 = some ((v - t * s ((n : Int) + 1)) / e ((n : Int) + 1)) := by
        unfold f_X10_quotient
        rw [if_pos g3, if_neg g3, td, ho_w b6.1 b6.2]
      rw [lp_1 (by omega)]
      generalize tp_lp (mB18 c) (N - 1) = Rc at k1 h27 ⊢
      simp only [mB18, f_X5_writeMonomial_18B]
      rw [en, if_neg g0]
      unfold f_X5_writeMonomial_27
      refine Eq.trans h27 ?_
      unfold f_X5_writeMonomial_71 f_X5_writeMonomial_84
      simp only [tp_mp, tp_lt, tc]
      rw [if_neg g2, if_pos g1, hW1, if_pos g1, if_pos g1, q1, q2, ho_w b4.1 b4.2, ho_w b5.1 b5.2, qt, Option.bind_some, ho_w b7.1 b7.2, e3]
      exact k1
    · rw [emn]
      by_cases ck : k = (n : Int) + 1
      · rw [if_pos ck, k3 _ _ (fun hh => by omega), ck, ← hW1, up_eq ⟨rfl, rfl⟩]
      · rw [if_neg ck]; exact k2 k k0 (by omega)
theorem s_writeMonomial {M : tp_M} {r c v : Int} {D e s : Int → Int} (hb : cxb r D e s) (hc : copr r e s) (hC : CxC M r D e s) (hr : 1 ≤ r ∧ r ≤ 6) (tg : tp_tg c = 21) (tc : tp_al c = 8) (hcn : c ≠ 281 ∧ c ≠ 282) (hv : 0 ≤ v ∧ v ≤ 100000) : ∃ N, f_X5_writeMonomial v r c M = some N ∧ (∀ k, 0 ≤ k → k < 8 → N c k = mnl e s (r - 1).toNat v k) ∧ ∀ a k, a ≠ c → N a k = M a k := by
  obtain ⟨K, k1, k2, k3⟩ := s_wm18 (r := r) (c := c) hb hc hr tc hcn (r - 1).toNat tp_N v v (tp_fl M c 8 0) (by unfold tp_N; omega) (by omega) (fun k k0 k1 => by rw [fl_out (fun h => hcn.1 h.1.symm), fl_out (fun h => hcn.2 h.1.symm)]; exact hC.2 k k0 k1) (by omega) (by omega) hv.1 (by omega)
  refine ⟨K, ?_, fun k k0 k1 => ?_, fun a k h => by rw [k3 a k (fun hh => h hh.1), fl_out (fun hh => h hh.1)]⟩
  · unfold f_X5_writeMonomial
    simp only [tp_lt]
    rw [if_pos tg, s_fill (n := 8) tg tc (by omega), Option.bind_some, ho_w (x := r - 1) (by omega) (by omega), show min (r - 1) 6 = (((r - 1).toNat : Nat) : Int) by omega]
    exact k1
  · by_cases c2 : k ≤ (((r - 1).toNat : Nat) : Int)
    · exact k2 k k0 c2
    · rw [k3 _ _ (fun hh => c2 hh.2.2), fl_in ⟨rfl, k0, k1⟩, mnl_hi _ _ _ _ _ (by omega)]
