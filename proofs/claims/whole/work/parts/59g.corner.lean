/-- the border of a row goes on from h to b -/
def nx (r : Int → Int) (h n b : Int) : Prop := h < b ∧ b < n ∧ 0 ≤ r b ∧ ∀ j, h < j → j < n → 0 ≤ r j → (r b - r h) * (j - h) ≤ (r j - r h) * (b - h) ∧ (b < j → (r b - r h) * (j - h) < (r j - r h) * (b - h))
theorem nx_un {r : Int → Int} {h n b c : Int} (h1 : nx r h n b) (h2 : nx r h n c) : b = c := by
  obtain ⟨a1, a2, a3, a4⟩ := h1
  obtain ⟨b1, b2, b3, b4⟩ := h2
  have p := a4 c b1 b2 b3
  have q := b4 b a1 a2 a3
  by_cases e : b < c
  · have := p.2 e; omega
  · by_cases e2 : c < b
    · have := q.2 e2; omega
    · omega
theorem sl_lt {xj xb xk J B K : Int} (hB : 0 < B) (hJ : 0 < J) (hK : 0 < K) (h1 : xj * B < xb * J) (h2 : xb * K ≤ xk * B) : xj * K < xk * J := by
  have e1 : xj * B * K < xb * J * K := Int.mul_lt_mul_of_pos_right h1 hK
  have e2 : xb * K * J ≤ xk * B * J := Int.mul_le_mul_of_nonneg_right h2 (by omega)
  have f1 : xj * B * K = xj * K * B := by rw [Int.mul_assoc, Int.mul_comm B K, ← Int.mul_assoc]
  have f2 : xb * J * K = xb * K * J := by rw [Int.mul_assoc, Int.mul_comm J K, ← Int.mul_assoc]
  have f3 : xk * B * J = xk * J * B := by rw [Int.mul_assoc, Int.mul_comm B J, ← Int.mul_assoc]
  rw [f1, f2] at e1
  rw [f3] at e2
  exact Int.lt_of_mul_lt_mul_right (Int.lt_of_lt_of_le e1 e2) (by omega)
theorem sl_le {xj xb xk J B K : Int} (hB : 0 < B) (hJ : 0 < J) (hK : 0 < K) (h1 : xj * B ≤ xb * J) (h2 : xb * K ≤ xk * B) : xj * K ≤ xk * J := by
  have e1 : xj * B * K ≤ xb * J * K := Int.mul_le_mul_of_nonneg_right h1 (by omega)
  have e2 : xb * K * J ≤ xk * B * J := Int.mul_le_mul_of_nonneg_right h2 (by omega)
  have f1 : xj * B * K = xj * K * B := by rw [Int.mul_assoc, Int.mul_comm B K, ← Int.mul_assoc]
  have f2 : xb * J * K = xb * K * J := by rw [Int.mul_assoc, Int.mul_comm J K, ← Int.mul_assoc]
  have f3 : xk * B * J = xk * J * B := by rw [Int.mul_assoc, Int.mul_comm B J, ← Int.mul_assoc]
  rw [f1, f2] at e1
  rw [f3] at e2
  exact Int.le_of_mul_le_mul_right (Int.le_trans e1 e2) hB
theorem mulb40 {x y : Int} (hx : -5000000000 ≤ x ∧ x ≤ 5000000000) (hy : -40 ≤ y ∧ y ≤ 40) : -200000000000 ≤ x * y ∧ x * y ≤ 200000000000 := by
  have h1 : (x * y).natAbs ≤ 5000000000 * 40 := by
    rw [Int.natAbs_mul]
    exact Nat.mul_le_mul (by omega) (by omega)
  omega
theorem s_lies {M : tp_M} {c h j b : Int} (tg : tp_tg c = 21) (hal : tp_al c ≤ 40) (hj : 0 ≤ j ∧ j < tp_al c) (hh : 0 ≤ h ∧ h < tp_al c) (hb : 0 ≤ b ∧ b < tp_al c) (hr : ∀ k, 0 ≤ k → k < tp_al c → -2147483648 ≤ M c k ∧ M c k ≤ 2147483647) : f_X10_liesBelow c h j b M = some (if (M c b - M c h) * (j - h) ≤ (M c j - M c h) * (b - h) then 0 else 1) := by
  have q1 := hr j hj.1 hj.2
  have q2 := hr h hh.1 hh.2
  have q3 := hr b hb.1 hb.2
  have m1 := mulb40 (x := M c b - M c h) (y := j - h) (by omega) (by omega)
  have m2 := mulb40 (x := M c j - M c h) (y := b - h) (by omega) (by omega)
  unfold f_X10_liesBelow
  simp only [tp_lt]
  rw [if_pos tg, if_pos hj, if_pos hh, if_pos hb, if_pos hh, ho_wl (x := M c b - M c h) (by omega) (by omega), ho_wl (x := M c j - M c h) (by omega) (by omega), ho_w (x := j - h) (by omega) (by omega), ho_w (x := b - h) (by omega) (by omega), ho_wl (x := (M c b - M c h) * (j - h)) (by omega) (by omega), ho_wl (x := (M c j - M c h) * (b - h)) (by omega) (by omega)]
  by_cases e : (M c b - M c h) * (j - h) ≤ (M c j - M c h) * (b - h)
  · rw [if_pos e, if_pos e]
  · rw [if_neg e, if_neg e]
def bst (r : Int → Int) (h x t b : Int) : Prop := x < b ∧ b ≤ t ∧ 0 ≤ r b ∧ ∀ j, x < j → j ≤ t → 0 ≤ r j → (r b - r h) * (j - h) ≤ (r j - r h) * (b - h) ∧ (b < j → (r b - r h) * (j - h) < (r j - r h) * (b - h))
def fB53 (rec_32 : Int → Int → tp_M → Option (Int × tp_M)) (x0 x2 x3 x4 x5 : Int) (M0 : tp_M) : (Int × Int → Option (Int × tp_M)) → Int × Int → Option (Int × tp_M) := fun rec_ u => f_X10_findCorners_53B rec_32 x0 x2 x3 x4 x5 M0 (fun x6' x7' => rec_ (x6', x7')) u.1 u.2
set_option maxHeartbeats 4000000 in
set_option maxRecDepth 100000 in
theorem s_inner {M : tp_M} {c d h t x4 : Int} {rec_32 : Int → Int → tp_M → Option (Int × tp_M)} (tg : tp_tg c = 21) (hal : tp_al c ≤ 40) (h0 : 0 ≤ h) (ht : t < tp_al c) (hr : ∀ k, 0 ≤ k → k < tp_al c → -2147483648 ≤ M c k ∧ M c k ≤ 2147483647) (hx4 : 0 ≤ x4 ∧ x4 < tp_al d ∧ tp_al d ≤ 40) : ∀ (m N : Nat) (b : Int), m < N → h + m < t → bst (M c) h (h + m) t b → ∃ b', nx (M c) h (t + 1) b' ∧ tp_lp (fB53 rec_32 c t d x4 h M) N (b, h + m) = rec_32 (x4 + 1) b' (tp_up M d x4 b') := by
  intro m
  induction m with
  | zero =>
    intro N b hN hm hb
    rw [lp_1 (by omega)]
    obtain ⟨b1, b2, b3, b4⟩ := hb
    refine ⟨b, ⟨by omega, by omega, b3, fun j j0 j1 j2 => b4 j (by omega) (by omega) j2⟩, ?_⟩
    simp only [fB53, f_X10_findCorners_53B, tp_lt, tp_mp]
    rw [if_pos (by omega), if_pos (by omega), ho_w (by omega) (by omega)]
  | succ m ih =>
    intro N b hN hm hb
    have key := ih (N - 1)
    rw [lp_1 (by omega)]
    generalize tp_lp (fB53 rec_32 c t d x4 h M) (N - 1) = R at key ⊢
    have hb' := hb
    obtain ⟨b1, b2, b3, b4⟩ := hb
    have ej : h + ((m + 1 : Nat) : Int) = h + m + 1 := by omega
    have w : tp_w (h + m + 1 + -1) = h + m := by rw [ho_w (by omega) (by omega)]; omega
    have sl := s_lies (M := M) (c := c) (h := h) (j := h + m + 1) (b := b) tg hal (by omega) (by omega) (by omega) hr
    rw [ej] at *
    simp only [fB53, f_X10_findCorners_53B, f_X10_findCorners_84, tp_lt, w, sl]
    rw [if_neg (by omega), if_pos (by omega)]
    have keep : (0 ≤ M c (h + m + 1) → (M c b - M c h) * (h + m + 1 - h) ≤ (M c (h + m + 1) - M c h) * (b - h)) → bst (M c) h (h + m) t b := fun hk => ⟨by omega, b2, b3, fun j j0 j1 j2 => by
      by_cases e : j = h + m + 1
      · subst e; exact ⟨hk j2, fun hlt => by omega⟩
      · exact b4 j (by omega) j1 j2⟩
    by_cases c1 : M c (h + m + 1) < 0
    · rw [if_pos c1]
      exact key b (by omega) (by omega) (keep (fun h => by omega))
    · rw [if_neg c1]
      simp only [Option.bind_some]
      by_cases c2 : (M c b - M c h) * (h + m + 1 - h) ≤ (M c (h + m + 1) - M c h) * (b - h)
      · rw [if_pos c2, if_pos rfl]
        exact key b (by omega) (by omega) (keep (fun _ => c2))
      · rw [if_neg c2, if_neg (by omega)]
        refine key (h + m + 1) (by omega) (by omega) ⟨by omega, by omega, by omega, fun j j0 j1 j2 => ?_⟩
        by_cases e : j = h + m + 1
        · subst e; exact ⟨Int.le_refl _, fun hlt => by omega⟩
        · have := b4 j (by omega) j1 j2
          have q := sl_lt (xj := M c (h + m + 1) - M c h) (xb := M c b - M c h) (xk := M c j - M c h) (J := h + m + 1 - h) (B := b - h) (K := j - h) (by omega) (by omega) (by omega) (by omega) this.1
          exact ⟨by omega, fun _ => q⟩
def fB32 (x0 x2 x3 : Int) : (Int × Int × tp_M → Option (Int × tp_M)) → Int × Int × tp_M → Option (Int × tp_M) := fun rec_ u => f_X10_findCorners_32B x0 x2 x3 (fun x4' x5' M0' => rec_ (x4', x5', M0')) u.1 u.2.1 u.2.2
/-- corners from one on -/
def crn (r : Int → Int) (t : Int) (f : Int) (m : Nat) (q : Nat → Int) : Prop := q 0 = f ∧ q m = t ∧ ∀ i, i < m → nx r (q i) (t + 1) (q (i + 1))
set_option maxHeartbeats 4000000 in
set_option maxRecDepth 100000 in
theorem s_outer {c d t : Int} (tg : tp_tg c = 21) (hal : tp_al c ≤ 40) (ht : t < tp_al c) (hd : tp_al d ≤ 40 ∧ t < tp_al d) (hcd : c ≠ d) : ∀ (k N : Nat) (M : tp_M) (h x4 : Int), t - h < k → k ≤ N → 0 ≤ h → h ≤ t → 1 ≤ x4 → x4 ≤ h + 1 → 0 ≤ M c t → (∀ k, 0 ≤ k → k < tp_al c → -2147483648 ≤ M c k ∧ M c k ≤ 2147483647) → ∃ (m : Nat) (q : Nat → Int) (M' : tp_M), crn (M c) t h m q ∧ tp_lp (fB32 c t d) N (x4, h, M) = some (x4 + m, M') ∧ (∀ a b : Int, ¬ (a = d ∧ x4 ≤ b ∧ b < x4 + m) → M' a b = M a b) ∧ ∀ i : Nat, i < m → M' d (x4 + i) = q (i + 1) := by
  intro k
  induction k with
  | zero => intro N M h x4 hk; omega
  | succ k ih =>
    intro N M h x4 hk hN h0 h1 x0 x1 hp hr
    rw [lp_1 (by omega)]
    have key := fun M h x4 => ih (N - 1) M h x4
    generalize tp_lp (fB32 c t d) (N - 1) = R at key ⊢
    by_cases e : t ≤ h
    · have e' : h = t := by omega
      subst e'
      refine ⟨0, fun _ => h, M, ⟨rfl, rfl, fun i hi => by omega⟩, ?_, fun _ _ _ => rfl, fun i hi => by omega⟩
      simp only [fB32, f_X10_findCorners_32B]
      rw [if_pos (by omega), show x4 + ((0 : Nat) : Int) = x4 by omega]
    · have w : tp_w (t - 1) = h + ((t - 1 - h).toNat : Nat) := by rw [ho_w (by omega) (by omega)]; omega
      have hb0 : bst (M c) h (h + ((t - 1 - h).toNat : Nat)) t t := ⟨by omega, by omega, hp, fun j j0 j1 j2 => by
        have : j = t := by omega
        subst this
        exact ⟨Int.le_refl _, fun hlt => by omega⟩⟩
      obtain ⟨b', n1, n2⟩ := s_inner (M := M) (c := c) (d := d) (h := h) (t := t) (x4 := x4) (rec_32 := fun x4' x5' M0' => R (x4', x5', M0')) tg hal h0 ht hr (by omega) (t - 1 - h).toNat tp_N t (by unfold tp_N; omega) (by omega) hb0
      have fr : ∀ k, tp_up M d x4 b' c k = M c k := fun k => up_ne (by omega)
      have fre : tp_up M d x4 b' c = M c := funext fr
      have n1' := n1
      obtain ⟨nh, nt, nb, -⟩ := n1
      obtain ⟨m, q, M', c1, c2, c3, c4⟩ := key (tp_up M d x4 b') b' (x4 + 1) (by omega) (by omega) (by omega) (by omega) (by omega) (by omega) (by rw [fr]; exact hp) (by rw [fre]; exact hr)
      rw [fre] at c1
      refine ⟨m + 1, fun i => if i = 0 then h else q (i - 1), M', ⟨rfl, ?_, fun i hi => ?_⟩, ?_, fun a b hab => ?_, fun i hi => ?_⟩
      · simp only
        rw [if_neg (by omega), show m + 1 - 1 = m by omega]; exact c1.2.1
      · simp only
        by_cases ei : i = 0
        · subst ei
          rw [if_pos rfl, if_neg (by omega), show 0 + 1 - 1 = 0 by omega, c1.1]
          exact n1'
        · rw [if_neg ei, if_neg (by omega), show i + 1 - 1 = (i - 1) + 1 by omega]
          exact c1.2.2 (i - 1) (by omega)
      · simp only [fB32, f_X10_findCorners_32B, tp_lt, f_X10_findCorners_53, w]
        rw [if_neg (by omega), if_neg (by omega)]
        refine Eq.trans n2 ?_
        rw [c2, show x4 + 1 + (m : Int) = x4 + ((m + 1 : Nat) : Int) by omega]
      · rw [c3 a b (by omega), up_ne (by omega)]
      · by_cases ei : i = 0
        · subst ei
          rw [c3 _ _ (by omega), up_eq (by omega)]
          simp only
          rw [if_neg (by omega), show 0 + 1 - 1 = 0 by omega, c1.1]
        · have := c4 (i - 1) (by omega)
          rw [show x4 + 1 + ((i - 1 : Nat) : Int) = x4 + i by omega] at this
          rw [this]
          simp only
          rw [if_neg (by omega), show i - 1 + 1 = i + 1 - 1 by omega]
theorem s_findCorners {M : tp_M} {c d f t : Int} (tg : tp_tg c = 21) (tgd : tp_tg d = 21) (hal : tp_al c ≤ 40) (ht : t < tp_al c) (hd : tp_al d ≤ 40 ∧ t < tp_al d) (hcd : c ≠ d) (h0 : 0 ≤ f ∧ f ≤ t) (hp : 0 ≤ M c t) (hr : ∀ k, 0 ≤ k → k < tp_al c → -2147483648 ≤ M c k ∧ M c k ≤ 2147483647) : ∃ (m : Nat) (q : Nat → Int) (M' : tp_M), crn (M c) t f m q ∧ f_X10_findCorners c f t d M = some (1 + (m : Int), M') ∧ (∀ a b : Int, ¬ (a = d ∧ 0 ≤ b ∧ b < 1 + (m : Int)) → M' a b = M a b) ∧ ∀ i : Nat, i ≤ m → M' d i = q i := by
  have fr : tp_up M d 0 f c = M c := funext (fun k => up_ne (by omega))
  obtain ⟨m, q, M', c1, c2, c3, c4⟩ := s_outer tg hal ht hd hcd 50 tp_N (tp_up M d 0 f) f 1 (by omega) (by unfold tp_N; omega) (by omega) (by omega) (by omega) (by omega) (by rw [fr]; exact hp) (by rw [fr]; exact hr)
  rw [fr] at c1
  refine ⟨m, q, M', c1, ?_, fun a b hab => by rw [c3 a b (by omega), up_ne (by omega)], fun i hi => ?_⟩
  · unfold f_X10_findCorners f_X10_findCorners_32
    simp only [tp_mp]
    rw [if_pos tg, if_pos tgd, if_neg (by omega), if_neg (by omega), if_neg (by omega), if_pos (by omega), if_pos (by omega)]
    exact c2
  · by_cases ei : i = 0
    · subst ei
      rw [c3 _ _ (by omega), up_eq (by omega), c1.1]
    · have := c4 (i - 1) (by omega)
      rw [show (1 : Int) + ((i - 1 : Nat) : Int) = i by omega, show i - 1 + 1 = i by omega] at this
      exact this
theorem crn_mono {r : Int → Int} {t f : Int} {m : Nat} {q : Nat → Int} (h : crn r t f m q) : ∀ i : Nat, i ≤ m → f + i ≤ q i ∧ q i ≤ t := by
  obtain ⟨h1, h2, h3⟩ := h
  have a : ∀ i : Nat, i ≤ m → f + i ≤ q i := by
    intro i
    induction i with
    | zero => intro _; omega
    | succ i ih => intro hi; have := ih (by omega); have := (h3 i (by omega)).1; omega
  have b : ∀ i : Nat, i ≤ m → q (m - i) ≤ t := by
    intro i
    induction i with
    | zero => intro _; rw [show m - 0 = m by omega]; omega
    | succ i ih =>
      intro hi
      have := ih (by omega)
      have h4 := (h3 (m - (i + 1)) (by omega)).1
      rw [show m - (i + 1) + 1 = m - i by omega] at h4
      omega
  intro i hi
  have := b (m - i) (by omega)
  rw [show m - (m - i) = i by omega] at this
  exact ⟨a i hi, this⟩
