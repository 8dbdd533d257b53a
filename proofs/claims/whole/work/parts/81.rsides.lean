theorem s_point0 {M : tp_M} {kn i : Int} (hk : 0 ≤ kn ∧ kn < 40) (hi : 0 ≤ i ∧ i < 9) : f_X11_point0 kn i M = some (M 503 (9 * kn + i)) := by
  unfold f_X11_point0
  rw [ho_w (x := 9 * kn) (by omega) (by omega), ho_w (x := 9 * kn + i) (by omega) (by omega), if_pos (by omega)]
theorem mul20 {x y : Int} (hx : -20001 ≤ x ∧ x ≤ 20001) (hy : -9 ≤ y ∧ y ≤ 9) : -200000 ≤ x * y ∧ x * y ≤ 200000 := by
  have h1 : (x * y).natAbs ≤ 20001 * 9 := by
    rw [Int.natAbs_mul]
    exact Nat.mul_le_mul (by omega) (by omega)
  omega
/-- the points as the reference holds them -/
def wR (M : tp_M) (kn : Int) (w : Int → Int) : Prop := ∀ k, 0 ≤ k → k < 9 → M 503 (9 * kn + k) = w k ∧ -1 ≤ w k ∧ w k ≤ 20000
theorem s_pt {M : tp_M} {kn i : Int} {w : Int → Int} (hk : 0 ≤ kn ∧ kn < 40) (hw : wR M kn w) (hi : 0 ≤ i ∧ i < 9) : f_X11_point0 kn i M = some (w i) := by
  rw [s_point0 hk hi, (hw i hi.1 hi.2).1]
set_option maxHeartbeats 4000000 in
set_option maxRecDepth 100000 in
theorem s_nextCorner {M : tp_M} {kn h t : Int} {w : Int → Int} (hk : 0 ≤ kn ∧ kn < 40) (hw : wR M kn w) (h0 : 0 ≤ h) (h1 : h < t) (ht : t ≤ 8) : f_X11_nextCorner kn h t M = some (nxF w h t) := by
  unfold f_X11_nextCorner
  simp only [tp_lt]
  rw [ho_w (x := h + 1) (by omega) (by omega)]
  unfold f_X11_nextCorner_8
  have e0 : ((-1 : Int), h + 1) = (nxS w h 0, h + 1 + ((0 : Nat) : Int)) := by rw [show h + 1 + ((0 : Nat) : Int) = h + 1 by omega]; rfl
  rw [e0]
  refine lp_seq (fun k => (nxS w h k, h + 1 + (k : Int))) (t - h).toNat (fun k hk' rc => ?_) (fun rc => ?_) tp_N (by unfold tp_N; omega)
  · have g0 : ¬ t < h + 1 + (k : Int) := by omega
    have g1 : 0 ≤ h + 1 + (k : Int) ∧ h + 1 + (k : Int) < 9 := by omega
    have gh : 0 ≤ h ∧ h < 9 := by omega
    have b1 : -2147483648 ≤ h + 1 + (k : Int) + 1 ∧ h + 1 + (k : Int) + 1 ≤ 2147483647 := by omega
    have ek : h + 1 + (k : Int) + 1 = h + 1 + ((k + 1 : Nat) : Int) := by omega
    have es : nxS w h (k + 1) = if 0 ≤ w (h + 1 + k) ∧ (nxS w h k < 0 ∨ (w (h + 1 + k) - w h) * (nxS w h k - h) ≤ (w (nxS w h k) - w h) * (h + 1 + k - h)) then h + 1 + k else nxS w h k := rfl
    have sp := nxS_mst w h0 k
    have p1 := s_pt hk hw g1
    have p2 := s_pt hk hw gh
    have w1 := (hw _ g1.1 g1.2).2
    have w2 := (hw _ gh.1 gh.2).2
    generalize nxS w h k = b at *
    generalize hj : h + 1 + (k : Int) = j at *
    have b2 : -2147483648 ≤ w j - w h ∧ w j - w h ≤ 2147483647 := by omega
    simp only [f_X11_nextCorner_8B, f_X11_nextCorner_95, f_X11_nextCorner_74, f_X11_nextCorner_79, f_X11_nextCorner_93, tp_lt]
    rw [if_neg g0, p1, Option.bind_some, ho_w b1.1 b1.2, ek, es]
    by_cases c0 : w j < 0
    · rw [if_pos c0, if_neg (fun hh => by omega)]
    · rw [if_neg c0, Option.bind_some, p2, Option.bind_some]
      by_cases c1 : b < 0
      · rw [if_pos c1, if_neg (by decide), if_pos ⟨by omega, Or.inl c1⟩]
      · have bb : h < b ∧ b < j := by
          rcases sp with ⟨hh, _⟩ | ⟨hh1, hh2, _⟩ <;> omega
        have gb : 0 ≤ b ∧ b < 9 := by omega
        have p3 := s_pt hk hw gb
        have w3 := (hw _ gb.1 gb.2).2
        have m1 := mul20 (x := w b - w h) (y := j - h) (by omega) (by omega)
        have m2 := mul20 (x := w j - w h) (y := b - h) (by omega) (by omega)
        have b3 : -2147483648 ≤ w b - w h ∧ w b - w h ≤ 2147483647 := by omega
        have b4 : -2147483648 ≤ j - h ∧ j - h ≤ 2147483647 := by omega
        have b5 : -2147483648 ≤ b - h ∧ b - h ≤ 2147483647 := by omega
        have b6 : -2147483648 ≤ (w b - w h) * (j - h) ∧ (w b - w h) * (j - h) ≤ 2147483647 := by omega
        have b7 : -2147483648 ≤ (w j - w h) * (b - h) ∧ (w j - w h) * (b - h) ≤ 2147483647 := by omega
        rw [if_neg c1, p3, Option.bind_some, Option.bind_some, ho_w b3.1 b3.2, ho_w b4.1 b4.2, ho_w b2.1 b2.2, ho_w b5.1 b5.2, ho_w b6.1 b6.2, ho_w b7.1 b7.2]
        by_cases c2 : (w b - w h) * (j - h) < (w j - w h) * (b - h)
        · rw [if_pos c2, if_pos trivial, if_neg (fun hh => by have := hh.2.resolve_left c1; omega)]
        · rw [if_neg c2, if_neg (by decide), if_pos ⟨by omega, Or.inr (by omega)⟩]
  · simp only [f_X11_nextCorner_8B]
    rw [if_pos (by omega)]
    rfl
/-- a side as the reference holds it -/
def SdR (N : tp_M) (n : Int) (F Mn R : Int → Int) : Prop := (N 508 n = F 0 ∧ N 509 n = F 1 ∧ N 510 n = F 2 ∧ N 511 n = F 3 ∧ N 512 n = F 4 ∧ N 513 n = F 5) ∧ (∀ t, 0 ≤ t → t < 7 → N 514 (7 * n + t) = Mn t) ∧ ∀ k, 0 ≤ k → k < 9 → N 515 (9 * n + k) = R k
/-- all that a knot's laying needs of the memory -/
def RKn (M : tp_M) (p K P r m kn : Int) (D e s rt kf mf : Int → Int) (mo q : Int → Int → Int) (Y w : Int → Int) : Prop := M 483 0 = p ∧ M 483 2 = P ∧ CxR M r D e s kf q ∧ CxM M r rt mf mo ∧ inP P (M 495) 0 9 ∧ Y = rowN P q D r (M 495) ∧ wR M kn w
theorem RKn_fr {M N : tp_M} {p K P r m kn : Int} {D e s rt kf mf : Int → Int} {mo q : Int → Int → Int} {Y w : Int → Int} (h : RKn M p K P r m kn D e s rt kf mf mo q Y w) (hf : ∀ c k, (c = 483 ∧ (k = 0 ∨ k = 2 ∨ k = 49)) ∨ (c = 488 ∧ k < 360) ∨ c = 495 ∨ c = 503 ∨ c = 506 ∨ c = 507 ∨ (521 ≤ c ∧ c ≤ 525) → N c k = M c k) : RKn N p K P r m kn D e s rt kf mf mo q Y w := by
  obtain ⟨h1, h2, h3, h4, h5, h6, h7⟩ := h
  have e495 : N 495 = M 495 := by funext k; exact hf _ _ (by omega)
  refine ⟨by rw [hf _ _ (by omega)]; exact h1, by rw [hf _ _ (by omega)]; exact h2, CxR_fr h3 (fun c k hc => hf _ _ (by omega)), CxM_fr h4 (fun c k hc => hf _ _ (by omega)), by rw [e495]; exact h5, by rw [e495]; exact h6, fun k k0 k1 => ?_⟩
  rw [hf _ _ (by omega)]; exact h7 k k0 k1
def lB153 (x1 x2 x4 x5 x6 : Int) : (Int × tp_M → Option tp_M) → Int × tp_M → Option tp_M := fun rec_ u => f_X11_laysSide_153B x1 x2 x4 x5 x6 (fun x7' M0' => rec_ (x7', M0')) u.1 u.2
set_option maxHeartbeats 4000000 in
set_option maxRecDepth 100000 in
theorem s_ls153 {p K P r m kn n bt : Int} {D e s rt kf mf : Int → Int} {mo q : Int → Int → Int} {Y w : Int → Int} {ab : Int × Int} (h : pKP p K P) (hb : cxb r D e s) (hc : copr r e s) (hr : 1 ≤ r ∧ r ≤ 6) (hm : 0 ≤ m ∧ m ≤ 8) (hmD : m * D r ≤ 8) (hkn : 0 ≤ kn ∧ kn < 40) (hkr : kf r = kn) (ho : rok p r e rt mo) (hq : ∀ k, 1 ≤ k → k ≤ r → Ro P (q k)) (hdv : ∀ k, 1 ≤ k → k < r → D (k + 1) ∣ D r) (hn : 0 ≤ n ∧ n < 60) (hS : SOk w (lft r e s) bt ab) (hH : hdW p K.toNat r m D e s Y w) : ∀ (t N : Nat) (k : Int) (M : tp_M), t < N → 0 ≤ k → k + t = 9 → RKn M p K P r m kn D e s rt kf mf mo q Y w → M 483 22 = n → M 511 n = sgE w ab.1 ab.2 → (∀ t, 0 ≤ t → t < 7 → M 514 (7 * n + t) = mnl e s (r - 1).toNat (sgS w (lft r e s) ab.1 ab.2) t) → (∀ j, 0 ≤ j → j < k → M 515 (9 * n + j) = rsR p K.toNat r D e s rt mo Y w (lft r e s) ab j) → ∃ N', tp_lp (lB153 kn ab.1 n (w ab.1 - w ab.2) (sgG w ab.1 ab.2)) N (k, M) = some (tp_up N' 483 22 (n + 1)) ∧ (∀ j, 0 ≤ j → j < 9 → N' 515 (9 * n + j) = rsR p K.toNat r D e s rt mo Y w (lft r e s) ab j) ∧ ∀ c j, c ≠ 487 → c ≠ 526 → ¬ (c = 483 ∧ j = 56) → ¬ (c = 515 ∧ 9 * n ≤ j ∧ j < 9 * n + 9) → N' c j = M c j := by
  obtain ⟨s1, s2, s3, s4, s5⟩ := hS
  have sg := sg_spec (w := w) s1 (by omega)
  have hp2 := pm_2 h.1
  have n64 : 0 ≤ n ∧ n < 64 := by omega
  have gG : ¬ sgG w ab.1 ab.2 = 0 := by omega
  have H1 : sgH w ab.1 ab.2 ≤ w ab.1 - w ab.2 := Int.ediv_le_self _ (by omega)
  have bH : -2147483648 ≤ sgH w ab.1 ab.2 ∧ sgH w ab.1 ab.2 ≤ 2147483647 := by omega
  have td : tp_w (Int.tdiv (w ab.1 - w ab.2) (sgG w ab.1 ab.2)) = sgH w ab.1 ab.2 := by
    rw [Int.tdiv_eq_ediv_of_nonneg (by omega)]
    show tp_w (sgH w ab.1 ab.2) = _
    rw [ho_w bH.1 bH.2]
  intro t
  induction t with
  | zero =>
    intro N k M hN k0 ht hK hn22 h511 h514 hR
    refine ⟨M, ?_, fun j j0 j1 => hR j j0 (by omega), fun c j _ _ _ _ => rfl⟩
    rw [lp_1 (by omega)]
    simp only [lB153, f_X11_laysSide_153B, tp_mp, hn22]
    rw [if_pos (by omega), ho_w (x := n + 1) (by omega) (by omega)]
  | succ t ih =>
    intro N k M hN k0 ht hK hn22 h511 h514 hR
    have k8 : k ≤ 8 := by omega
    have b9 : -2147483648 ≤ 9 * n ∧ 9 * n ≤ 2147483647 := by omega
    have b9k : -2147483648 ≤ 9 * n + k ∧ 9 * n + k ≤ 2147483647 := by omega
    have g576 : 0 ≤ 9 * n + k ∧ 9 * n + k < 576 := by omega
    have bk1 : -2147483648 ≤ k + 1 ∧ k + 1 ≤ 2147483647 := by omega
    have g0 : ¬ 9 ≤ k := by omega
    have mE := mulB (x := k) (y := sgE w ab.1 ab.2) (a := 8) (b := 8) (by omega) (by omega)
    have bE : -2147483648 ≤ k * sgE w ab.1 ab.2 ∧ k * sgE w ab.1 ab.2 ≤ 2147483647 := by omega
    have bI : -2147483648 ≤ ab.1 + k * sgE w ab.1 ab.2 ∧ ab.1 + k * sgE w ab.1 ab.2 ≤ 2147483647 := by omega
    have go : ∀ (M2 : tp_M), (∀ c j, c ≠ 487 → c ≠ 526 → ¬ (c = 483 ∧ j = 56) → ¬ (c = 515 ∧ j = 9 * n + k) → M2 c j = M c j) → M2 515 (9 * n + k) = rsR p K.toNat r D e s rt mo Y w (lft r e s) ab k → ∃ N', tp_lp (lB153 kn ab.1 n (w ab.1 - w ab.2) (sgG w ab.1 ab.2)) (N - 1) (k + 1, M2) = some (tp_up N' 483 22 (n + 1)) ∧ (∀ j, 0 ≤ j → j < 9 → N' 515 (9 * n + j) = rsR p K.toNat r D e s rt mo Y w (lft r e s) ab j) ∧ ∀ c j, c ≠ 487 → c ≠ 526 → ¬ (c = 483 ∧ j = 56) → ¬ (c = 515 ∧ 9 * n ≤ j ∧ j < 9 * n + 9) → N' c j = M c j := by
      intro M2 f2 v2
      obtain ⟨N', n1, n2, n3⟩ := ih (N - 1) (k + 1) M2 (by omega) (by omega) (by omega) (RKn_fr hK (fun c j hc => f2 _ _ (by omega) (by omega) (by omega) (by omega))) (by rw [f2 _ _ (by decide) (by decide) (fun hh => absurd hh.2 (by decide)) (fun hh => absurd hh.1 (by decide))]; exact hn22) (by rw [f2 _ _ (by decide) (by decide) (fun hh => absurd hh.1 (by decide)) (fun hh => absurd hh.1 (by decide))]; exact h511) (fun t t0 t1 => by rw [f2 _ _ (by decide) (by decide) (fun hh => absurd hh.1 (by decide)) (fun hh => absurd hh.1 (by decide))]; exact h514 t t0 t1) (fun j j0 j1 => by
        by_cases cj : j = k
        · rw [cj]; exact v2
        · rw [f2 _ _ (by decide) (by decide) (fun hh => absurd hh.1 (by decide)) (fun hh => by have := hh.2; omega)]; exact hR j j0 (by omega))
      exact ⟨N', n1, n2, fun c j g1 g2 g3 g4 => by rw [n3 c j g1 g2 g3 g4, f2 c j g1 g2 g3 (fun hh => g4 (by omega))]⟩
    rw [lp_1 (by omega)]
    by_cases cg : sgG w ab.1 ab.2 < k
    · have er : rsR p K.toNat r D e s rt mo Y w (lft r e s) ab k = 0 := by unfold rsR; rw [if_neg (fun hh => by omega)]
      obtain ⟨N', n1, n2, n3⟩ := go (tp_up M 515 (9 * n + k) 0) (fun c j _ _ _ g4 => up_ne g4) (by rw [er]; exact up_eq ⟨rfl, rfl⟩)
      refine ⟨N', ?_, n2, n3⟩
      generalize tp_lp (lB153 kn ab.1 n (w ab.1 - w ab.2) (sgG w ab.1 ab.2)) (N - 1) = Rc at n1 ⊢
      simp only [lB153, f_X11_laysSide_153B, f_X11_laysSide_210, f_X11_laysSide_211, f_X11_laysSide_245, tp_mp, tp_lt]
      rw [if_neg g0, if_pos n64, if_pos cg, if_pos trivial, ho_w b9.1 b9.2, ho_w b9k.1 b9k.2, if_pos g576, ho_w bk1.1 bk1.2]
      exact n1
    · have kE : k * sgE w ab.1 ab.2 ≤ sgG w ab.1 ab.2 * sgE w ab.1 ab.2 := Int.mul_le_mul_of_nonneg_right (by omega) (by omega)
      have kH : k * sgH w ab.1 ab.2 ≤ sgG w ab.1 ab.2 * sgH w ab.1 ab.2 := Int.mul_le_mul_of_nonneg_right (by omega) (by omega)
      have kH0 : 0 ≤ k * sgH w ab.1 ab.2 := Int.mul_nonneg k0 (by omega)
      have er : rsR p K.toNat r D e s rt mo Y w (lft r e s) ab k = if w (ab.1 + k * sgE w ab.1 ab.2) = w ab.1 - k * sgH w ab.1 ab.2 then rsv p K.toNat (seg Y (D r) (ab.1 + k * sgE w ab.1 ab.2) (Hd p K.toNat r D e s Y (ab.1 + k * sgE w ab.1 ab.2)).2) * rdN p e rt mo (r - 1).toNat (fun t => xpt D e (Hd p K.toNat r D e s Y (ab.1 + k * sgE w ab.1 ab.2)).2 t + k * mnl e s (r - 1).toNat (sgS w (lft r e s) ab.1 ab.2) t) 1 % p else 0 := by
        unfold rsR
        by_cases c : w (ab.1 + k * sgE w ab.1 ab.2) = w ab.1 - k * sgH w ab.1 ab.2
        · rw [if_pos c, if_pos ⟨k0, by omega, c⟩]
        · rw [if_neg c, if_neg (fun hh => c hh.2.2)]
      have i9 : 0 ≤ ab.1 + k * sgE w ab.1 ab.2 ∧ ab.1 + k * sgE w ab.1 ab.2 ≤ 8 := by omega
      have wl : 0 ≤ w ab.1 - k * sgH w ab.1 ab.2 := by omega
      have kHb : k * sgH w ab.1 ab.2 ≤ 20000 := by omega
      generalize hI : ab.1 + k * sgE w ab.1 ab.2 = I at *
      generalize hkH : k * sgH w ab.1 ab.2 = kh at *
      have gI : 0 ≤ I ∧ I < 9 := by omega
      have ga : 0 ≤ ab.1 ∧ ab.1 < 9 := by omega
      have b3 : -2147483648 ≤ kh ∧ kh ≤ 2147483647 := by omega
      have b4 : -2147483648 ≤ w ab.1 - kh ∧ w ab.1 - kh ≤ 2147483647 := by omega
      obtain ⟨hK1, hK2, hK3, hK4, hK5, hK6, hK7⟩ := hK
      have p1 := s_pt (M := M) hkn hK7 gI
      have p2 := s_pt (M := M) hkn hK7 ga
      by_cases c : w I = w ab.1 - kh
      · rw [if_pos c] at er
        obtain ⟨im, hHI⟩ := hH I i9.1 i9.2 (by omega)
        rw [hK6] at hHI
        obtain ⟨M1, a1, a2⟩ := s_residualAt (M := M) (p := p) (K := K) (P := P) (r := r) (kn := kn) (sd := n) (i := I) (k := k) (m := m) h hK1 hK2 hb hr hm hmD hkn hK3 hkr hK4 ho hq hdv hK5 n64 ⟨i9.1, im⟩ ⟨k0, k8⟩ (fun t t0 t1 => by
          rw [h514 t (by omega) (by omega)]
          have := mnl_b hb hc (r - 1).toNat (sgS w (lft r e s) ab.1 ab.2) t (by omega) t0 (by omega)
          have := (ho t t0 t1).1
          omega) hHI
        rw [← hK6, rdN_cong (y := fun t => xpt D e (Hd p K.toNat r D e s Y I).2 t + k * mnl e s (r - 1).toNat (sgS w (lft r e s) ab.1 ab.2) t) _ _ (fun t t0 t1 => by rw [h514 t (by omega) (by omega)]), ← er] at a1
        obtain ⟨N', n1, n2, n3⟩ := go (tp_up M1 515 (9 * n + k) (rsR p K.toNat r D e s rt mo Y w (lft r e s) ab k)) (fun c j g1 g2 g3 g4 => by rw [up_ne g4, a2 c j g1 g2 g3]) (up_eq ⟨rfl, rfl⟩)
        refine ⟨N', ?_, n2, n3⟩
        generalize tp_lp (lB153 kn ab.1 n (w ab.1 - w ab.2) (sgG w ab.1 ab.2)) (N - 1) = Rc at n1 ⊢
        simp only [lB153, f_X11_laysSide_153B, f_X11_laysSide_210, f_X11_laysSide_211, f_X11_laysSide_245, tp_mp, tp_lt, h511]
        rw [if_neg g0, if_pos n64, ho_w bE.1 bE.2, hI, ho_w (x := I) (by omega) (by omega), if_neg cg, p1, Option.bind_some, p2, Option.bind_some, if_neg gG, td, hkH, ho_w b3.1 b3.2, ho_w b4.1 b4.2, if_neg (fun hh => hh c), if_neg (by decide), a1, Option.bind_some]
        dsimp only
        rw [ho_w b9.1 b9.2, ho_w b9k.1 b9k.2, if_pos g576, ho_w bk1.1 bk1.2]
        exact n1
      · rw [if_neg c] at er
        obtain ⟨N', n1, n2, n3⟩ := go (tp_up M 515 (9 * n + k) 0) (fun c j _ _ _ g4 => up_ne g4) (by rw [er]; exact up_eq ⟨rfl, rfl⟩)
        refine ⟨N', ?_, n2, n3⟩
        generalize tp_lp (lB153 kn ab.1 n (w ab.1 - w ab.2) (sgG w ab.1 ab.2)) (N - 1) = Rc at n1 ⊢
        simp only [lB153, f_X11_laysSide_153B, f_X11_laysSide_210, f_X11_laysSide_211, f_X11_laysSide_245, tp_mp, tp_lt, h511]
        rw [if_neg g0, if_pos n64, ho_w bE.1 bE.2, hI, ho_w (x := I) (by omega) (by omega), if_neg cg, p1, Option.bind_some, p2, Option.bind_some, if_neg gG, td, hkH, ho_w b3.1 b3.2, ho_w b4.1 b4.2, if_pos c, if_pos trivial, ho_w b9.1 b9.2, ho_w b9k.1 b9k.2, if_pos g576, ho_w bk1.1 bk1.2]
        exact n1
set_option maxHeartbeats 4000000 in
set_option maxRecDepth 100000 in
theorem s_laysSide {M : tp_M} {p K P r m kn n bt : Int} {D e s rt kf mf : Int → Int} {mo q : Int → Int → Int} {Y w : Int → Int} {ab : Int × Int} (h : pKP p K P) (hb : cxb r D e s) (hc : copr r e s) (hr : 1 ≤ r ∧ r ≤ 6) (hm : 0 ≤ m ∧ m ≤ 8) (hmD : m * D r ≤ 8) (hkn : 0 ≤ kn ∧ kn < 40) (hkr : kf r = kn) (ho : rok p r e rt mo) (hq : ∀ k, 1 ≤ k → k ≤ r → Ro P (q k)) (hdv : ∀ k, 1 ≤ k → k < r → D (k + 1) ∣ D r) (hn : 0 ≤ n ∧ n < 60) (hS : SOk w (lft r e s) bt ab) (hH : hdW p K.toNat r m D e s Y w) (hK : RKn M p K P r m kn D e s rt kf mf mo q Y w) (hn22 : M 483 22 = n) : ∃ N, f_X11_laysSide kn ab.1 ab.2 M = some N ∧ SdR N n (sdF w (lft r e s) ab) (mnl e s (r - 1).toNat (sgS w (lft r e s) ab.1 ab.2)) (rsR p K.toNat r D e s rt mo Y w (lft r e s) ab) ∧ N 483 22 = n + 1 ∧ ∀ c j, c ≠ 487 → c ≠ 526 → ¬ (c = 483 ∧ (j = 56 ∨ j = 22)) → ¬ (508 ≤ c ∧ c ≤ 513 ∧ j = n) → ¬ (c = 514 ∧ 7 * n ≤ j ∧ j < 7 * n + 7) → ¬ (c = 515 ∧ 9 * n ≤ j ∧ j < 9 * n + 9) → N c j = M c j := by
  have hS' := hS
  obtain ⟨s1, s2, s3, s4, s5⟩ := hS
  have sg := sg_spec (w := w) s1 (by omega)
  have hlf := lft_b hb hr.1
  have hK' := hK
  obtain ⟨hK1, hK2, hK3, hK4, hK5, hK6, hK7⟩ := hK
  have n64 : 0 ≤ n ∧ n < 64 := by omega
  have gG : ¬ sgG w ab.1 ab.2 = 0 := by omega
  have mE := mulB (x := sgE w ab.1 ab.2) (y := lft r e s) (a := 8) (b := 16000) (by omega) hlf
  have eS : sgE w ab.1 ab.2 * lft r e s + sgH w ab.1 ab.2 = sgS w (lft r e s) ab.1 ab.2 := by unfold sgS; rw [Int.mul_comm]
  have H1 : sgH w ab.1 ab.2 ≤ w ab.1 - w ab.2 := Int.ediv_le_self _ (by omega)
  have bl : -2147483648 ≤ ab.2 - ab.1 ∧ ab.2 - ab.1 ≤ 2147483647 := by omega
  have bf : -2147483648 ≤ w ab.1 - w ab.2 ∧ w ab.1 - w ab.2 ≤ 2147483647 := by omega
  have bE : -2147483648 ≤ sgE w ab.1 ab.2 ∧ sgE w ab.1 ab.2 ≤ 2147483647 := by omega
  have bH : -2147483648 ≤ sgH w ab.1 ab.2 ∧ sgH w ab.1 ab.2 ≤ 2147483647 := by omega
  have bm : -2147483648 ≤ sgE w ab.1 ab.2 * lft r e s ∧ sgE w ab.1 ab.2 * lft r e s ≤ 2147483647 := by omega
  have bS : -2147483648 ≤ sgE w ab.1 ab.2 * lft r e s + sgH w ab.1 ab.2 ∧ sgE w ab.1 ab.2 * lft r e s + sgH w ab.1 ab.2 ≤ 2147483647 := by omega
  have tdE : tp_w (Int.tdiv (ab.2 - ab.1) (sgG w ab.1 ab.2)) = sgE w ab.1 ab.2 := by
    rw [Int.tdiv_eq_ediv_of_nonneg (by omega)]
    show tp_w (sgE w ab.1 ab.2) = _
    rw [ho_w bE.1 bE.2]
  have tdH : tp_w (Int.tdiv (w ab.1 - w ab.2) (sgG w ab.1 ab.2)) = sgH w ab.1 ab.2 := by
    rw [Int.tdiv_eq_ediv_of_nonneg (by omega)]
    show tp_w (sgH w ab.1 ab.2) = _
    rw [ho_w bH.1 bH.2]
  have dv : f_X11_divisor (ab.2 - ab.1) (w ab.1 - w ab.2) M = some (sgG w ab.1 ab.2) := s_divisor (by omega) (by omega)
  have p1 := s_pt (M := M) hkn hK7 (i := ab.1) (by omega)
  have p2 := s_pt (M := M) hkn hK7 (i := ab.2) (by omega)
  generalize hM12 : tp_up (tp_up (tp_up (tp_up M 508 n ab.1) 509 n ab.2) 510 n (w ab.1 - w ab.2)) 512 n (sgG w ab.1 ab.2) = M12
  generalize hM13 : tp_up M12 511 n (sgE w ab.1 ab.2) = M13
  have f13 : ∀ c j, ¬ (508 ≤ c ∧ c ≤ 513 ∧ j = n) → M13 c j = M c j := fun c j g => by rw [← hM13, up_ne (fun hh => g (by omega)), ← hM12, up_ne (fun hh => g (by omega)), up_ne (fun hh => g (by omega)), up_ne (fun hh => g (by omega)), up_ne (fun hh => g (by omega))]
  have v13 : M13 511 n = sgE w ab.1 ab.2 := by rw [← hM13, up_eq ⟨rfl, rfl⟩]
  generalize hM16 : tp_up M13 513 n (sgE w ab.1 ab.2 * lft r e s + sgH w ab.1 ab.2) = M16
  have f16 : ∀ c j, ¬ (508 ≤ c ∧ c ≤ 513 ∧ j = n) → M16 c j = M c j := fun c j g => by rw [← hM16, up_ne (fun hh => g (by omega)), f13 c j g]
  have v16 : M16 513 n = sgS w (lft r e s) ab.1 ab.2 := by rw [← hM16, up_eq ⟨rfl, rfl⟩, eS]
  have cx13 : CxR M13 r D e s kf q := CxR_fr hK3 (fun c k hc => f13 _ _ (by omega))
  have cx16 : CxR M16 r D e s kf q := CxR_fr hK3 (fun c k hc => f16 _ _ (by omega))
  have sl := s_rlift hb cx13 hr
  obtain ⟨M17, a1, a2, a3⟩ := s_laysMonomial (M := M16) (v := sgS w (lft r e s) ab.1 ab.2) hb hc cx16 hr (by omega)
  generalize hM18 : tp_wr M17 514 (7 * n) 7 (M17 526) = M18
  have f18 : ∀ c j, c ≠ 526 → ¬ (508 ≤ c ∧ c ≤ 513 ∧ j = n) → ¬ (c = 514 ∧ 7 * n ≤ j ∧ j < 7 * n + 7) → M18 c j = M c j := fun c j g1 g2 g3 => by rw [← hM18, wr_out g3, a3 c j g1, f16 c j g2]
  have v18 : ∀ k, k ≠ 514 → k ≠ 526 → M18 k n = M16 k n := fun k g1 g2 => by rw [← hM18, wr_out (fun hh => g1 hh.1), a3 _ _ g2]
  have m18 : ∀ t, 0 ≤ t → t < 7 → M18 514 (7 * n + t) = mnl e s (r - 1).toNat (sgS w (lft r e s) ab.1 ab.2) t := fun t t0 t1 => by
    rw [← hM18, wr_in (by omega), show 7 * n + t - 7 * n = t by omega]; exact a2 t t0 t1
  have K18 : RKn M18 p K P r m kn D e s rt kf mf mo q Y w := RKn_fr hK' (fun c j hc => f18 _ _ (by omega) (by omega) (by omega))
  have e511 : M18 511 n = sgE w ab.1 ab.2 := by rw [v18 _ (by decide) (by decide), ← hM16, up_ne (fun hh => absurd hh.1 (by decide))]; exact v13
  obtain ⟨N', n1, n2, n3⟩ := s_ls153 (p := p) (K := K) (P := P) (r := r) (m := m) (kn := kn) (n := n) (bt := bt) (rt := rt) (kf := kf) (mf := mf) (mo := mo) (q := q) (Y := Y) (w := w) (ab := ab) h hb hc hr hm hmD hkn hkr ho hq hdv hn hS' hH 9 tp_N 0 M18 (by unfold tp_N; omega) (by decide) (by decide) K18 (by rw [f18 _ _ (by decide) (fun hh => absurd hh.1 (by decide)) (fun hh => absurd hh.1 (by decide))]; exact hn22) e511 m18 (fun j j0 j1 => by omega)
  have fN : ∀ c j, c ≠ 487 → c ≠ 526 → ¬ (c = 483 ∧ (j = 56 ∨ j = 22)) → ¬ (c = 515 ∧ 9 * n ≤ j ∧ j < 9 * n + 9) → tp_up N' 483 22 (n + 1) c j = M18 c j := fun c j g1 g2 g3 g4 => by rw [up_ne (fun hh => g3 ⟨hh.1, Or.inr hh.2⟩), n3 c j g1 g2 (fun hh => g3 ⟨hh.1, Or.inl hh.2⟩) g4]
  refine ⟨tp_up N' 483 22 (n + 1), ?_, ⟨?_, fun t t0 t1 => ?_, fun k k0 k1 => ?_⟩, up_eq ⟨rfl, rfl⟩, fun c j g1 g2 g3 g4 g5 g6 => by rw [fN c j g1 g2 g3 g6, f18 c j g2 g4 g5]⟩
  · unfold f_X11_laysSide
    simp only [tp_mp, tp_lt]
    rw [hn22, p1, Option.bind_some, p2, Option.bind_some, ho_w bf.1 bf.2, ho_w bl.1 bl.2, dv, Option.bind_some, if_pos n64, if_pos n64, if_pos n64, if_pos n64, if_neg gG, if_pos n64, hM12, tdE, hM13, if_pos n64, sl, Option.bind_some, if_neg gG, if_pos n64, v13, ho_w bm.1 bm.2, tdH, ho_w bS.1 bS.2, hM16, if_pos n64, v16, a1, Option.bind_some]
    unfold f_X11_laysSide_117
    have e0 : ((0 : Int), M17) = (((0 : Nat) : Int), tp_wr M17 514 (7 * n) ((0 : Nat) : Int) (M17 526)) := by rw [show ((0 : Nat) : Int) = 0 from rfl, wr_zero]
    rw [e0]
    refine lp_seq (fun t => ((t : Int), tp_wr M17 514 (7 * n) t (M17 526))) 7 (fun t ht rc => ?_) (fun rc => ?_) tp_N (by unfold tp_N; omega)
    · have u := wr_succ M17 514 (7 * n) t (M17 526) (by omega)
      rw [show (t : Int) + 1 = ((t + 1 : Nat) : Int) by omega] at u
      have g0 : ¬ 7 ≤ (t : Int) := by omega
      have g1 : 0 ≤ (t : Int) ∧ (t : Int) < 7 := by omega
      have b1 : -2147483648 ≤ 7 * n ∧ 7 * n ≤ 2147483647 := by omega
      have b2 : -2147483648 ≤ 7 * n + (t : Int) ∧ 7 * n + (t : Int) ≤ 2147483647 := by omega
      have g2 : 0 ≤ 7 * n + (t : Int) ∧ 7 * n + (t : Int) < 448 := by omega
      have g4 : t < 1000000 := by omega
      have r1 : tp_wr M17 514 (7 * n) t (M17 526) 526 t = M17 526 t := wr_out (fun hh => absurd hh.1 (by decide))
      simp only [f_X11_laysSide_117B, tp_mp, tp_lt]
      rw [if_neg g0, if_pos g1, ho_w b1.1 b1.2, ho_w b2.1 b2.2, if_pos g2, r1, u, w_succ g4]
    · have e7 : tp_wr M17 514 (7 * n) ((7 : Nat) : Int) (M17 526) = M18 := hM18
      simp only [f_X11_laysSide_117B, e7]
      rw [if_pos (by decide)]
      exact n1
  · have ff : ∀ c, 508 ≤ c → c ≤ 513 → tp_up N' 483 22 (n + 1) c n = M16 c n := fun c g1 g2 => by rw [fN c n (by omega) (by omega) (by omega) (by omega), v18 c (by omega) (by omega)]
    refine ⟨?_, ?_, ?_, ?_, ?_, ?_⟩
    · rw [ff _ (by decide) (by decide), ← hM16, up_ne (fun hh => absurd hh.1 (by decide)), ← hM13, up_ne (fun hh => absurd hh.1 (by decide)), ← hM12, up_ne (fun hh => absurd hh.1 (by decide)), up_ne (fun hh => absurd hh.1 (by decide)), up_ne (fun hh => absurd hh.1 (by decide)), up_eq ⟨rfl, rfl⟩]; rfl
    · rw [ff _ (by decide) (by decide), ← hM16, up_ne (fun hh => absurd hh.1 (by decide)), ← hM13, up_ne (fun hh => absurd hh.1 (by decide)), ← hM12, up_ne (fun hh => absurd hh.1 (by decide)), up_ne (fun hh => absurd hh.1 (by decide)), up_eq ⟨rfl, rfl⟩]; rfl
    · rw [ff _ (by decide) (by decide), ← hM16, up_ne (fun hh => absurd hh.1 (by decide)), ← hM13, up_ne (fun hh => absurd hh.1 (by decide)), ← hM12, up_ne (fun hh => absurd hh.1 (by decide)), up_eq ⟨rfl, rfl⟩]; rfl
    · rw [ff _ (by decide) (by decide), ← hM16, up_ne (fun hh => absurd hh.1 (by decide)), v13]; rfl
    · rw [ff _ (by decide) (by decide), ← hM16, up_ne (fun hh => absurd hh.1 (by decide)), ← hM13, up_ne (fun hh => absurd hh.1 (by decide)), ← hM12, up_eq ⟨rfl, rfl⟩]; rfl
    · rw [ff _ (by decide) (by decide), v16]; rfl
  · rw [fN _ _ (by decide) (by decide) (fun hh => absurd hh.1 (by decide)) (fun hh => absurd hh.1 (by decide))]; exact m18 t t0 t1
  · rw [up_ne (fun hh => absurd hh.1 (by decide))]; exact n2 k k0 k1
