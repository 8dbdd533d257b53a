/-- the way, as the reference's tree tells it -/
def WyR (R : tp_M) (r : Int) (e s rt kf : Int → Int) (mo q : Int → Int → Int) : Prop := (∀ k, 1 ≤ k → k ≤ r → (0 ≤ kf k ∧ kf k < 40) ∧ R 496 (kf k) = k ∧ keyAt R (kf k) = q k ∧ (2 ≤ k → R 498 (kf k) = kf (k - 1))) ∧ ∀ k, 1 ≤ k → k < r → R 504 (kf (k + 1)) = e k ∧ R 505 (kf (k + 1)) = s k ∧ R 506 (kf (k + 1)) = rt k ∧ ∀ j, 0 ≤ j → j < 7 → R 507 (7 * kf (k + 1) + j) = mo k j
theorem WyR_fr {R N : tp_M} {r : Int} {e s rt kf : Int → Int} {mo q : Int → Int → Int} (h : WyR R r e s rt kf mo q) (hf : ∀ c i, (c = 496 ∨ c = 498 ∨ (504 ≤ c ∧ c ≤ 506)) → (∃ k, 1 ≤ k ∧ k ≤ r ∧ i = kf k) → N c i = R c i) (hk : ∀ k j, 1 ≤ k → k ≤ r → 0 ≤ j → j < 9 → N 488 (9 * kf k + j) = R 488 (9 * kf k + j)) (hm : ∀ k j, 1 ≤ k → k ≤ r → 0 ≤ j → j < 7 → N 507 (7 * kf k + j) = R 507 (7 * kf k + j)) : WyR N r e s rt kf mo q := by
  refine ⟨fun k k0 k1 => ?_, fun k k0 k1 => ?_⟩
  · obtain ⟨a1, a2, a3, a4⟩ := h.1 k k0 k1
    exact ⟨a1, by rw [hf _ _ (Or.inl rfl) ⟨k, k0, k1, rfl⟩]; exact a2, by rw [← a3]; exact keyAt_cong (fun j j0 j1 => hk k j k0 k1 j0 j1), fun hh => by rw [hf _ _ (Or.inr (Or.inl rfl)) ⟨k, k0, k1, rfl⟩]; exact a4 hh⟩
  · obtain ⟨a1, a2, a3, a4⟩ := h.2 k k0 k1
    exact ⟨by rw [hf _ _ (by omega) ⟨k + 1, by omega, by omega, rfl⟩]; exact a1, by rw [hf _ _ (by omega) ⟨k + 1, by omega, by omega, rfl⟩]; exact a2, by rw [hf _ _ (by omega) ⟨k + 1, by omega, by omega, rfl⟩]; exact a3, fun j j0 j1 => by rw [hm _ _ (by omega) (by omega) j0 j1]; exact a4 j j0 j1⟩
def kW60 : (Int × tp_M → Option tp_M) → Int × tp_M → Option tp_M := fun rec_ u => f_X11_takesKnot_60B (fun x3' M0' => rec_ (x3', M0')) u.1 u.2
set_option maxHeartbeats 4000000 in
set_option maxRecDepth 100000 in
theorem s_tk60 {r : Int} {D e s kf : Int → Int} (hb : cxb r D e s) (hr : 1 ≤ r ∧ r ≤ 6) (hkf : ∀ k, 1 ≤ k → k ≤ r → 0 ≤ kf k ∧ kf k < 40) : ∀ (n N : Nat) (x : Int) (M : tp_M), n < N → 1 ≤ x → x + n = r → M 483 49 = r → (∀ k, 1 ≤ k → k < r → M 525 k = kf (k + 1)) → (∀ k, 1 ≤ k → k < r → M 504 (kf (k + 1)) = e k ∧ M 505 (kf (k + 1)) = s k) → M 522 x = D x → ∃ K, tp_lp kW60 N (x, M) = some K ∧ (∀ k, x ≤ k → k < r → K 521 k = e k ∧ K 523 k = s k) ∧ (∀ k, x ≤ k → k ≤ r → K 522 k = D k) ∧ ∀ c k, ¬ ((c = 521 ∨ c = 523) ∧ x ≤ k) → ¬ (c = 522 ∧ x < k) → K c k = M c k := by
  intro n
  induction n with
  | zero =>
    intro N x M hN x0 hx h49 h525 ht hD
    refine ⟨M, ?_, fun k k0 k1 => by omega, fun k k0 k1 => by rw [show k = x by omega]; exact hD, fun c k _ _ => rfl⟩
    rw [lp_1 (by omega)]
    simp only [kW60, f_X11_takesKnot_60B, h49]
    rw [if_pos (by omega)]
  | succ n ih =>
    intro N x M hN x0 hx h49 h525 ht hD
    have hxr : x < r := by omega
    have b := hb.2 x x0 hxr
    have m := mulB (x := D x) (y := e x) (a := 8) (b := 8) (by omega) (by omega)
    have x8 : 0 ≤ x ∧ x < 8 := by omega
    have x9 : 0 ≤ x + 1 ∧ x + 1 < 8 := by omega
    have g5 := h525 x x0 hxr
    have gk := hkf (x + 1) (by omega) (by omega)
    have gt := ht x x0 hxr
    obtain ⟨K, k1, k2, k3, k4⟩ := ih (N - 1) (x + 1) (tp_up (tp_up (tp_up M 521 x (e x)) 523 x (s x)) 522 (x + 1) (D (x + 1))) (by omega) (by omega) (by omega) (by rw [up_ne (fun hh => absurd hh.1 (by decide)), up_ne (fun hh => absurd hh.1 (by decide)), up_ne (fun hh => absurd hh.1 (by decide))]; exact h49) (fun k k0 k1 => by rw [up_ne (fun hh => absurd hh.1 (by decide)), up_ne (fun hh => absurd hh.1 (by decide)), up_ne (fun hh => absurd hh.1 (by decide))]; exact h525 k k0 k1) (fun k k0 k1 => by rw [up_ne (fun hh => absurd hh.1 (by decide)), up_ne (fun hh => absurd hh.1 (by decide)), up_ne (fun hh => absurd hh.1 (by decide)), up_ne (fun hh => absurd hh.1 (by decide)), up_ne (fun hh => absurd hh.1 (by decide)), up_ne (fun hh => absurd hh.1 (by decide))]; exact ht k k0 k1) (by rw [up_eq ⟨rfl, rfl⟩])
    refine ⟨K, ?_, fun k k0 k1' => ?_, fun k k0 k1' => ?_, fun c k g1 g2 => ?_⟩
    · rw [lp_1 (by omega), ← k1]
      generalize tp_lp kW60 (N - 1) = Rc
      have e1 : tp_up M 521 x (e x) 525 x = kf (x + 1) := by rw [up_ne (fun hh => absurd hh.1 (by decide))]; exact g5
      have e2 : tp_up M 521 x (e x) 505 (kf (x + 1)) = s x := by rw [up_ne (fun hh => absurd hh.1 (by decide))]; exact gt.2
      have e3 : tp_up (tp_up M 521 x (e x)) 523 x (s x) 522 x = D x := by rw [up_ne (fun hh => absurd hh.1 (by decide)), up_ne (fun hh => absurd hh.1 (by decide))]; exact hD
      have e4 : tp_up (tp_up M 521 x (e x)) 523 x (s x) 521 x = e x := by rw [up_ne (fun hh => absurd hh.1 (by decide)), up_eq ⟨rfl, rfl⟩]
      simp only [kW60, f_X11_takesKnot_60B, tp_mp, tp_lt, h49, g5, gt.1, e1, e2, e3, e4]
      rw [if_neg (by omega), if_pos x8, if_pos gk, if_pos x8, if_pos x8, if_pos gk, if_pos x8, if_pos x8, if_pos x8, ho_w (by omega) (by omega), if_pos x9, ho_w (by omega) (by omega), ← b.2.2.2]
    · by_cases c : k = x
      · subst c
        refine ⟨by rw [k4 _ _ (by omega) (by omega), up_ne (fun hh => absurd hh.1 (by decide)), up_ne (fun hh => absurd hh.1 (by decide)), up_eq ⟨rfl, rfl⟩], by rw [k4 _ _ (by omega) (by omega), up_ne (fun hh => absurd hh.1 (by decide)), up_eq ⟨rfl, rfl⟩]⟩
      · exact k2 k (by omega) k1'
    · by_cases c : k = x
      · subst c
        rw [k4 _ _ (by omega) (by omega), up_ne (fun hh => absurd hh.2 (by omega)), up_ne (fun hh => absurd hh.1 (by decide)), up_ne (fun hh => absurd hh.1 (by decide))]; exact hD
      · exact k3 k (by omega) k1'
    · rw [k4 c k (by omega) (by omega), up_ne (by omega), up_ne (by omega), up_ne (by omega)]
def kW17 : (Int × Int × tp_M → Option tp_M) → Int × Int × tp_M → Option tp_M := fun rec_ u => f_X11_takesKnot_17B (fun x2' x3' M0' => rec_ (x2', x3', M0')) u.1 u.2.1 u.2.2
set_option maxHeartbeats 4000000 in
set_option maxRecDepth 100000 in
theorem s_tk17 {r : Int} {kf : Int → Int} (hr : 1 ≤ r ∧ r ≤ 6) (hkf : ∀ k, 1 ≤ k → k ≤ r → 0 ≤ kf k ∧ kf k < 40) : ∀ (n N : Nat) (x : Int) (M : tp_M), n < N → (n : Int) ≤ r → (1 ≤ n → x = kf n) → (∀ k, 2 ≤ k → k ≤ r → M 498 (kf k) = kf (k - 1)) → (∀ k, (n : Int) < k → k ≤ r → M 524 k = kf k ∧ M 525 (k - 1) = kf k) → ∃ K, tp_lp kW17 N (x, (n : Int), M) = f_X11_takesKnot_60 1 (tp_up K 522 1 1) ∧ (∀ k, 1 ≤ k → k ≤ r → K 524 k = kf k ∧ K 525 (k - 1) = kf k) ∧ ∀ c k, c ≠ 524 → c ≠ 525 → K c k = M c k := by
  intro n
  induction n with
  | zero =>
    intro N x M hN hn hx h8 hk
    refine ⟨M, ?_, fun k k0 k1 => hk k (by omega) k1, fun c k _ _ => rfl⟩
    rw [lp_1 (by omega)]
    simp only [kW17, f_X11_takesKnot_17B, tp_mp]
    rw [if_pos (by omega), if_pos (by decide)]
  | succ n ih =>
    intro N x M hN hn hx h8 hk
    have ex := hx (by omega)
    have gk := hkf ((n + 1 : Nat) : Int) (by omega) hn
    have b1 : 0 ≤ ((n + 1 : Nat) : Int) ∧ ((n + 1 : Nat) : Int) < 8 := by omega
    have b2 : 0 ≤ (n : Int) ∧ (n : Int) < 8 := by omega
    have e1 : ((n + 1 : Nat) : Int) - 1 = (n : Int) := by omega
    have e2 : ((n + 1 : Nat) : Int) + (-1) = (n : Int) := by omega
    obtain ⟨K, k1, k2, k3⟩ := ih (N - 1) (M 498 x) (tp_up (tp_up M 524 ((n + 1 : Nat) : Int) x) 525 (n : Int) x) (by omega) (by omega) (fun hn1 => by rw [ex, h8 _ (by omega) hn, e1]) (fun k k0 k1 => by rw [up_ne (fun hh => absurd hh.1 (by decide)), up_ne (fun hh => absurd hh.1 (by decide))]; exact h8 k k0 k1) (fun k k0 k1 => by
      by_cases c : k = ((n + 1 : Nat) : Int)
      · subst c
        rw [up_ne (fun hh => absurd hh.1 (by decide)), up_eq ⟨rfl, rfl⟩, e1, up_eq ⟨rfl, rfl⟩]
        exact ⟨ex, ex⟩
      · have := hk k (by omega) k1
        rw [up_ne (fun hh => absurd hh.1 (by decide)), up_ne (fun hh => c hh.2), up_ne (fun hh => absurd hh.2 (by omega)), up_ne (fun hh => absurd hh.1 (by decide))]
        exact this)
    refine ⟨K, ?_, k2, fun c k g1 g2 => by rw [k3 c k g1 g2, up_ne (fun hh => g2 hh.1), up_ne (fun hh => g1 hh.1)]⟩
    rw [lp_1 (by omega), ← k1]
    generalize tp_lp kW17 (N - 1) = Rc
    have e8 : tp_up (tp_up M 524 ((n + 1 : Nat) : Int) x) 525 (n : Int) x 498 x = M 498 x := by rw [up_ne (fun hh => absurd hh.1 (by decide)), up_ne (fun hh => absurd hh.1 (by decide))]
    have w1 : tp_w (((n + 1 : Nat) : Int) - 1) = (n : Int) := by rw [e1]; exact ho_w (by omega) (by omega)
    have w2 : tp_w (((n + 1 : Nat) : Int) + (-1)) = (n : Int) := by rw [e2]; exact ho_w (by omega) (by omega)
    simp only [kW17, f_X11_takesKnot_17B, tp_mp, tp_lt, w1, w2, e8]
    rw [if_neg (by omega), if_pos b1, if_pos b2, if_pos (by rw [ex]; exact gk)]
set_option maxHeartbeats 4000000 in
set_option maxRecDepth 100000 in
theorem s_takesKnotW {R : tp_M} {r : Int} {D e s rt kf : Int → Int} {mo q : Int → Int → Int} (hb : cxb r D e s) (hD1 : D 1 = 1) (hr : 1 ≤ r ∧ r ≤ 6) (hW : WyR R r e s rt kf mo q) : ∃ K, f_X11_takesKnot (kf r) R = some K ∧ CxR K r D e s kf q ∧ CxM K r rt (fun k => kf (k + 1)) mo ∧ ∀ c k, ¬ (c = 483 ∧ k = 49) → ¬ (521 ≤ c ∧ c ≤ 525) → K c k = R c k := by
  have hkf : ∀ k, 1 ≤ k → k ≤ r → 0 ≤ kf k ∧ kf k < 40 := fun k k0 k1 => (hW.1 k k0 k1).1
  have k1 := hkf r hr.1 (Int.le_refl _)
  have e6 := (hW.1 r hr.1 (Int.le_refl _)).2.1
  obtain ⟨V, v1, v2, v3⟩ := s_tk17 (kf := kf) hr hkf r.toNat tp_N (kf r) (tp_up R 483 49 r) (by unfold tp_N; omega) (by omega) (fun _ => by rw [show ((r.toNat : Nat) : Int) = r by omega]) (fun k k0 k1 => by rw [up_ne (fun hh => absurd hh.1 (by decide))]; exact (hW.1 k (by omega) k1).2.2.2 k0) (fun k k0 k1 => by omega)
  have vf : ∀ c k, c ≠ 524 → c ≠ 525 → ¬ (c = 483 ∧ k = 49) → V c k = R c k := fun c k g1 g2 g3 => by rw [v3 c k g1 g2, up_ne g3]
  have f1 : ∀ c k, c ≠ 522 → tp_up V 522 1 1 c k = V c k := fun c k hc => up_ne (fun hh => hc hh.1)
  obtain ⟨K, q1, q2, q3, q4⟩ := s_tk60 (kf := kf) hb hr hkf (r - 1).toNat tp_N 1 (tp_up V 522 1 1) (by unfold tp_N; omega) (Int.le_refl _) (by omega) (by rw [f1 _ _ (by decide), v3 _ _ (by decide) (by decide), up_eq ⟨rfl, rfl⟩]) (fun k k0 k1 => by rw [f1 _ _ (by decide)]; have := (v2 (k + 1) (by omega) (by omega)).2; rw [show k + 1 - 1 = k by omega] at this; exact this) (fun k k0 k1 => by rw [f1 _ _ (by decide), f1 _ _ (by decide), vf _ _ (by decide) (by decide) (fun hh => absurd hh.1 (by decide)), vf _ _ (by decide) (by decide) (fun hh => absurd hh.1 (by decide))]; have := hW.2 k k0 k1; exact ⟨this.1, this.2.1⟩) (by rw [up_eq ⟨rfl, rfl⟩, hD1])
  have kf2 : ∀ c k, c ≠ 521 → c ≠ 522 → c ≠ 523 → K c k = V c k := fun c k g1 g2 g3 => by rw [q4 c k (by omega) (by omega), f1 c k g2]
  have kR : ∀ c k, ¬ (c = 483 ∧ k = 49) → ¬ (521 ≤ c ∧ c ≤ 525) → K c k = R c k := fun c k g1 g2 => by rw [kf2 c k (by omega) (by omega) (by omega), vf c k (by omega) (by omega) g1]
  refine ⟨K, ?_, ⟨?_, fun k k0 k1 => ⟨q3 k k0 k1, by rw [kf2 _ _ (by decide) (by decide) (by decide)]; exact (v2 k k0 k1).1, hkf k k0 k1, ?_⟩, fun k k0 k1 => q2 k k0 k1⟩, fun k k0 k1 => ⟨?_, hkf (k + 1) (by omega) (by omega), ?_, fun j j0 j1 => ?_⟩, kR⟩
  · unfold f_X11_takesKnot
    simp only [tp_mp, tp_lt, e6]
    rw [if_pos k1, up_eq ⟨rfl, rfl⟩, ← q1]
    have : f_X11_takesKnot_17 (kf r) r (tp_up R 483 49 r) = tp_lp kW17 tp_N (kf r, ((r.toNat : Nat) : Int), tp_up R 483 49 r) := by rw [show ((r.toNat : Nat) : Int) = r by omega]; rfl
    rw [this, v1]
    rfl
  · rw [kf2 _ _ (by decide) (by decide) (by decide), v3 _ _ (by decide) (by decide), up_eq ⟨rfl, rfl⟩]
  · rw [← (hW.1 k k0 k1).2.2.1]; exact keyAt_cong (fun j j0 j1 => kR _ _ (by omega) (by omega))
  · rw [kf2 _ _ (by decide) (by decide) (by decide)]
    have := (v2 (k + 1) (by omega) (by omega)).2
    rw [show k + 1 - 1 = k by omega] at this
    exact this
  · rw [kR _ _ (by omega) (by omega)]; exact (hW.2 k k0 k1).2.2.1
  · rw [kR _ _ (by omega) (by omega)]; exact (hW.2 k k0 k1).2.2.2 j j0 j1
