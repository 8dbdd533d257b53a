def jB155 (rec_99 : Int → tp_M → Option tp_M) (x1 x3 x4 x5 x6 x7 : Int) : (Int × tp_M → Option tp_M) → Int × tp_M → Option tp_M := fun rec_ u => f_X11_laysSides_155B rec_99 x1 x3 x4 x5 x6 x7 (fun x8' M0' => rec_ (x8', M0')) u.1 u.2
set_option maxHeartbeats 4000000 in
set_option maxRecDepth 100000 in
theorem s_ix155 {M : tp_M} {kn t lf bt ix : Int} {w : Int → Int} {ab : Int × Int} {rec_99 : Int → tp_M → Option tp_M} (hkn : 0 ≤ kn ∧ kn < 40) (hw : wR M kn w) (hS : SOk w lf bt ab) (hx : M 502 kn = ix) (hx2 : 0 ≤ ix ∧ ix ≤ 2000000) : f_X11_laysSides_155 rec_99 kn t bt ab.1 ab.2 (w ab.1 - w ab.2) (max 1 ab.1) M = rec_99 ab.2 (tp_up M 502 kn (ix + pbA w bt ab)) := by
  obtain ⟨s1, s2, s3, s4, s5⟩ := hS
  unfold f_X11_laysSides_155 pbA
  have eu : tp_up M 502 kn (ix + 0) = M := by
    funext x y
    by_cases c : x = 502 ∧ y = kn
    · rw [up_eq c, c.1, c.2, hx, Int.add_zero]
    · rw [up_ne c]
  have e0 : (max 1 ab.1, M) = (max 1 ab.1 + ((0 : Nat) : Int), tp_up M 502 kn (ix + pbS (w ab.1) (w ab.1 - w ab.2) (ab.2 - ab.1) bt ab.1 (max 1 ab.1) 0)) := by
    rw [show pbS (w ab.1) (w ab.1 - w ab.2) (ab.2 - ab.1) bt ab.1 (max 1 ab.1) 0 = 0 from rfl, eu, show max 1 ab.1 + ((0 : Nat) : Int) = max 1 ab.1 by omega]
  rw [e0]
  refine lp_seq (fun j => (max 1 ab.1 + (j : Int), tp_up M 502 kn (ix + pbS (w ab.1) (w ab.1 - w ab.2) (ab.2 - ab.1) bt ab.1 (max 1 ab.1) j))) (ab.2 - max 1 ab.1).toNat (fun j hj rc => ?_) (fun rc => ?_) tp_N (by unfold tp_N; omega)
  · have hx3 : 0 ≤ max 1 ab.1 + (j : Int) - ab.1 ∧ max 1 ab.1 + (j : Int) - ab.1 < ab.2 - ab.1 := by omega
    have pt := pb_t (wa := w ab.1) (fl := w ab.1 - w ab.2) (ln := ab.2 - ab.1) (bt := bt) (x := max 1 ab.1 + (j : Int) - ab.1) (by omega) hx3 (by omega) (by omega) s4.1 s3
    have pb := pbS_b (wa := w ab.1) (fl := w ab.1 - w ab.2) (ln := ab.2 - ab.1) (bt := bt) (a := ab.1) (i0 := max 1 ab.1) (by omega) (by omega) (by omega) (by omega) s4.1 s3 j (by omega)
    have g0 : ¬ ab.2 ≤ max 1 ab.1 + (j : Int) := by omega
    have ga : 0 ≤ ab.1 ∧ ab.1 < 9 := by omega
    have j8 : j ≤ 8 := by omega
    have b1 : -2147483648 ≤ ab.2 - ab.1 ∧ ab.2 - ab.1 ≤ 2147483647 := by omega
    have b2 : -2147483648 ≤ max 1 ab.1 + (j : Int) - ab.1 ∧ max 1 ab.1 + (j : Int) - ab.1 ≤ 2147483647 := by omega
    have b9 : -2147483648 ≤ max 1 ab.1 + (j : Int) + 1 ∧ max 1 ab.1 + (j : Int) + 1 ≤ 2147483647 := by omega
    have gl : ¬ ab.2 - ab.1 = 0 := by omega
    have ej : max 1 ab.1 + (j : Int) + 1 = max 1 ab.1 + ((j + 1 : Nat) : Int) := by omega
    have es : pbS (w ab.1) (w ab.1 - w ab.2) (ab.2 - ab.1) bt ab.1 (max 1 ab.1) (j + 1) = pbS (w ab.1) (w ab.1 - w ab.2) (ab.2 - ab.1) bt ab.1 (max 1 ab.1) j + (w ab.1 - ((w ab.1 - w ab.2) * (max 1 ab.1 + j - ab.1) + (ab.2 - ab.1) - 1) / (ab.2 - ab.1) - bt) := rfl
    generalize hxe : max 1 ab.1 + (j : Int) - ab.1 = x at *
    generalize pbS (w ab.1) (w ab.1 - w ab.2) (ab.2 - ab.1) bt ab.1 (max 1 ab.1) j = S at *
    have b3 : -2147483648 ≤ (w ab.1 - w ab.2) * x ∧ (w ab.1 - w ab.2) * x ≤ 2147483647 := by omega
    have b4 : -2147483648 ≤ (w ab.1 - w ab.2) * x + ab.2 ∧ (w ab.1 - w ab.2) * x + ab.2 ≤ 2147483647 := by omega
    have b4' : -2147483648 ≤ (w ab.1 - w ab.2) * x + ab.2 - ab.1 ∧ (w ab.1 - w ab.2) * x + ab.2 - ab.1 ≤ 2147483647 := by omega
    have b5 : -2147483648 ≤ (w ab.1 - w ab.2) * x + ab.2 - ab.1 - 1 ∧ (w ab.1 - w ab.2) * x + ab.2 - ab.1 - 1 ≤ 2147483647 := by omega
    have eq1 : (w ab.1 - w ab.2) * x + ab.2 - ab.1 - 1 = (w ab.1 - w ab.2) * x + (ab.2 - ab.1) - 1 := by omega
    have td := Int.tdiv_eq_ediv_of_nonneg (a := (w ab.1 - w ab.2) * x + (ab.2 - ab.1) - 1) (b := ab.2 - ab.1) (by omega)
    generalize hQ : ((w ab.1 - w ab.2) * x + (ab.2 - ab.1) - 1) / (ab.2 - ab.1) = Q at *
    have b6 : -2147483648 ≤ Q ∧ Q ≤ 2147483647 := by omega
    have b7 : -2147483648 ≤ w ab.1 - Q ∧ w ab.1 - Q ≤ 2147483647 := by omega
    have b8 : -2147483648 ≤ w ab.1 - Q - bt ∧ w ab.1 - Q - bt ≤ 2147483647 := by omega
    have b10 : -2147483648 ≤ ix + S + (w ab.1 - Q - bt) ∧ ix + S + (w ab.1 - Q - bt) ≤ 2147483647 := by omega
    have b11 : -2147483648 ≤ ix + S + 0 ∧ ix + S + 0 ≤ 2147483647 := by omega
    have e11 : ix + S + (w ab.1 - Q - bt) = ix + (S + (w ab.1 - Q - bt)) := by omega
    have hwW : wR (tp_up M 502 kn (ix + S)) kn w := fun k k0 k1 => ⟨by rw [up_ne (fun h => absurd h.1 (by decide))]; exact (hw k k0 k1).1, (hw k k0 k1).2⟩
    have p1 := s_pt hkn hwW ga
    have r1 : tp_up M 502 kn (ix + S) 502 kn = ix + S := up_eq ⟨rfl, rfl⟩
    simp only [f_X11_laysSides_155B, f_X11_laysSides_219, tp_mp, tp_lt, up_up]
    rw [if_neg g0, ho_w b1.1 b1.2, if_neg gl, hxe, ho_w b2.1 b2.2, ho_w b3.1 b3.2, ho_w b4.1 b4.2, ho_w b4'.1 b4'.2, ho_w b5.1 b5.2, eq1, td, ho_w b6.1 b6.2, p1, Option.bind_some, ho_w b7.1 b7.2, ho_w b8.1 b8.2, if_pos hkn, r1, ho_w b9.1 b9.2, ej, es]
    by_cases c : w ab.1 - Q - bt ≤ 0
    · have ez : w ab.1 - Q - bt = 0 := by omega
      rw [if_pos c, if_pos hkn, ho_w b11.1 b11.2, ez, Int.add_zero, Int.add_zero]
    · rw [if_neg c, if_pos hkn, ho_w b10.1 b10.2, e11]
  · simp only [f_X11_laysSides_155B]
    rw [if_pos (by omega)]
def jB99 (x1 x3 x4 : Int) : (Int × tp_M → Option tp_M) → Int × tp_M → Option tp_M := fun rec_ u => f_X11_laysSides_99B x1 x3 x4 (fun x5' M0' => rec_ (x5', M0')) u.1 u.2
set_option maxHeartbeats 4000000 in
set_option maxRecDepth 100000 in
theorem s_ls99 {p K P r m kn t : Int} {D e s rt kf mf : Int → Int} {mo q : Int → Int → Int} {Y w : Int → Int} (h : pKP p K P) (hb : cxb r D e s) (hc : copr r e s) (hr : 1 ≤ r ∧ r ≤ 6) (hm : 0 ≤ m ∧ m ≤ 8) (hmD : m * D r ≤ 8) (hkn : 0 ≤ kn ∧ kn < 40) (hkr : kf r = kn) (ho : rok p r e rt mo) (hq : ∀ k, 1 ≤ k → k ≤ r → Ro P (q k)) (hdv : ∀ k, 1 ≤ k → k < r → D (k + 1) ∣ D r) (hH : hdW p K.toNat r m D e s Y w) (ht : t ≤ 8) : ∀ (fuel N : Nat) (a n ix : Int) (M : tp_M), fuel < N → 0 ≤ a → t - a ≤ fuel → (∀ ab, ab ∈ sdL w t fuel a → SOk w (lft r e s) (w t) ab) → (a < t → 0 ≤ w t) → RKn M p K P r m kn D e s rt kf mf mo q Y w → M 483 22 = n → 0 ≤ n → n + (sdL w t fuel a).length ≤ 60 → M 502 kn = ix → 0 ≤ ix → ix + 160000 * (sdL w t fuel a).length ≤ 2000000 → 0 ≤ M 499 kn → M 499 kn ≤ n → ∃ N', tp_lp (jB99 kn t (w t)) N (a, M) = some N' ∧ (∀ (i : Nat) ab, (sdL w t fuel a)[i]? = some ab → SdR N' (n + i) (sdF w (lft r e s) ab) (mnl e s (r - 1).toNat (sgS w (lft r e s) ab.1 ab.2)) (rsR p K.toNat r D e s rt mo Y w (lft r e s) ab)) ∧ N' 483 22 = n + (sdL w t fuel a).length ∧ N' 502 kn = ix + idL w (w t) (sdL w t fuel a) ∧ N' 500 kn = n + (sdL w t fuel a).length - M 499 kn ∧ ∀ c j, c ≠ 487 → c ≠ 526 → ¬ (c = 483 ∧ (j = 56 ∨ j = 22)) → ¬ ((c = 500 ∨ c = 502) ∧ j = kn) → ¬ (508 ≤ c ∧ c ≤ 513 ∧ n ≤ j ∧ j < n + (sdL w t fuel a).length) → ¬ (c = 514 ∧ 7 * n ≤ j ∧ j < 7 * (n + (sdL w t fuel a).length)) → ¬ (c = 515 ∧ 9 * n ≤ j ∧ j < 9 * (n + (sdL w t fuel a).length)) → N' c j = M c j := by
  have fin : ∀ (a n ix : Int) (M : tp_M) (Rc : Int × tp_M → Option tp_M), t ≤ a → M 483 22 = n → 0 ≤ n → n ≤ 60 → 0 ≤ M 499 kn → M 499 kn ≤ n → jB99 kn t (w t) Rc (a, M) = some (tp_up M 500 kn (n - M 499 kn)) := by
    intro a n ix M Rc hta hn n0 n1 f0 f1
    simp only [jB99, f_X11_laysSides_99B, tp_mp, hn]
    rw [if_pos hta, if_pos hkn, if_pos hkn, ho_w (x := n - M 499 kn) (by omega) (by omega)]
  intro fuel
  induction fuel with
  | zero =>
    intro N a n ix M hN a0 hf hS hw0 hK hn n0 n1 hx x0 x1 f0 f1
    refine ⟨tp_up M 500 kn (n - M 499 kn), ?_, fun i ab hh => by simp [sdL] at hh, ?_, ?_, ?_, fun c j _ _ _ g4 _ _ _ => up_ne (fun hh => g4 ⟨Or.inl hh.1, hh.2⟩)⟩
    · rw [lp_1 (by omega)]
      exact fin a n ix M _ (by omega) hn n0 (by simp only [sdL, List.length_nil] at n1; omega) f0 f1
    · rw [up_ne (fun hh => absurd hh.1 (by decide)), hn]; simp [sdL]
    · rw [up_ne (fun hh => absurd hh.1 (by decide)), hx]; show ix = ix + 0; omega
    · rw [up_eq ⟨rfl, rfl⟩]; simp [sdL]
  | succ fuel ih =>
    intro N a n ix M hN a0 hf hS hw0 hK hn n0 n1 hx x0 x1 f0 f1
    by_cases c : a < t
    · have el : sdL w t (fuel + 1) a = (a, nxF w a t) :: sdL w t fuel (nxF w a t) := by
        conv => lhs; unfold sdL
        rw [if_pos c]
      rw [el] at hS n1 x1 ⊢
      simp only [List.length_cons] at n1 x1 ⊢
      have hab := hS (a, nxF w a t) List.mem_cons_self
      have hab' := hab
      obtain ⟨s1, s2, s3, s4, s5⟩ := hab
      have wt := hw0 c
      have nxp := nxF_nx a0 c wt
      generalize hb' : nxF w a t = b at *
      have bt2 : a < b ∧ b ≤ t := ⟨nxp.1, by have := nxp.2.1; omega⟩
      have nc := s_nextCorner (M := M) (kn := kn) (h := a) (t := t) (w := w) hkn hK.2.2.2.2.2.2 a0 c ht
      rw [hb'] at nc
      obtain ⟨M1, a1, a2, a3, a4⟩ := s_laysSide (M := M) (p := p) (K := K) (P := P) (r := r) (m := m) (kn := kn) (n := n) (bt := w t) (rt := rt) (kf := kf) (mf := mf) (mo := mo) (q := q) (Y := Y) (w := w) (ab := (a, b)) h hb hc hr hm hmD hkn hkr ho hq hdv (by omega) hab' hH hK hn
      have K1 : RKn M1 p K P r m kn D e s rt kf mf mo q Y w := RKn_fr hK (fun c j hc => a4 _ _ (by omega) (by omega) (by omega) (by omega) (by omega) (by omega))
      have x502 : M1 502 kn = ix := by rw [a4 _ _ (by decide) (by decide) (fun hh => absurd hh.1 (by decide)) (fun hh => absurd hh.1 (by decide)) (fun hh => absurd hh.1 (by decide)) (fun hh => absurd hh.1 (by decide))]; exact hx
      have pbb := pbA_b hab'
      have p1 := s_pt (M := M1) hkn K1.2.2.2.2.2.2 (i := a) (by omega)
      have p2 := s_pt (M := M1) hkn K1.2.2.2.2.2.2 (i := b) (by omega)
      have hi155 := s_ix155 (M := M1) (kn := kn) (t := t) (lf := lft r e s) (bt := w t) (ix := ix) (w := w) (ab := (a, b)) (rec_99 := fun x5' M0' => tp_lp (jB99 kn t (w t)) (N - 1) (x5', M0')) hkn K1.2.2.2.2.2.2 hab' x502 (by omega)
      generalize hM2 : tp_up M1 502 kn (ix + pbA w (w t) (a, b)) = M2 at hi155
      have f2 : ∀ c j, ¬ (c = 502 ∧ j = kn) → M2 c j = M1 c j := fun c j g => by rw [← hM2, up_ne g]
      have e499 : M2 499 kn = M 499 kn := by rw [f2 _ _ (fun hh => absurd hh.1 (by decide)), a4 _ _ (by decide) (by decide) (fun hh => absurd hh.1 (by decide)) (fun hh => absurd hh.1 (by decide)) (fun hh => absurd hh.1 (by decide)) (fun hh => absurd hh.1 (by decide))]
      obtain ⟨N', k1, k2, k3, k4, k5, k6⟩ := ih (N - 1) b (n + 1) (ix + pbA w (w t) (a, b)) M2 (by omega) (by omega) (by omega) (fun ab hh => hS ab (List.mem_cons_of_mem _ hh)) (fun _ => wt) (RKn_fr K1 (fun c j hc => f2 _ _ (by omega))) (by rw [f2 _ _ (fun hh => absurd hh.1 (by decide))]; exact a3) (by omega) (by omega) (by rw [← hM2, up_eq ⟨rfl, rfl⟩]) (by omega) (by omega) (by rw [e499]; exact f0) (by rw [e499]; omega)
      rw [e499] at k5
      refine ⟨N', ?_, fun i ab hh => ?_, by rw [k3]; omega, by rw [k4]; show _ = ix + (pbA w (w t) (a, b) + idL w (w t) (sdL w t fuel b)); omega, by rw [k5]; omega, fun c j g1 g2 g3 g4 g5 g6 g7 => ?_⟩
      · have b1 : -2147483648 ≤ w a - w b ∧ w a - w b ≤ 2147483647 := by
          have s3' : w a ≤ 20000 := s3
          have s2' : 0 ≤ w b ∧ w b ≤ w a := s2
          omega
        have g0 : ¬ t ≤ a := by omega
        have em : (if 1 ≤ a then a else 1) = max 1 a := by
          by_cases c1 : 1 ≤ a
          · rw [if_pos c1]; omega
          · rw [if_neg c1]; omega
        rw [lp_1 (by omega)]
        generalize tp_lp (jB99 kn t (w t)) (N - 1) = Rc at k1 hi155 ⊢
        simp only [jB99, f_X11_laysSides_99B, f_X11_laysSides_153, tp_lt]
        rw [if_neg g0, nc, Option.bind_some]
        have a1' : f_X11_laysSide kn a b M = some M1 := a1
        rw [a1', Option.bind_some, p1, Option.bind_some, p2, Option.bind_some, ho_w b1.1 b1.2]
        have hi' : f_X11_laysSides_155 (fun x5' M0' => Rc (x5', M0')) kn t (w t) a b (w a - w b) (max 1 a) M1 = Rc (b, M2) := hi155
        by_cases c1 : 1 ≤ a
        · rw [if_pos c1]
          rw [show max 1 a = a by omega] at hi'
          rw [hi']; exact k1
        · rw [if_neg c1]
          rw [show max 1 a = 1 by omega] at hi'
          rw [hi']; exact k1
      · cases i with
        | zero =>
          have e0 : (a, b) = ab := by simpa using hh
          subst e0
          rw [show n + ((0 : Nat) : Int) = n by omega]
          obtain ⟨⟨d1, d2, d3, d4, d5, d6⟩, d7, d8⟩ := a2
          have kk : ∀ c j, (508 ≤ c ∧ c ≤ 513 ∧ j = n) ∨ (c = 514 ∧ 7 * n ≤ j ∧ j < 7 * n + 7) ∨ (c = 515 ∧ 9 * n ≤ j ∧ j < 9 * n + 9) → N' c j = M1 c j := fun c j hc => by rw [k6 c j (by omega) (by omega) (by omega) (by omega) (by omega) (by omega) (by omega), f2 c j (by omega)]
          exact ⟨⟨by rw [kk _ _ (by omega)]; exact d1, by rw [kk _ _ (by omega)]; exact d2, by rw [kk _ _ (by omega)]; exact d3, by rw [kk _ _ (by omega)]; exact d4, by rw [kk _ _ (by omega)]; exact d5, by rw [kk _ _ (by omega)]; exact d6⟩, fun t t0 t1 => by rw [kk _ _ (by omega)]; exact d7 t t0 t1, fun k k0 k1 => by rw [kk _ _ (by omega)]; exact d8 k k0 k1⟩
        | succ i =>
          have := k2 i ab hh
          rw [show n + 1 + (i : Int) = n + ((i + 1 : Nat) : Int) by omega] at this
          exact this
      · rw [k6 c j g1 g2 g3 g4 (by omega) (by omega) (by omega), f2 c j (fun hh => g4 ⟨Or.inr hh.1, hh.2⟩), a4 c j g1 g2 g3 (by omega) (by omega) (by omega)]
    · have el : sdL w t (fuel + 1) a = [] := by
        conv => lhs; unfold sdL
        rw [if_neg c]
      rw [el] at n1 x1 ⊢
      simp only [List.length_nil] at n1 x1 ⊢
      refine ⟨tp_up M 500 kn (n - M 499 kn), ?_, fun i ab hh => by simp at hh, ?_, ?_, ?_, fun c j _ _ _ g4 _ _ _ => up_ne (fun hh => g4 ⟨Or.inl hh.1, hh.2⟩)⟩
      · rw [lp_1 (by omega)]
        exact fin a n ix M _ (by omega) hn n0 (by omega) f0 f1
      · rw [up_ne (fun hh => absurd hh.1 (by decide)), hn]; omega
      · rw [up_ne (fun hh => absurd hh.1 (by decide)), hx]; show ix = ix + 0; omega
      · rw [up_eq ⟨rfl, rfl⟩]; omega
/-- what is known of the first point -/
def zok (w : Int → Int) (m z : Int) : Prop := (0 ≤ z ∧ z ≤ m) ∧ (∀ i, 0 ≤ i → i < z → w i < 0) ∧ (∀ i, m < i → i ≤ 8 → w i < 0) ∧ (0 ≤ w z ∨ (z = m ∧ ∀ i, 0 ≤ i → i ≤ 8 → w i < 0))
def lstP (w : Int → Int) (z j b : Int) : Prop := (w z < 0 ∧ b = z) ∨ (0 ≤ w z ∧ z ≤ b ∧ b ≤ j ∧ 0 ≤ w b ∧ ∀ i, z ≤ i → i ≤ j → 0 ≤ w i → w b ≤ w i ∧ (i < b → w b < w i))
theorem lst_end {w : Int → Int} {m z b : Int} (hm : m ≤ 8) (hz : zok w m z) (h : lstP w z m b) : (lsS w 9 < 0 → b = z ∧ w z < 0) ∧ (0 ≤ lsS w 9 → b = lsS w 9 ∧ z ≤ lsS w 9 ∧ 0 ≤ w z) := by
  obtain ⟨z1, z2, z3, z4⟩ := hz
  have ls := lsS_spec w 9
  constructor
  · intro hn
    rcases ls with ⟨_, l2⟩ | ⟨l1, _⟩
    · have wz := l2 z z1.1 (by omega)
      rcases h with ⟨h1, h2⟩ | ⟨h1, _⟩
      · exact ⟨h2, wz⟩
      · omega
    · omega
  · intro hn
    rcases ls with ⟨l1, _⟩ | ⟨l1, l2, l3⟩
    · omega
    · have wz : 0 ≤ w z := by
        rcases z4 with z4 | ⟨_, z5⟩
        · exact z4
        · have := z5 (lsS w 9) l1.1 (by omega); omega
      rcases h with ⟨h1, _⟩ | ⟨h1, h2, h3, h4, h5⟩
      · omega
      · have hb : lsp w b := ⟨by omega, h4, fun i i0 i1 i2 => by
          have a1 : z ≤ i := Classical.byContradiction fun hc => by have := z2 i i0 (by omega); omega
          have a2 : i ≤ m := Classical.byContradiction fun hc => by have := z3 i (by omega) i1; omega
          exact h5 i a1 a2 i2⟩
        have hl : lsp w (lsS w 9) := ⟨by omega, l2, fun i i0 i1 i2 => l3 i i0 (by omega) i2⟩
        have := lsp_un hb hl
        exact ⟨this, by omega, wz⟩
def jB29 (x1 x2 : Int) (M : tp_M) : (Int × Int → Option tp_M) → Int × Int → Option tp_M := fun rec_ u => f_X11_laysSides_29B x1 x2 M (fun x3' x4' => rec_ (x3', x4')) u.1 u.2
set_option maxHeartbeats 4000000 in
set_option maxRecDepth 100000 in
theorem s_ls29 {M : tp_M} {kn m z : Int} {w : Int → Int} (hkn : 0 ≤ kn ∧ kn < 40) (hw : wR M kn w) (hm : 0 ≤ m ∧ m ≤ 8) (hm1 : M 497 kn = m) (hz : 0 ≤ z ∧ z ≤ m) (hz0 : w z < 0 → ∀ i, 0 ≤ i → i ≤ 8 → w i < 0) : ∀ (n N : Nat) (b j : Int), n < N → j + n = m + 1 → z ≤ j → (j = z ∧ b = z ∨ z < j ∧ lstP w z (j - 1) b) → ∃ b', lstP w z m b' ∧ tp_lp (jB29 kn z M) N (b, j) = f_X11_laysSides_99 kn b' (w b') z M := by
  intro n
  induction n with
  | zero =>
    intro N b j hN hj hzj hl
    have hl2 : lstP w z m b := by
      rcases hl with ⟨h1, _⟩ | ⟨_, h2⟩
      · omega
      · rw [show m = j - 1 by omega]; exact h2
    have b9 : 0 ≤ b ∧ b < 9 := by
      rcases hl2 with ⟨_, h⟩ | ⟨_, h1, h2, _⟩ <;> omega
    refine ⟨b, hl2, ?_⟩
    rw [lp_1 (by omega)]
    simp only [jB29, f_X11_laysSides_29B, hm1]
    rw [if_pos hkn, if_pos (by omega), s_pt hkn hw b9, Option.bind_some]
  | succ n ih =>
    intro N b j hN hj hzj hl
    have j9 : 0 ≤ j ∧ j < 9 := by omega
    have b9 : 0 ≤ b ∧ b < 9 := by
      rcases hl with ⟨_, h⟩ | ⟨_, ⟨_, h⟩ | ⟨_, h1, h2, _⟩⟩ <;> omega
    have pj := s_pt hkn hw j9
    have pb := s_pt hkn hw b9
    have g0 : ¬ m < j := by omega
    have bj : -2147483648 ≤ j + 1 ∧ j + 1 ≤ 2147483647 := by omega
    have key := fun b' (hb : lstP w z j b') => ih (N - 1) b' (j + 1) (by omega) (by omega) (by omega) (Or.inr ⟨by omega, by rw [show j + 1 - 1 = j by omega]; exact hb⟩)
    rw [lp_1 (by omega)]
    generalize tp_lp (jB29 kn z M) (N - 1) = Rc at key ⊢
    simp only [jB29, f_X11_laysSides_29B, f_X11_laysSides_80, f_X11_laysSides_75, f_X11_laysSides_81, tp_lt, hm1]
    rw [if_pos hkn, if_neg g0, pj, Option.bind_some, ho_w bj.1 bj.2]
    by_cases c0 : w j < 0
    · rw [if_pos c0]
      refine key b ?_
      rcases hl with ⟨h1, h2⟩ | ⟨h1, ⟨h2, h3⟩ | ⟨h2, h3, h4, h5, h6⟩⟩
      · exact Or.inl ⟨by rw [← h1]; exact c0, h2⟩
      · exact Or.inl ⟨h2, h3⟩
      · refine Or.inr ⟨h2, h3, by omega, h5, fun i i0 i1 i2 => ?_⟩
        by_cases e : i = j
        · rw [e] at i2; omega
        · exact h6 i i0 (by omega) i2
    · rw [if_neg c0, pb, Option.bind_some]
      by_cases c1 : w b < 0
      · rw [if_pos c1]
        refine key j ?_
        rcases hl with ⟨h1, h2⟩ | ⟨h1, ⟨h2, h3⟩ | ⟨h2, h3, h4, h5, h6⟩⟩
        · rw [h2, ← h1] at c1; omega
        · exact absurd (hz0 h2 j (by omega) (by omega)) c0
        · omega
      · rw [if_neg c1, Option.bind_some, Option.bind_some]
        by_cases c2 : w b ≤ w j
        · rw [if_pos c2]
          refine key b ?_
          rcases hl with ⟨h1, h2⟩ | ⟨h1, ⟨h2, h3⟩ | ⟨h2, h3, h4, h5, h6⟩⟩
          · rw [h2, ← h1]
            refine Or.inr ⟨by omega, Int.le_refl _, Int.le_refl _, by omega, fun i i0 i1 i2 => ?_⟩
            have : i = j := by omega
            rw [this]; exact ⟨Int.le_refl _, fun hlt => by omega⟩
          · rw [h3] at c1; omega
          · refine Or.inr ⟨h2, h3, by omega, h5, fun i i0 i1 i2 => ?_⟩
            by_cases e : i = j
            · rw [e]; exact ⟨c2, fun hlt => by omega⟩
            · exact h6 i i0 (by omega) i2
        · rw [if_neg c2]
          refine key j ?_
          rcases hl with ⟨h1, h2⟩ | ⟨h1, ⟨h2, h3⟩ | ⟨h2, h3, h4, h5, h6⟩⟩
          · rw [h2, ← h1] at c2; omega
          · rw [h3] at c1; omega
          · refine Or.inr ⟨h2, by omega, by omega, by omega, fun i i0 i1 i2 => ?_⟩
            by_cases e : i = j
            · rw [e]; exact ⟨Int.le_refl _, fun hlt => by omega⟩
            · have := h6 i i0 (by omega) i2
              exact ⟨by omega, fun hlt => by omega⟩
set_option maxHeartbeats 4000000 in
set_option maxRecDepth 100000 in
theorem s_laysSides {p K P r m kn n z : Int} {D e s rt kf mf : Int → Int} {mo q : Int → Int → Int} {Y w : Int → Int} {M : tp_M} (h : pKP p K P) (hb : cxb r D e s) (hc : copr r e s) (hr : 1 ≤ r ∧ r ≤ 6) (hm : 0 ≤ m ∧ m ≤ 8) (hmD : m * D r ≤ 8) (hkn : 0 ≤ kn ∧ kn < 40) (hkr : kf r = kn) (ho : rok p r e rt mo) (hq : ∀ k, 1 ≤ k → k ≤ r → Ro P (q k)) (hdv : ∀ k, 1 ≤ k → k < r → D (k + 1) ∣ D r) (hH : hdW p K.toNat r m D e s Y w) (hz : zok w m z) (hm1 : M 497 kn = m) (hz1 : M 501 kn = z) (hS : ∀ ab, ab ∈ sidesOf w z → SOk w (lft r e s) (w (lsS w 9)) ab) (hK : RKn M p K P r m kn D e s rt kf mf mo q Y w) (hn : M 483 22 = n) (n0 : 0 ≤ n) (n1 : n + (sidesOf w z).length ≤ 60) (hlen : (sidesOf w z).length ≤ 8) : ∃ N', f_X11_laysSides kn M = some N' ∧ (∀ (i : Nat) ab, (sidesOf w z)[i]? = some ab → SdR N' (n + i) (sdF w (lft r e s) ab) (mnl e s (r - 1).toNat (sgS w (lft r e s) ab.1 ab.2)) (rsR p K.toNat r D e s rt mo Y w (lft r e s) ab)) ∧ N' 483 22 = n + (sidesOf w z).length ∧ N' 499 kn = n ∧ N' 502 kn = idL w (w (lsS w 9)) (sidesOf w z) ∧ N' 500 kn = (sidesOf w z).length ∧ ∀ c j, c ≠ 487 → c ≠ 526 → ¬ (c = 483 ∧ (j = 56 ∨ j = 22)) → ¬ ((c = 499 ∨ c = 500 ∨ c = 502) ∧ j = kn) → ¬ (508 ≤ c ∧ c ≤ 513 ∧ n ≤ j ∧ j < n + (sidesOf w z).length) → ¬ (c = 514 ∧ 7 * n ≤ j ∧ j < 7 * (n + (sidesOf w z).length)) → ¬ (c = 515 ∧ 9 * n ≤ j ∧ j < 9 * (n + (sidesOf w z).length)) → N' c j = M c j := by
  generalize hM2 : tp_up (tp_up M 499 kn n) 502 kn 0 = M2
  have f2 : ∀ c j, ¬ ((c = 499 ∨ c = 502) ∧ j = kn) → M2 c j = M c j := fun c j g => by
    rw [← hM2, up_ne (fun hh => g ⟨Or.inr hh.1, hh.2⟩), up_ne (fun hh => g ⟨Or.inl hh.1, hh.2⟩)]
  have g502 : M2 502 kn = 0 := by rw [← hM2, up_eq ⟨rfl, rfl⟩]
  have g499 : M2 499 kn = n := by rw [← hM2, up_ne (fun hh => absurd hh.1 (by decide)), up_eq ⟨rfl, rfl⟩]
  have K2 : RKn M2 p K P r m kn D e s rt kf mf mo q Y w := RKn_fr hK (fun c j hc => f2 _ _ (by omega))
  have hw := K2.2.2.2.2.2.2
  have e497 : M2 497 kn = m := by rw [f2 _ _ (by omega)]; exact hm1
  have e501 : M2 501 kn = z := by rw [f2 _ _ (by omega)]; exact hz1
  have e22 : M2 483 22 = n := by rw [f2 _ _ (by omega)]; exact hn
  obtain ⟨b', hl, el⟩ := s_ls29 (M := M2) hkn hw hm e497 hz.1 (fun wz => by
    rcases hz.2.2.2 with h4 | ⟨_, h5⟩
    · omega
    · exact h5) (m - z + 1).toNat tp_N z z (by unfold tp_N; have := hz.1; omega) (by have := hz.1; omega) (Int.le_refl _) (Or.inl ⟨rfl, rfl⟩)
  have le := lst_end hm.2 hz hl
  have zz := hz.1
  have key : ∃ (fuel : Nat), fuel < 20 ∧ b' - z ≤ fuel ∧ b' ≤ 8 ∧ sdL w b' fuel z = sidesOf w z ∧ (z < b' → 0 ≤ w b') ∧ (∀ ab, ab ∈ sdL w b' fuel z → SOk w (lft r e s) (w b') ab) ∧ idL w (w b') (sidesOf w z) = idL w (w (lsS w 9)) (sidesOf w z) := by
    by_cases c : lsS w 9 < 0
    · have l1 := le.1 c
      have e0 : sidesOf w z = [] := by unfold sidesOf; rw [if_pos c]
      refine ⟨0, by decide, by omega, by omega, by rw [e0]; rfl, fun hh => by omega, fun ab hh => by simp [sdL] at hh, by rw [e0]; rfl⟩
    · have l1 := le.2 (by omega)
      have e0 : sidesOf w z = sdL w (lsS w 9) 9 z := by unfold sidesOf; rw [if_neg c]
      have ls := lsS_spec w 9
      have ls2 : lsS w 9 ≤ 8 ∧ 0 ≤ w (lsS w 9) := by
        rcases ls with ⟨h, _⟩ | ⟨h1, h2, _⟩
        · omega
        · exact ⟨by omega, h2⟩
      refine ⟨9, by decide, by omega, by omega, by rw [e0, l1.1], fun hh => by rw [l1.1]; exact ls2.2, fun ab hh => by rw [l1.1] at hh ⊢; rw [← e0] at hh; exact hS ab hh, by rw [l1.1]⟩
  obtain ⟨fuel, k0, k1, k2, k3, k4, k5, k6⟩ := key
  obtain ⟨N', r1, r2, r3, r4, r5, r6⟩ := s_ls99 (t := b') (kn := kn) h hb hc hr hm hmD hkn hkr ho hq hdv hH k2 fuel tp_N z n 0 M2 (by unfold tp_N; omega) zz.1 k1 k5 k4 K2 e22 n0 (by rw [k3]; exact n1) g502 (Int.le_refl _) (by rw [k3]; omega) (by rw [g499]; exact n0) (by rw [g499]; exact Int.le_refl _)
  rw [k3] at r2 r3 r4 r5 r6
  refine ⟨N', ?_, r2, r3, ?_, by rw [r4, k6]; omega, by rw [r5, g499]; omega, fun c j g1 g2 g3 g4 g5 g6 g7 => ?_⟩
  · unfold f_X11_laysSides
    simp only [tp_mp, tp_lt]
    rw [if_pos hkn, if_pos hkn, if_pos hkn, hn, hM2, e501]
    have e1 : f_X11_laysSides_29 kn z z z M2 = tp_lp (jB29 kn z M2) tp_N (z, z) := rfl
    rw [e1, el]
    exact r1
  · rw [r6 _ _ (by decide) (by decide) (by omega) (by omega) (by omega) (by omega) (by omega)]; exact g499
  · rw [r6 c j g1 g2 g3 (by omega) g5 g6 g7, f2 c j (by omega)]
