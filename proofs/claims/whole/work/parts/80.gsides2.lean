def SOk (w : Int → Int) (lf bt : Int) (ab : Int × Int) : Prop := (0 ≤ ab.1 ∧ ab.1 < ab.2 ∧ ab.2 ≤ 8) ∧ (0 ≤ w ab.2 ∧ w ab.2 ≤ w ab.1) ∧ w ab.1 ≤ 20000 ∧ (0 ≤ bt ∧ bt ≤ w ab.2) ∧ (0 ≤ sgS w lf ab.1 ab.2 ∧ sgS w lf ab.1 ab.2 ≤ 2000)
def pbA (w : Int → Int) (bt : Int) (ab : Int × Int) : Int := pbS (w ab.1) (w ab.1 - w ab.2) (ab.2 - ab.1) bt ab.1 (max 1 ab.1) (ab.2 - max 1 ab.1).toNat
theorem pbA_b {w : Int → Int} {lf bt : Int} {ab : Int × Int} (h : SOk w lf bt ab) : 0 ≤ pbA w bt ab ∧ pbA w bt ab ≤ 160000 := by
  obtain ⟨h1, h2, h3, h4, h5⟩ := h
  have := pbS_b (wa := w ab.1) (fl := w ab.1 - w ab.2) (ln := ab.2 - ab.1) (bt := bt) (a := ab.1) (i0 := max 1 ab.1) (by omega) (by omega) (by omega) (by omega) h4.1 h3 (ab.2 - max 1 ab.1).toNat (by omega)
  unfold pbA
  omega
def idL (w : Int → Int) (bt : Int) : List (Int × Int) → Int
  | [] => 0
  | x :: l => pbA w bt x + idL w bt l
def SdC (K : tp_M) (w : Int → Int) (lf r : Int) (e s : Int → Int) (q : Int) (ab : Int × Int) : Prop := (∀ f, 0 ≤ f → f < 6 → K (118 + 3 * q) f = sdF w lf ab f) ∧ ∀ k, 0 ≤ k → k < 8 → K (118 + 3 * q + 1) k = mnl e s (r - 1).toNat (sgS w lf ab.1 ab.2) k
def sB30 (x1 x2 x3 : Int) : (Int × tp_M → Option tp_M) → Int × tp_M → Option tp_M := fun rec_ u => f_X1_findSides_30B x1 x2 x3 (fun x4' M0' => rec_ (x4', M0')) u.1 u.2
set_option maxHeartbeats 4000000 in
set_option maxRecDepth 100000 in
theorem s_fs30 {r kc t many : Int} {D e s w : Int → Int} (hb : cxb r D e s) (hc : copr r e s) (hr : 1 ≤ r ∧ r ≤ 6) (tk : kn_t kc) (hkc : 46 ≤ kc ∧ kc ≤ 115) (ht : 0 ≤ t ∧ t ≤ 8) : ∀ (l : List (Int × Int)) (N : Nat) (x4 n ix c7 : Int) (M : tp_M), l.length < N → 0 ≤ x4 → x4 + l.length ≤ 8 → many = x4 + l.length + 1 → (∀ (i : Nat) ab, l[i]? = some ab → M 310 (x4 + i) = ab.1 ∧ M 310 (x4 + i + 1) = ab.2) → (∀ ab, ab ∈ l → SOk w (lft r e s) (w t) ab) → M 41 6 = n → 0 ≤ n → n + l.length ≤ 48 → M kc 5 = ix → 0 ≤ ix → ix + 160000 * l.length ≤ 2000000 → M kc 7 = c7 → 0 ≤ c7 → c7 + l.length ≤ 50 → M kc 0 = r → (∀ i, 0 ≤ i → i < 9 → M (kc + 2) i = w i) → CxC M r D e s → ∃ K, tp_lp (sB30 kc t many) N (x4, M) = some K ∧ (∀ (i : Nat) ab, l[i]? = some ab → SdC K w (lft r e s) r e s (n + i) ab) ∧ K 41 6 = n + l.length ∧ K kc 5 = ix + idL w (w t) l ∧ K kc 7 = c7 + l.length ∧ ∀ c k, ¬ (c = 41 ∧ k = 6) → ¬ (c = kc ∧ (k = 5 ∨ k = 7)) → ¬ (118 + 3 * n ≤ c ∧ c < 118 + 3 * (n + l.length)) → K c k = M c k := by
  intro l
  induction l with
  | nil =>
    intro N x4 n ix c7 M hN h0 h8 hm hl hS hn n0 n1 hx x0 x1 h7 c0 c1 hl0 hw hC
    refine ⟨M, ?_, fun i ab h => by simp at h, by rw [hn]; simp, by rw [hx]; show ix = ix + 0; omega, by rw [h7]; simp, fun c k _ _ _ => rfl⟩
    rw [lp_1 (by omega)]
    simp only [List.length_nil] at hm h8
    simp only [sB30, f_X1_findSides_30B]
    rw [ho_w (x := x4 + 1) (by omega) (by omega), if_pos (by omega)]
  | cons ab l ih =>
    intro N x4 n ix c7 M hN h0 h8 hm hl hS hn n0 n1 hx x0 x1 h7 c0 c1 hl0 hw hC
    simp only [List.length_cons] at hN h8 hm n1 x1 c1
    have hab := hS ab List.mem_cons_self
    have hab' := hab
    obtain ⟨s1, s2, s3, s4, s5⟩ := hab
    have hl1 := hl 0 ab rfl
    rw [show x4 + ((0 : Nat) : Int) = x4 by omega] at hl1
    have ad := s_addSide (M := M) (kc := kc) (n := n) tk hkc hn (by omega) (by omega)
    rw [h7] at ad
    generalize hM1 : tp_up (tp_up M 41 6 (n + 1)) kc 7 (c7 + 1) = M1 at ad
    have f1 : ∀ c k, ¬ (c = 41 ∧ k = 6) → ¬ (c = kc ∧ k = 7) → M1 c k = M c k := fun c k g1 g2 => by rw [← hM1, up_ne g2, up_ne g1]
    have cne : (41 : Int) ≠ kc ∧ (310 : Int) ≠ kc ∧ (280 : Int) ≠ kc ∧ (281 : Int) ≠ kc ∧ (282 : Int) ≠ kc ∧ kc + 2 ≠ kc ∧ kc + 2 ≠ 41 ∧ kc ≠ 41 := by omega
    have cx1 : CxC M1 r D e s := ⟨fun k k0 k1 => by rw [f1 _ _ (fun h => absurd h.1 (by decide)) (fun h => cne.2.2.1 h.1)]; exact hC.1 k k0 k1, fun k k0 k1 => ⟨by rw [f1 _ _ (fun h => absurd h.1 (by decide)) (fun h => cne.2.2.2.1 h.1)]; exact (hC.2 k k0 k1).1, by rw [f1 _ _ (fun h => absurd h.1 (by decide)) (fun h => cne.2.2.2.2.1 h.1)]; exact (hC.2 k k0 k1).2⟩⟩
    have pw : ∀ i, 0 ≤ i → i < 9 → M1 (kc + 2) i = w i := fun i i0 i1 => by rw [f1 _ _ (fun h => cne.2.2.2.2.2.2.1 h.1) (fun h => cne.2.2.2.2.2.1 h.1)]; exact hw i i0 i1
    have l1 : M1 kc 0 = r := by rw [f1 _ _ (fun h => cne.2.2.2.2.2.2.2 h.1) (fun h => absurd h.2 (by decide))]; exact hl0
    have q1 : M1 310 x4 = ab.1 := by rw [f1 _ _ (fun h => absurd h.1 (by decide)) (fun h => cne.2.1 h.1)]; exact hl1.1
    have q2 : M1 310 (x4 + 1) = ab.2 := by rw [f1 _ _ (fun h => absurd h.1 (by decide)) (fun h => cne.2.1 h.1)]; exact hl1.2
    obtain ⟨M2, m1, m2, m3, m4⟩ := s_measureSide (M := M1) (r := r) (kc := kc) (n := n) (a := ab.1) (b := ab.2) (w := w) hb hc cx1 hr tk hkc (by omega) l1 s1 ⟨pw _ s1.1 (by omega), pw _ (by omega) (by omega)⟩ (by omega) s2 s5
    have m20 : M2 (118 + 3 * n) 0 = ab.1 := m2 0 (by decide) (by decide)
    have m21 : M2 (118 + 3 * n) 1 = ab.2 := m2 1 (by decide) (by decide)
    have m22 : M2 (118 + 3 * n) 2 = w ab.1 - w ab.2 := m2 2 (by decide) (by decide)
    have sne : kc + 2 ≠ 118 + 3 * n ∧ kc + 2 ≠ 118 + 3 * n + 1 ∧ kc ≠ 118 + 3 * n ∧ kc ≠ 118 + 3 * n + 1 := by omega
    have pw2 : ∀ i, 0 ≤ i → i < 9 → M2 (kc + 2) i = w i := fun i i0 i1 => by rw [m4 _ _ sne.1 sne.2.1]; exact pw i i0 i1
    have pb := s_pointsBelow (M := M2) (kc := kc) (n := n) (a := ab.1) (b := ab.2) (bt := w t) (w := w) tk (by omega) s1 m20 m21 m22 (pw2 _ s1.1 (by omega)) s3 s2 s4
    have epb : pbS (w ab.1) (w ab.1 - w ab.2) (ab.2 - ab.1) (w t) ab.1 (max 1 ab.1) (ab.2 - max 1 ab.1).toNat = pbA w (w t) ab := rfl
    rw [epb] at pb
    have pbb := pbA_b hab'
    have e5 : M2 kc 5 = ix := by rw [m4 _ _ sne.2.2.1 sne.2.2.2, f1 _ _ (fun h => cne.2.2.2.2.2.2.2 h.1) (fun h => absurd h.2 (by decide))]; exact hx
    have et : M2 (kc + 2) t = w t := pw2 t ht.1 (by omega)
    generalize hpb1 : pbA w (w t) ab = pb1 at pb pbb
    have eid : idL w (w t) (ab :: l) = pbA w (w t) ab + idL w (w t) l := rfl
    generalize hM3 : tp_up M2 kc 5 (ix + pb1) = M3
    have f3 : ∀ c k, ¬ (c = 41 ∧ k = 6) → ¬ (c = kc ∧ (k = 5 ∨ k = 7)) → c ≠ 118 + 3 * n → c ≠ 118 + 3 * n + 1 → M3 c k = M c k := fun c k g1 g2 g3 g4 => by
      rw [← hM3, up_ne (fun h => g2 ⟨h.1, Or.inl h.2⟩), m4 c k g3 g4, f1 c k g1 (fun h => g2 ⟨h.1, Or.inr h.2⟩)]
    obtain ⟨K, k1, k2, k3, k4, k5, k6⟩ := ih (N - 1) (x4 + 1) (n + 1) (ix + pb1) (c7 + 1) M3 (by omega) (by omega) (by omega) (by omega) (fun i ab' h => by
        have := hl (i + 1) ab' h
        rw [f3 _ _ (fun h => absurd h.1 (by decide)) (fun h => cne.2.1 h.1) (by omega) (by omega), f3 _ _ (fun h => absurd h.1 (by decide)) (fun h => cne.2.1 h.1) (by omega) (by omega), show x4 + 1 + (i : Int) = x4 + ((i + 1 : Nat) : Int) by omega]
        exact this) (fun ab' h => hS ab' (List.mem_cons_of_mem _ h)) (by rw [← hM3, up_ne (fun h => cne.1 h.1), m4 _ _ (by omega) (by omega), ← hM1, up_ne (fun h => cne.1 h.1), up_eq ⟨rfl, rfl⟩]) (by omega) (by omega) (by rw [← hM3, up_eq ⟨rfl, rfl⟩]) (by omega) (by omega) (by rw [← hM3, up_ne (fun h => absurd h.2 (by decide)), m4 _ _ sne.2.2.1 sne.2.2.2, ← hM1, up_eq ⟨rfl, rfl⟩]) (by omega) (by omega) (by rw [f3 _ _ (fun h => cne.2.2.2.2.2.2.2 h.1) (fun h => by have := h.2; omega) sne.2.2.1 sne.2.2.2]; exact hl0) (fun i i0 i1 => by rw [f3 _ _ (fun h => cne.2.2.2.2.2.2.1 h.1) (fun h => cne.2.2.2.2.2.1 h.1) sne.1 sne.2.1]; exact hw i i0 i1) ⟨fun k k0 k1 => by rw [f3 _ _ (fun h => absurd h.1 (by decide)) (fun h => cne.2.2.1 h.1) (by omega) (by omega)]; exact hC.1 k k0 k1, fun k k0 k1 => ⟨by rw [f3 _ _ (fun h => absurd h.1 (by decide)) (fun h => cne.2.2.2.1 h.1) (by omega) (by omega)]; exact (hC.2 k k0 k1).1, by rw [f3 _ _ (fun h => absurd h.1 (by decide)) (fun h => cne.2.2.2.2.1 h.1) (by omega) (by omega)]; exact (hC.2 k k0 k1).2⟩⟩
    refine ⟨K, ?_, fun i ab' h => ?_, by rw [k3]; simp only [List.length_cons]; omega, by rw [k4, eid, hpb1]; omega, by rw [k5]; simp only [List.length_cons]; omega, fun c k g1 g2 g3 => ?_⟩
    · have b1 : -2147483648 ≤ x4 + 1 ∧ x4 + 1 ≤ 2147483647 := by omega
      have g0 : ¬ many ≤ x4 + 1 := by omega
      have g1 : ¬ 9 ≤ x4 + 1 := by omega
      have g2 : ¬ 118 + 3 * n = -1 := by omega
      have g3 : 0 ≤ x4 ∧ x4 < 9 := by omega
      have g4 : 0 ≤ x4 + 1 ∧ x4 + 1 < 9 := by omega
      have g5 : 0 ≤ t ∧ t < 9 := by omega
      have b2 : -2147483648 ≤ ix + pb1 ∧ ix + pb1 ≤ 2147483647 := by omega
      rw [lp_1 (by omega)]
      generalize tp_lp (sB30 kc t many) (N - 1) = Rc at k1 ⊢
      simp only [sB30, f_X1_findSides_30B, tp_mp, tp_lt]
      rw [ho_w b1.1 b1.2, if_neg g0, if_neg g1, ad, Option.bind_some]
      dsimp only
      rw [if_neg g2, if_pos g3, if_pos g4, q1, q2, m1, Option.bind_some, if_pos g5, et, pb, Option.bind_some, e5, ho_w b2.1 b2.2, hM3]
      exact k1
    · cases i with
      | zero =>
        have e0 : ab = ab' := by simpa using h
        subst e0
        rw [show n + ((0 : Nat) : Int) = n by omega]
        refine ⟨fun f f0 f1 => ?_, fun k k0 k1 => ?_⟩
        · rw [k6 _ _ (by omega) (by omega) (by omega), ← hM3, up_ne (by omega)]; exact m2 f f0 f1
        · rw [k6 _ _ (by omega) (by omega) (by omega), ← hM3, up_ne (by omega)]; exact m3 k k0 k1
      | succ i =>
        have := k2 i ab' h
        rw [show n + 1 + (i : Int) = n + ((i + 1 : Nat) : Int) by omega] at this
        exact this
    · simp only [List.length_cons] at g3
      rw [k6 c k g1 g2 (by omega), f3 c k g1 g2 (by omega) (by omega)]
theorem crn_cong {r r' : Int → Int} {t f : Int} {m : Nat} {q : Nat → Int} (h : crn r t f m q) (hf : 0 ≤ f) (ht : t ≤ 8) (e : ∀ k, 0 ≤ k → k ≤ 8 → r k = r' k) : crn r' t f m q := by
  have mo := crn_mono h
  refine ⟨h.1, h.2.1, fun i hi => ?_⟩
  obtain ⟨a1, a2, a3, a4⟩ := h.2.2 i hi
  have m1 := mo i (by omega)
  refine ⟨a1, a2, by rw [← e _ (by omega) (by omega)]; exact a3, fun j j0 j1 j2 => ?_⟩
  rw [← e j (by omega) (by omega)] at j2 ⊢
  rw [← e (q i) (by omega) (by omega), ← e (q (i + 1)) (by omega) (by omega)]
  exact a4 j j0 j1 j2
theorem sdL_crn {w : Int → Int} {t : Int} (ht : t ≤ 8) (hw : 0 ≤ w t) : ∀ (m fuel : Nat) (f : Int) (q : Nat → Int), m ≤ fuel → 0 ≤ f → crn w t f m q → (sdL w t fuel f).length = m ∧ ∀ i, i < m → (sdL w t fuel f)[i]? = some (q i, q (i + 1)) := by
  intro m
  induction m with
  | zero =>
    intro fuel f q hm hf h
    have : ¬ f < t := by have := h.1; have := h.2.1; omega
    cases fuel with
    | zero => exact ⟨rfl, fun i hi => by omega⟩
    | succ fuel => unfold sdL; rw [if_neg this]; exact ⟨rfl, fun i hi => by omega⟩
  | succ m ih =>
    intro fuel f q hm hf h
    cases fuel with
    | zero => omega
    | succ fuel =>
      have mo := crn_mono h
      have n0 := h.2.2 0 (by omega)
      have m1 := mo 1 (by omega)
      rw [h.1] at n0
      have lt : f < t := by have := n0.1; have := n0.2.1; omega
      have e1 : nxF w f t = q 1 := nx_un (nxF_nx hf lt hw) n0
      have tail := ih fuel (q 1) (fun i => q (i + 1)) (by omega) (by omega) ⟨rfl, h.2.1, fun i hi => h.2.2 (i + 1) (by omega)⟩
      unfold sdL
      rw [if_pos lt, e1]
      refine ⟨by rw [List.length_cons, tail.1], fun i hi => ?_⟩
      cases i with
      | zero => rw [← h.1]; rfl
      | succ i => exact tail.2 i (by omega)
theorem t310 : tp_tg 310 = 21 ∧ tp_al 310 = 9 := by decide +kernel
/-- the sides of a knot -/
def sidesOf (w : Int → Int) (z : Int) : List (Int × Int) := if lsS w 9 < 0 then [] else sdL w (lsS w 9) 9 z
set_option maxHeartbeats 4000000 in
set_option maxRecDepth 100000 in
theorem s_findSides {M : tp_M} {r i n z : Int} {D e s w : Int → Int} (hb : cxb r D e s) (hc : copr r e s) (hr : 1 ≤ r ∧ r ≤ 6) (hi : 0 ≤ i ∧ i < 24) (hC : CxC M r D e s) (hl : M (46 + 3 * i) 0 = r) (hz : M (46 + 3 * i) 4 = z) (hz2 : 0 ≤ z ∧ (0 ≤ lsS w 9 → z ≤ lsS w 9)) (h5 : M (46 + 3 * i) 5 = 0) (h7 : M (46 + 3 * i) 7 = 0) (hw : ∀ k, 0 ≤ k → k < 9 → M (46 + 3 * i + 2) k = w k) (hw2 : ∀ k, 0 ≤ k → k < 9 → -1 ≤ w k ∧ w k ≤ 20000) (hn : M 41 6 = n) (hn2 : 0 ≤ n ∧ n + (sidesOf w z).length ≤ 48) (hS : ∀ ab, ab ∈ sidesOf w z → SOk w (lft r e s) (w (lsS w 9)) ab) (hlen : (sidesOf w z).length ≤ 8) : ∃ K, f_X1_findSides (46 + 3 * i) M = some K ∧ (∀ (j : Nat) ab, (sidesOf w z)[j]? = some ab → SdC K w (lft r e s) r e s (n + j) ab) ∧ K 41 6 = n + (sidesOf w z).length ∧ K (46 + 3 * i) 5 = idL w (w (lsS w 9)) (sidesOf w z) ∧ K (46 + 3 * i) 7 = (sidesOf w z).length ∧ ∀ c k, c ≠ 310 → ¬ (c = 41 ∧ k = 6) → ¬ (c = 46 + 3 * i ∧ (k = 5 ∨ k = 7)) → ¬ (118 + 3 * n ≤ c ∧ c < 118 + 3 * (n + (sidesOf w z).length)) → K c k = M c k := by
  have tk := tg_kn hi
  generalize hkc : 46 + 3 * i = kc at *
  have hkc2 : 46 ≤ kc ∧ kc ≤ 115 := by omega
  clear hkc
  have lp := s_leastPoint (M := M) (kc := kc) (w := w) tk.1 hw
  have ls := lsS_spec w 9
  by_cases c : lsS w 9 < 0
  · have e0 : sidesOf w z = [] := by unfold sidesOf; rw [if_pos c]
    rw [e0]
    refine ⟨M, ?_, fun j ab h => by simp at h, by rw [hn]; simp, by rw [h5]; rfl, by rw [h7]; rfl, fun c k _ _ _ _ => rfl⟩
    unfold f_X1_findSides
    rw [if_pos (show tp_tg kc = 2 from tk.1), lp, Option.bind_some, if_neg (by omega)]
  · have e0 : sidesOf w z = sdL w (lsS w 9) 9 z := by unfold sidesOf; rw [if_neg c]
    have ls2 : (0 ≤ lsS w 9 ∧ lsS w 9 < 9) ∧ 0 ≤ w (lsS w 9) := by
      rcases ls with ⟨h, _⟩ | ⟨h1, h2, _⟩
      · omega
      · exact ⟨by omega, h2⟩
    generalize lsS w 9 = t at *
    have zt := hz2.2 (by omega)
    obtain ⟨m, q, M1, c1, c2, c3, c4⟩ := s_findCorners (M := M) (c := kc + 2) (d := 310) (f := z) (t := t) tk.2.2.1 t310.1 (by rw [tk.2.2.2]; decide) (by rw [tk.2.2.2]; omega) (by rw [t310.2]; omega) (by omega) (by omega) (by rw [hw t (by omega) (by omega)]; exact ls2.2) (fun k k0 k1 => by rw [tk.2.2.2] at k1; rw [hw k k0 k1]; have := hw2 k k0 k1; omega)
    have c1' := crn_cong c1 hz2.1 (by omega) (r' := w) (fun k k0 k1 => hw k k0 (by omega))
    have mo := crn_mono c1'
    have m8 : m ≤ 8 := by have := mo m (Nat.le_refl _); omega
    obtain ⟨s1, s2⟩ := sdL_crn (w := w) (t := t) (by omega) ls2.2 m 9 z q (by omega) hz2.1 c1'
    rw [← e0] at s1 s2
    generalize sidesOf w z = l at *
    have f1 : ∀ c k, c ≠ 310 → M1 c k = M c k := fun c k h => c3 c k (fun hh => h hh.1)
    have kne : kc ≠ 310 ∧ kc + 2 ≠ 310 := by omega
    obtain ⟨K, k1, k2, k3, k4, k5, k6⟩ := s_fs30 (r := r) (kc := kc) (t := t) (many := 1 + (m : Int)) (w := w) hb hc hr tk.1 hkc2 (by omega) l tp_N 0 n 0 0 M1 (by unfold tp_N; omega) (by decide) (by omega) (by omega) (fun j ab h => by
      have hj : j < m := by
        have := List.getElem?_eq_some_iff.mp h
        obtain ⟨h1, _⟩ := this
        omega
      have e1 := s2 j hj
      rw [h] at e1
      have e2 : ab = (q j, q (j + 1)) := by injection e1
      rw [e2, show (0 : Int) + (j : Int) = j by omega, show (j : Int) + 1 = ((j + 1 : Nat) : Int) by omega]
      exact ⟨c4 j (by omega), c4 (j + 1) (by omega)⟩) hS (by rw [f1 _ _ (by decide)]; exact hn) hn2.1 hn2.2 (by rw [f1 _ _ kne.1]; exact h5) (by decide) (by omega) (by rw [f1 _ _ kne.1]; exact h7) (by decide) (by omega) (by rw [f1 _ _ kne.1]; exact hl) (fun k k0 k1 => by rw [f1 _ _ kne.2]; exact hw k k0 k1) ⟨fun k k0 k1 => by rw [f1 _ _ (by decide)]; exact hC.1 k k0 k1, fun k k0 k1 => ⟨by rw [f1 _ _ (by decide)]; exact (hC.2 k k0 k1).1, by rw [f1 _ _ (by decide)]; exact (hC.2 k k0 k1).2⟩⟩
    refine ⟨K, ?_, k2, k3, by rw [k4, Int.zero_add], by rw [k5, Int.zero_add], fun c k g0 g1 g2 g3 => by rw [k6 c k g1 g2 g3, f1 c k g0]⟩
    unfold f_X1_findSides
    rw [if_pos (show tp_tg kc = 2 from tk.1), lp, Option.bind_some, if_pos (by omega), hz, c2, Option.bind_some]
    exact k1
/-- the residual polynomial of a side -/
def rsR (p : Int) (K : Nat) (r : Int) (D e s rt : Int → Int) (mo : Int → Int → Int) (Y w : Int → Int) (lf : Int) (ab : Int × Int) : Int → Int := fun k => if 0 ≤ k ∧ k ≤ sgG w ab.1 ab.2 ∧ w (ab.1 + k * sgE w ab.1 ab.2) = w ab.1 - k * sgH w ab.1 ab.2 then rsv p K (seg Y (D r) (ab.1 + k * sgE w ab.1 ab.2) (Hd p K r D e s Y (ab.1 + k * sgE w ab.1 ab.2)).2) * rdN p e rt mo (r - 1).toNat (fun t => xpt D e (Hd p K r D e s Y (ab.1 + k * sgE w ab.1 ab.2)).2 t + k * mnl e s (r - 1).toNat (sgS w lf ab.1 ab.2) t) 1 % p else 0
def rB28 (x1 x2 x3 : Int) : (Int × tp_M → Option tp_M) → Int × tp_M → Option tp_M := fun rec_ u => f_X1_writeResidual_28B x1 x2 x3 (fun x4' M0' => rec_ (x4', M0')) u.1 u.2
/-- what is known where a point is -/
def hdW (p : Int) (K : Nat) (r m : Int) (D e s Y w : Int → Int) : Prop := ∀ i, 0 ≤ i → i ≤ 8 → 0 ≤ w i → i ≤ m ∧ 0 ≤ (Hd p K r D e s Y i).1
set_option maxHeartbeats 4000000 in
set_option maxRecDepth 100000 in
theorem s_wr28 {p K P r m kc n bt : Int} {D e s rt Y w : Int → Int} {mo : Int → Int → Int} {ab : Int × Int} (h : pKP p K P) (hb : cxb r D e s) (hc : copr r e s) (hr : 1 ≤ r ∧ r ≤ 6) (ho : rok p r e rt mo) (tk : kn_t kc) (hkc : 46 ≤ kc ∧ kc ≤ 115) (hn : 0 ≤ n ∧ n < 48) (hS : SOk w (lft r e s) bt ab) (hH : hdW p K.toNat r m D e s Y w) : ∀ (t N : Nat) (k : Int) (M : tp_M), t < N → 0 ≤ k → k + t = sgG w ab.1 ab.2 + 1 → CxC M r D e s → M kc 0 = r → M 1 0 = p → (∀ k, 1 ≤ k → k < r → M 283 k = rt k ∧ ∀ j, 0 ≤ j → j < 7 → M (285 + k) j = mo k j) → (∀ i, 0 ≤ i → i < 9 → M (kc + 2) i = w i) → hdOk M p K.toNat r m D e s Y 0 → SdC M w (lft r e s) r e s n ab → (∀ j, 0 ≤ j → j < 9 → M (118 + 3 * n + 2) j = if j < k then rsR p K.toNat r D e s rt mo Y w (lft r e s) ab j else 0) → ∃ N', tp_lp (rB28 kc (118 + 3 * n) (sgH w ab.1 ab.2)) N (k, M) = some N' ∧ (∀ j, 0 ≤ j → j < 9 → N' (118 + 3 * n + 2) j = rsR p K.toNat r D e s rt mo Y w (lft r e s) ab j) ∧ ∀ c j, c ≠ 311 → c ≠ 118 + 3 * n + 2 → N' c j = M c j := by
  obtain ⟨s1, s2, s3, s4, s5⟩ := hS
  have sg := sg_spec (w := w) s1 (by omega)
  have ts := tg_side hn
  have hp2 := pm_2 h.1
  have lsz := h.2.2.1
  intro t
  induction t with
  | zero =>
    intro N k M hN k0 ht hC hl hp hM hw hq hD hR
    have d4 : M (118 + 3 * n) 4 = sgG w ab.1 ab.2 := hD.1 4 (by decide) (by decide)
    refine ⟨M, ?_, fun j j0 j1 => ?_, fun c j _ _ => rfl⟩
    · rw [lp_1 (by omega)]
      simp only [rB28, f_X1_writeResidual_28B, d4]
      rw [if_pos (by omega)]
    · rw [hR j j0 j1]
      by_cases c : j < k
      · rw [if_pos c]
      · rw [if_neg c]; unfold rsR; rw [if_neg (fun hh => by omega)]
  | succ t ih =>
    intro N k M hN k0 ht hC hl hp hM hw hq hD hR
    have d0 : M (118 + 3 * n) 0 = ab.1 := hD.1 0 (by decide) (by decide)
    have d3 : M (118 + 3 * n) 3 = sgE w ab.1 ab.2 := hD.1 3 (by decide) (by decide)
    have d4 : M (118 + 3 * n) 4 = sgG w ab.1 ab.2 := hD.1 4 (by decide) (by decide)
    have k8 : k ≤ 8 := by omega
    have kE : k * sgE w ab.1 ab.2 ≤ sgG w ab.1 ab.2 * sgE w ab.1 ab.2 := Int.mul_le_mul_of_nonneg_right (by omega) (by omega)
    have kE0 : 0 ≤ k * sgE w ab.1 ab.2 := Int.mul_nonneg k0 (by omega)
    have kH : k * sgH w ab.1 ab.2 ≤ sgG w ab.1 ab.2 * sgH w ab.1 ab.2 := Int.mul_le_mul_of_nonneg_right (by omega) (by omega)
    have kH0 : 0 ≤ k * sgH w ab.1 ab.2 := Int.mul_nonneg k0 (by omega)
    have er : rsR p K.toNat r D e s rt mo Y w (lft r e s) ab k = if w (ab.1 + k * sgE w ab.1 ab.2) = w ab.1 - k * sgH w ab.1 ab.2 then rsv p K.toNat (seg Y (D r) (ab.1 + k * sgE w ab.1 ab.2) (Hd p K.toNat r D e s Y (ab.1 + k * sgE w ab.1 ab.2)).2) * rdN p e rt mo (r - 1).toNat (fun t => xpt D e (Hd p K.toNat r D e s Y (ab.1 + k * sgE w ab.1 ab.2)).2 t + k * mnl e s (r - 1).toNat (sgS w (lft r e s) ab.1 ab.2) t) 1 % p else 0 := by
      unfold rsR
      by_cases c : w (ab.1 + k * sgE w ab.1 ab.2) = w ab.1 - k * sgH w ab.1 ab.2
      · rw [if_pos c, if_pos ⟨k0, by omega, c⟩]
      · rw [if_neg c, if_neg (fun hh => c hh.2.2)]
    have i9 : 0 ≤ ab.1 + k * sgE w ab.1 ab.2 ∧ ab.1 + k * sgE w ab.1 ab.2 ≤ 8 := by omega
    have wl : 0 ≤ w ab.1 - k * sgH w ab.1 ab.2 := by omega
    have kHb : k * sgH w ab.1 ab.2 ≤ 20000 := by omega
    have gG8 : sgG w ab.1 ab.2 ≤ 8 := by omega
    generalize hI : ab.1 + k * sgE w ab.1 ab.2 = I at *
    generalize hkH : k * sgH w ab.1 ab.2 = kh at *
    generalize hkE : k * sgE w ab.1 ab.2 = ke at *
    have wI : M (kc + 2) I = w I := hw I i9.1 (by omega)
    have wA : M (kc + 2) ab.1 = w ab.1 := hw _ s1.1 (by omega)
    have g0 : ¬ sgG w ab.1 ab.2 < k := by omega
    have g1 : ¬ 9 ≤ k := by omega
    have g2 : 0 ≤ I ∧ I < 9 := by omega
    have g3 : 0 ≤ ab.1 ∧ ab.1 < 9 := by omega
    have g4 : 0 ≤ k ∧ k < 9 := by omega
    have b1 : -2147483648 ≤ ke ∧ ke ≤ 2147483647 := by omega
    have b2 : -2147483648 ≤ I ∧ I ≤ 2147483647 := by omega
    have b3 : -2147483648 ≤ kh ∧ kh ≤ 2147483647 := by omega
    have b4 : -2147483648 ≤ w ab.1 - kh ∧ w ab.1 - kh ≤ 2147483647 := by omega
    have b5 : -2147483648 ≤ k + 1 ∧ k + 1 ≤ 2147483647 := by omega
    have ip1 : f_X10_isPower I M = some 1 := by unfold f_X10_isPower; rw [if_neg (by omega), if_neg (by omega)]
    have ip2 : f_X10_isPower ab.1 M = some 1 := by unfold f_X10_isPower; rw [if_neg (by omega), if_neg (by omega)]
    have cne : kc + 2 ≠ 311 ∧ kc ≠ 311 ∧ kc + 2 ≠ 118 + 3 * n + 2 ∧ kc ≠ 118 + 3 * n + 2 ∧ (118 + 3 * n + 1 ≠ 311) ∧ (118 + 3 * n ≠ 311) := by omega
    have cn2 : ∀ j, 1 ≤ j → j < r → 285 + j ≠ 311 ∧ 285 + j ≠ 118 + 3 * n + 2 := fun j _ _ => by omega
    have cn3 : (280 : Int) ≠ 118 + 3 * n + 2 ∧ (281 : Int) ≠ 118 + 3 * n + 2 ∧ (282 : Int) ≠ 118 + 3 * n + 2 ∧ (283 : Int) ≠ 118 + 3 * n + 2 ∧ (308 : Int) ≠ 118 + 3 * n + 2 ∧ (309 : Int) ≠ 118 + 3 * n + 2 ∧ (1 : Int) ≠ 118 + 3 * n + 2 ∧ 118 + 3 * n ≠ 118 + 3 * n + 2 ∧ 118 + 3 * n + 1 ≠ 118 + 3 * n + 2 := by omega
    -- going on from a memory that differs only in the scratch row and the entry
    have go : ∀ (M2 : tp_M), (∀ c j, c ≠ 311 → ¬ (c = 118 + 3 * n + 2 ∧ j = k) → M2 c j = M c j) → M2 (118 + 3 * n + 2) k = rsR p K.toNat r D e s rt mo Y w (lft r e s) ab k → ∃ N', tp_lp (rB28 kc (118 + 3 * n) (sgH w ab.1 ab.2)) (N - 1) (k + 1, M2) = some N' ∧ (∀ j, 0 ≤ j → j < 9 → N' (118 + 3 * n + 2) j = rsR p K.toNat r D e s rt mo Y w (lft r e s) ab j) ∧ ∀ c j, c ≠ 311 → c ≠ 118 + 3 * n + 2 → N' c j = M c j := by
      intro M2 f2 v2
      obtain ⟨N', n1, n2, n3⟩ := ih (N - 1) (k + 1) M2 (by omega) (by omega) (by omega) ⟨fun j j0 j1 => by rw [f2 _ _ (by decide) (fun hh => cn3.1 hh.1)]; exact hC.1 j j0 j1, fun j j0 j1 => ⟨by rw [f2 _ _ (by decide) (fun hh => cn3.2.1 hh.1)]; exact (hC.2 j j0 j1).1, by rw [f2 _ _ (by decide) (fun hh => cn3.2.2.1 hh.1)]; exact (hC.2 j j0 j1).2⟩⟩ (by rw [f2 _ _ cne.2.1 (fun hh => cne.2.2.2.1 hh.1)]; exact hl) (by rw [f2 _ _ (by decide) (fun hh => cn3.2.2.2.2.2.2.1 hh.1)]; exact hp) (fun j j0 j1 => ⟨by rw [f2 _ _ (by decide) (fun hh => cn3.2.2.2.1 hh.1)]; exact (hM j j0 j1).1, fun i i0 i1 => by rw [f2 _ _ (cn2 j j0 j1).1 (fun hh => (cn2 j j0 j1).2 hh.1)]; exact (hM j j0 j1).2 i i0 i1⟩) (fun i i0 i1 => by rw [f2 _ _ cne.1 (fun hh => cne.2.2.1 hh.1)]; exact hw i i0 i1) (fun i i0 i1 i2 => by rw [f2 _ _ (by decide) (fun hh => cn3.2.2.2.2.1 hh.1), f2 _ _ (by decide) (fun hh => cn3.2.2.2.2.2.1 hh.1)]; exact hq i i0 i1 i2) ⟨fun f f0 f1 => by rw [f2 _ _ cne.2.2.2.2.2 (fun hh => cn3.2.2.2.2.2.2.2.1 hh.1)]; exact hD.1 f f0 f1, fun j j0 j1 => by rw [f2 _ _ cne.2.2.2.2.1 (fun hh => cn3.2.2.2.2.2.2.2.2 hh.1)]; exact hD.2 j j0 j1⟩ (fun j j0 j1 => by
        by_cases cj : j = k
        · rw [if_pos (by omega), cj]; exact v2
        · rw [f2 _ _ (by omega) (fun hh => cj hh.2), hR j j0 j1]
          by_cases c : j < k
          · rw [if_pos c, if_pos (by omega)]
          · rw [if_neg c, if_neg (by omega)])
      exact ⟨N', n1, n2, fun c j g1 g2 => by rw [n3 c j g1 g2, f2 c j g1 (fun hh => g2 hh.1)]⟩
    rw [lp_1 (by omega)]
    by_cases c : w I = w ab.1 - kh
    · rw [if_pos c] at er
      obtain ⟨im, hHI⟩ := hH I i9.1 i9.2 (by omega)
      obtain ⟨q1, q2⟩ := hq I i9.1 im hHI
      have hs := hdS_b (val := kval p K.toNat (D r) (fun j => vpl D e s (D r) j (r - 1).toNat) (seg Y (D r) I)) (Y := seg Y (D r) I) (fun j => (kval_b h hb hr j).1) (D r).toNat
      have hs1 := hs.1 hHI
      have e1 : (hdS (kval p K.toNat (D r) (fun j => vpl D e s (D r) j (r - 1).toNat) (seg Y (D r) I)) (seg Y (D r) I) (D r).toNat).2 = (Hd p K.toNat r D e s Y I).2 := rfl
      rw [e1] at hs1
      have D8 := hb.1
      have rb := rsv_b hp2.1 K.toNat (seg Y (D r) I (Hd p K.toNat r D e s Y I).2)
      have hmn : ∀ t, 1 ≤ t → t < r → M (118 + 3 * n + 1) t = mnl e s (r - 1).toNat (sgS w (lft r e s) ab.1 ab.2) t := fun t t0 t1 => hD.2 t (by omega) (by omega)
      obtain ⟨M1, a1, a2⟩ := s_residueOnSide (M := M) (p := p) (K := K) (P := P) (kc := kc) (sc := 118 + 3 * n) (i := I) (k := k) (r := r) h hb hC hr ho tk ts.1 ⟨cne.2.1, cne.2.2.2.2.1⟩ hl hp hM i9 ⟨k0, k8⟩ (by rw [q1]; omega) (by rw [q2]; exact rb) (fun t t0 t1 => by
        rw [hmn t t0 t1]
        have := mnl_b hb hc (r - 1).toNat (sgS w (lft r e s) ab.1 ab.2) t (by omega) t0 (by omega)
        have := (ho t t0 t1).1
        omega)
      rw [q1, q2, rdN_cong (y := fun t => xpt D e (Hd p K.toNat r D e s Y I).2 t + k * mnl e s (r - 1).toNat (sgS w (lft r e s) ab.1 ab.2) t) _ _ (fun t t0 t1 => by rw [hmn t t0 (by omega)]), ← er] at a1
      obtain ⟨N', n1, n2, n3⟩ := go (tp_up M1 (118 + 3 * n + 2) k (rsR p K.toNat r D e s rt mo Y w (lft r e s) ab k)) (fun c j g1 g2 => by rw [up_ne g2, a2 c j g1]) (up_eq ⟨rfl, rfl⟩)
      refine ⟨N', ?_, n2, n3⟩
      generalize tp_lp (rB28 kc (118 + 3 * n) (sgH w ab.1 ab.2)) (N - 1) = Rc at n1 ⊢
      simp only [rB28, f_X1_writeResidual_28B, f_X1_writeResidual_123, tp_mp, tp_lt, d0, d3, d4]
      rw [if_neg g0, if_neg g1, hkE, ho_w b1.1 b1.2, hI, ho_w b2.1 b2.2, ip1, Option.bind_some, if_neg (by decide), ip2, Option.bind_some, if_pos (by decide), if_pos g2, if_pos g3, hkH, ho_w b3.1 b3.2, wI, wA, ho_w b4.1 b4.2, if_pos c, a1, Option.bind_some, if_pos g4, ho_w b5.1 b5.2]
      exact n1
    · rw [if_neg c] at er
      obtain ⟨N', n1, n2, n3⟩ := go M (fun c j _ _ => rfl) (by rw [hR k k0 (by omega), if_neg (by omega), er])
      refine ⟨N', ?_, n2, n3⟩
      generalize tp_lp (rB28 kc (118 + 3 * n) (sgH w ab.1 ab.2)) (N - 1) = Rc at n1 ⊢
      simp only [rB28, f_X1_writeResidual_28B, f_X1_writeResidual_123, tp_mp, tp_lt, d0, d3, d4]
      rw [if_neg g0, if_neg g1, hkE, ho_w b1.1 b1.2, hI, ho_w b2.1 b2.2, ip1, Option.bind_some, if_neg (by decide), ip2, Option.bind_some, if_pos (by decide), if_pos g2, if_pos g3, hkH, ho_w b3.1 b3.2, wI, wA, ho_w b4.1 b4.2, if_neg c, ho_w b5.1 b5.2]
      exact n1
