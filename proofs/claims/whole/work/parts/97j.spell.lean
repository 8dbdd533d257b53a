/-- the texts of both so far -/
def tx_T (C R : tp_M) (n : Int) : Prop := C 41 4 = n ∧ R 483 63 = n ∧ 0 ≤ n ∧ ∀ k, 0 ≤ k → k < n → R 531 k = C 42 k
def tx_fC (C C' : tp_M) : Prop := ∀ c k, ¬ (c = 41 ∧ k = 4) → c ≠ 42 → C' c k = C c k
def tx_fR (R R' : tp_M) : Prop := ∀ c k, ¬ (c = 483 ∧ k = 63) → c ≠ 531 → R' c k = R c k
theorem tx_ct {A B C : tp_M} (h : tx_fC A B) (h' : tx_fC B C) : tx_fC A C := fun c k g1 g2 => by rw [h' c k g1 g2, h c k g1 g2]
theorem tx_rt {A B C : tp_M} (h : tx_fR A B) (h' : tx_fR B C) : tx_fR A C := fun c k g1 g2 => by rw [h' c k g1 g2, h c k g1 g2]
theorem s_w1 {C R : tp_M} {n a : Int} (h : tx_T C R n) (hn : n < 80) (ha : 0 ≤ a ∧ a ≤ 127) : ∃ C' R', f_X9_write a C = some C' ∧ f_X11_spells a R = some R' ∧ tx_T C' R' (n + 1) ∧ tx_fC C C' ∧ tx_fR R R' := by
  obtain ⟨h1, h2, h3, h4⟩ := h
  refine ⟨tp_up (tp_up C 42 n a) 41 4 (n + 1), tp_up (tp_up R 531 n a) 483 63 (n + 1), ?_, ?_, ⟨up_eq ⟨rfl, rfl⟩, up_eq ⟨rfl, rfl⟩, by omega, fun k k0 k1 => ?_⟩, fun c k g1 g2 => ?_, fun c k g1 g2 => ?_⟩
  · unfold f_X9_write
    have e1 : tp_up C 42 n a 41 4 = n := by rw [up_ne (fun hh => absurd hh.1 (by decide))]; exact h1
    have b0 : tp_b a = a := ho_b (by omega) (by omega)
    have b1 : tp_b (tp_b a) = a := by rw [b0, b0]
    simp only [tp_mp, h1, b1, e1]
    rw [if_neg (by omega), if_pos hn, if_pos ⟨h3, hn⟩, ho_w (by omega) (by omega)]
  · unfold f_X11_spells
    have e1 : tp_up R 531 n a 483 63 = n := by rw [up_ne (fun hh => absurd hh.1 (by decide))]; exact h2
    simp only [tp_mp, h2, e1]
    rw [if_pos (by omega), ho_w (by omega) (by omega)]
  · have l1 : tp_up (tp_up R 531 n a) 483 63 (n + 1) 531 k = tp_up R 531 n a 531 k := up_ne (fun hh => absurd hh.1 (by decide))
    have l2 : tp_up (tp_up C 42 n a) 41 4 (n + 1) 42 k = tp_up C 42 n a 42 k := up_ne (fun hh => absurd hh.1 (by decide))
    rw [l1, l2]
    by_cases c : k = n
    · rw [up_eq ⟨rfl, c⟩, up_eq ⟨rfl, c⟩]
    · rw [up_ne (fun hh => c hh.2), up_ne (fun hh => c hh.2)]; exact h4 k k0 (by omega)
  · rw [up_ne g1, up_ne (fun hh => g2 hh.1)]
  · rw [up_ne g1, up_ne (fun hh => g2 hh.1)]
theorem s_wd {C R : tp_M} {n a : Int} (h : tx_T C R n) (hn : n < 80) (ha : 0 ≤ a ∧ a ≤ 9) : ∃ C' R', f_X9_writeDigit a C = some C' ∧ f_X11_spellsNumber a R = some R' ∧ tx_T C' R' (n + 1) ∧ tx_fC C C' ∧ tx_fR R R' := by
  obtain ⟨C', R', c1, c2, c3⟩ := s_w1 (a := 48 + a) h hn (by omega)
  refine ⟨C', R', ?_, ?_, c3⟩
  · unfold f_X9_writeDigit
    rw [ho_w (by omega) (by omega), Int.emod_eq_of_lt (by omega) (by omega), c1, Option.bind_some]
  · unfold f_X11_spellsNumber f_X11_spellsNumber_17
    rw [if_pos (by omega), Int.tmod_eq_emod_of_nonneg ha.1, Int.emod_eq_of_lt ha.1 (by omega), ho_w (by omega) (by omega), c2, Option.bind_some]
def gS47 (x1 : Int) : (Int × tp_M → Option tp_M) → Int × tp_M → Option tp_M := fun rec_ u => f_X9_spellLeaf_47B x1 (fun x2' M0' => rec_ (x2', M0')) u.1 u.2
def gS34 (rc : Int → tp_M → Option tp_M) (x1 x2 : Int) : (Int × tp_M → Option tp_M) → Int × tp_M → Option tp_M := fun rec_ u => f_X11_spellsAll_34B rc x1 x2 (fun x3' M0' => rec_ (x3', M0')) u.1 u.2
theorem s_q {rc : Int → tp_M → Option tp_M} {i kd a3 : Int} (hi : 0 ≤ i ∧ i < 16) (hk : 2 ≤ kd ∧ kd ≤ 4) (ha : 0 ≤ a3 ∧ a3 ≤ 9) : ∀ (t N N' : Nat) (x : Int) (C R : tp_M) (n : Int), t < N → t < N' → x + t = kd + 1 → 2 ≤ x → tx_T C R n → n + t < 80 → C (262 + i) 0 = kd → C (262 + i) 3 = a3 → R 519 i = a3 → ∃ C' R', tp_lp (gS47 (262 + i)) N (x, C) = some C' ∧ tp_lp (gS34 rc i kd) N' (x, R) = f_X11_spellsAll_106 rc i R' ∧ tx_T C' R' (n + t + 1) ∧ tx_fC C C' ∧ tx_fR R R' := by
  intro t
  induction t with
  | zero =>
    intro N N' x C R n hN hN' hx hx2 hT hn h0 h3 h9
    obtain ⟨C', R', c1, c2, c3, c4, c5⟩ := s_wd (a := a3) hT (by omega) ha
    refine ⟨C', R', ?_, ?_, by rw [show n + ((0 : Nat) : Int) + 1 = n + 1 by omega]; exact c3, c4, c5⟩
    · rw [lp_1 (by omega)]
      simp only [gS47, f_X9_spellLeaf_47B, h0, h3]
      rw [if_pos (by omega), c1, Option.bind_some]
    · rw [lp_1 (by omega)]
      simp only [gS34, f_X11_spellsAll_34B, h9]
      rw [if_pos (by omega), if_neg (by omega), if_pos (by omega), c2, Option.bind_some]
      unfold f_X11_spellsAll_95
      rw [if_pos (by omega)]
  | succ t ih =>
    intro N N' x C R n hN hN' hx hx2 hT hn h0 h3 h9
    obtain ⟨V, W, c1, c2, c3, c4, c5⟩ := s_w1 (a := 63) hT (by omega) (by decide)
    obtain ⟨C', R', d1, d2, d3, d4, d5⟩ := ih (N - 1) (N' - 1) (x + 1) V W (n + 1) (by omega) (by omega) (by omega) (by omega) c3 (by omega) (by rw [c4 _ _ (by omega) (by omega)]; exact h0) (by rw [c4 _ _ (by omega) (by omega)]; exact h3) (by rw [c5 _ _ (by omega) (by omega)]; exact h9)
    refine ⟨C', R', ?_, ?_, by rw [show n + ((t + 1 : Nat) : Int) + 1 = n + 1 + (t : Int) + 1 by omega]; exact d3, tx_ct c4 d4, tx_rt c5 d5⟩
    · rw [lp_1 (by omega), ← d1]
      generalize tp_lp (gS47 (262 + i)) (N - 1) = Rc
      simp only [gS47, f_X9_spellLeaf_47B, h0, tp_lt]
      rw [if_neg (by omega), c1, Option.bind_some, ho_w (by omega) (by omega)]
    · rw [lp_1 (by omega), ← d2]
      generalize tp_lp (gS34 rc i kd) (N' - 1) = Rc
      simp only [gS34, f_X11_spellsAll_34B, tp_lt]
      rw [if_neg (by omega), c2, Option.bind_some, ho_w (by omega) (by omega)]
theorem tg_leafT {i : Int} (hi : 0 ≤ i ∧ i < 16) : tp_tg (262 + i) = 3 := tg_lf hi
set_option maxHeartbeats 4000000 in
set_option maxRecDepth 100000 in
theorem s_leafT {rc : Int → tp_M → Option tp_M} {C R : tp_M} {i n : Int} (hi : 0 ≤ i ∧ i < 16) (hT : tx_T C R n) (hn : n + 4 ≤ 80) (hL : LE C R i) : ∃ C' R' n', f_X9_spellLeaf (262 + i) C = some C' ∧ f_X11_spellsAll_25 rc i R = f_X11_spellsAll_106 rc i R' ∧ tx_T C' R' n' ∧ n' ≤ n + 4 ∧ tx_fC C C' ∧ tx_fR R R' := by
  obtain ⟨⟨a0, a1, a2, a3, a4⟩, b0, b1, b2, b3⟩ := hL
  by_cases k2 : 1 < C (262 + i) 0
  · obtain ⟨C', R', d1, d2, d3, d4, d5⟩ := s_q (rc := rc) (i := i) (kd := C (262 + i) 0) (a3 := C (262 + i) 3) hi (by omega) (by omega) (C (262 + i) 0 - 1).toNat tp_N tp_N 2 C R n (by unfold tp_N; omega) (by unfold tp_N; omega) (by omega) (by omega) hT (by omega) rfl rfl a3
    refine ⟨C', R', _, ?_, ?_, d3, by omega, d4, d5⟩
    · unfold f_X9_spellLeaf
      rw [if_pos (tg_lf hi), if_pos k2, ← d1]
      rfl
    · unfold f_X11_spellsAll_25
      simp only [tp_lt, a0]
      rw [if_pos (by omega), ← d2]
      rfl
  · obtain ⟨V1, W1, p1, p2, p3, p4, p5⟩ := s_wd (a := C (262 + i) 1) hT (by omega) (by omega)
    obtain ⟨V2, W2, q1, q2, q3, q4, q5⟩ := s_w1 (a := 46) p3 (by omega) (by decide)
    obtain ⟨V3, W3, r1, r2, r3, r4, r5⟩ := s_wd (a := C (262 + i) 2) q3 (by omega) (by omega)
    have fC : tx_fC C V3 := tx_ct (tx_ct p4 q4) r4
    have fR : tx_fR R W3 := tx_rt (tx_rt p5 q5) r5
    have k3 : V3 (262 + i) 0 = C (262 + i) 0 := fC _ _ (by omega) (by omega)
    have e2 : V2 (262 + i) 2 = C (262 + i) 2 := (tx_ct p4 q4) _ _ (by omega) (by omega)
    have e8 : W2 518 i = C (262 + i) 2 := by rw [(tx_rt p5 q5) _ _ (by omega) (by omega)]; exact a2
    have st34 : ∀ X : Option tp_M, f_X11_spellsAll_95 rc i (C (262 + i) 0) W3 = X → f_X11_spellsAll_25 rc i R = X := fun X hX => by
      unfold f_X11_spellsAll_25 f_X11_spellsAll_34
      simp only [tp_lt, a0]
      rw [if_pos (by omega), lp_1 (by unfold tp_N; omega)]
      simp only [f_X11_spellsAll_34B, a1]
      rw [if_pos (by omega), if_pos (by omega), if_pos (by omega), p2, Option.bind_some, q2, Option.bind_some, if_pos (by omega), e8, r2, Option.bind_some]
      exact hX
    have stC : ∀ X : Option tp_M, (if ¬ (V3 (262 + i) 0) = 1 then some V3 else (f_X9_write 33 V3).bind fun r16 => some r16) = X → f_X9_spellLeaf (262 + i) C = X := fun X hX => by
      unfold f_X9_spellLeaf
      rw [if_pos (tg_lf hi), if_neg k2, p1, Option.bind_some, q1, Option.bind_some, e2, r1, Option.bind_some]
      exact hX
    by_cases k1 : C (262 + i) 0 = 1
    · obtain ⟨V4, W4, s1, s2, s3, s4, s5⟩ := s_w1 (a := 33) r3 (by omega) (by decide)
      refine ⟨V4, W4, _, stC _ ?_, st34 _ ?_, s3, by omega, tx_ct fC s4, tx_rt fR s5⟩
      · rw [k3, if_neg (fun hh => hh k1), s1, Option.bind_some]
      · unfold f_X11_spellsAll_95
        rw [if_neg (fun hh => hh k1), s2, Option.bind_some]
    · refine ⟨V3, W3, _, stC _ ?_, st34 _ ?_, r3, by omega, fC, fR⟩
      · rw [k3, if_pos k1]
      · unfold f_X11_spellsAll_95
        rw [if_pos k1]
def gS7 : (Int × tp_M → Option tp_M) → Int × tp_M → Option tp_M := fun rec_ u => f_X9_spell_7B (fun x1' M0' => rec_ (x1', M0')) u.1 u.2
def gR7 : (Int × tp_M → Option tp_M) → Int × tp_M → Option tp_M := fun rec_ u => f_X11_spellsAll_7B (fun x1' M0' => rec_ (x1', M0')) u.1 u.2
set_option maxHeartbeats 4000000 in
set_option maxRecDepth 100000 in
theorem s_spells {nl : Int} (hl : nl ≤ 8) : ∀ (t N N' : Nat) (i : Int) (C R : tp_M) (n : Int), t < N → t < N' → i + t = nl → 0 ≤ i → tx_T C R n → n ≤ 5 * i → C 41 3 = nl → R 483 23 = nl → (∀ a, 0 ≤ a → a < nl → LE C R a) → ∃ C' R' n', tp_lp gS7 N (i, C) = some C' ∧ tp_lp gR7 N' (i, R) = some R' ∧ tx_T C' R' n' ∧ n' ≤ 40 ∧ tx_fC C C' ∧ tx_fR R R' := by
  intro t
  induction t with
  | zero =>
    intro N N' i C R n hN hN' hi hi0 hT hn h3 h23 hL
    refine ⟨C, R, n, ?_, ?_, hT, by omega, fun _ _ _ _ => rfl, fun _ _ _ _ => rfl⟩
    · rw [lp_1 (by omega)]
      simp only [gS7, f_X9_spell_7B, h3]
      rw [if_pos (by omega)]
    · rw [lp_1 (by omega)]
      simp only [gR7, f_X11_spellsAll_7B, h23]
      rw [if_pos (by omega)]
  | succ t ih =>
    intro N N' i C R n hN hN' hi hi0 hT hn h3 h23 hL
    have lfA : f_X9_leafAt i C = some (262 + i) := by
      unfold f_X9_leafAt
      rw [h3, if_neg (by omega), if_neg (by omega), if_neg (by omega), if_pos (by omega)]
    have pre : ∃ V W n1, (if i ≤ 0 then V = C else f_X9_write 43 C = some V) ∧ (if i ≤ 0 then W = R else f_X11_spells 43 R = some W) ∧ tx_T V W n1 ∧ n1 ≤ n + 1 ∧ tx_fC C V ∧ tx_fR R W := by
      by_cases c : i ≤ 0
      · exact ⟨C, R, n, by rw [if_pos c], by rw [if_pos c], hT, by omega, fun _ _ _ _ => rfl, fun _ _ _ _ => rfl⟩
      · obtain ⟨V, W, c1, c2, c3, c4, c5⟩ := s_w1 (a := 43) hT (by omega) (by decide)
        exact ⟨V, W, n + 1, by rw [if_neg c]; exact c1, by rw [if_neg c]; exact c2, c3, Int.le_refl _, c4, c5⟩
    obtain ⟨V, W, n1, v1, v2, v3, v4, v5, v6⟩ := pre
    generalize hrc : (fun (x1' : Int) (M0' : tp_M) => tp_lp gR7 (N' - 1) (x1', M0')) = rc
    obtain ⟨V2, W2, n2, d1, d2, d3, d4, d5, d6⟩ := s_leafT (rc := rc) (i := i) (by omega) v3 (by omega) (LE_fr (hL i hi0 (by omega)) (fun k => v5 _ _ (by omega) (by omega)) (fun c x1 x2 => v6 _ _ (by omega) (by omega)))
    have f1 := tx_ct v5 d5
    have f2 := tx_rt v6 d6
    obtain ⟨C', R', n', e1, e2, e3, e4, e5, e6⟩ := ih (N - 1) (N' - 1) (i + 1) V2 W2 n2 (by omega) (by omega) (by omega) (by omega) d3 (by omega) (by rw [f1 _ _ (by decide) (by decide)]; exact h3) (by rw [f2 _ _ (by decide) (by decide)]; exact h23) (fun a a0 a1 => LE_fr (hL a a0 a1) (fun k => f1 _ _ (by omega) (by omega)) (fun c x1 x2 => f2 _ _ (by omega) (by omega)))
    have w1 : tp_w (i + 1) = i + 1 := ho_w (by omega) (by omega)
    refine ⟨C', R', n', ?_, ?_, e3, e4, tx_ct f1 e5, tx_rt f2 e6⟩
    · rw [lp_1 (by omega), ← e1]
      generalize tp_lp gS7 (N - 1) = Rc
      simp only [gS7, f_X9_spell_7B, f_X9_spell_38, f_X9_spell_43, h3, tp_lt, w1]
      rw [if_neg (by omega), lfA, Option.bind_some, if_neg (by omega)]
      by_cases c : i ≤ 0
      · rw [if_pos c] at v1 ⊢
        rw [v1] at d1
        rw [d1, Option.bind_some]
      · rw [if_neg c] at v1 ⊢
        rw [v1, Option.bind_some, d1, Option.bind_some]
    · rw [lp_1 (by omega), ← e2]
      show f_X11_spellsAll_7B (fun (x1' : Int) (M0' : tp_M) => tp_lp gR7 (N' - 1) (x1', M0')) i R = _
      rw [hrc]
      unfold f_X11_spellsAll_7B
      have e7 : f_X11_spellsAll_106 rc i W2 = tp_lp gR7 (N' - 1) (i + 1, W2) := by
        unfold f_X11_spellsAll_106
        simp only [tp_lt, w1]
        rw [← hrc]
      rw [h23, if_neg (by omega)]
      by_cases c : i ≤ 0
      · rw [if_pos c] at v2 ⊢
        rw [v2] at d2
        rw [d2, e7]
      · rw [if_neg c] at v2 ⊢
        rw [v2, Option.bind_some, d2, e7]
set_option maxHeartbeats 4000000 in
set_option maxRecDepth 100000 in
theorem s_spelling {C R : tp_M} {nk ns nl : Int} (h : Rel C R nk ns nl) (hl : 0 ≤ nl ∧ nl ≤ 8) : ∃ C' R' n', f_X9_spell C = some C' ∧ f_X11_spellsAll R = some R' ∧ tx_T C' R' n' ∧ n' ≤ 40 ∧ tx_fC C C' ∧ tx_fR R R' := by
  have uC : ∀ c k, ¬ (c = 41 ∧ k = 4) → tp_up C 41 4 0 c k = C c k := fun c k hh => up_ne hh
  have uR : ∀ c k, ¬ (c = 483 ∧ k = 63) → tp_up R 483 63 0 c k = R c k := fun c k hh => up_ne hh
  obtain ⟨C', R', n', e1, e2, e3, e4, e5, e6⟩ := s_spells hl.2 nl.toNat tp_N tp_N 0 (tp_up C 41 4 0) (tp_up R 483 63 0) 0 (by unfold tp_N; omega) (by unfold tp_N; omega) (by omega) (Int.le_refl _) ⟨up_eq ⟨rfl, rfl⟩, up_eq ⟨rfl, rfl⟩, Int.le_refl _, fun k k0 k1 => by omega⟩ (by omega) (by rw [uC _ _ (by decide)]; exact h.1.2.2) (by rw [uR _ _ (by decide)]; exact h.2.1.2.2) (fun a a0 a1 => LE_fr (h.2.2.2.2 a a0 a1) (fun k => uC _ _ (by omega)) (fun c x1 x2 => uR _ _ (by omega)))
  refine ⟨C', R', n', ?_, ?_, e3, e4, fun c k g1 g2 => by rw [e5 c k g1 g2, uC c k g1], fun c k g1 g2 => by rw [e6 c k g1 g2, uR c k g1]⟩
  · unfold f_X9_spell
    simp only [tp_mp]
    exact e1
  · unfold f_X11_spellsAll
    simp only [tp_mp]
    exact e2
