set_option maxHeartbeats 4000000 in
set_option maxRecDepth 100000 in
theorem s_core0 {X Y : tp_M} {a0 p K P dg : Int} {A : Int → Int} (h : pKP p K P) (hs : 0 ≤ a0 ∧ a0 < 5) (hX1 : X 1 0 = p ∧ X 1 1 = K ∧ X 1 2 = P) (hY1 : Y 483 0 = p ∧ Y 483 2 = P) (hXA : ∀ k, 0 ≤ k → k < 9 → X (4 + a0) k = A k) (hYA : ∀ k, 0 ≤ k → k < 9 → Y 484 (9 * a0 + k) = A k) (hd : tp_dg A 9 = dg) (hd1 : 1 ≤ dg) (hm : A dg = 1) : ∃ (C' R' : tp_M) (nk ns nl : Int) (c : Nat), f_X1_branch 0 (4 + a0) 1 (-2) (tp_wr (fellM X) 303 0 9 (fun k => X (4 + a0) k % P)) = some C' ∧ rn c (tx_RI Y (fun k => Y 484 (9 * a0 + k) % P) dg) R' ∧ c ≤ 200 ∧ R' 483 61 = -1 ∧ Rel C' R' nk ns nl ∧ ((0 ≤ nk ∧ nk ≤ 24) ∧ (0 ≤ ns ∧ ns ≤ 48) ∧ 0 ≤ nl ∧ nl ≤ 8) ∧ (∀ c k, (0 ≤ c ∧ c ≤ 40) ∨ 483 ≤ c → C' c k = X c k) ∧ ∀ c k, c < 483 ∨ c = 484 ∨ c = 485 ∨ 532 ≤ c ∨ (c = 483 ∧ k < 11) ∨ (c = 483 ∧ (k = 18 ∨ k = 20)) → R' c k = tx_RI Y (fun k => Y 484 (9 * a0 + k) % P) dg c k := by
  have hp2 := pm_2 h.1
  have hP0 := h.2.2.2.2.1
  have ts := tg_slot hs
  obtain ⟨⟨v1, v2, v3, v4⟩, ⟨v5, v6, v7⟩, ⟨v8, v9⟩, v10, v11⟩ := tx_RIv (Y := Y) (f := fun k => Y 484 (9 * a0 + k) % P) (dg := dg)
  generalize hR : tx_RI Y (fun k => Y 484 (9 * a0 + k) % P) dg = R at *
  have c303 : ∀ k, 0 ≤ k → k < 9 → tp_wr (fellM X) 303 0 9 (fun k => X (4 + a0) k % P) 303 k = A k % P := fun k k0 k1 => by rw [wr_in ⟨rfl, by omega, by omega⟩, Int.sub_zero, hXA k k0 k1]
  have co : ∀ c k, c ≠ 303 → c ≠ 41 → tp_wr (fellM X) 303 0 9 (fun k => X (4 + a0) k % P) c k = X c k := fun c k h1 h2 => by rw [wr_out (fun hh => h1 hh.1), fellM_o h2]
  have c41 : ∀ k, tp_wr (fellM X) 303 0 9 (fun k => X (4 + a0) k % P) 41 k = fellM X 41 k := fun k => wr_out (fun hh => absurd hh.1 (by decide))
  generalize hC : tp_wr (fellM X) 303 0 9 (fun k => X (4 + a0) k % P) = C at *
  obtain ⟨fv1, fv2, fv3⟩ := fellM_v (X := X)
  obtain ⟨Res, hRes⟩ : ∃ Res, Res = rs p (C (4 + a0)) := ⟨_, rfl⟩
  have ro : Ro p Res := by rw [hRes]; exact rs_ro h.1 _
  have rk : ∀ k, 0 ≤ k → k < 9 → Res k = A k % p := fun k k0 k1 => by
    rw [hRes]
    unfold rs
    rw [if_pos ⟨k0, k1⟩, co _ _ (by omega) (by omega), hXA k k0 k1]
  have dr := tp_dg_r A 9
  have dr2 := tp_dg_r Res 9
  have dg0 : 0 ≤ tp_dg Res 9 := Classical.byContradiction fun hc => by
    have t := tp_dg_top Res 9 dg (by omega) (by omega)
    rw [rk dg (by omega) (by omega), hm] at t
    have : (1 : Int) % p = 1 := Int.emod_eq_of_lt (by omega) (by omega)
    omega
  have pd := p_dvd h
  have hf : inP P (fun k => A k % P) 0 9 := fun k _ _ => ⟨Int.emod_nonneg _ (by omega), Int.emod_lt_of_pos _ hP0⟩
  have r495 : ∀ k, 0 ≤ k → k < 9 → R 495 k = A k % P := fun k k0 k1 => by rw [v10 k k0 k1, hYA k k0 k1]
  have r0 : R 483 0 = p ∧ R 483 2 = P := ⟨by rw [v11 _ _ (by decide) (by decide) (by decide)]; exact hY1.1, by rw [v11 _ _ (by decide) (by decide) (by decide)]; exact hY1.2⟩
  obtain ⟨C', R', nk, ns, nl, c, q1, ⟨q2, ⟨q3, q4, q5⟩, ⟨q6, q7, q8⟩, q9, q10⟩, ⟨_, _, q11⟩, q12, q13⟩ := br_all 7 C R p K P 0 0 0 0 1 0 0 0 (4 + a0) (fun _ => 0) (fun _ => 0) (fun _ => 0) (fun _ => 0) (fun _ => 0) (fun _ _ => 0) (fun _ _ => 0) (fun k => A k % P) Res h (Int.le_refl _) (by omega) (by decide) hf ro dg0 ts.1 ts.2 (by omega) hRes.symm ⟨⟨by rw [c41]; exact fv1, by rw [c41]; exact fv2, by rw [c41]; exact fv3⟩, ⟨v1, v2, v3⟩, fun i i0 i1 => by omega, fun i i0 i1 => by omega, fun i i0 i1 => by omega⟩ ⟨⟨⟨by rw [co _ _ (by decide) (by decide)]; exact hX1.1, by rw [co _ _ (by decide) (by decide)]; exact hX1.2.1, by rw [co _ _ (by decide) (by decide)]; exact hX1.2.2⟩, c303⟩, ⟨r0.1, r0.2, r495⟩, fun _ => rfl, fun hh => by omega⟩ ⟨r0.1, v4, v6, v7, fun _ => ⟨rfl, v5, fun k k0 k1 => by
    rw [r495 k k0 k1, rk k k0 k1]
    exact ⟨Int.emod_nonneg _ (by omega), Int.emod_emod_of_dvd _ pd⟩⟩, fun hh => by omega⟩ (by decide) (by decide) (fun hh => by omega) (by decide) (by omega) (by decide) (by decide) (by decide) (by omega) (by omega) (by omega)
  rw [if_pos rfl] at q1 q11
  refine ⟨C', R', nk, ns, nl, c, q1, q9, by omega, q11, q2, ⟨⟨by omega, by omega⟩, ⟨by omega, by omega⟩, by omega, by omega⟩, fun c k hh => ?_, fun c k hh => q13 c k (chS_out hh)⟩
  rw [q12 c k (Or.inl ?_), co c k (by omega) (by omega)]
  rcases hh with hh | hh
  · exact Or.inl hh
  · exact Or.inr (Or.inr (Or.inr (Or.inr (Or.inr (Or.inr (Or.inr (Or.inr (Or.inr (Or.inr (Or.inr hh))))))))))
set_option maxHeartbeats 4000000 in
set_option maxRecDepth 100000 in
theorem s_core {X Y : tp_M} {a0 p K P dg : Int} {A : Int → Int} (h : pKP p K P) (hs : 0 ≤ a0 ∧ a0 < 5) (hX1 : X 1 0 = p ∧ X 1 1 = K ∧ X 1 2 = P) (hY1 : Y 483 0 = p ∧ Y 483 2 = P) (hXA : ∀ k, 0 ≤ k → k < 9 → X (4 + a0) k = A k) (hYA : ∀ k, 0 ≤ k → k < 9 → Y 484 (9 * a0 + k) = A k) (hd : tp_dg A 9 = dg) (hd1 : 1 ≤ dg) (hm : A dg = 1) : ∃ (C' R' : tp_M) (nk ns nl n : Int), f_X1_plant (4 + a0) dg X = some C' ∧ f_X11_grow_22 a0 0 Y = some (nl, R') ∧ Rel C' R' nk ns nl ∧ ((0 ≤ nk ∧ nk ≤ 24) ∧ (0 ≤ ns ∧ ns ≤ 48) ∧ 0 ≤ nl ∧ nl ≤ 8) ∧ (tx_T C' R' n ∧ n ≤ 40) ∧ (C' 41 0 = 1 ∧ C' 41 1 = dg ∧ R' 483 18 = 1 ∧ R' 483 20 = dg) ∧ (∀ c k, (0 ≤ c ∧ c ≤ 40) ∨ 483 ≤ c → C' c k = X c k) ∧ ∀ c k, c < 483 ∨ c = 484 ∨ c = 485 ∨ 532 ≤ c ∨ (c = 483 ∧ k < 11) → R' c k = Y c k := by
  have hP2 : 0 < P ∧ P ≤ 400000000 := h.2.2.2.2
  have ts := tg_slot hs
  obtain ⟨C1, R1, nk, ns, nl, c, a1, a2, a3, a4, a5, a6, a7, a8⟩ := s_core0 h hs hX1 hY1 hXA hYA hd hd1 hm
  obtain ⟨_, _, ⟨v8, v9⟩, _, v11⟩ := tx_RIv (Y := Y) (f := fun k => Y 484 (9 * a0 + k) % P) (dg := dg)
  have u1 : ∀ c k, ¬ (c = 41 ∧ k = 1) → tp_up C1 41 1 dg c k = C1 c k := fun c k hh => up_ne hh
  have e1 : tp_up C1 41 1 dg 41 1 = dg := up_eq ⟨rfl, rfl⟩
  have Rel2 : Rel (tp_up C1 41 1 dg) R1 nk ns nl := Rel_fr2 a5 ⟨a6.1.2, a6.2.1.2, by omega⟩ (fun c k x1 x2 => u1 c k (by omega)) ⟨u1 _ _ (by decide), u1 _ _ (by decide), u1 _ _ (by decide)⟩ (fun _ _ _ => rfl)
  generalize hM7 : tp_up C1 41 1 dg = M7 at *
  obtain ⟨C2, R2, n, b1, b2, ⟨b3, b4, b5, b6⟩, b7, b8, b9⟩ := s_spelling Rel2 a6.2.2
  have u2 : ∀ c k, ¬ (c = 41 ∧ k = 0) → tp_up C2 41 0 1 c k = C2 c k := fun c k hh => up_ne hh
  have e2 : tp_up C2 41 0 1 41 0 = 1 := up_eq ⟨rfl, rfl⟩
  have hdY : tp_dg (fun k => Y 484 (9 * a0 + k)) 9 = dg := by rw [← hd]; exact tp_dg_cong 9 (fun k k0 k1 => hYA k k0 (by omega))
  have R23 : R2 483 23 = nl := by rw [b9 _ _ (by decide) (by decide)]; exact Rel2.2.1.2.2
  refine ⟨tp_up C2 41 0 1, R2, nk, ns, nl, n, ?_, ?_, Rel_fr2 Rel2 ⟨a6.1.2, a6.2.1.2, by omega⟩ (fun c k x1 x2 => by rw [u2 c k (by omega), b8 c k (by omega) (by omega)]) ⟨by rw [u2 _ _ (by decide), b8 _ _ (by decide) (by decide)], by rw [u2 _ _ (by decide), b8 _ _ (by decide) (by decide)], by rw [u2 _ _ (by decide), b8 _ _ (by decide) (by decide)]⟩ (fun c k hh => b9 c k (by omega) (by omega)), a6, ⟨⟨by rw [u2 _ _ (by decide)]; exact b3, b4, b5, fun k k0 k1 => by rw [u2 42 k (by omega)]; exact b6 k k0 k1⟩, b7⟩, ⟨e2, by rw [u2 _ _ (by decide), b8 _ _ (by decide) (by decide)]; exact e1, ?_, ?_⟩, fun c k hh => ?_, fun c k hh => ?_⟩
  · rw [s_plant ts.1 ts.2 (by omega) hX1.2.2 hP2]
    unfold plE
    rw [a1, Option.bind_some, hM7, b1, Option.bind_some]
  · rw [s_grow22 hs hY1.2 hP2 hdY]
    show tp_lp gB106 tp_N _ = _
    rw [rn_lp c tp_N a2 (by unfold tp_N; omega), lp_1 (by unfold tp_N; omega)]
    generalize tp_lp gB106 (tp_N - c - 1) = Rc
    simp only [gB106, f_X11_grow_106B, a4]
    rw [if_pos (by decide), b2, Option.bind_some, R23]
  · rw [b9 _ _ (by decide) (by decide), a8 _ _ (by omega)]; exact v8
  · rw [b9 _ _ (by decide) (by decide), a8 _ _ (by omega)]; exact v9
  · rw [u2 c k (by omega), b8 c k (by omega) (by omega), u1 c k (by omega), a7 c k hh]
  · rw [b9 c k (by omega) (by omega), a8 c k (by omega), v11 c k (by omega) (by omega) (by omega)]
/-- the tree of both, in one memory -/
theorem Rel_tr {C R : tp_M} {nk ns nl : Int} (h : Rel C R nk ns nl) (hb : (0 ≤ nk ∧ nk ≤ 24) ∧ (0 ≤ ns ∧ ns ≤ 48) ∧ 0 ≤ nl ∧ nl ≤ 8) (hf : ∀ c k, c < 483 → R c k = C c k) : tr_all R := by
  obtain ⟨⟨b1, b2, b3⟩, ⟨b4, b5, b6⟩, b7, b8, b9⟩ := h
  have f41 : ∀ k, R 41 k = C 41 k := fun k => hf _ _ (by decide)
  refine ⟨?_, fun i i0 i1 => ?_, fun q q0 q1 => ?_, fun i i0 i1 => ?_⟩
  · unfold tr_n
    rw [f41, f41, f41, b1, b2, b3, b4, b5, b6]
    omega
  · rw [f41, b1] at i1
    obtain ⟨⟨c1, c2, c3⟩, ⟨c4, c5, c6⟩, ⟨c7, c8, c9, c10⟩, c11, c12, c13, c14, c15⟩ := b7 i i0 i1
    have e : ∀ k, R (46 + 3 * i) k = C (46 + 3 * i) k := fun k => hf _ _ (by omega)
    have e1 : ∀ k, R (46 + 3 * i + 1) k = C (46 + 3 * i + 1) k := fun k => hf _ _ (by omega)
    have e2 : ∀ k, R (46 + 3 * i + 2) k = C (46 + 3 * i + 2) k := fun k => hf _ _ (by omega)
    unfold tr_knot
    simp only [e, e1, e2, f41, b2]
    refine ⟨c1, c2, c3, c4, c5, c6, c7, c8, c9, c10, c11, c12, fun hh => ?_, c14, c15⟩
    obtain ⟨⟨d1, d2⟩, d3, d4, d5⟩ := c13 hh
    have e3 : ∀ k, R (46 + 3 * R 498 i) k = C (46 + 3 * R 498 i) k := fun k => hf _ _ (by omega)
    rw [e3, e3]
    exact ⟨d1, d2, d3, d4, d5⟩
  · rw [f41, b2] at q1
    obtain ⟨⟨c1, c2, c3, c4, c5, c6⟩, c7, c8⟩ := b8 q q0 q1
    have e : ∀ k, R (118 + 3 * q) k = C (118 + 3 * q) k := fun k => hf _ _ (by omega)
    have e1 : ∀ k, R (118 + 3 * q + 1) k = C (118 + 3 * q + 1) k := fun k => hf _ _ (by omega)
    have e2 : ∀ k, R (118 + 3 * q + 2) k = C (118 + 3 * q + 2) k := fun k => hf _ _ (by omega)
    unfold tr_side
    simp only [e, e1, e2]
    exact ⟨c1, c2, c3, c4, c5, c6, c7, c8⟩
  · rw [f41, b3] at i1
    obtain ⟨⟨c1, c2, c3, c4, c5⟩, ⟨c6, c7⟩, ⟨c8, c9⟩, _⟩ := b9 i i0 i1
    have e : ∀ k, R (262 + i) k = C (262 + i) k := fun k => hf _ _ (by omega)
    unfold tr_leaf
    simp only [e]
    exact ⟨c1, c2, c3, c4, c5, c6, c7, c8, c9⟩
set_option maxHeartbeats 4000000 in
set_option maxRecDepth 100000 in
theorem ok_grow : op_grow Inv := by
  intro M hI a0 ra0
  have hI' := hI
  obtain ⟨h1, h2, h3, h4, h5⟩ := hI
  obtain ⟨hp, p1, p2, p3⟩ := iv_pKP h1
  by_cases hs : 0 ≤ a0 ∧ a0 < 5
  · have x1 : f_X10_isSlot a0 M = some 1 := by unfold f_X10_isSlot; repeat (first | rw [if_pos (by omega)] | rw [if_neg (by omega)] | simp only [Option.bind_some, not_true_eq_false, not_false_eq_true, if_true, if_false])
    have y1 : ∀ N, f_X11_isSlot a0 N = some 1 := fun N => by unfold f_X11_isSlot; repeat (first | rw [if_pos (by omega)] | rw [if_neg (by omega)] | simp only [Option.bind_some, not_true_eq_false, not_false_eq_true, if_true, if_false])
    obtain ⟨m1, m2⟩ := s_isMonic h3 hs
    by_cases cm : 1 ≤ tp_dg (M (4 + a0)) 9 ∧ M (4 + a0) (tp_dg (M (4 + a0)) 9) = 1
    · rw [if_pos cm] at m1
      have mA : ∀ k, 0 ≤ k → k < 9 → M 484 (9 * a0 + k) = M (4 + a0) k := fun k k0 k1 => (h3 a0 k hs.1 hs.2 k0 k1).1
      obtain ⟨C0, R0, _, _, _, _, a1, _, _, _, _, _, a7, _⟩ := s_core (X := M) (Y := M) (A := M (4 + a0)) hp hs ⟨rfl, rfl, rfl⟩ ⟨p1, p3⟩ (fun _ _ _ => rfl) mA rfl cm.1 cm.2
      have g7 : ∀ c k, 483 ≤ c → C0 c k = M c k := fun c k hc => a7 c k (Or.inr hc)
      obtain ⟨C1, R2, nk, ns, nl, n, b1, b2, b3, b4, ⟨b5, b6⟩, ⟨b7, b8, b9, b10⟩, b11, b12⟩ := s_core (X := M) (Y := C0) (A := M (4 + a0)) hp hs ⟨rfl, rfl, rfl⟩ ⟨by rw [g7 _ _ (by decide)]; exact p1, by rw [g7 _ _ (by decide)]; exact p3⟩ (fun _ _ _ => rfl) (fun k k0 k1 => by rw [g7 _ _ (by decide)]; exact mA k k0 k1) rfl cm.1 cm.2
      rw [a1] at b1
      have ec := Option.some.inj b1
      subst ec
      have fR : ∀ c k, c < 483 → R2 c k = C0 c k := fun c k hc => b12 c k (Or.inl hc)
      have gM : ∀ c k, (0 ≤ c ∧ c ≤ 40) ∨ c = 484 ∨ c = 485 ∨ 532 ≤ c ∨ (c = 483 ∧ k < 11) → R2 c k = M c k := fun c k hc => by rw [b12 c k (by omega), a7 c k (by omega)]
      refine ⟨nl, C0, R2, ?_, ?_, fr_prime (fun k _ _ => gM _ _ (by omega)) (fun k _ _ => gM _ _ (by omega)) h1, fr_tape (gM _ _ (by omega)) (gM _ _ (by omega)) (fun i => gM _ _ (by omega)) (fun i => gM _ _ (by omega)) h2, fr_slots (fun c k c0 c1 => gM _ _ (by omega)) (fun i => gM _ _ (by omega)) h3, fun s s0 s1 => fr_sheet (fun k => gM _ _ (by omega)) (fun k => gM _ _ (by omega)) (gM _ _ (by omega)) (gM _ _ (by omega)) (fun i i0 i1 => gM _ _ (by omega)) (h4 s s0 s1), ?_⟩
      · unfold f_X10_grow
        rw [x1, Option.bind_some, if_pos (by decide), m1, Option.bind_some, if_pos (by decide), if_pos hs, if_pos hs, s_degreeOf (tg_slot hs).1 (tg_slot hs).2, Option.bind_some, a1, Option.bind_some, b3.1.2.2]
      · have mm := (m2 C0 (fun k => g7 _ _ (by decide))).1
        rw [if_pos cm] at mm
        unfold f_X11_grow
        rw [y1, Option.bind_some, if_pos (by decide), mm, Option.bind_some, if_pos (by decide), b2]
      · have e41 : ∀ k, R2 41 k = C0 41 k := fun k => fR _ _ (by decide)
        have e0 : R2 41 0 = 1 := by rw [e41]; exact b7
        obtain ⟨t1, t2, t3, t4⟩ := b5
        refine ⟨by rw [e0]; exact b9, Or.inr e0, fun hh => by rw [e0] at hh; exact absurd hh (by decide), fun _ => ⟨Rel_tr b3 b4 fR, ?_⟩⟩
        unfold tr_end
        rw [e41, e41, b8, t1]
        exact ⟨b10, t2, t3, by omega, fun i i0 i1 => by rw [fR 42 i (by decide)]; exact t4 i i0 i1⟩
    · rw [if_neg cm] at m1
      have mm := (m2 M (fun _ => rfl)).1
      rw [if_neg cm] at mm
      refine ⟨-3, M, M, ?_, ?_, hI'⟩
      · unfold f_X10_grow
        rw [x1, Option.bind_some, if_pos (by decide), m1, Option.bind_some, if_neg (by decide)]
      · unfold f_X11_grow
        rw [y1, Option.bind_some, if_pos (by decide), mm, Option.bind_some, if_neg (by decide)]
  · have x1 : f_X10_isSlot a0 M = some 0 := by
      unfold f_X10_isSlot
      by_cases c : a0 < 0
      · rw [if_pos c]
      · rw [if_neg c, if_pos (by omega)]
    have y1 : f_X11_isSlot a0 M = some 0 := by
      unfold f_X11_isSlot
      by_cases c : a0 < 0
      · rw [if_pos c]
      · rw [if_neg c, if_pos (by omega)]
    refine ⟨-1, M, M, ?_, ?_, hI'⟩
    · unfold f_X10_grow
      rw [x1, Option.bind_some, if_neg (by decide)]
    · unfold f_X11_grow
      rw [y1, Option.bind_some, if_neg (by decide)]
