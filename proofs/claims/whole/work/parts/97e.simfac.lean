theorem bud {A B E v nk ns nl W : Int} (hE : 1 ≤ E) (hA : 0 ≤ A) (hB : 0 ≤ B) (hv : 0 ≤ v) (hW : W = A + B) (h8 : W * E ≤ 8) (h1 : 2 * nk + W * E * v ≤ 48) (h2 : ns + W * E * v ≤ 48) (h3 : nl + W * E ≤ 16) : W * E = A * E + B * E ∧ A * E ≤ 8 ∧ B * E ≤ 8 ∧ 2 * nk + A * E * v ≤ 48 ∧ ns + A * E * v ≤ 48 ∧ nl + A * E ≤ 16 ∧ nk ≤ 24 ∧ ns ≤ 48 ∧ W * E * v = A * E * v + B * E * v := by
  have e1 : W * E = A * E + B * E := by rw [hW, Int.add_mul]
  have e2 : W * E * v = A * E * v + B * E * v := by rw [e1, Int.add_mul]
  have p1 := Int.mul_nonneg hA (show 0 ≤ E by omega)
  have p2 := Int.mul_nonneg hB (show 0 ≤ E by omega)
  have p3 := Int.mul_nonneg p1 hv
  have p4 := Int.mul_nonneg p2 hv
  refine ⟨e1, ?_, ?_, ?_, ?_, ?_, ?_, ?_, e2⟩ <;> omega
set_option maxHeartbeats 4000000 in
set_option maxRecDepth 100000 in
theorem s_FL {n : Nat} {p K P r x kn j E : Int} {D e s rt kf : Int → Int} {mo q : Int → Int → Int} {f Res : Int → Int} (hG : n ≠ 0 → GkOk n) (h : pKP p K P) (hr : 0 ≤ r ∧ r ≤ 6) (hn : (n : Int) + r = 6) (hf : inP P f 0 9) (hRo : Ro p Res) (hdg : 0 ≤ tp_dg Res 9) (hj : 0 ≤ j ∧ j ≤ 20) (hE : 1 ≤ E) (hok : fok p (fzl p (mon p Res))) (hl9 : (fzl p (mon p Res)).length ≤ 9) : ∀ (t N i : Nat) (C R : tp_M) (nk ns nl : Int), t < N → i + t = (fzl p (mon p Res)).length → Rel C R nk ns nl → Lnk C R p K P r x kn E nk D e s rt kf mo q f → stR R p r x kn j i Res → Fl C (312 + 21 * r) (fzl p (mon p Res)) → (1 ≤ r → x < ns) → 0 ≤ nk → 0 ≤ ns → 0 ≤ nl → (fsm ((fzl p (mon p Res)).drop i) : Int) * E ≤ 8 → 2 * nk + (fsm ((fzl p (mon p Res)).drop i) : Int) * E * (6 - r) ≤ 48 → ns + (fsm ((fzl p (mon p Res)).drop i) : Int) * E * (6 - r) ≤ 48 → nl + (fsm ((fzl p (mon p Res)).drop i) : Int) * E ≤ 16 → ∃ (C' R' : tp_M) (nk' ns' nl' : Int) (c : Nat), tp_lp (g47 (fo_X1_growKnot (tp_br n)) r E (if r = 0 then -2 else kn) (312 + 21 * r)) N ((i : Int), C) = some C' ∧ Gro C' R R' nk ns nl nk' ns' nl' ((fsm ((fzl p (mon p Res)).drop i) : Int) * E) (6 - r) c 1 ∧ (R' 529 r = j + 1 ∧ R' 530 r = 0 ∧ R' 483 61 = (if r = 0 then -1 else r)) ∧ (∀ c k, frS r nk ns nl c k → C' c k = C c k) ∧ ∀ c k, chS r nk ns nl c k → R' c k = R c k := by
  intro t
  induction t with
  | zero =>
    intro N i C R nk ns nl hN hi hRel hL hS hfl hx hk0 hs0 hl0 b0 b1 b2 b3
    have ei : i = (fzl p (mon p Res)).length := by omega
    subst ei
    obtain ⟨R', r1, r2, r3, r4, r5⟩ := s_stepEnd (R := R) h.1 hr hRo hdg (by omega) hS
    have ch : ∀ c k, chS r nk ns nl c k → R' c k = R c k := fun c k hh => by
      obtain ⟨x1, x2, _, _, _, _, _, _, _, _, _, _, _, x14, _⟩ := hh
      exact r5 c k x1 (fun y => x2 ⟨y.1, by have := y.2; omega⟩) (fun y => x14 ⟨y.1, by omega⟩)
    refine ⟨C, R', nk, ns, nl, 1, ?_, ⟨Rel_fr (ρ := r) hRel (fun _ _ _ => rfl) ch ⟨rfl, rfl, rfl⟩ ⟨r5 _ _ (by decide) (by decide) (by omega), r5 _ _ (by decide) (by decide) (by omega), r5 _ _ (by decide) (by decide) (by omega)⟩, ⟨Int.le_refl _, Int.le_refl _, Int.le_refl _⟩, ?_, rn_one (by rw [hS.2.1]; exact hr.1) r1, by omega⟩, ⟨r2, r3, r4⟩, fun _ _ _ => rfl, ch⟩
    · rw [lp_1 (by omega)]
      exact s_brEnd hfl
    · rw [List.drop_length]
      show 2 * nk ≤ 2 * nk + ((0 : Nat) : Int) * E * (6 - r) ∧ ns ≤ ns + ((0 : Nat) : Int) * E * (6 - r) ∧ nl ≤ nl + ((0 : Nat) : Int) * E
      rw [show ((0 : Nat) : Int) = 0 from rfl, Int.zero_mul, Int.zero_mul]
      omega
  | succ t ih =>
    intro N i C R nk ns nl hN hi hRel hL hS hfl hx hk0 hs0 hl0 b0 b1 b2 b3
    have il : i < (fzl p (mon p Res)).length := by omega
    obtain ⟨fe, hfe⟩ : ∃ fe, (fzl p (mon p Res))[i]? = some fe := ⟨_, List.getElem?_eq_getElem il⟩
    have fm := List.mem_of_getElem? hfe
    obtain ⟨k1, k2, k3⟩ := hok fe fm
    have hv := k3.1.1 0 (by decide) (by decide)
    have e0 := fsm_drop hfe
    obtain ⟨d0, d1, d2, d3, d4, d5, d6, d7, d8⟩ := bud (A := ((fe.1 * fe.2.1 : Nat) : Int)) (B := (fsm ((fzl p (mon p Res)).drop (i + 1)) : Int)) (v := 6 - r) hE (by omega) (by omega) (by omega) (by rw [e0]; omega) b0 b1 b2 b3
    generalize hrc : (fun (x6' : Int) (M0' : tp_M) => tp_lp (g47 (fo_X1_growKnot (tp_br n)) r E (if r = 0 then -2 else kn) (312 + 21 * r)) (N - 1) (x6', M0')) = rc
    have st : ∃ C1 R1 nk1 ns1 nl1 c1, StF n rc C R C1 R1 r E (if r = 0 then -2 else kn) (312 + 21 * r) nk ns nl nk1 ns1 nl1 (((fe.1 * fe.2.1 : Nat) : Int) * E) j i c1 := by
      rcases ho : lfO r E (if r = 0 then -2 else kn) fe.1 fe.2.1 with _ | a
      · exact s_FSknot hG h hr hn hf hRo hdg hRel hL hS hj hx hE hfl hfe (by omega) hl9 ⟨k1, k2⟩ hv d1 ⟨hk0, d3⟩ ⟨hs0, d4⟩ ⟨hl0, d5⟩ ho
      · obtain ⟨C1, R1, g⟩ := s_FSleaf (n := n) (rc := rc) h hr hRo hdg hRel hL hS hj hE hfl hfe (by omega) ⟨k1, k2⟩ d1 ⟨hk0, d6⟩ ⟨hs0, d7⟩ ⟨hl0, d5⟩ ho
        exact ⟨C1, R1, _, _, _, _, g⟩
    obtain ⟨C1, R1, nk1, ns1, nl1, c1, s1, s2, ⟨s3, s4, s5⟩, s6, s7⟩ := st
    obtain ⟨m1, m2, m3⟩ := s2.2.1
    obtain ⟨w1, w2, w3⟩ := s2.2.2.1
    have xk : 1 ≤ r → kn < nk ∧ x < ns := fun r1 => by
      obtain ⟨_, _, _, _, _, _, d8, _, d12, _⟩ := hL.2.2.2 r1
      have kb := d12 r r1 (Int.le_refl _)
      rw [d8] at kb
      exact ⟨kb.2, hx r1⟩
    have x0 : 1 ≤ r → 0 ≤ x ∧ x < ns := fun r1 => ⟨(hS.2.2.2.2.2 r1).2.2.2.2.1.1, hx r1⟩
    obtain ⟨C', R', nk', ns', nl', c, q1, q2, q3, q4, q5⟩ := ih (N - 1) (i + 1) C1 R1 nk1 ns1 nl1 (by omega) (by omega) s2.1 (Lnk_fr hr hL m1 d6 x0 s6 s7) (stR_fr hS xk s7 s3 s4 s5) (frS_Fl hr hl9 hfl s6) (fun r1 => by have := hx r1; omega) (by omega) (by omega) (by omega) d2 (by omega) (by omega) (by omega)
    refine ⟨C', R', nk', ns', nl', c1 + c, ?_, ?_, q3, fun c k hh => ?_, fun c k hh => ?_⟩
    · rw [lp_1 (by omega), ← q1]
      show fo_X1_branch_47B _ _ _ _ _ (fun (x6' : Int) (M0' : tp_M) => tp_lp (g47 (fo_X1_growKnot (tp_br n)) r E (if r = 0 then -2 else kn) (312 + 21 * r)) (N - 1) (x6', M0')) i C = _
      rw [hrc, s1, ← hrc]
    · rw [d0]
      have g := Gro_trans s2 q2
      rw [Int.zero_add] at g
      exact g
    · rw [q4 c k (frS_mono hh m1 m2 m3), s6 c k hh]
    · rw [q5 c k (chS_mono hh (Int.le_refl _) m1 m2 m3), s7 c k hh]
theorem rs_id {p : Int} {Res : Int → Int} (h : Ro p Res) {A : Int → Int} (hA : ∀ k, 0 ≤ k → k < 9 → A k = Res k) : rs p A = Res := by
  funext k
  unfold rs
  by_cases c : 0 ≤ k ∧ k < 9
  · rw [if_pos c, hA k c.1 c.2]
    have := h.1 k c.1 c.2
    exact Int.emod_eq_of_lt this.1 this.2
  · rw [if_neg c, h.2 k c]
set_option maxHeartbeats 4000000 in
set_option maxRecDepth 100000 in
theorem s_BR {n : Nat} (hG : n ≠ 0 → GkOk n) : BrOk (n + 1) := by
  intro C R p K P r x kn j E nk ns nl a1 D e s rt kf mo q f Res h hr0 hn _ hf hRo hdg ta al a3 hrs hRel hL hS j0 j1 hx hE hW hk0 hs0 hl0 b1 b2 b3
  have hr : 0 ≤ r ∧ r ≤ 6 := by omega
  have hn' : (n : Int) + r = 6 := by omega
  have dr := tp_dg_r Res 9
  obtain ⟨mm, hmm⟩ : ∃ mm : Nat, tp_dg Res 9 = mm := ⟨(tp_dg Res 9).toNat, by omega⟩
  obtain ⟨fs, fo⟩ := fzl_sum h.1 (mon_mo h.1 hmm hRo)
  have fl := fsm_len fo
  have hF : tgF (312 + 21 * r) := tgF_l (by omega)
  obtain ⟨V, v1, v2, v3⟩ := (s_find (M := C) (p := p) (a := a1) h.1 hF ta al (by omega)).2 (by rw [hrs]; exact hdg)
  rw [hrs] at v2
  have c10 : C 1 0 = p := hL.1.1.1
  have fv : ∀ c k, ¬ (312 + 21 * r ≤ c ∧ c ≤ 312 + 21 * r + 20) → V c k = C c k := v3
  have nk24 : nk ≤ 24 ∧ ns ≤ 48 ∧ nl ≤ 16 := by
    have p1 := Int.mul_nonneg (a := tp_dg Res 9) (b := E) hdg (by omega)
    have p2 := Int.mul_nonneg p1 (show 0 ≤ 6 - r by omega)
    omega
  have kv : ∀ c k, kpC r nk ns nl c k → V c k = C c k := fun c k hh => fv c k (by
    unfold kpC at hh
    rcases hh with hh | hh | hh | hh | hh | hh | hh | hh | hh | hh | hh | hh <;> omega)
  have Rel1 : Rel V R nk ns nl := Rel_fr (r := r) hRel kv (fun _ _ _ => rfl) ⟨fv _ _ (by omega), fv _ _ (by omega), fv _ _ (by omega)⟩ ⟨rfl, rfl, rfl⟩
  have L1 : Lnk V R p K P r x kn E nk D e s rt kf mo q f := by
    obtain ⟨⟨⟨a1, a2, a3⟩, a4⟩, b, c0, h1⟩ := hL
    refine ⟨⟨⟨by rw [fv _ _ (by omega)]; exact a1, by rw [fv _ _ (by omega)]; exact a2, by rw [fv _ _ (by omega)]; exact a3⟩, fun k k0 k1 => by rw [fv _ _ (by omega)]; exact a4 k k0 k1⟩, b, c0, fun r1 => ?_⟩
    obtain ⟨d0, d1, ⟨d2, d3, d4⟩, d5, d6, d7, d8, d9, d12, d13, d14⟩ := h1 r1
    have kb := d12 r r1 (Int.le_refl _)
    rw [d8] at kb
    exact ⟨d0, WyC_fr d1 (fun c k hh => fv c k (by omega)), ⟨by rw [fv _ _ (by omega)]; exact d2, by rw [fv _ _ (by omega)]; exact d3, fun j j0 j1 => by rw [fv _ _ (by omega)]; exact d4 j j0 j1⟩, d5, d6, d7, d8, d9, d12, by rw [fv _ _ (by omega)]; exact d13, by rw [fv _ _ (by omega)]; exact d14⟩
  rw [hmm] at hW b1 b2 b3 ⊢
  obtain ⟨C', R', nk', ns', nl', c, q1, q2, q3, q4, q5⟩ := s_FL (n := n) (j := j) hG h hr hn' hf hRo hdg ⟨j0, j1⟩ hE fo (by omega) (fzl p (mon p Res)).length tp_N 0 V R nk ns nl (by unfold tp_N; omega) (by omega) Rel1 L1 hS v2 hx hk0 hs0 hl0 (by rw [List.drop_zero, fs]; exact hW) (by rw [List.drop_zero, fs]; exact b1) (by rw [List.drop_zero, fs]; exact b2) (by rw [List.drop_zero, fs]; exact b3)
  rw [List.drop_zero, fs] at q2
  refine ⟨C', R', nk', ns', nl', c, ?_, q2, q3, fun c k hh => ?_, q5⟩
  · show fo_X1_branch (fo_X1_growKnot (tp_br n)) r a1 E (if r = 0 then -2 else kn) C = some C'
    unfold fo_X1_branch
    rw [if_pos ta, if_neg (by omega), if_neg (by omega), if_pos (by omega)]
    unfold fo_X1_branch_20
    rw [if_neg (by omega), if_pos hF.1, c10, v1, Option.bind_some, if_pos (show ¬ ((1 : Int) = 0) by decide)]
    exact q1
  · rw [q4 c k (kpB_S hr nk24.1 nk24.2.1 nk24.2.2 hh)]
    refine fv c k ?_
    rcases hh with hh | hh | hh | hh
    · unfold kpC at hh
      rcases hh with hh | hh | hh | hh | hh | hh | hh | hh | hh | hh | hh | hh <;> omega
    · omega
    · omega
    · omega
