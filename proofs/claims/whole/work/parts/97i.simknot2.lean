set_option maxHeartbeats 4000000 in
set_option maxRecDepth 100000 in
theorem s_GK2 {n : Nat} (hB : BrOk n) {C1 C2 R R1 : tp_M} {p K P r ρ kn j E nk ns nl m : Int} {i : Nat} {D e s rt kf : Int → Int} {mo q : Int → Int → Int} {f Y w : Int → Int} {z : Int} {l : List (Int × Int)} (h : pKP p K P) (hr : 0 ≤ r ∧ r ≤ 5) (hρ : ρ = r + 1) (hn : (n : Int) + r = 6) (hn0 : n ≠ 0) (hf : inP P f 0 9) (hm2 : 2 ≤ m ∧ m ≤ 8) (hE : 1 ≤ E) (hmE : m * E ≤ 8) (hD : D ρ = E) (hE4 : E ≤ 4) (hg : cxg p P ρ D e s rt mo q) (hK : KnP p K P ρ m D e s rt mo q f Y w z l) (hRel : Rel C1 R nk ns nl) (hC : KnC C2 C1 p K P ρ m nk ns nl (if r = 0 then -2 else kn) D e s rt mo q f Y w z l) (hR : SpK R1 R p K r kn j m nk ns nl i D e s rt kf mo q Y w z l) (hkf : kf ρ = nk) (hkn : ∀ k, 1 ≤ k → k < ρ → 0 ≤ kf k ∧ kf k < nk) (hRp : R 483 0 = p ∧ R 483 2 = P ∧ ∀ k, 0 ≤ k → k < 9 → R 495 k = f k) (h0 : r = 0 → D 1 = 1) (h1 : 1 ≤ r → (0 ≤ kn ∧ kn < nk) ∧ C1 (46 + 3 * kn) 0 = r ∧ C1 (46 + 3 * kn) 2 = D r ∧ D (r + 1) = D r * e r) (h61 : R 483 61 = r) (hst : f_X11_steps R = some R1) (hk0 : 0 ≤ nk) (hs0 : 0 ≤ ns) (hl0 : 0 ≤ nl) (b1 : 2 * nk + m * E * (6 - r) ≤ 48) (b2 : ns + m * E * (6 - r) ≤ 48) (b3 : nl + m * E ≤ 16) : ∃ (C' R' : tp_M) (nk' ns' nl' : Int) (c : Nat), fo_X1_growKnot_171 (tp_br n) ρ E (46 + 3 * nk) nk 0 C2 = some C' ∧ Gro C' R R' nk ns nl nk' ns' nl' (m * E) (6 - r) c 0 ∧ (R' 529 r = j ∧ R' 530 r = ((i + 1 : Nat) : Int) ∧ R' 483 61 = r) ∧ (∀ c k, kpC ρ nk ns nl c k → C' c k = C1 c k) ∧ ∀ c k, chS r nk ns nl c k → R' c k = R c k := by
  have hρ6 : 1 ≤ ρ ∧ ρ ≤ 6 := by omega
  have kle := hK.le
  have kln := hK.ln
  have kz := hK.z0
  have len0 : (0 : Int) ≤ l.length := by omega
  obtain ⟨m8, E4, nk24, nsm, nl16⟩ := budK (v := 6 - r) hm2.1 hE hmE (by omega) b1 b2 b3
  obtain ⟨w1, w2, w3, w4, w5⟩ := budK2 (v := 6 - ρ) hm2.1 hE (by omega) kz kln ⟨len0, kle⟩
  rw [show 6 - ρ + 1 = 6 - r by omega] at w3 w4
  have Rel2 : Rel C2 R1 (nk + 1) (ns + l.length) (nl + lz z) := by
    subst hρ
    exact Rel_knot hRel hr hk0 hs0 (by omega) kz hK.wb (by rw [hD]; omega) (by rw [hD]; exact hmE) hC hR hkf h0 h1
  obtain ⟨⟨s1, s2, s3, s4⟩, ⟨s5, s6⟩, s7, s8, s9, s10, s11⟩ := hR
  rw [← hρ] at s1 s2 s3 s4 s9
  have KS : KnS C2 p K ρ nk ns D e s rt mo Y w l := by
    obtain ⟨y0, y1, y2, y3, y4, y5, y6, y7⟩ := hC.kf
    exact ⟨⟨y0, y2, y6, y7⟩, hC.sd⟩
  have lz0 : 0 ≤ lz z ∧ lz z ≤ 1 := by unfold lz; split <;> omega
  have kfb : ∀ k, 1 ≤ k → k ≤ ρ → 0 ≤ kf k ∧ kf k < nk + 1 := fun k k0 k1 => by
    by_cases c : k = ρ
    · rw [c, hkf]; omega
    · have := hkn k k0 (by omega); omega
  obtain ⟨C3, R3, nk', ns', nl', c, q1, q2, ⟨q3, q4⟩, q5, q6⟩ := s_SL (n := n) (kn := nk) (ns0 := ns) hB h hρ6 (by omega) hn0 hf hg hK m8 hkf hs0 l.length tp_N 0 C2 R1 (nk + 1) (ns + l.length) (nl + lz z) (by unfold tp_N; omega) (by omega) Rel2 KS hC.wy s9 kfb ⟨by rw [s11 _ _ (chS_u (Or.inl ⟨rfl, by decide⟩))]; exact hRp.1, by rw [s11 _ _ (chS_u (Or.inl ⟨rfl, by decide⟩))]; exact hRp.2.1, fun k k0 k1 => by rw [s11 _ _ (chS_u (Or.inr (Or.inl rfl)))]; exact hRp.2.2 k k0 k1⟩ s2 ⟨s3, s4, s1⟩ (Int.le_refl _) (by omega) (by rw [List.drop_zero, hD]; omega) (by rw [List.drop_zero, hD]; omega) (by rw [List.drop_zero, hD]; omega) (by rw [List.drop_zero, hD]; omega)
  rw [List.drop_zero, hD] at q2
  rw [hD] at q1
  obtain ⟨g1, ⟨g2, g3, g4⟩, ⟨g5, g6, g7⟩, g8, g9⟩ := q2
  have e28 : R3 528 ρ = nk := by rw [q6 _ _ (chS_u (Or.inr (Or.inr (Or.inl ⟨rfl, Int.le_refl _⟩))))]; exact s2
  have e00 : R3 500 nk = l.length := by rw [q6 _ _ (chS_tr (Or.inr (Or.inl ⟨by decide, by decide, by omega⟩)))]; exact s10.1.2.1
  have pop := s_stepPop (R := R3) (r := ρ) (kn := nk) hρ6 q4 e28 (by omega) (by rw [q3, e00])
  rw [show ρ - 1 = r by omega] at pop
  have f4 : ∀ c k, ¬ (c = 483 ∧ k = 61) → tp_up R3 483 61 r c k = R3 c k := fun c k hh => up_ne hh
  have ch : ∀ c k, chS r nk ns nl c k → tp_up R3 483 61 r c k = R c k := fun c k hh => by
    rw [f4 c k (fun y => hh.2.1 ⟨y.1, by have := y.2; omega⟩), q6 c k (chS_mono hh (by omega) (by omega) (by omega) (by omega)), s11 c k hh]
  refine ⟨C3, tp_up R3 483 61 r, nk', ns', nl', 1 + c + 1, q1, ⟨Rel_fr (ρ := ρ) (r := ρ) g1 (fun _ _ _ => rfl) (fun c k hh => f4 c k (fun y => hh.2.1 ⟨y.1, by have := y.2; omega⟩)) ⟨rfl, rfl, rfl⟩ ⟨f4 _ _ (by decide), f4 _ _ (by decide), f4 _ _ (by decide)⟩, ⟨by omega, by omega, by omega⟩, ⟨by omega, by omega, by omega⟩, rn_add (rn_add (rn_one (by omega) hst) g8) (rn_one (by omega) pop), by omega⟩, ⟨?_, ?_, up_eq ⟨rfl, rfl⟩⟩, fun c k hh => ?_, ch⟩
  · rw [f4 _ _ (by omega), q6 _ _ (chS_u (Or.inr (Or.inr (Or.inr ⟨Or.inl rfl, by omega⟩))))]; exact s5
  · rw [f4 _ _ (by omega), q6 _ _ (chS_u (Or.inr (Or.inr (Or.inr ⟨Or.inr rfl, by omega⟩))))]; rw [s6]; omega
  · rw [q5 c k (kpC_mono hh (Int.le_refl _) (by omega) (by omega) (by omega)), hC.fr c k hh]
set_option maxHeartbeats 4000000 in
set_option maxRecDepth 100000 in
theorem s_GK {n : Nat} (hB : BrOk n) : GkOk n := by
  intro C R p K P r x kn j E nk ns nl m i D e s rt kf mo q f Res fe h hr0 hn hn0 hf hRo hdg hRel hL hS j0 j1 hx hE hi hl9 hf1 hm hm2 hmE hv hk0 hs0 hl0 b1 b2 b3
  have hr : 0 ≤ r ∧ r ≤ 5 := by omega
  have hp2 := pm_2 h.1
  obtain ⟨m8, E4, nk24, nsm, nl16⟩ := budK (v := 6 - r) hm2 hE hmE (by omega) b1 b2 b3
  obtain ⟨ρ, hρ⟩ : ∃ ρ, ρ = r + 1 := ⟨_, rfl⟩
  have rb : 0 ≤ (p - fe.2.2 0) % p ∧ (p - fe.2.2 0) % p < p := ⟨Int.emod_nonneg _ (by omega), Int.emod_lt_of_pos _ (by omega)⟩
  obtain ⟨kq, hkq⟩ : ∃ kq, kq = nwK p K P ρ e (ud rt r ((p - fe.2.2 0) % p)) mo q := ⟨_, rfl⟩
  have kro : Ro P kq := by rw [hkq]; exact nwK_ro h
  have hq : ud q ρ kq ρ = nwK p K P ρ e (ud rt r ((p - fe.2.2 0) % p)) mo (ud q ρ kq) := by
    rw [ud_at, hkq]
    exact nwK_cong (by omega) (fun k k0 k1 => ⟨rfl, rfl, (ud_ne (by omega)).symm⟩) rfl
  have hg := cxg_kid (E := E) hr hρ hL E4 rb kro
  have hWL := WyL_child (root := (p - fe.2.2 0) % p) (kq := kq) hr hρ hL
  have hρ6 : 1 ≤ ρ ∧ ρ ≤ 6 := by omega
  have eE : ud D ρ E ρ = E := ud_at
  obtain ⟨Y, w, z, l, hK⟩ := kn_pure (m := m) h hg hρ6 ⟨hm2, m8⟩ (by rw [eE]; exact hmE) hf
  have kle := hK.le
  have kln := hK.ln
  have kz := hK.z0
  have len0 : (0 : Int) ≤ l.length := by omega
  obtain ⟨w1, w2, w3, w4, w5⟩ := budK2 (v := 6 - ρ) hm2 hE (by omega) kz kln ⟨len0, kle⟩
  rw [show 6 - ρ + 1 = 6 - r by omega] at w3 w4
  generalize hroot : (p - fe.2.2 0) % p = root at *
  have u3 : ∀ c k, ¬ (c = 283 ∧ k = r) → tp_up C 283 r root c k = C c k := fun c k hc => up_ne hc
  generalize hC1 : tp_up C 283 r root = C1 at *
  have k1 : ∀ c k, kpC r nk ns nl c k → C1 c k = C c k := fun c k hh => u3 c k (fun y => by
    rw [y.1, y.2] at hh
    exact kpC_n283 (by omega) (by omega) (by omega) (by omega) hh)
  have Rel1 : Rel C1 R nk ns nl := Rel_fr (r := r) hRel k1 (fun _ _ _ => rfl) ⟨u3 _ _ (by omega), u3 _ _ (by omega), u3 _ _ (by omega)⟩ ⟨rfl, rfl, rfl⟩
  obtain ⟨C2, y1, y2⟩ := s_knotC (br := tp_br n) (C := C1) (kn := (if r = 0 then -2 else kn)) (nk := nk) (ns := ns) (nl := nl) h hg hρ6 ⟨hm2, m8⟩ (by rw [eE]; exact hmE) hf hK hq hWL (by rw [show ρ - 1 = r by omega, ud_at]; exact rb) Rel1.1.1 Rel1.1.2.1 Rel1.1.2.2 ⟨hk0, nk24⟩ ⟨hs0, by omega⟩ ⟨hl0, nl16⟩
  have sp := s_kid (C := C) (i := i) (j := j) (kq := kq) (Y := Y) (w := w) (z := z) (l := l) h hr hρ hf hRo hdg hRel hL hS ⟨j0, by omega⟩ hi hl9 hf1 hm ⟨hm2, m8⟩ hv (by rw [hroot]; exact hg) hmE (by rw [hroot]; exact hK) (by rw [hroot]; exact hq) ⟨hk0, by omega⟩ ⟨hs0, by omega⟩ ⟨hl0, by omega⟩
  rw [hroot] at sp
  obtain ⟨R1, v1, v2⟩ := sp
  obtain ⟨C', R', nk', ns', nl', c, z1, z2, z3, z4, z5⟩ := s_GK2 (n := n) hB (C1 := C1) (R := R) h hr hρ hn hn0 hf ⟨hm2, m8⟩ hE hmE eE E4 hg hK Rel1 y2 v2 ud_at (fun k k0 k1 => by
    rw [ud_ne (by omega)]
    obtain ⟨_, _, _, _, _, _, _, _, d12, _⟩ := hL.2.2.2 (by omega)
    exact d12 k k0 (by omega)) hL.2.1 (fun r0 => by
    have e1 : ρ = 1 := by omega
    rw [e1, ud_at]; exact hL.2.2.1 r0) (fun r1 => by
    obtain ⟨d0, _, _, _, _, _, d8, _, d12, d13, d14⟩ := hL.2.2.2 r1
    have kb := d12 r r1 (Int.le_refl _)
    rw [d8] at kb
    exact ⟨kb, by rw [u3 _ _ (by omega)]; exact d13, by rw [u3 _ _ (by omega), ud_ne (by omega)]; exact d14, by rw [← hρ, ud_at, ud_ne (by omega)]; exact d0⟩) hS.2.1 v1 hk0 hs0 hl0 b1 b2 b3
  refine ⟨C', R', nk', ns', nl', c, ?_, z2, z3, fun c k hh => ?_, z5⟩
  · rw [← z1, ← eE, ← hρ]; exact y1
  · rw [z4 c k (by rw [hρ]; exact hh.1), u3 c k hh.2]
/-- every branch -/
theorem br_all : ∀ n : Nat, BrOk n := by
  intro n
  induction n with
  | zero => intro C R p K P r x kn j E nk ns nl a1 D e s rt kf mo q f Res _ _ _ h0; exact absurd rfl h0
  | succ n ih => exact s_BR (fun _ => s_GK ih)
