/-- what making a later knot changes, before it is laid -/
def chL (nk c k : Int) : Prop := ¬ (c = 483 ∧ k = 21) ∧ ¬ (496 ≤ c ∧ c ≤ 498 ∧ k = nk) ∧ ¬ (c = 488 ∧ 9 * nk ≤ k ∧ k < 9 * nk + 9) ∧ c ≠ 527 ∧ ¬ (c = 504 ∧ k = nk) ∧ ¬ (c = 505 ∧ k = nk) ∧ ¬ (c = 506 ∧ k = nk) ∧ ¬ (c = 507 ∧ 7 * nk ≤ k ∧ k < 7 * nk + 7)
theorem keyAt_ne {M N : tp_M} {a nk : Int} (ha : a ≠ nk) (h : ∀ k, ¬ (9 * nk ≤ k ∧ k < 9 * nk + 9) → N 488 k = M 488 k) : keyAt N a = keyAt M a := keyAt_cong (fun j j0 j1 => h _ (by omega))
set_option maxHeartbeats 4000000 in
set_option maxRecDepth 100000 in
theorem s_laterK {T : tp_M} {p K P r m nk kn x v E S : Int} {i : Nat} {D e s kf mm : Int → Int} {q : Int → Int → Int} (h : pKP p K P) (hp : T 483 0 = p) (hP : T 483 2 = P) (hi : i < 9) (d1 : T 490 i = 1) (d2 : T 491 i = m) (hm : 2 ≤ m ∧ m ≤ 8) (hv : T 492 (9 * i) = v) (hv2 : 0 ≤ v ∧ v < p) (h21 : T 483 21 = nk) (hnk : 0 ≤ nk ∧ nk < 40) (hr : 1 ≤ r ∧ r ≤ 5) (hC : CxR T r D e s kf q) (hkr : kf r = kn) (hne : ∀ k, 1 ≤ k → k ≤ r → kf k ≠ nk) (h496 : T 496 kn = r) (hx : 0 ≤ x ∧ x < 60) (he : T 511 x = E) (hE : 0 ≤ E ∧ E ≤ 8) (hD : 0 ≤ D r ∧ D r ≤ 8) (hS : T 513 x = S) (hmm : ∀ t, 0 ≤ t → t < 7 → T 514 (7 * x + t) = mm t) (hm0 : mm 0 ≤ 10000) (hm1 : ∀ t, 1 ≤ t → t < r → mm t ≤ 1000) (hq : ∀ k, 1 ≤ k → k ≤ r → Ro P (q k)) : ∃ N, f_X11_takesFactor kn x i T = f_X11_goesInto nk N ∧ keyAt N nk = kyP P (pwr p K (mm 0)) ((p - v) % p) E.toNat (q r) q mm (r - 1).toNat ∧ N 483 21 = nk + 1 ∧ (N 496 nk = r + 1 ∧ N 497 nk = m ∧ N 498 nk = kn) ∧ (N 504 nk = E ∧ N 505 nk = S ∧ N 506 nk = (p - v) % p ∧ ∀ t, 0 ≤ t → t < 7 → N 507 (7 * nk + t) = mm t) ∧ ∀ c k, chL nk c k → N c k = T c k := by
  have hp2 := pm_2 h.1
  obtain ⟨c1, c2, c3⟩ := hC
  have ck := c2 r hr.1 (Int.le_refl _)
  have kb : 0 ≤ kn ∧ kn < 40 := by rw [← hkr]; exact ck.2.2.1
  have kne : kn ≠ nk := by rw [← hkr]; exact hne r hr.1 (Int.le_refl _)
  obtain ⟨N1, n1, n2, n3, n4, n5⟩ := s_newKnot (M := T) (a := kn) (m := m) (nk := nk) (lv := r + 1) h21 hnk (Or.inr ⟨kb, by rw [h496]⟩) (by omega)
  have rb : 0 ≤ (p - v) % p ∧ (p - v) % p < p := ⟨Int.emod_nonneg _ (by omega), Int.emod_lt_of_pos _ (by omega)⟩
  have ro := s_rootOf (M := T) (p := p) (i := i) (v := v) hp2 hp (by omega) hv hv2
  have i9 : 0 ≤ (i : Int) ∧ (i : Int) < 9 := by omega
  have r8 : 0 ≤ r ∧ r < 8 := by omega
  have x64 : 0 ≤ x ∧ x < 64 := by omega
  have mDE := mulB (x := D r) (y := E) (a := 8) (b := 8) hD hE
  have w1 : tp_w (D r * E) = D r * E := ho_w (by omega) (by omega)
  have m1 : ¬ m = 1 := by omega
  have r6 : ¬ r = 6 := by omega
  generalize (p - v) % p = rt at *
  have g1 : ∀ c k, 499 ≤ c → N1 c k = T c k := fun c k hc => n5 c k (fun x => by omega) (fun x => by omega) (fun x => by omega)
  have g2 : ∀ k, k ≠ 21 → N1 483 k = T 483 k := fun k hk => n5 _ _ (fun x => hk x.2) (fun x => absurd x.1 (by decide)) (fun x => absurd x.1 (by decide))
  have gk : ∀ a, a ≠ nk → keyAt N1 a = keyAt T a := fun a ha => keyAt_ne ha (fun k hk => n5 _ _ (fun x => absurd x.1 (by decide)) (fun x => absurd x.1 (by decide)) (fun x => hk x.2))
  have kq : keyAt N1 kn = q r := by rw [gk kn kne, ← hkr]; exact ck.2.2.2
  have e0 : N1 514 (7 * x) = mm 0 := by rw [g1 _ _ (by decide)]; have := hmm 0 (by decide) (by decide); rw [Int.add_zero] at this; exact this
  have eE : N1 511 x = E := by rw [g1 _ _ (by decide)]; exact he
  obtain ⟨N2, k1, k2, k3⟩ := s_laysKey (M := N1) (p := p) (K := K) (P := P) (to := nk) (kn := kn) (sd := x) (rt := rt) (r := r) (q := q) (t := mm) (kf := kf) h (by rw [g2 _ (by decide)]; exact hp) (by rw [g2 _ (by decide)]; exact hP) hnk kb (fun k k0 k1 => hne k k0 (by omega)) x64 (by omega) (by rw [g2 _ (by decide)]; exact c1) (fun k k0 k1 => hq k k0 (by omega)) (by rw [kq]; exact hq r hr.1 (Int.le_refl _)) (by rw [eE]; omega) hm1 (fun k k0 k1 => (c2 k k0 (by omega)).2.2.1) (fun k k0 k1 => ⟨by rw [g1 _ _ (by decide)]; exact (c2 k k0 (by omega)).2.1, by rw [gk _ (hne k k0 (by omega))]; exact (c2 k k0 (by omega)).2.2.2⟩) (fun k k0 k1 => by rw [g1 _ _ (by decide)]; exact hmm k (by omega) (by omega)) (by rw [e0]; exact hm0) rb
  rw [e0, eE, kq] at k2
  have f2 : ∀ c k, c ≠ 527 → c ≠ 488 → N2 c k = N1 c k := fun c k x1 x2 => k3 c k x1 (fun hh => x2 hh.1)
  generalize hN5 : tp_up (tp_up (tp_up N2 504 nk E) 505 nk S) 506 nk rt = N5
  have f5 : ∀ c k, ¬ (c = 504 ∧ k = nk) → ¬ (c = 505 ∧ k = nk) → ¬ (c = 506 ∧ k = nk) → N5 c k = N2 c k := fun c k x1 x2 x3 => by rw [← hN5, up_ne x3, up_ne x2, up_ne x1]
  refine ⟨tp_wr N5 507 (7 * nk) 7 (fun t => N5 514 (7 * x + t)), ?_, ?_, ?_, ⟨?_, ?_, ?_⟩, ⟨?_, ?_, ?_, fun t t0 t1 => ?_⟩, fun c k hc => ?_⟩
  · unfold f_X11_takesFactor
    have y1 : N2 511 x = E := by rw [f2 _ _ (by decide) (by decide)]; exact eE
    have y2 : tp_up N2 504 nk E 513 x = S := by rw [up_ne (fun hh => absurd hh.1 (by decide)), f2 _ _ (by decide) (by decide), g1 _ _ (by decide)]; exact hS
    simp only [tp_lt, tp_mp, d1, d2, c1, ck.1, he, w1]
    rw [if_pos i9, if_pos i9, if_pos r8, if_pos x64, if_pos m1, if_pos (by decide), if_pos r6, ro, Option.bind_some, n1, Option.bind_some]
    simp only
    rw [k1, Option.bind_some, if_pos x64, if_pos hnk, y1, if_pos x64, if_pos hnk, y2, if_pos hnk, hN5]
    exact s_tf172 hx hnk
  · rw [← k2]
    exact keyAt_cong (fun j j0 j1 => by rw [wr_out (fun hh => absurd hh.1 (by decide)), f5 _ _ (fun hh => absurd hh.1 (by decide)) (fun hh => absurd hh.1 (by decide)) (fun hh => absurd hh.1 (by decide))])
  · rw [wr_out (fun hh => absurd hh.1 (by decide)), f5 _ _ (fun hh => absurd hh.1 (by decide)) (fun hh => absurd hh.1 (by decide)) (fun hh => absurd hh.1 (by decide)), f2 _ _ (by decide) (by decide)]; exact n2
  · rw [wr_out (fun hh => absurd hh.1 (by decide)), f5 _ _ (fun hh => absurd hh.1 (by decide)) (fun hh => absurd hh.1 (by decide)) (fun hh => absurd hh.1 (by decide)), f2 _ _ (by decide) (by decide)]; exact n3.1
  · rw [wr_out (fun hh => absurd hh.1 (by decide)), f5 _ _ (fun hh => absurd hh.1 (by decide)) (fun hh => absurd hh.1 (by decide)) (fun hh => absurd hh.1 (by decide)), f2 _ _ (by decide) (by decide)]; exact n3.2.1
  · rw [wr_out (fun hh => absurd hh.1 (by decide)), f5 _ _ (fun hh => absurd hh.1 (by decide)) (fun hh => absurd hh.1 (by decide)) (fun hh => absurd hh.1 (by decide)), f2 _ _ (by decide) (by decide)]; exact n3.2.2
  · rw [wr_out (fun hh => absurd hh.1 (by decide)), ← hN5, up_ne (fun hh => absurd hh.1 (by decide)), up_ne (fun hh => absurd hh.1 (by decide)), up_eq ⟨rfl, rfl⟩]
  · rw [wr_out (fun hh => absurd hh.1 (by decide)), ← hN5, up_ne (fun hh => absurd hh.1 (by decide)), up_eq ⟨rfl, rfl⟩]
  · rw [wr_out (fun hh => absurd hh.1 (by decide)), ← hN5, up_eq ⟨rfl, rfl⟩]
  · rw [wr_in ⟨rfl, by omega, by omega⟩, show 7 * nk + t - 7 * nk = t by omega, f5 _ _ (fun hh => absurd hh.1 (by decide)) (fun hh => absurd hh.1 (by decide)) (fun hh => absurd hh.1 (by decide)), f2 _ _ (by decide) (by decide), g1 _ _ (by decide)]; exact hmm t t0 t1
  · obtain ⟨z1, z2, z3, z4, z5, z6, z7, z8⟩ := hc
    rw [wr_out z8, f5 c k z5 z6 z7, k3 c k z4 z3, n5 c k z1 z2 z3]
