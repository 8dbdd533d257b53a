theorem chL_t {nk c k : Int} (hc : (489 ≤ c ∧ c ≤ 495) ∨ (499 ≤ c ∧ c ≤ 503) ∨ (508 ≤ c ∧ c ≤ 526) ∨ 528 ≤ c ∨ ((496 ≤ c ∧ c ≤ 506) ∧ k ≠ nk) ∨ (c = 483 ∧ k ≠ 21)) : chL nk c k := by
  unfold chL
  refine ⟨?_, ?_, ?_, ?_, ?_, ?_, ?_, ?_⟩ <;> omega
set_option maxHeartbeats 4000000 in
set_option maxRecDepth 100000 in
theorem s_stepKnot1 {R : tp_M} {p K P r x kn j m nk ns nl : Int} {i : Nat} {Res : Int → Int} {D e s rt kf : Int → Int} {mo q : Int → Int → Int} {f Y w : Int → Int} {z : Int} {l : List (Int × Int)} {fe : Fent} (h : pKP p K P) (hr : 1 ≤ r ∧ r ≤ 5) (hRo : Ro p Res) (hdg : 0 ≤ tp_dg Res 9) (hj : 0 ≤ j ∧ j ≤ 100) (hS : stR R p r x kn j i Res) (hi : (fzl p (mon p Res))[i]? = some fe) (hn9 : (fzl p (mon p Res)).length ≤ 9) (hf1 : fe.1 = 1) (hm : (fe.2.1 : Int) = m) (hm2 : 2 ≤ m ∧ m ≤ 8) (hv : 0 ≤ fe.2.2 0 ∧ fe.2.2 0 < p) (hg : cxg p P (r + 1) D e s rt mo q) (hmD : m * D (r + 1) ≤ 8) (hf : inP P f 0 9) (hK : KnP p K P (r + 1) m D e s rt mo q f Y w z l) (hq : q (r + 1) = nwK p K P (r + 1) e rt mo q) (hrt : rt r = (p - fe.2.2 0) % p) (hW : WyR R r e s rt kf mo q) (hkr : kf r = kn) (h511 : R 511 x = e r) (h513 : R 513 x = s r) (h514 : ∀ t, 0 ≤ t → t < 7 → R 514 (7 * x + t) = mo r t) (hm0 : mo r 0 ≤ 10000) (hkf : kf (r + 1) = nk) (hne : ∀ k, 1 ≤ k → k ≤ r → kf k ≠ nk) (hgr : cxg p P r D e s rt mo q) (hP : R 483 2 = P) (hfR : ∀ k, 0 ≤ k → k < 9 → R 495 k = f k) (h21 : R 483 21 = nk) (h22 : R 483 22 = ns) (h23 : R 483 23 = nl) (hnk : 0 ≤ nk ∧ nk < 40) (hns : 0 ≤ ns ∧ ns + l.length ≤ 60) (hnl : 0 ≤ nl ∧ nl < 20) : ∃ R', f_X11_steps R = some R' ∧ SpK R' R p K r kn j m nk ns nl i D e s rt kf mo q Y w z l := by
  obtain ⟨V, v1, v2, v3⟩ := s_stepV h.1 (by omega) hRo hdg hj hS
  obtain ⟨h1, h2, h3, h4, h5, h6⟩ := hS
  obtain ⟨_, kb, _, _, xb, _⟩ := h6 hr.1
  clear h5 h6
  have il : i < (fzl p (mon p Res)).length := by obtain ⟨q1, _⟩ := List.getElem?_eq_some_iff.mp hi; exact q1
  have i9 : i < 9 := Nat.lt_of_lt_of_le il hn9
  have fV : ∀ c k, 495 ≤ c ∨ c = 488 ∨ (c = 483 ∧ k ≠ 11 ∧ k ≠ 12) → V c k = R c k := fun c k hc => v3 c k (by omega) (by omega)
  obtain ⟨l1, l2, l3⟩ := v2.2 i fe hi
  have est := stE_F (V := V) (kn := kn) (x := x) (r := r) (i := i) (by omega) (by rw [fV _ _ (Or.inr (Or.inr ⟨rfl, by decide, by decide⟩))]; exact h2) (by rw [fV _ _ (Or.inl (by decide))]; exact h4) v2.1 il hn9
  rw [if_pos (show ¬ r = 0 by omega)] at est
  generalize hM9 : tp_up V 530 r ((i : Int) + 1) = M9 at est
  have f9 : ∀ c k, ¬ (c = 530 ∧ k = r) → M9 c k = V c k := fun c k g => by rw [← hM9, up_ne g]
  have fM : ∀ c k, 495 ≤ c ∧ c ≤ 529 ∨ c = 488 ∨ (c = 483 ∧ k ≠ 11 ∧ k ≠ 12) → M9 c k = R c k := fun c k hc => by rw [f9 _ _ (by omega), fV _ _ (by omega)]
  obtain ⟨cb, cc, co, cd⟩ := cxg_b hgr hr.1
  have W9 : WyR M9 r e s rt kf mo q := WyR_fr hW (fun c i hc _ => fM c i (by omega)) (fun k j _ _ _ _ => fM _ _ (Or.inr (Or.inl rfl))) (fun k j _ _ _ _ => fM _ _ (by omega))
  obtain ⟨T, t1, t2, t3, t4⟩ := s_takesKnotW (R := M9) cb hgr.1 (by omega) W9
  rw [hkr] at t1
  have fT : ∀ c k, (495 ≤ c ∧ c ≤ 520) ∨ (526 ≤ c ∧ c ≤ 529) ∨ c = 488 ∨ (c = 483 ∧ k ≠ 11 ∧ k ≠ 12 ∧ k ≠ 49) → T c k = R c k := fun c k hc => by rw [t4 _ _ (by omega) (by omega), fM _ _ (by omega)]
  have gT : ∀ c k, 489 ≤ c ∧ c ≤ 494 → T c k = V c k := fun c k hc => by rw [t4 _ _ (by omega) (by omega), f9 _ _ (by omega)]
  have T3 : ∀ k, k ≠ 11 → k ≠ 12 → k ≠ 49 → T 483 k = R 483 k := fun k x1 x2 x3 => fT _ _ (Or.inr (Or.inr (Or.inr ⟨rfl, x1, x2, x3⟩)))
  have e0 : T 492 (9 * i) = fe.2.2 0 := by rw [gT _ _ (by decide)]; have := l3 0 (by decide) (by decide); rw [Int.add_zero] at this; exact this
  have ge := cxg_e hg r hr.1 (by omega)
  have gm := (hg.2.2.2 r hr.1 (by omega)).2.2.2.2.1
  have k6 : T 496 kn = r := by rw [fT _ _ (Or.inl (by decide)), ← hkr]; exact (hW.1 r hr.1 (Int.le_refl _)).2.1
  obtain ⟨N, n1, n2, n3, n4, n5, n6⟩ := s_laterK (T := T) (p := p) (K := K) (P := P) (r := r) (m := m) (nk := nk) (kn := kn) (x := x) (v := fe.2.2 0) (E := e r) (S := s r) (i := i) (mm := mo r) h (by rw [T3 _ (by decide) (by decide) (by decide)]; exact h1) (by rw [T3 _ (by decide) (by decide) (by decide)]; exact hP) i9 (by rw [gT _ _ (by decide), l1, hf1]; rfl) (by rw [gT _ _ (by decide), l2]; exact hm) hm2 e0 hv (by rw [T3 _ (by decide) (by decide) (by decide)]; exact h21) hnk hr t2 hkr hne k6 xb (by rw [fT _ _ (Or.inl (by decide))]; exact h511) (by omega) (by omega) (by rw [fT _ _ (Or.inl (by decide))]; exact h513) (fun t t0 t1 => by rw [fT _ _ (Or.inl (by decide))]; exact h514 t t0 t1) hm0 (fun t t0 t1 => by
    have := gm t t0 t1
    have := cxg_e hg t t0 (by omega)
    omega) hgr.2.2.1
  have fN : ∀ c k, chL nk c k → (495 ≤ c ∧ c ≤ 520) ∨ (526 ≤ c ∧ c ≤ 529) ∨ c = 488 ∨ (c = 483 ∧ k ≠ 11 ∧ k ≠ 12 ∧ k ≠ 49) → N c k = R c k := fun c k x1 x2 => by rw [n6 c k x1, fT c k x2]
  have N3 : ∀ k, k ≠ 11 → k ≠ 12 → k ≠ 49 → k ≠ 21 → N 483 k = R 483 k := fun k x1 x2 x3 x4 => fN _ _ (chL_t (by omega)) (Or.inr (Or.inr (Or.inr ⟨rfl, x1, x2, x3⟩)))
  have WN : WyR N (r + 1) e s rt kf mo q := by
    refine ⟨fun k k0 k1 => ?_, fun k k0 k1 => ?_⟩
    · by_cases c : k = r + 1
      · subst c
        rw [hkf]
        refine ⟨hnk, n4.1, ?_, fun _ => by rw [n4.2.2, ← hkr, show r + 1 - 1 = r by omega]⟩
        rw [n2, hq, ← hrt]
        unfold nwK
        rw [if_neg (show ¬ r + 1 = 1 by omega), show r + 1 - 1 = r by omega, show r + 1 - 2 = r - 1 by omega]
      · have kr : k ≤ r := by omega
        obtain ⟨a1, a2, a3, a4⟩ := hW.1 k k0 kr
        have kn' := hne k k0 kr
        refine ⟨a1, by rw [fN _ _ (chL_t (by omega)) (Or.inl (by decide))]; exact a2, ?_, fun hh => by rw [fN _ _ (chL_t (by omega)) (Or.inl (by decide))]; exact a4 hh⟩
        rw [← a3]
        exact keyAt_cong (fun j j0 j1 => fN _ _ ⟨fun hh => absurd hh.1 (by decide), fun hh => absurd hh.1 (by decide), fun hh => by omega, by decide, fun hh => absurd hh.1 (by decide), fun hh => absurd hh.1 (by decide), fun hh => absurd hh.1 (by decide), fun hh => absurd hh.1 (by decide)⟩ (Or.inr (Or.inr (Or.inl rfl))))
    · by_cases c : k = r
      · subst c
        rw [hkf]
        exact ⟨n5.1, n5.2.1, by rw [n5.2.2.1, hrt], n5.2.2.2⟩
      · have kr : k < r := by omega
        obtain ⟨a1, a2, a3, a4⟩ := hW.2 k k0 kr
        have kn' := hne (k + 1) (by omega) (by omega)
        exact ⟨by rw [fN _ _ (chL_t (by omega)) (Or.inl (by decide))]; exact a1, by rw [fN _ _ (chL_t (by omega)) (Or.inl (by decide))]; exact a2, by rw [fN _ _ (chL_t (by omega)) (Or.inl (by decide))]; exact a3, fun j j0 j1 => by rw [fN _ _ ⟨fun hh => absurd hh.1 (by decide), fun hh => absurd hh.2.1 (by decide), fun hh => absurd hh.1 (by decide), by decide, fun hh => absurd hh.1 (by decide), fun hh => absurd hh.1 (by decide), fun hh => absurd hh.1 (by decide), fun hh => by omega⟩ (Or.inl (by decide))]; exact a4 j j0 j1⟩
  have n529 : N 529 r = j := by rw [n6 _ _ (chL_t (by omega)), t4 _ _ (fun hh => absurd hh.1 (by decide)) (by decide), fM _ _ (by omega)]; exact h3
  have n530 : N 530 r = (i : Int) + 1 := by rw [n6 _ _ (chL_t (by omega)), t4 _ _ (fun hh => absurd hh.1 (by decide)) (by decide), ← hM9, up_eq ⟨rfl, rfl⟩]
  obtain ⟨R', r1, r2, r3, r4⟩ := s_goesInto (R := N) (h := r) (nk := nk) (ns := ns) (nl := nl) h hg (by omega) hm2 hmD hf hK WN hkf hnk (by rw [N3 _ (by decide) (by decide) (by decide) (by decide)]; exact h1) (by rw [N3 _ (by decide) (by decide) (by decide) (by decide)]; exact hP) (fun k k0 k1 => by rw [fN _ _ (chL_t (by omega)) (Or.inl (by decide))]; exact hfR k k0 k1) n4.2.1 (by rw [N3 _ (by decide) (by decide) (by decide) (by decide)]; exact h22) (by rw [N3 _ (by decide) (by decide) (by decide) (by decide)]; exact h23) hns hnl (by rw [N3 _ (by decide) (by decide) (by decide) (by decide)]; exact h2) (by omega)
  refine ⟨R', by rw [v1, est, t1, Option.bind_some, n1, r1]; rfl, r3, ⟨?_, ?_⟩, ?_, ⟨?_, ?_, ?_⟩, ?_, r2, fun c k hc => ?_⟩
  · rw [r4 _ _ (chK_t (by omega))]; exact n529
  · rw [r4 _ _ (chK_t (by omega))]; exact n530
  · rw [r4 _ _ (chK_t (by omega))]; exact n3
  · rw [r4 _ _ (chK_t (by omega))]; exact n4.1
  · rw [r4 _ _ (chK_t (by omega))]; exact n4.2.1
  · rw [r4 _ _ (chK_t (by omega)), if_neg (show ¬ r = 0 by omega)]; exact n4.2.2
  · exact WyR_fr WN (fun c i hc _ => r4 _ _ (chK_t (by omega))) (fun k j _ _ _ _ => r4 _ _ (chK_t (Or.inl rfl))) (fun k j _ _ _ _ => r4 _ _ (chK_t (by omega)))
  · have x := chS_x hc
    rw [r4 c k (chS_K hc), n6 c k (chS_L hc), t4 c k x.2.2.1 hc.2.2.2.1, f9 c k x.2.2.2.2.2.1, v3 c k hc.1 x.1]
