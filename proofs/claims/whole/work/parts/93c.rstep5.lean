theorem chK_t {h nk ns nl c k : Int} (hc : c = 488 ∨ (496 ≤ c ∧ c ≤ 498) ∨ (504 ≤ c ∧ c ≤ 507) ∨ (c = 483 ∧ k = 21) ∨ ((c = 529 ∨ c = 530) ∧ k = h)) : ¬ chK h nk ns nl c k := by
  intro hk
  unfold chK at hk
  rcases hk with hk | hk | hk | hk | hk | hk | hk | hk | hk | hk | hk <;> omega
/-- after a step that makes a knot -/
def SpK (R' R : tp_M) (p K r kn j m nk ns nl : Int) (i : Nat) (D e s rt kf : Int → Int) (mo q : Int → Int → Int) (Y w : Int → Int) (z : Int) (l : List (Int × Int)) : Prop := (R' 483 61 = r + 1 ∧ R' 528 (r + 1) = nk ∧ R' 529 (r + 1) = 0 ∧ R' 530 (r + 1) = 0) ∧ (R' 529 r = j ∧ R' 530 r = (i : Int) + 1) ∧ R' 483 21 = nk + 1 ∧ (R' 496 nk = r + 1 ∧ R' 497 nk = m ∧ R' 498 nk = (if r = 0 then -1 else kn)) ∧ WyR R' (r + 1) e s rt kf mo q ∧ KnV R' p K (r + 1) nk ns nl D e s rt mo Y w z l ∧ ∀ c k, chS r nk ns nl c k → R' c k = R c k
theorem chS_L {r nk ns nl c k : Int} (h : chS r nk ns nl c k) : chL nk c k := by
  have x := chS_x h
  exact ⟨x.2.1, x.2.2.2.1, x.2.2.2.2.1, h.2.2.1.2.2, x.2.2.2.2.2.2.1, x.2.2.2.2.2.2.2.1, x.2.2.2.2.2.2.2.2.1, x.2.2.2.2.2.2.2.2.2.1⟩
set_option maxHeartbeats 4000000 in
set_option maxRecDepth 100000 in
theorem s_stepKnot0 {R : tp_M} {p K P x kn j m nk ns nl : Int} {i : Nat} {Res : Int → Int} {D e s rt kf : Int → Int} {mo q : Int → Int → Int} {f Y w : Int → Int} {z : Int} {l : List (Int × Int)} {fe : Fent} (h : pKP p K P) (hRo : Ro p Res) (hdg : 0 ≤ tp_dg Res 9) (hj : 0 ≤ j ∧ j ≤ 100) (hS : stR R p 0 x kn j i Res) (hi : (fzl p (mon p Res))[i]? = some fe) (hn9 : (fzl p (mon p Res)).length ≤ 9) (hf1 : fe.1 = 1) (hm : (fe.2.1 : Int) = m) (hm2 : 2 ≤ m ∧ m ≤ 8) (hv : 0 ≤ fe.2.2 0 ∧ fe.2.2 0 < p) (hg : cxg p P 1 D e s rt mo q) (hmD : m * D 1 ≤ 8) (hf : inP P f 0 9) (hK : KnP p K P 1 m D e s rt mo q f Y w z l) (hq : q 1 = nwK p K P 1 e rt mo q) (hrt : rt 0 = (p - fe.2.2 0) % p) (hkf : kf 1 = nk) (hP : R 483 2 = P) (hfR : ∀ k, 0 ≤ k → k < 9 → R 495 k = f k) (h21 : R 483 21 = nk) (h22 : R 483 22 = ns) (h23 : R 483 23 = nl) (hnk : 0 ≤ nk ∧ nk < 40) (hns : 0 ≤ ns ∧ ns + l.length ≤ 60) (hnl : 0 ≤ nl ∧ nl < 20) : ∃ R', f_X11_steps R = some R' ∧ SpK R' R p K 0 kn j m nk ns nl i D e s rt kf mo q Y w z l := by
  obtain ⟨V, v1, v2, v3⟩ := s_stepV h.1 (by decide) hRo hdg hj hS
  obtain ⟨h1, h2, h3, h4, h5, h6⟩ := hS
  have il : i < (fzl p (mon p Res)).length := by obtain ⟨q1, _⟩ := List.getElem?_eq_some_iff.mp hi; exact q1
  have fV : ∀ c k, 495 ≤ c ∨ c = 488 ∨ (c = 483 ∧ k ≠ 11 ∧ k ≠ 12) → V c k = R c k := fun c k hc => v3 c k (by omega) (by omega)
  obtain ⟨l1, l2, l3⟩ := v2.2 i fe hi
  have est := stE_F (V := V) (kn := kn) (x := x) (r := 0) (i := i) (by decide) (by rw [fV _ _ (by omega)]; exact h2) (by rw [fV _ _ (by omega)]; exact h4) v2.1 il hn9
  rw [if_neg (fun hh => hh rfl)] at est
  generalize hM9 : tp_up V 530 0 ((i : Int) + 1) = M9 at est
  have f9 : ∀ c k, ¬ (c = 530 ∧ k = 0) → M9 c k = V c k := fun c k g => by rw [← hM9, up_ne g]
  have g9 : ∀ c k, c = 483 → k ≠ 11 → k ≠ 12 → M9 c k = R c k := fun c k x1 x2 x3 => by rw [f9 _ _ (by omega), fV _ _ (by omega)]
  have e0 : M9 492 (9 * i) = fe.2.2 0 := by rw [f9 _ _ (by omega)]; have := l3 0 (by decide) (by decide); rw [Int.add_zero] at this; exact this
  obtain ⟨N, n1, n2, n3, n4, n5⟩ := s_firstK (M := M9) (p := p) (K := K) (P := P) (m := m) (nk := nk) (v := fe.2.2 0) (i := i) (q1 := q 1) h (by rw [g9 _ _ rfl (by decide) (by decide)]; exact h1) (by rw [g9 _ _ rfl (by decide) (by decide)]; exact hP) (by omega) (by rw [f9 _ _ (by omega), l1, hf1]; rfl) (by rw [f9 _ _ (by omega), l2]; exact hm) hm2 e0 hv (by rw [g9 _ _ rfl (by decide) (by decide)]; exact h21) hnk (by rw [hq, ← hrt]; unfold nwK; rw [if_pos rfl])
  have gN : ∀ k, k ≠ 11 → k ≠ 12 → k ≠ 21 → N 483 k = R 483 k := fun k x1 x2 x3 => by rw [n5 _ _ (fun hh => x3 hh.2) (fun hh => absurd hh.1 (by decide)) (fun hh => absurd hh.1 (by decide)), g9 _ _ rfl x1 x2]
  have WN : WyR N 1 e s rt kf mo q := by
    refine ⟨fun k k0 k1 => ?_, fun k k0 k1 => by omega⟩
    have : k = 1 := by omega
    subst this
    rw [hkf]
    exact ⟨hnk, n4.1, n2, fun hh => by omega⟩
  obtain ⟨R', r1, r2, r3, r4⟩ := s_goesInto (R := N) (h := 0) (nk := nk) (ns := ns) (nl := nl) h hg (by decide) hm2 hmD hf hK WN hkf hnk (by rw [gN _ (by decide) (by decide) (by decide)]; exact h1) (by rw [gN _ (by decide) (by decide) (by decide)]; exact hP) (fun k k0 k1 => by rw [n5 _ _ (fun hh => absurd hh.1 (by decide)) (fun hh => absurd hh.1 (by decide)) (fun hh => absurd hh.1 (by decide)), f9 _ _ (fun hh => absurd hh.1 (by decide)), fV _ _ (Or.inl (by decide))]; exact hfR k k0 k1) n4.2.1 (by rw [gN _ (by decide) (by decide) (by decide)]; exact h22) (by rw [gN _ (by decide) (by decide) (by decide)]; exact h23) hns hnl (by rw [gN _ (by decide) (by decide) (by decide)]; exact h2) (by decide)
  refine ⟨R', by rw [v1, est, n1, r1]; rfl, r3, ⟨?_, ?_⟩, ?_, ⟨?_, ?_, ?_⟩, ?_, r2, fun c k hc => ?_⟩
  · rw [r4 _ _ (chK_t (by omega)), n5 _ _ (fun hh => absurd hh.1 (by decide)) (fun hh => absurd hh.2.1 (by decide)) (fun hh => absurd hh.1 (by decide)), f9 _ _ (fun hh => absurd hh.1 (by decide)), fV _ _ (Or.inl (by decide))]; exact h3
  · rw [r4 _ _ (chK_t (by omega)), n5 _ _ (fun hh => absurd hh.1 (by decide)) (fun hh => absurd hh.2.1 (by decide)) (fun hh => absurd hh.1 (by decide)), ← hM9, up_eq ⟨rfl, rfl⟩]
  · rw [r4 _ _ (chK_t (by omega))]; exact n3
  · rw [r4 _ _ (chK_t (by omega))]; exact n4.1
  · rw [r4 _ _ (chK_t (by omega))]; exact n4.2.1
  · rw [r4 _ _ (chK_t (by omega)), if_pos rfl]; exact n4.2.2
  · exact WyR_fr WN (fun c i hc _ => r4 _ _ (chK_t (by omega))) (fun k j _ _ _ _ => r4 _ _ (chK_t (Or.inl rfl))) (fun k j _ _ _ _ => r4 _ _ (chK_t (by omega)))
  · have x := chS_x hc
    rw [r4 c k (chS_K hc), n5 c k x.2.1 x.2.2.2.1 x.2.2.2.2.1, f9 c k x.2.2.2.2.2.1, v3 c k hc.1 x.1]
