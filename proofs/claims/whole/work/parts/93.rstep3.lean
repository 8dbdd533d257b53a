/-- what the reference's steps at a height leave as it is -/
def chS (r nk ns nl c k : Int) : Prop := ¬ (489 ≤ c ∧ c ≤ 494) ∧ ¬ (c = 483 ∧ (k = 11 ∨ k = 12 ∨ k = 21 ∨ k = 22 ∨ k = 23 ∨ k = 49 ∨ k = 56 ∨ k = 61)) ∧ (c ≠ 487 ∧ c ≠ 526 ∧ c ≠ 527) ∧ ¬ (521 ≤ c ∧ c ≤ 525) ∧ ¬ (c = 488 ∧ 9 * nk ≤ k) ∧ ¬ (496 ≤ c ∧ c ≤ 502 ∧ nk ≤ k) ∧ ¬ (c = 503 ∧ 9 * nk ≤ k) ∧ ¬ (504 ≤ c ∧ c ≤ 506 ∧ nk ≤ k) ∧ ¬ (c = 507 ∧ 7 * nk ≤ k) ∧ ¬ (508 ≤ c ∧ c ≤ 513 ∧ ns ≤ k) ∧ ¬ (c = 514 ∧ 7 * ns ≤ k) ∧ ¬ (c = 515 ∧ 9 * ns ≤ k) ∧ ¬ (516 ≤ c ∧ c ≤ 520 ∧ nl ≤ k) ∧ ¬ ((c = 529 ∨ c = 530) ∧ r ≤ k) ∧ ¬ (c = 528 ∧ r < k)
theorem chS_o1 {k : Int} (h : k = 22 ∨ k = 23 ∨ k = 49 ∨ k = 56 ∨ k = 61) : k = 11 ∨ k = 12 ∨ k = 21 ∨ k = 22 ∨ k = 23 ∨ k = 49 ∨ k = 56 ∨ k = 61 := by omega
theorem chS_o2 {c k r : Int} (h : 528 ≤ c ∧ c ≤ 530 ∧ k = r + 1) : ((c = 529 ∨ c = 530) ∧ r ≤ k) ∨ (c = 528 ∧ r < k) := by omega
theorem chS_K {r nk ns nl c k : Int} (h : chS r nk ns nl c k) : ¬ chK r nk ns nl c k := by
  obtain ⟨h1, h2, ⟨h3, h3', h3''⟩, h4, h5, h6, h7, h8, h9, h10, h11, h12, h13, h14, h15⟩ := h
  intro hc
  rcases hc with hc | hc | hc | hc | hc | hc | hc | hc | hc | hc | hc
  · exact h3 hc
  · exact h3' hc
  · exact h2 ⟨hc.1, chS_o1 hc.2⟩
  · exact h4 hc
  · exact h7 ⟨hc.1, hc.2.1⟩
  · exact h6 ⟨Int.le_trans (by decide) hc.1, hc.2.1, Int.le_of_eq hc.2.2.symm⟩
  · exact h10 hc
  · exact h11 hc
  · exact h12 hc
  · exact h13 hc
  · rcases chS_o2 hc with x | x
    · exact h14 x
    · exact h15 x
theorem chS_x {r nk ns nl c k : Int} (h : chS r nk ns nl c k) : ¬ (c = 483 ∧ (k = 11 ∨ k = 12)) ∧ ¬ (c = 483 ∧ k = 21) ∧ ¬ (c = 483 ∧ k = 49) ∧ ¬ (496 ≤ c ∧ c ≤ 498 ∧ k = nk) ∧ ¬ (c = 488 ∧ 9 * nk ≤ k ∧ k < 9 * nk + 9) ∧ ¬ (c = 530 ∧ k = r) ∧ ¬ (c = 504 ∧ k = nk) ∧ ¬ (c = 505 ∧ k = nk) ∧ ¬ (c = 506 ∧ k = nk) ∧ ¬ (c = 507 ∧ 7 * nk ≤ k ∧ k < 7 * nk + 7) ∧ ¬ (c = 488 ∧ k = 9 * nk) ∧ ¬ (c = 488 ∧ k = 9 * nk + 1) := by
  obtain ⟨h1, h2, ⟨h3, h3', h3''⟩, h4, h5, h6, h7, h8, h9, h10, h11, h12, h13, h14, h15⟩ := h
  exact ⟨fun x => h2 ⟨x.1, by have := x.2; omega⟩, fun x => h2 ⟨x.1, by have := x.2; omega⟩, fun x => h2 ⟨x.1, by have := x.2; omega⟩, fun x => h6 ⟨x.1, Int.le_trans x.2.1 (by decide), Int.le_of_eq x.2.2.symm⟩, fun x => h5 ⟨x.1, x.2.1⟩, fun x => h14 ⟨Or.inr x.1, Int.le_of_eq x.2.symm⟩, fun x => h8 ⟨by rw [x.1]; decide, by rw [x.1]; decide, Int.le_of_eq x.2.symm⟩, fun x => h8 ⟨by rw [x.1]; decide, by rw [x.1]; decide, Int.le_of_eq x.2.symm⟩, fun x => h8 ⟨by rw [x.1]; decide, by rw [x.1]; decide, Int.le_of_eq x.2.symm⟩, fun x => h9 ⟨x.1, x.2.1⟩, fun x => h5 ⟨x.1, Int.le_of_eq x.2.symm⟩, fun x => h5 ⟨x.1, by rw [x.2]; exact Int.le_add_of_nonneg_right (by decide)⟩⟩
/-- a step that stands before a factor -/
theorem stE_F {V : tp_M} {kn x r : Int} {i : Nat} {n : Nat} (hr : 0 ≤ r ∧ r ≤ 6) (e61 : V 483 61 = r) (e30 : V 530 r = i) (e12 : V 483 12 = n) (hi : i < n) (hn : n ≤ 9) : stE kn x V = if ¬ r = 0 then (f_X11_takesKnot kn (tp_up V 530 r ((i : Int) + 1))).bind fun r11 => (f_X11_takesFactor kn x i r11).bind fun r13 => some r13 else (f_X11_takesFirst i (tp_up V 530 r ((i : Int) + 1))).bind fun r15 => some r15 := by
  have r8 : 0 ≤ r ∧ r < 8 := by omega
  have w1 : tp_w ((i : Int) + 1) = (i : Int) + 1 := ho_w (by omega) (by omega)
  have ne : ¬ ((i : Int) = n) := by omega
  have f61 : tp_up V 530 r ((i : Int) + 1) 483 61 = r := by rw [up_ne (fun hh => absurd hh.1 (by decide))]; exact e61
  unfold stE
  simp only [tp_lt, tp_mp, e61, e30, e12, w1, f61]
  rw [if_pos r8, if_pos ne, if_pos r8, if_pos r8]
/-- a step of the reference that makes the first knot of a way -/
theorem s_firstK {M : tp_M} {p K P m nk v : Int} {i : Nat} {q1 : Int → Int} (h : pKP p K P) (hp : M 483 0 = p) (hP : M 483 2 = P) (hi : i < 9) (d1 : M 490 i = 1) (d2 : M 491 i = m) (hm : 2 ≤ m ∧ m ≤ 8) (hv : M 492 (9 * i) = v) (hv2 : 0 ≤ v ∧ v < p) (h21 : M 483 21 = nk) (hnk : 0 ≤ nk ∧ nk < 40) (hq : q1 = ky1 P ((p - v) % p)) : ∃ N, f_X11_takesFirst i M = (f_X11_goesInto nk N).bind (fun r15 => some r15) ∧ keyAt N nk = q1 ∧ N 483 21 = nk + 1 ∧ (N 496 nk = 1 ∧ N 497 nk = m ∧ N 498 nk = -1) ∧ ∀ c k, ¬ (c = 483 ∧ k = 21) → ¬ (496 ≤ c ∧ c ≤ 498 ∧ k = nk) → ¬ (c = 488 ∧ 9 * nk ≤ k ∧ k < 9 * nk + 9) → N c k = M c k := by
  have hp2 := pm_2 h.1
  have hP0 : 0 < P ∧ P ≤ 400000000 := h.2.2.2.2
  obtain ⟨N1, n1, n2, n3, n4, n5⟩ := s_newKnot (M := M) (a := -1) (m := m) (nk := nk) (lv := 1) h21 hnk (Or.inl ⟨by decide, rfl⟩) (by decide)
  have rb : 0 ≤ (p - v) % p ∧ (p - v) % p < p := ⟨Int.emod_nonneg _ (by omega), Int.emod_lt_of_pos _ (by omega)⟩
  have ro := s_rootOf (M := M) (p := p) (i := i) (v := v) hp2 hp (by omega) hv hv2
  have eP : N1 483 2 = P := by rw [n5 _ _ (fun x => absurd x.2 (by decide)) (fun x => absurd x.1 (by decide)) (fun x => absurd x.1 (by decide))]; exact hP
  have i9 : 0 ≤ (i : Int) ∧ (i : Int) < 9 := by omega
  have b1 : 0 ≤ 9 * nk ∧ 9 * nk < 369 := by omega
  have b2 : 0 ≤ 9 * nk + 1 ∧ 9 * nk + 1 < 369 := by omega
  have w1 : tp_w (9 * nk) = 9 * nk := ho_w (by omega) (by omega)
  have w2 : tp_w (9 * nk + 1) = 9 * nk + 1 := ho_w (by omega) (by omega)
  have w3 : tp_w (-((p - v) % p)) = -((p - v) % p) := ho_w (by omega) (by omega)
  have nb := s_number (M := N1) (a := -((p - v) % p)) (by rw [eP]; exact hP0)
  rw [eP] at nb
  have m1 : ¬ m = 1 := by omega
  generalize (p - v) % p = rt at *
  refine ⟨tp_up (tp_up N1 488 (9 * nk) ((-rt) % P)) 488 (9 * nk + 1) 1, ?_, ?_, ?_, ?_, fun c k g1 g2 g3 => ?_⟩
  · unfold f_X11_takesFirst
    simp only [tp_lt, tp_mp, d1, d2]
    rw [if_pos i9, if_pos i9, if_pos m1, if_neg (fun hh => hh trivial), ro, Option.bind_some, n1, Option.bind_some]
    simp only [w3]
    rw [nb, Option.bind_some, w1, if_pos b1, w2, if_pos b2]
  · rw [hq]
    funext k
    unfold keyAt
    by_cases ck : 0 ≤ k ∧ k < 9
    · rw [rd_in ck]
      unfold ky1
      by_cases k0 : k = 0
      · subst k0; rw [if_pos rfl, up_ne (fun hh => absurd hh.2 (by omega)), up_eq ⟨rfl, by omega⟩]
      · rw [if_neg k0]
        by_cases k1 : k = 1
        · subst k1; rw [if_pos rfl, up_eq ⟨rfl, rfl⟩]
        · rw [if_neg k1, up_ne (fun hh => absurd hh.2 (by omega)), up_ne (fun hh => absurd hh.2 (by omega))]; exact n4 k ck.1 ck.2
    · rw [rd_out ck]; unfold ky1; rw [if_neg (by omega), if_neg (by omega)]
  · rw [up_ne (fun hh => absurd hh.1 (by decide)), up_ne (fun hh => absurd hh.1 (by decide))]; exact n2
  · rw [up_ne (fun hh => absurd hh.1 (by decide)), up_ne (fun hh => absurd hh.1 (by decide)), up_ne (fun hh => absurd hh.1 (by decide)), up_ne (fun hh => absurd hh.1 (by decide)), up_ne (fun hh => absurd hh.1 (by decide)), up_ne (fun hh => absurd hh.1 (by decide))]; exact n3
  · rw [up_ne (fun hh => g3 ⟨hh.1, by omega, by omega⟩), up_ne (fun hh => g3 ⟨hh.1, by omega, by omega⟩), n5 c k g1 g2 g3]
