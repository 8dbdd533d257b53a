/-- a factor that grows into a knot: what the class and the reference's steps make of it -/
def GkOk (n : Nat) : Prop := ∀ (C R : tp_M) (p K P r x kn j E nk ns nl m : Int) (i : Nat) (D e s rt kf : Int → Int) (mo q : Int → Int → Int) (f Res : Int → Int) (fe : Fent), pKP p K P → 0 ≤ r → (n : Int) + r = 6 → n ≠ 0 → inP P f 0 9 → Ro p Res → 0 ≤ tp_dg Res 9 → Rel C R nk ns nl → Lnk C R p K P r x kn E nk D e s rt kf mo q f → stR R p r x kn j i Res → 0 ≤ j → j ≤ 20 → (1 ≤ r → x < ns) → 1 ≤ E → (fzl p (mon p Res))[i]? = some fe → (fzl p (mon p Res)).length ≤ 9 → fe.1 = 1 → (fe.2.1 : Int) = m → 2 ≤ m → m * E ≤ 8 → (0 ≤ fe.2.2 0 ∧ fe.2.2 0 < p) → 0 ≤ nk → 0 ≤ ns → 0 ≤ nl → 2 * nk + m * E * (6 - r) ≤ 48 → ns + m * E * (6 - r) ≤ 48 → nl + m * E ≤ 16 → ∃ (C' R' : tp_M) (nk' ns' nl' : Int) (c : Nat), fo_X1_growKnot (tp_br n) (r + 1) m E (if r = 0 then -2 else kn) (tp_up C 283 r ((p - fe.2.2 0) % p)) = some C' ∧ Gro C' R R' nk ns nl nk' ns' nl' (m * E) (6 - r) c 0 ∧ (R' 529 r = j ∧ R' 530 r = ((i + 1 : Nat) : Int) ∧ R' 483 61 = r) ∧ (∀ c k, frS r nk ns nl c k → C' c k = C c k) ∧ ∀ c k, chS r nk ns nl c k → R' c k = R c k
/-- one factor of a branch, in both -/
def StF (n : Nat) (rc : Int → tp_M → Option tp_M) (C R C1 R1 : tp_M) (r E knc c0 nk ns nl nk1 ns1 nl1 W j : Int) (i c1 : Nat) : Prop := fo_X1_branch_47B (fo_X1_growKnot (tp_br n)) r E knc c0 rc i C = rc ((i + 1 : Nat) : Int) C1 ∧ Gro C1 R R1 nk ns nl nk1 ns1 nl1 W (6 - r) c1 0 ∧ (R1 529 r = j ∧ R1 530 r = ((i + 1 : Nat) : Int) ∧ R1 483 61 = r) ∧ (∀ c k, frS r nk ns nl c k → C1 c k = C c k) ∧ ∀ c k, chS r nk ns nl c k → R1 c k = R c k
theorem kpC_lf {ρ nk ns nl c k : Int} (hr : 0 ≤ ρ ∧ ρ ≤ 7) (hk : nk ≤ 24) (hs : ns ≤ 48) (hl : 0 ≤ nl ∧ nl < 16) (h : kpC ρ nk ns nl c k) : ¬ (c = 41 ∧ k = 3) ∧ c ≠ 262 + nl := by
  unfold kpC at h
  rcases h with h | h | h | h | h | h | h | h | h | h | h | h <;> (refine ⟨?_, ?_⟩ <;> omega)
theorem chS_lf {r nk ns nl c k : Int} (h : chS r nk ns nl c k) : ¬ (489 ≤ c ∧ c ≤ 494) ∧ ¬ (c = 483 ∧ (k = 11 ∨ k = 12 ∨ k = 23 ∨ k = 49)) ∧ ¬ (c = 530 ∧ k = r) ∧ ¬ (521 ≤ c ∧ c ≤ 525) ∧ ¬ (516 ≤ c ∧ c ≤ 520 ∧ k = nl) := by
  obtain ⟨x1, x2, x3, x4, x5, x6, x7, x8, x9, x10, x11, x12, x13, x14, x15⟩ := h
  exact ⟨x1, fun y => x2 ⟨y.1, by have := y.2; omega⟩, fun y => x14 ⟨Or.inr y.1, by omega⟩, x4, fun y => x13 ⟨y.1, y.2.1, by omega⟩⟩
theorem lfO_b {r E kn deg tm : Int} {a : Int × Int × Int × Int × Int} (hE : 1 ≤ E ∧ E ≤ 8) (hd : 1 ≤ deg ∧ deg ≤ 8) (ht : 1 ≤ tm) (hW : deg * tm * E ≤ 8) (h : lfO r E kn deg tm = some a) : (0 ≤ a.1 ∧ a.1 ≤ 4) ∧ (0 ≤ a.2.1 ∧ a.2.1 ≤ 8) ∧ (0 ≤ a.2.2.1 ∧ a.2.2.1 ≤ 8) ∧ 0 ≤ a.2.2.2.1 ∧ a.2.2.2.1 ≤ 8 := by
  have n1 := Int.mul_nonneg (show 0 ≤ deg by omega) (show 0 ≤ tm by omega)
  have n2 := Int.mul_nonneg n1 (show 0 ≤ E by omega)
  have n3 := Int.mul_nonneg (show 0 ≤ tm by omega) (show 0 ≤ E by omega)
  have n4 := Int.mul_le_mul_of_nonneg_right hd.1 n3
  have n5 : deg * tm * E = deg * (tm * E) := Int.mul_assoc _ _ _
  have n6 := Int.mul_nonneg (show 0 ≤ E by omega) (show 0 ≤ deg by omega)
  unfold lfO at h
  by_cases c1 : tm = 1
  · rw [if_pos c1] at h
    rw [← Option.some.inj h]
    refine ⟨⟨by show (0 : Int) ≤ 0; decide, by show (0 : Int) ≤ 4; decide⟩, ⟨by show 0 ≤ E; omega, hE.2⟩, ⟨by show 0 ≤ deg; omega, hd.2⟩, n6, ?_⟩
    rw [c1, Int.mul_one] at hW
    show E * deg ≤ 8
    rw [Int.mul_comm]; exact hW
  · rw [if_neg c1] at h
    by_cases c2 : 2 ≤ deg
    · rw [if_pos c2] at h; rw [← Option.some.inj h]; exact ⟨⟨by show (0 : Int) ≤ 2; decide, by show (2 : Int) ≤ 4; decide⟩, ⟨by show (0 : Int) ≤ 0; decide, by show (0 : Int) ≤ 8; decide⟩, ⟨by show (0 : Int) ≤ 0; decide, by show (0 : Int) ≤ 8; decide⟩, n2, hW⟩
    · rw [if_neg c2] at h
      by_cases c3 : r = 6
      · rw [if_pos c3] at h; rw [← Option.some.inj h]; exact ⟨⟨by show (0 : Int) ≤ 3; decide, by show (3 : Int) ≤ 4; decide⟩, ⟨by show (0 : Int) ≤ 0; decide, by show (0 : Int) ≤ 8; decide⟩, ⟨by show (0 : Int) ≤ 0; decide, by show (0 : Int) ≤ 8; decide⟩, n3, by show tm * E ≤ 8; omega⟩
      · rw [if_neg c3] at h; exact absurd h (by simp)
theorem feW {a b : Nat} {E : Int} (ha : 1 ≤ a) (hb : 1 ≤ b) (hE : 1 ≤ E) (h : ((a * b : Nat) : Int) * E ≤ 8) : (a ≤ 8 ∧ b ≤ 8) ∧ E ≤ 8 ∧ 1 ≤ ((a * b : Nat) : Int) * E := by
  have h1 : 1 ≤ a * b := Nat.mul_pos ha hb
  have h2 : a ≤ a * b := Nat.le_mul_of_pos_right a hb
  have h3 : b ≤ a * b := Nat.le_mul_of_pos_left b ha
  have h4 := Int.mul_le_mul_of_nonneg_left hE (show (0 : Int) ≤ ((a * b : Nat) : Int) by omega)
  have h5 := Int.mul_le_mul_of_nonneg_right (show (1 : Int) ≤ ((a * b : Nat) : Int) by omega) (show (0 : Int) ≤ E by omega)
  generalize ((a * b : Nat) : Int) * E = Z at *
  refine ⟨⟨?_, ?_⟩, ?_, ?_⟩ <;> omega
set_option maxHeartbeats 4000000 in
set_option maxRecDepth 100000 in
theorem s_FSleaf {n : Nat} {rc : Int → tp_M → Option tp_M} {C R : tp_M} {p K P r x kn j E nk ns nl : Int} {i : Nat} {D e s rt kf : Int → Int} {mo q : Int → Int → Int} {f Res : Int → Int} {fe : Fent} {a : Int × Int × Int × Int × Int} (h : pKP p K P) (hr : 0 ≤ r ∧ r ≤ 6) (hRo : Ro p Res) (hdg : 0 ≤ tp_dg Res 9) (hRel : Rel C R nk ns nl) (hL : Lnk C R p K P r x kn E nk D e s rt kf mo q f) (hS : stR R p r x kn j i Res) (hj : 0 ≤ j ∧ j ≤ 20) (hE : 1 ≤ E) (hfl : Fl C (312 + 21 * r) (fzl p (mon p Res))) (hi : (fzl p (mon p Res))[i]? = some fe) (hi9 : i < 9) (hfe : 1 ≤ fe.1 ∧ 1 ≤ fe.2.1) (hWE : ((fe.1 * fe.2.1 : Nat) : Int) * E ≤ 8) (hnk : 0 ≤ nk ∧ nk ≤ 24) (hns : 0 ≤ ns ∧ ns ≤ 48) (hnl : 0 ≤ nl ∧ nl + ((fe.1 * fe.2.1 : Nat) : Int) * E ≤ 16) (ha : lfO r E (if r = 0 then -2 else kn) fe.1 fe.2.1 = some a) : ∃ C1 R1, StF n rc C R C1 R1 r E (if r = 0 then -2 else kn) (312 + 21 * r) nk ns nl nk ns (nl + 1) (((fe.1 * fe.2.1 : Nat) : Int) * E) j i 1 := by
  obtain ⟨w1, w2, w3⟩ := feW hfe.1 hfe.2 hE hWE
  have nl16 : 0 ≤ nl ∧ nl < 16 := by omega
  have hW3 : (fe.1 : Int) * (fe.2.1 : Int) * E ≤ 8 := by rw [← Int.natCast_mul]; exact hWE
  have Wv := Int.mul_nonneg (a := ((fe.1 * fe.2.1 : Nat) : Int) * E) (b := 6 - r) (by omega) (by omega)
  obtain ⟨C1, c1, c2, c3, c4⟩ := s_brLeaf (gk := fo_X1_growKnot (tp_br n)) (rc := rc) (M := C) (r := r) (E := E) (kn := (if r = 0 then -2 else kn)) (nl := nl) hfl hi hi9 ⟨⟨hfe.1, w1.1⟩, hfe.2, w1.2⟩ ⟨hE, w2⟩ ha hRel.1.2.2 nl16
  obtain ⟨R1, r1, r2, r3, r4, r5⟩ := s_stepLeaf (R := R) (P := P) (E := E) (nl := nl) (D := D) (e := e) (s := s) (rt := rt) (kf := kf) (mo := mo) (q := q) h.1 hr hRo hdg (by omega) hS hi hi9 ⟨⟨hfe.1, w1.1⟩, hfe.2, w1.2⟩ (fun r1 => by
    obtain ⟨d0, d1, _, d5, d6, d7, d8, ⟨d9, _, _⟩, _⟩ := hL.2.2.2 r1
    exact ⟨d5, d7, d8, by rw [d9]; exact d0⟩) ⟨hL.2.2.1, hE, w2⟩ ha hRel.2.1.2.2 (by omega)
  have fr : ∀ c k, frS r nk ns nl c k → C1 c k = C c k := fun c k hh => by
    have y := kpC_lf (by omega) hnk.2 hns.2 nl16 hh.1
    exact c4 c k y.1 y.2
  have ch : ∀ c k, chS r nk ns nl c k → R1 c k = R c k := fun c k hh => by
    obtain ⟨y1, y2, y3, y4, y5⟩ := chS_lf hh
    exact r5 c k y1 y2 y3 y4 y5
  refine ⟨C1, R1, c1, ⟨Rel_leaf hRel hnk.2 hns.2 nl16 c2 c3 c4 r3 r4 ⟨r5 _ _ (by decide) (by decide) (by omega) (by decide) (by omega), r5 _ _ (by decide) (by decide) (by omega) (by decide) (by omega)⟩ (fun c k hh => r5 c k (by omega) (by omega) (by omega) (by omega) (by omega)) (lfO_b ⟨hE, w2⟩ ⟨by omega, by omega⟩ (by omega) hW3 ha), ⟨Int.le_refl _, Int.le_refl _, by omega⟩, ⟨by omega, by omega, by omega⟩, rn_one (by rw [hS.2.1]; exact hr.1) r1, by omega⟩, ⟨?_, ?_, ?_⟩, fr, ch⟩
  · rw [r5 _ _ (by omega) (by omega) (by omega) (by omega) (by omega)]; exact hS.2.2.1
  · rw [r2]; omega
  · rw [r5 _ _ (by decide) (by decide) (by omega) (by decide) (by omega)]; exact hS.2.1
theorem s_FSknot {n : Nat} {rc : Int → tp_M → Option tp_M} {C R : tp_M} {p K P r x kn j E nk ns nl : Int} {i : Nat} {D e s rt kf : Int → Int} {mo q : Int → Int → Int} {f Res : Int → Int} {fe : Fent} (hG : n ≠ 0 → GkOk n) (h : pKP p K P) (hr : 0 ≤ r ∧ r ≤ 6) (hn : (n : Int) + r = 6) (hf : inP P f 0 9) (hRo : Ro p Res) (hdg : 0 ≤ tp_dg Res 9) (hRel : Rel C R nk ns nl) (hL : Lnk C R p K P r x kn E nk D e s rt kf mo q f) (hS : stR R p r x kn j i Res) (hj : 0 ≤ j ∧ j ≤ 20) (hx : 1 ≤ r → x < ns) (hE : 1 ≤ E) (hfl : Fl C (312 + 21 * r) (fzl p (mon p Res))) (hi : (fzl p (mon p Res))[i]? = some fe) (hi9 : i < 9) (hl9 : (fzl p (mon p Res)).length ≤ 9) (hfe : 1 ≤ fe.1 ∧ 1 ≤ fe.2.1) (hv : 0 ≤ fe.2.2 0 ∧ fe.2.2 0 < p) (hWE : ((fe.1 * fe.2.1 : Nat) : Int) * E ≤ 8) (hnk : 0 ≤ nk ∧ 2 * nk + ((fe.1 * fe.2.1 : Nat) : Int) * E * (6 - r) ≤ 48) (hns : 0 ≤ ns ∧ ns + ((fe.1 * fe.2.1 : Nat) : Int) * E * (6 - r) ≤ 48) (hnl : 0 ≤ nl ∧ nl + ((fe.1 * fe.2.1 : Nat) : Int) * E ≤ 16) (ha : lfO r E (if r = 0 then -2 else kn) fe.1 fe.2.1 = none) : ∃ C1 R1 nk1 ns1 nl1 c1, StF n rc C R C1 R1 r E (if r = 0 then -2 else kn) (312 + 21 * r) nk ns nl nk1 ns1 nl1 (((fe.1 * fe.2.1 : Nat) : Int) * E) j i c1 := by
  obtain ⟨l1, l2, l3⟩ := lfO_none ha
  have n0 : n ≠ 0 := by omega
  have f1 : fe.1 = 1 := by omega
  have eW : ((fe.1 * fe.2.1 : Nat) : Int) = (fe.2.1 : Int) := by rw [f1, Nat.one_mul]
  rw [eW] at hWE hnk hns hnl ⊢
  obtain ⟨C1, R1, nk1, ns1, nl1, c1, g1, g2, g3, g4, g5⟩ := hG n0 C R p K P r x kn j E nk ns nl fe.2.1 i D e s rt kf mo q f Res fe h hr.1 hn n0 hf hRo hdg hRel hL hS hj.1 hj.2 hx hE hi hl9 f1 rfl (by omega) hWE hv hnk.1 hns.1 hnl.1 hnk.2 hns.2 hnl.2
  refine ⟨C1, R1, nk1, ns1, nl1, c1, ?_, g2, g3, g4, g5⟩
  rw [s_brKnot (p := p) (pm_2 h.1) hL.1.1.1 hr hfl hi hi9 hv ha, g1, Option.bind_some]
def g47 (gk : Int → Int → Int → Int → tp_M → Option tp_M) (x1 x3 x4 x5 : Int) : (Int × tp_M → Option tp_M) → Int × tp_M → Option tp_M := fun rec_ u => fo_X1_branch_47B gk x1 x3 x4 x5 (fun x6' M0' => rec_ (x6', M0')) u.1 u.2
theorem fsm_drop {l : List Fent} {i : Nat} {fe : Fent} (h : l[i]? = some fe) : fsm (l.drop i) = fe.1 * fe.2.1 + fsm (l.drop (i + 1)) := by
  obtain ⟨q1, q2⟩ := List.getElem?_eq_some_iff.mp h
  rw [List.drop_eq_getElem_cons q1, q2]
  rfl
theorem fsm_dle {l : List Fent} {i : Nat} : fsm (l.drop i) ≤ fsm l := by
  have := fsm_app (l.take i) (l.drop i)
  rw [List.take_append_drop] at this
  omega
