set_option maxHeartbeats 4000000 in
set_option maxRecDepth 100000 in
theorem Rel_knot {C C' R R' : tp_M} {p K P r m nk ns nl kn j : Int} {i : Nat} {D e s rt kf : Int → Int} {mo q : Int → Int → Int} {f Y w : Int → Int} {z : Int} {l : List (Int × Int)} (h : Rel C R nk ns nl) (hr : 0 ≤ r ∧ r ≤ 5) (hnk : 0 ≤ nk) (hns : 0 ≤ ns) (hm : 0 ≤ m ∧ m ≤ 8) (hz : 0 ≤ z ∧ z ≤ m) (hwb : ∀ k, -1 ≤ w k ∧ w k ≤ 20000) (hD : 1 ≤ D (r + 1) ∧ D (r + 1) ≤ 4) (hmD : m * D (r + 1) ≤ 8) (hC : KnC C' C p K P (r + 1) m nk ns nl (if r = 0 then -2 else kn) D e s rt mo q f Y w z l) (hR : SpK R' R p K r kn j m nk ns nl i D e s rt kf mo q Y w z l) (hkf : kf (r + 1) = nk) (h0 : r = 0 → D 1 = 1) (h1 : 1 ≤ r → (0 ≤ kn ∧ kn < nk) ∧ C (46 + 3 * kn) 0 = r ∧ C (46 + 3 * kn) 2 = D r ∧ D (r + 1) = D r * e r) : Rel C' R' (nk + 1) (ns + l.length) (nl + lz z) := by
  have zD : 0 ≤ z * D (r + 1) ∧ z * D (r + 1) ≤ 8 := by
    have q1 := Int.mul_le_mul_of_nonneg_right hz.2 (show 0 ≤ D (r + 1) by omega)
    have q2 := Int.mul_nonneg hz.1 (show 0 ≤ D (r + 1) by omega)
    omega
  obtain ⟨s1, s2, s3, s4, s5, s6, s7⟩ := hR
  obtain ⟨v1, v2, v3, v4, v5, v6⟩ := s6
  obtain ⟨o1, o2, o3⟩ := Rel_old (ns' := ns + l.length) h (by omega) hC.fr s7
  obtain ⟨k0, k1, k2, k3, k4, k5, k6, k7⟩ := hC.kf
  refine ⟨⟨hC.n2, hC.n6, hC.n3⟩, ⟨s3, v4, v5⟩, fun a a0 a1 => ?_, fun b b0 b1 => ?_, fun a a0 a1 => ?_⟩
  · by_cases c : a = nk
    · subst c
      refine ⟨⟨by rw [s4.1, k0], by omega, by omega⟩, ⟨by rw [s4.2.1, k1], by omega, by omega⟩, ⟨by rw [v1.2.2.1, k4], by rw [v1.2.2.2, k5], by rw [v1.1, k6], by rw [v1.2.1, k7]⟩, ⟨by omega, by omega, by omega⟩, fun hh => ?_, fun hh => ?_, ⟨by rw [k2]; exact hD.1, by rw [k2]; omega⟩, fun k x0 x1 => ?_⟩
      · have r0 : r = 0 := by omega
        rw [s4.2.2, k3, k2, if_pos r0, if_pos r0, r0]
        exact ⟨rfl, rfl, h0 r0⟩
      · have r1 : 1 ≤ r := by omega
        have rn0 : ¬ r = 0 := by omega
        obtain ⟨g1, g2, g3, g4⟩ := h1 r1
        have e4 := (s5.2 r r1 (by omega)).1
        rw [hkf] at e4
        have fk : ∀ k, C' (46 + 3 * kn) k = C (46 + 3 * kn) k := fun k => hC.fr _ _ (Or.inr (Or.inr (Or.inr (Or.inl ⟨by omega, by omega⟩))))
        rw [s4.2.2, k3, k2, if_neg rn0, if_neg rn0, fk, fk, g2, g3, k0, e4]
        exact ⟨g1, rfl, by omega, g4⟩
      · have ky := hC.ky
        have e8 := (s5.1 (r + 1) (by omega) (Int.le_refl _)).2.2.1
        rw [hkf, ← ky] at e8
        have := congrFun e8 k
        unfold keyAt at this
        rw [rd_in ⟨x0, x1⟩, rd_in ⟨x0, x1⟩] at this
        have wk := hwb k
        exact ⟨this, by rw [v2 k x0 x1, hC.pt k x0 x1], by rw [hC.pt k x0 x1]; exact wk.1, by rw [hC.pt k x0 x1]; omega⟩
    · exact o1 a a0 (by omega)
  · by_cases c : b < ns
    · exact o2 b b0 c
    · have hb : (b - ns).toNat < l.length := by omega
      have e1 := List.getElem?_eq_getElem hb
      have e2 := hC.sd _ _ e1
      have e3 := v3 _ _ e1
      rw [show ns + (((b - ns).toNat : Nat) : Int) = b by omega] at e2 e3
      exact SE_new e2.1 e2.2 e3
  · by_cases c : a < nl
    · exact o3 a a0 c
    · unfold lz at a1
      by_cases z0 : z = 0
      · rw [if_pos z0] at a1; omega
      · rw [if_neg z0] at a1
        have ea : a = nl := by omega
        subst ea
        have lf := hC.lf
        by_cases z1 : z = 1
        · obtain ⟨x0, x1, x2, x3, x4⟩ := lf.2 z1
          obtain ⟨y0, y1, y2, y3, y4⟩ := v6.2 z1
          exact ⟨⟨by rw [y0, x0], by rw [y1, x1], by rw [y2, x2], by rw [y3, x3], by rw [y4, x4]⟩, by rw [x0]; decide, by rw [x1]; omega, by rw [x2]; decide, by rw [x3]; omega⟩
        · obtain ⟨x0, x1, x2, x3, x4⟩ := lf.1 (by omega)
          obtain ⟨y0, y1, y2, y3, y4⟩ := v6.1 (by omega)
          exact ⟨⟨by rw [y0, x0], by rw [y1, x1], by rw [y2, x2], by rw [y3, x3], by rw [y4, x4]⟩, by rw [x0]; decide, by rw [x1]; decide, by rw [x2]; decide, by rw [x3]; exact zD⟩
