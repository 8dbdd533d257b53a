theorem Rel_leaf {C C' R R' : tp_M} {nk ns nl a0 a1 a2 a3 a4 : Int} (h : Rel C R nk ns nl) (hk : nk ≤ 24) (hs : ns ≤ 48) (hl : 0 ≤ nl ∧ nl < 16) (c1 : C' 41 3 = nl + 1) (c2 : LfC C' nl a0 a1 a2 a3 a4) (c3 : ∀ c k, ¬ (c = 41 ∧ k = 3) → c ≠ 262 + nl → C' c k = C c k) (r1 : R' 483 23 = nl + 1) (r2 : LfR R' nl a0 a1 a2 a3 a4) (r3 : R' 483 21 = R 483 21 ∧ R' 483 22 = R 483 22) (r4 : ∀ c k, c = 488 ∨ (496 ≤ c ∧ c ≤ 515) ∨ (516 ≤ c ∧ c ≤ 520 ∧ k ≠ nl) → R' c k = R c k) (ha : (0 ≤ a0 ∧ a0 ≤ 4) ∧ (0 ≤ a1 ∧ a1 ≤ 8) ∧ (0 ≤ a2 ∧ a2 ≤ 8) ∧ 0 ≤ a3 ∧ a3 ≤ 8) : Rel C' R' nk ns (nl + 1) := by
  obtain ⟨⟨b1, b2, b3⟩, ⟨b4, b5, b6⟩, b7, b8, b9⟩ := h
  have f1 : ∀ k, k ≠ 3 → C' 41 k = C 41 k := fun k hk => c3 _ _ (fun hh => hk hh.2) (by omega)
  have r5 : ∀ c k, 496 ≤ c → c ≤ 515 → R' c k = R c k := fun c k x1 x2 => r4 c k (Or.inr (Or.inl ⟨x1, x2⟩))
  refine ⟨⟨by rw [f1 _ (by decide)]; exact b1, by rw [f1 _ (by decide)]; exact b2, c1⟩, ⟨by rw [r3.1]; exact b4, by rw [r3.2]; exact b5, r1⟩, fun i i0 i1 => ?_, fun q q0 q1 => ?_, fun i i0 i1 => ?_⟩
  · exact KE_fr (b7 i i0 i1) (Int.le_refl _) (fun a c k x1 x2 x3 x4 => c3 c k (by omega) (by omega)) (fun c x1 x2 _ => r5 c i x1 (by omega)) (fun k _ _ => ⟨r4 _ _ (Or.inl rfl), r5 _ _ (by decide) (by decide)⟩) i0
  · exact SE_fr (b8 q q0 q1) (fun c k x1 x2 => c3 c k (by omega) (by omega)) (fun c x1 x2 => r5 c q (by omega) (by omega)) (fun t _ _ => r5 _ _ (by decide) (by decide)) (fun k _ _ => r5 _ _ (by decide) (by decide))
  · by_cases c : i = nl
    · subst c
      obtain ⟨x0, x1, x2, x3, x4⟩ := c2
      obtain ⟨y0, y1, y2, y3, y4⟩ := r2
      exact ⟨⟨by rw [y0, x0], by rw [y1, x1], by rw [y2, x2], by rw [y3, x3], by rw [y4, x4]⟩, by rw [x0]; exact ha.1, by rw [x1]; exact ha.2.1, by rw [x2]; exact ha.2.2.1, by rw [x3]; exact ha.2.2.2⟩
    · exact LE_fr (b9 i i0 (by omega)) (fun k => c3 _ _ (by omega) (by omega)) (fun c x1 x2 => r4 c i (Or.inr (Or.inr ⟨x1, x2, by assumption⟩)))
