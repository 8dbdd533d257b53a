theorem chS_mono {r r' nk ns nl nk' ns' nl' c k : Int} (h : chS r nk ns nl c k) (hr : r ≤ r') (h1 : nk ≤ nk') (h2 : ns ≤ ns') (h3 : nl ≤ nl') : chS r' nk' ns' nl' c k := by
  obtain ⟨x1, x2, x3, x4, x5, x6, x7, x8, x9, x10, x11, x12, x13, x14, x15⟩ := h
  exact ⟨x1, x2, x3, x4, fun y => x5 ⟨y.1, by have := y.2; omega⟩, fun y => x6 ⟨y.1, y.2.1, Int.le_trans h1 y.2.2⟩, fun y => x7 ⟨y.1, by have := y.2; omega⟩, fun y => x8 ⟨y.1, y.2.1, Int.le_trans h1 y.2.2⟩, fun y => x9 ⟨y.1, by have := y.2; omega⟩, fun y => x10 ⟨y.1, y.2.1, Int.le_trans h2 y.2.2⟩, fun y => x11 ⟨y.1, by have := y.2; omega⟩, fun y => x12 ⟨y.1, by have := y.2; omega⟩, fun y => x13 ⟨y.1, y.2.1, Int.le_trans h3 y.2.2⟩, fun y => x14 ⟨y.1, Int.le_trans hr y.2⟩, fun y => x15 ⟨y.1, Int.lt_of_le_of_lt hr y.2⟩⟩
theorem WyR_cong {R : tp_M} {r : Int} {e s rt kf e' s' rt' kf' : Int → Int} {mo q mo' q' : Int → Int → Int} (h : WyR R r e s rt kf mo q) (h1 : ∀ k, 1 ≤ k → k ≤ r → kf' k = kf k ∧ q' k = q k) (h2 : ∀ k, 1 ≤ k → k < r → e' k = e k ∧ s' k = s k ∧ rt' k = rt k ∧ mo' k = mo k) : WyR R r e' s' rt' kf' mo' q' := by
  refine ⟨fun k k0 k1 => ?_, fun k k0 k1 => ?_⟩
  · obtain ⟨a1, a2, a3, a4⟩ := h.1 k k0 k1
    have b := h1 k k0 k1
    rw [b.1, b.2]
    exact ⟨a1, a2, a3, fun hh => by rw [(h1 (k - 1) (by omega) (by omega)).1]; exact a4 hh⟩
  · have b := h2 k k0 k1
    rw [(h1 (k + 1) (by omega) (by omega)).1, b.1, b.2.1, b.2.2.1, b.2.2.2]
    exact h.2 k k0 k1
def kpB (r nk ns nl c k : Int) : Prop := kpC r nk ns nl c k ∨ ((280 ≤ c ∧ c ≤ 282) ∧ k = r) ∨ c = 285 + r ∨ c = 294 + r
theorem kpC_mono {r r' nk ns nl nk' ns' nl' c k : Int} (h : kpC r nk ns nl c k) (hr : r ≤ r') (h1 : nk ≤ nk') (h2 : ns ≤ ns') (h3 : nl ≤ nl') : kpC r' nk' ns' nl' c k := by
  unfold kpC at h ⊢
  rcases h with h | h | h | h | h | h | h | h | h | h | h | h
  · exact Or.inl h
  · exact Or.inr (Or.inl h)
  · exact Or.inr (Or.inr (Or.inl h))
  · exact Or.inr (Or.inr (Or.inr (Or.inl ⟨h.1, by omega⟩)))
  · exact Or.inr (Or.inr (Or.inr (Or.inr (Or.inl ⟨h.1, by omega⟩))))
  · exact Or.inr (Or.inr (Or.inr (Or.inr (Or.inr (Or.inl ⟨h.1, by omega⟩)))))
  · exact Or.inr (Or.inr (Or.inr (Or.inr (Or.inr (Or.inr (Or.inl ⟨h.1, by omega⟩))))))
  · exact Or.inr (Or.inr (Or.inr (Or.inr (Or.inr (Or.inr (Or.inr (Or.inl ⟨h.1, by omega⟩)))))))
  · exact Or.inr (Or.inr (Or.inr (Or.inr (Or.inr (Or.inr (Or.inr (Or.inr (Or.inl ⟨h.1, by omega⟩))))))))
  · exact Or.inr (Or.inr (Or.inr (Or.inr (Or.inr (Or.inr (Or.inr (Or.inr (Or.inr (Or.inl h)))))))))
  · exact Or.inr (Or.inr (Or.inr (Or.inr (Or.inr (Or.inr (Or.inr (Or.inr (Or.inr (Or.inr (Or.inl ⟨h.1, by omega⟩))))))))))
  · exact Or.inr (Or.inr (Or.inr (Or.inr (Or.inr (Or.inr (Or.inr (Or.inr (Or.inr (Or.inr (Or.inr h))))))))))
