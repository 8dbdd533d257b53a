/-- the two trees so far: knot, side, leaf -/
def KE (C R : tp_M) (ns i : Int) : Prop :=
  (R 496 i = C (46 + 3 * i) 0 ∧ 1 ≤ C (46 + 3 * i) 0 ∧ C (46 + 3 * i) 0 ≤ 6) ∧ (R 497 i = C (46 + 3 * i) 1 ∧ 0 ≤ C (46 + 3 * i) 1 ∧ C (46 + 3 * i) 1 ≤ 8) ∧
  (R 501 i = C (46 + 3 * i) 4 ∧ R 502 i = C (46 + 3 * i) 5 ∧ R 499 i = C (46 + 3 * i) 6 ∧ R 500 i = C (46 + 3 * i) 7) ∧
  (0 ≤ C (46 + 3 * i) 6 ∧ 0 ≤ C (46 + 3 * i) 7 ∧ C (46 + 3 * i) 6 + C (46 + 3 * i) 7 ≤ ns) ∧
  (C (46 + 3 * i) 0 = 1 → R 498 i = -1 ∧ C (46 + 3 * i) 3 = -2 ∧ C (46 + 3 * i) 2 = 1) ∧
  (2 ≤ C (46 + 3 * i) 0 → (0 ≤ R 498 i ∧ R 498 i < i) ∧ C (46 + 3 * i) 3 = R 498 i ∧ C (46 + 3 * R 498 i) 0 = C (46 + 3 * i) 0 - 1 ∧ C (46 + 3 * i) 2 = C (46 + 3 * R 498 i) 2 * R 504 i) ∧
  (1 ≤ C (46 + 3 * i) 2 ∧ C (46 + 3 * i) 2 ≤ 8) ∧
  ∀ k, 0 ≤ k → k < 9 → R 488 (9 * i + k) = C (46 + 3 * i + 1) k ∧ R 503 (9 * i + k) = C (46 + 3 * i + 2) k ∧ -1 ≤ C (46 + 3 * i + 2) k ∧ C (46 + 3 * i + 2) k ≤ 100000
def SE (C R : tp_M) (q : Int) : Prop := (R 508 q = C (118 + 3 * q) 0 ∧ R 509 q = C (118 + 3 * q) 1 ∧ R 510 q = C (118 + 3 * q) 2 ∧ R 511 q = C (118 + 3 * q) 3 ∧ R 512 q = C (118 + 3 * q) 4 ∧ R 513 q = C (118 + 3 * q) 5) ∧ (∀ t, 0 ≤ t → t < 7 → R 514 (7 * q + t) = C (118 + 3 * q + 1) t) ∧ ∀ k, 0 ≤ k → k < 9 → R 515 (9 * q + k) = C (118 + 3 * q + 2) k
def LE (C R : tp_M) (i : Int) : Prop := (R 516 i = C (262 + i) 0 ∧ R 517 i = C (262 + i) 1 ∧ R 518 i = C (262 + i) 2 ∧ R 519 i = C (262 + i) 3 ∧ R 520 i = C (262 + i) 4) ∧ (0 ≤ C (262 + i) 0 ∧ C (262 + i) 0 ≤ 4) ∧ (0 ≤ C (262 + i) 1 ∧ C (262 + i) 1 ≤ 8) ∧ (0 ≤ C (262 + i) 2 ∧ C (262 + i) 2 ≤ 8) ∧ 0 ≤ C (262 + i) 3 ∧ C (262 + i) 3 ≤ 8
def Rel (C R : tp_M) (nk ns nl : Int) : Prop := (C 41 2 = nk ∧ C 41 6 = ns ∧ C 41 3 = nl) ∧ (R 483 21 = nk ∧ R 483 22 = ns ∧ R 483 23 = nl) ∧ (∀ i, 0 ≤ i → i < nk → KE C R ns i) ∧ (∀ q, 0 ≤ q → q < ns → SE C R q) ∧ ∀ i, 0 ≤ i → i < nl → LE C R i
theorem KE_fr {C C' R R' : tp_M} {ns ns' i : Int} (h : KE C R ns i) (hn : ns ≤ ns') (hc : ∀ a c k, 0 ≤ a → a ≤ i → 46 + 3 * a ≤ c → c < 46 + 3 * a + 3 → C' c k = C c k) (h1 : ∀ c, 496 ≤ c → c ≤ 504 → c ≠ 503 → R' c i = R c i) (h2 : ∀ k, 0 ≤ k → k < 9 → R' 488 (9 * i + k) = R 488 (9 * i + k) ∧ R' 503 (9 * i + k) = R 503 (9 * i + k)) (hi : 0 ≤ i) : KE C' R' ns' i := by
  have e : ∀ k, C' (46 + 3 * i) k = C (46 + 3 * i) k := fun k => hc i _ k hi (Int.le_refl _) (Int.le_refl _) (by omega)
  have e1 : ∀ k, C' (46 + 3 * i + 1) k = C (46 + 3 * i + 1) k := fun k => hc i _ k hi (Int.le_refl _) (by omega) (by omega)
  have e2 : ∀ k, C' (46 + 3 * i + 2) k = C (46 + 3 * i + 2) k := fun k => hc i _ k hi (Int.le_refl _) (by omega) (by omega)
  have ra := h1 496 (by decide) (by decide) (by decide)
  have rb := h1 497 (by decide) (by decide) (by decide)
  have rc := h1 498 (by decide) (by decide) (by decide)
  have rd := h1 499 (by decide) (by decide) (by decide)
  have re := h1 500 (by decide) (by decide) (by decide)
  have rf := h1 501 (by decide) (by decide) (by decide)
  have rg := h1 502 (by decide) (by decide) (by decide)
  have rh := h1 504 (by decide) (by decide) (by decide)
  unfold KE at h ⊢
  simp only [e, e1, e2, ra, rb, rc, rd, re, rf, rg, rh]
  obtain ⟨a1, a2, a3, a4, a5, a6, a7, a8⟩ := h
  refine ⟨a1, a2, a3, ⟨a4.1, a4.2.1, Int.le_trans a4.2.2 hn⟩, a5, fun hh => ?_, a7, fun k k0 k1 => ?_⟩
  · have b := a6 hh
    have e3 : ∀ k, C' (46 + 3 * R 498 i) k = C (46 + 3 * R 498 i) k := fun k => hc (R 498 i) _ k b.1.1 (Int.le_of_lt b.1.2) (Int.le_refl _) (by omega)
    rw [e3, e3]; exact b
  · rw [(h2 k k0 k1).1, (h2 k k0 k1).2]; exact a8 k k0 k1
theorem SE_fr {C C' R R' : tp_M} {q : Int} (h : SE C R q) (hc : ∀ c k, 118 + 3 * q ≤ c → c < 118 + 3 * q + 3 → C' c k = C c k) (h1 : ∀ c, 508 ≤ c → c ≤ 513 → R' c q = R c q) (h2 : ∀ t, 0 ≤ t → t < 7 → R' 514 (7 * q + t) = R 514 (7 * q + t)) (h3 : ∀ k, 0 ≤ k → k < 9 → R' 515 (9 * q + k) = R 515 (9 * q + k)) : SE C' R' q := by
  have e : ∀ k, C' (118 + 3 * q) k = C (118 + 3 * q) k := fun k => hc _ k (Int.le_refl _) (by omega)
  have e1 : ∀ k, C' (118 + 3 * q + 1) k = C (118 + 3 * q + 1) k := fun k => hc _ k (by omega) (by omega)
  have e2 : ∀ k, C' (118 + 3 * q + 2) k = C (118 + 3 * q + 2) k := fun k => hc _ k (by omega) (by omega)
  obtain ⟨⟨a0, a1, a2, a3, a4, a5⟩, a6, a7⟩ := h
  refine ⟨⟨?_, ?_, ?_, ?_, ?_, ?_⟩, fun t t0 t1 => by rw [h2 t t0 t1, e1]; exact a6 t t0 t1, fun k k0 k1 => by rw [h3 k k0 k1, e2]; exact a7 k k0 k1⟩
  · rw [h1 508 (by decide) (by decide), e]; exact a0
  · rw [h1 509 (by decide) (by decide), e]; exact a1
  · rw [h1 510 (by decide) (by decide), e]; exact a2
  · rw [h1 511 (by decide) (by decide), e]; exact a3
  · rw [h1 512 (by decide) (by decide), e]; exact a4
  · rw [h1 513 (by decide) (by decide), e]; exact a5
theorem LE_fr {C C' R R' : tp_M} {i : Int} (h : LE C R i) (hc : ∀ k, C' (262 + i) k = C (262 + i) k) (h1 : ∀ c, 516 ≤ c → c ≤ 520 → R' c i = R c i) : LE C' R' i := by
  obtain ⟨⟨a0, a1, a2, a3, a4⟩, a5, a6, a7, a8⟩ := h
  refine ⟨⟨?_, ?_, ?_, ?_, ?_⟩, by rw [hc]; exact a5, by rw [hc]; exact a6, by rw [hc]; exact a7, by rw [hc]; exact a8⟩
  · rw [h1 516 (by decide) (by decide), hc]; exact a0
  · rw [h1 517 (by decide) (by decide), hc]; exact a1
  · rw [h1 518 (by decide) (by decide), hc]; exact a2
  · rw [h1 519 (by decide) (by decide), hc]; exact a3
  · rw [h1 520 (by decide) (by decide), hc]; exact a4
