/-- the two sides stand at the same place of the way -/
def Lnk (C R : tp_M) (p K P r x kn E nk : Int) (D e s rt kf : Int → Int) (mo q : Int → Int → Int) (f : Int → Int) : Prop := ((C 1 0 = p ∧ C 1 1 = K ∧ C 1 2 = P) ∧ ∀ k, 0 ≤ k → k < 9 → C 303 k = f k) ∧ (R 483 0 = p ∧ R 483 2 = P ∧ ∀ k, 0 ≤ k → k < 9 → R 495 k = f k) ∧ (r = 0 → E = 1) ∧ (1 ≤ r → E = D r * e r ∧ WyC C p K P r D e s rt mo q f ∧ (C 281 r = e r ∧ C 282 r = s r ∧ ∀ j, 0 ≤ j → j < 8 → C (285 + r) j = mo r j) ∧ cxg p P r D e s rt mo q ∧ sdI r D e s mo ∧ WyR R r e s rt kf mo q ∧ kf r = kn ∧ (R 511 x = e r ∧ R 513 x = s r ∧ ∀ t, 0 ≤ t → t < 7 → R 514 (7 * x + t) = mo r t) ∧ (∀ k, 1 ≤ k → k ≤ r → 0 ≤ kf k ∧ kf k < nk) ∧ C (46 + 3 * kn) 0 = r ∧ C (46 + 3 * kn) 2 = D r)
theorem WyC_fr {C N : tp_M} {p K P r : Int} {D e s rt : Int → Int} {mo q : Int → Int → Int} {f : Int → Int} (h : WyC C p K P r D e s rt mo q f) (hf : ∀ c k, c = 1 ∨ c = 303 ∨ ((280 ≤ c ∧ c ≤ 283) ∧ k < r) ∨ (c = 280 ∧ k = r) ∨ (285 ≤ c ∧ c < 285 + r) ∨ (294 ≤ c ∧ c ≤ 294 + r) → N c k = C c k) : WyC N p K P r D e s rt mo q f := by
  obtain ⟨⟨h1, h2, h3⟩, h4, h5, h6⟩ := h
  have f1 : ∀ k, N 1 k = C 1 k := fun k => hf _ _ (Or.inl rfl)
  refine ⟨⟨by rw [f1]; exact h1, by rw [f1]; exact h2, by rw [f1]; exact h3⟩, fun k k0 k1 => by rw [hf _ _ (Or.inr (Or.inl rfl))]; exact h4 k k0 k1, fun k k0 k1 => ⟨?_, ?_⟩, fun k k0 k1 => ?_⟩
  · by_cases c : k = r
    · rw [hf _ _ (Or.inr (Or.inr (Or.inr (Or.inl ⟨rfl, c⟩))))]; exact (h5 k k0 k1).1
    · rw [hf _ _ (Or.inr (Or.inr (Or.inl ⟨by decide, by omega⟩)))]; exact (h5 k k0 k1).1
  · rw [← (h5 k k0 k1).2]
    exact rd_cong (fun j j0 j1 => hf _ _ (Or.inr (Or.inr (Or.inr (Or.inr (Or.inr ⟨by omega, by omega⟩))))))
  · obtain ⟨a1, a2, a3, a4⟩ := h6 k k0 k1
    have g : ∀ c, 280 ≤ c ∧ c ≤ 283 → N c k = C c k := fun c hc => hf _ _ (Or.inr (Or.inr (Or.inl ⟨hc, k1⟩)))
    exact ⟨by rw [g _ (by decide)]; exact a1, by rw [g _ (by decide)]; exact a2, by rw [g _ (by decide)]; exact a3, fun j j0 j1 => by rw [hf _ _ (Or.inr (Or.inr (Or.inr (Or.inr (Or.inl ⟨by omega, by omega⟩)))))]; exact a4 j j0 j1⟩
theorem WyC_cong {C : tp_M} {p K P r : Int} {D e s rt e' s' : Int → Int} {mo q mo' : Int → Int → Int} {f : Int → Int} (h : WyC C p K P r D e s rt mo q f) (h2 : ∀ k, k < r → e' k = e k ∧ s' k = s k ∧ mo' k = mo k) : WyC C p K P r D e' s' rt mo' q f := by
  obtain ⟨a1, a2, a3, a4⟩ := h
  refine ⟨a1, a2, a3, fun k k0 k1 => ?_⟩
  have b := h2 k k1
  rw [b.1, b.2.1, b.2.2]
  exact a4 k k0 k1
theorem cxg_cong {p P r : Int} {D e s rt e' s' : Int → Int} {mo q mo' : Int → Int → Int} (h : cxg p P r D e s rt mo q) (h2 : ∀ k, k < r → e' k = e k ∧ s' k = s k ∧ mo' k = mo k) : cxg p P r D e' s' rt mo' q := by
  obtain ⟨a1, a2, a3, a4⟩ := h
  refine ⟨a1, a2, a3, fun k k0 k1 => ?_⟩
  have b := h2 k k1
  obtain ⟨c1, c2, c3, c4, c5, c6⟩ := a4 k k0 k1
  rw [b.1, b.2.1, b.2.2]
  exact ⟨c1, c2, c3, c4, fun j j0 j1 => by rw [(h2 j (by omega)).1]; exact c5 j j0 j1, c6⟩
/-- what a run does to the two trees -/
def Gro (C' R R' : tp_M) (nk ns nl nk' ns' nl' W v : Int) (c : Nat) (x : Int) : Prop := Rel C' R' nk' ns' nl' ∧ (nk ≤ nk' ∧ ns ≤ ns' ∧ nl ≤ nl') ∧ (2 * nk' ≤ 2 * nk + W * v ∧ ns' ≤ ns + W * v ∧ nl' ≤ nl + W) ∧ rn c R R' ∧ (c : Int) ≤ (nl' - nl) + 2 * (nk' - nk) + (ns' - ns) + x
/-- a branch of the class, and the reference's run for it -/
def BrOk (n : Nat) : Prop := ∀ (C R : tp_M) (p K P r x kn j E nk ns nl a1 : Int) (D e s rt kf : Int → Int) (mo q : Int → Int → Int) (f Res : Int → Int), pKP p K P → 0 ≤ r → (n : Int) + r = 7 → n ≠ 0 → inP P f 0 9 → Ro p Res → 0 ≤ tp_dg Res 9 → tp_tg a1 = 21 → tp_al a1 = 9 → a1 < 312 → rs p (C a1) = Res → Rel C R nk ns nl → Lnk C R p K P r x kn E nk D e s rt kf mo q f → stR R p r x kn j 0 Res → 0 ≤ j → j ≤ 20 → (1 ≤ r → x < ns) → 1 ≤ E → tp_dg Res 9 * E ≤ 8 → 0 ≤ nk → 0 ≤ ns → 0 ≤ nl → 2 * nk + tp_dg Res 9 * E * (6 - r) ≤ 48 → ns + tp_dg Res 9 * E * (6 - r) ≤ 48 → nl + tp_dg Res 9 * E ≤ 16 → ∃ (C' R' : tp_M) (nk' ns' nl' : Int) (c : Nat), tp_br n r a1 E (if r = 0 then -2 else kn) C = some C' ∧ Gro C' R R' nk ns nl nk' ns' nl' (tp_dg Res 9 * E) (6 - r) c 1 ∧ (R' 529 r = j + 1 ∧ R' 530 r = 0 ∧ R' 483 61 = (if r = 0 then -1 else r)) ∧ (∀ c k, kpB r nk ns nl c k → C' c k = C c k) ∧ ∀ c k, chS r nk ns nl c k → R' c k = R c k
