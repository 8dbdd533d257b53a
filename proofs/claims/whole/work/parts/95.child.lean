/-- a side that one may go into -/
def sdI (r : Int) (D e s : Int → Int) (mo : Int → Int → Int) : Prop := 1 ≤ e r ∧ (0 ≤ s r ∧ s r ≤ 28 * D r * (D r * e r)) ∧ cop1 (e r) (s r) ∧ (∀ j, 1 ≤ j → j < r → 0 ≤ mo r j ∧ mo r j < e j) ∧ (∀ j, r ≤ j → mo r j = 0) ∧ mo r 0 ≤ 448
theorem cxg_child {p P r v : Int} {D e s rt kq : Int → Int} {mo q : Int → Int → Int} (hr : 1 ≤ r) (h : cxg p P r D e s rt mo q) (hs : sdI r D e s mo) (hv : 0 ≤ v ∧ v < p) (hD : D r * e r ≤ 4) (hq : Ro P kq) : cxg p P (r + 1) (ud D (r + 1) (D r * e r)) e s (ud rt r v) mo (ud q (r + 1) kq) := by
  obtain ⟨h1, h2, h3, h4⟩ := h
  obtain ⟨s1, s2, s3, s4, s5, _⟩ := hs
  refine ⟨by rw [ud_ne (by omega)]; exact h1, by rw [ud_at]; exact hD, fun k k0 k1 => ?_, fun k k0 k1 => ?_⟩
  · by_cases c : k = r + 1
    · rw [c, ud_at]; exact hq
    · rw [ud_ne c]; exact h3 k k0 (by omega)
  · by_cases c : k = r
    · subst c
      rw [ud_at, ud_ne (show k ≠ k + 1 by omega), ud_at]
      exact ⟨⟨s1, rfl⟩, s2, s3, hv, s4, s5⟩
    · have a := h4 k k0 (by omega)
      rw [ud_ne (show k + 1 ≠ r + 1 by omega), ud_ne (show k ≠ r + 1 by omega), ud_ne c]
      exact a
theorem cxg_one {p P : Int} {D e s rt : Int → Int} {mo q : Int → Int → Int} (h1 : D 1 = 1) (hq : Ro P (q 1)) : cxg p P 1 D e s rt mo q := ⟨h1, by omega, fun k k0 k1 => by rw [show k = 1 by omega]; exact hq, fun k k0 k1 => by omega⟩
