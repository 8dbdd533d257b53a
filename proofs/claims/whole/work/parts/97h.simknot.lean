theorem budK {m E v nk ns nl : Int} (hm : 2 ≤ m) (hE : 1 ≤ E) (h8 : m * E ≤ 8) (hv : 1 ≤ v) (h1 : 2 * nk + m * E * v ≤ 48) (h2 : ns + m * E * v ≤ 48) (h3 : nl + m * E ≤ 16) : m ≤ 8 ∧ E ≤ 4 ∧ nk < 24 ∧ ns + m ≤ 48 ∧ nl < 16 := by
  have a := Int.mul_le_mul_of_nonneg_left hE (show 0 ≤ m by omega)
  have b := Int.mul_le_mul_of_nonneg_right hm (show 0 ≤ E by omega)
  have c := Int.mul_le_mul_of_nonneg_left hv (show 0 ≤ m * E by omega)
  refine ⟨?_, ?_, ?_, ?_, ?_⟩ <;> omega
theorem budK2 {m z L len E v : Int} (hm : 2 ≤ m) (hE : 1 ≤ E) (hv : 0 ≤ v) (hz : 0 ≤ z ∧ z ≤ m) (hL : L ≤ m - z) (hlen : 0 ≤ len ∧ len ≤ L) : L * E ≤ m * E ∧ 0 ≤ L * E ∧ 2 + L * E * v ≤ m * E * (v + 1) ∧ len + L * E * v ≤ m * E * (v + 1) ∧ lz z + L * E ≤ m * E := by
  have a := Int.mul_le_mul_of_nonneg_right hL (show 0 ≤ E by omega)
  rw [Int.sub_mul] at a
  have b := Int.mul_le_mul_of_nonneg_left hE hz.1
  have c := Int.mul_le_mul_of_nonneg_left hE (show 0 ≤ m by omega)
  have d := Int.mul_nonneg (show 0 ≤ L by omega) (show 0 ≤ E by omega)
  have g := Int.mul_le_mul_of_nonneg_right (show L * E ≤ m * E by omega) hv
  have k : m * E * (v + 1) = m * E * v + m * E := by rw [Int.mul_add, Int.mul_one]
  have lzb : lz z ≤ z := by unfold lz; split <;> omega
  refine ⟨?_, d, ?_, ?_, ?_⟩ <;> omega
theorem cxg_one' {p P ρ : Int} {D e s rt : Int → Int} {mo q : Int → Int → Int} (hρ : ρ = 1) (h1 : D ρ = 1) (hq : Ro P (q ρ)) : cxg p P ρ D e s rt mo q := by
  subst hρ
  exact cxg_one h1 hq
theorem cxg_dn {p P r : Int} {D e s rt : Int → Int} {mo q : Int → Int → Int} (hr : 1 ≤ r) (h : cxg p P (r + 1) D e s rt mo q) : cxg p P r D e s rt mo q := by
  have d := cxg_D h r hr (by omega)
  obtain ⟨h1, h2, h3, h4⟩ := h
  exact ⟨h1, by omega, fun k k0 k1 => h3 k k0 (by omega), fun k k0 k1 => h4 k k0 (by omega)⟩
/-- the way of a child, as the class keeps it -/
theorem WyL_child {C R : tp_M} {p K P r ρ x kn E nk root : Int} {D e s rt kf kq : Int → Int} {mo q : Int → Int → Int} {f : Int → Int} (hr : 0 ≤ r ∧ r ≤ 5) (hρ : ρ = r + 1) (hL : Lnk C R p K P r x kn E nk D e s rt kf mo q f) : WyL (tp_up C 283 r root) p K P ρ (ud D ρ E) e s (ud rt r root) mo (ud q ρ kq) f := by
  obtain ⟨⟨⟨a1, a2, a3⟩, a4⟩, b, c0, h1⟩ := hL
  have g : ∀ c k, c ≠ 283 → tp_up C 283 r root c k = C c k := fun c k hc => up_ne (fun hh => hc hh.1)
  refine ⟨⟨by rw [g _ _ (by decide)]; exact a1, by rw [g _ _ (by decide)]; exact a2, by rw [g _ _ (by decide)]; exact a3⟩, fun k k0 k1 => by rw [g _ _ (by decide)]; exact a4 k k0 k1, ?_, fun k k0 k1 => ?_⟩
  · rw [show ρ - 1 = r by omega, up_eq ⟨rfl, rfl⟩, ud_at]
  · obtain ⟨d0, ⟨_, _, w3, w4⟩, ⟨d2, d3, d4⟩, _⟩ := h1 (by omega)
    obtain ⟨y1, y2⟩ := w3 k k0 (by omega)
    have yr : rd (tp_up C 283 r root (294 + k)) = rd (C (294 + k)) := rd_cong (fun j _ _ => g _ _ (by omega))
    rw [ud_ne (show k ≠ ρ by omega), ud_ne (show k ≠ ρ by omega), g _ _ (by decide), g _ _ (by decide), g _ _ (by decide), yr]
    by_cases c : k = r
    · subst c
      exact ⟨⟨y1, y2⟩, d2, d3, by rw [up_eq ⟨rfl, rfl⟩, ud_at], fun j j0 j1 => by rw [g _ _ (by omega)]; exact d4 j j0 j1⟩
    · obtain ⟨z1, z2, z3, z4⟩ := w4 k k0 (by omega)
      exact ⟨⟨y1, y2⟩, z1, z2, by rw [up_ne (fun hh => c hh.2), ud_ne c]; exact z3, fun j j0 j1 => by rw [g _ _ (by omega)]; exact z4 j j0 j1⟩
theorem cxg_kid {C R : tp_M} {p K P r ρ x kn E nk root : Int} {D e s rt kf kq : Int → Int} {mo q : Int → Int → Int} {f : Int → Int} (hr : 0 ≤ r ∧ r ≤ 5) (hρ : ρ = r + 1) (hL : Lnk C R p K P r x kn E nk D e s rt kf mo q f) (hE : E ≤ 4) (hv : 0 ≤ root ∧ root < p) (hq : Ro P kq) : cxg p P ρ (ud D ρ E) e s (ud rt r root) mo (ud q ρ kq) := by
  by_cases c : r = 0
  · exact cxg_one' (by omega) (by rw [ud_at]; exact hL.2.2.1 c) (by rw [ud_at]; exact hq)
  · obtain ⟨d0, _, _, d5, d6, _⟩ := hL.2.2.2 (by omega)
    subst hρ
    rw [d0]
    exact cxg_child (by omega) d5 d6 hv (by omega) hq
/-- the reference's step that makes the knot -/
theorem s_kid {C R : tp_M} {p K P r ρ x kn j E nk ns nl m : Int} {i : Nat} {D e s rt kf kq : Int → Int} {mo q : Int → Int → Int} {f Res Y w : Int → Int} {z : Int} {l : List (Int × Int)} {fe : Fent} (h : pKP p K P) (hr : 0 ≤ r ∧ r ≤ 5) (hρ : ρ = r + 1) (hf : inP P f 0 9) (hRo : Ro p Res) (hdg : 0 ≤ tp_dg Res 9) (hRel : Rel C R nk ns nl) (hL : Lnk C R p K P r x kn E nk D e s rt kf mo q f) (hS : stR R p r x kn j i Res) (hj : 0 ≤ j ∧ j ≤ 100) (hi : (fzl p (mon p Res))[i]? = some fe) (hl9 : (fzl p (mon p Res)).length ≤ 9) (hf1 : fe.1 = 1) (hm : (fe.2.1 : Int) = m) (hm2 : 2 ≤ m ∧ m ≤ 8) (hv : 0 ≤ fe.2.2 0 ∧ fe.2.2 0 < p) (hg : cxg p P ρ (ud D ρ E) e s (ud rt r ((p - fe.2.2 0) % p)) mo (ud q ρ kq)) (hmD : m * E ≤ 8) (hK : KnP p K P ρ m (ud D ρ E) e s (ud rt r ((p - fe.2.2 0) % p)) mo (ud q ρ kq) f Y w z l) (hq : ud q ρ kq ρ = nwK p K P ρ e (ud rt r ((p - fe.2.2 0) % p)) mo (ud q ρ kq)) (hnk : 0 ≤ nk ∧ nk < 40) (hns : 0 ≤ ns ∧ ns + l.length ≤ 60) (hnl : 0 ≤ nl ∧ nl < 20) : ∃ R', f_X11_steps R = some R' ∧ SpK R' R p K r kn j m nk ns nl i (ud D ρ E) e s (ud rt r ((p - fe.2.2 0) % p)) (ud kf ρ nk) mo (ud q ρ kq) Y w z l := by
  have hm' : m * ud D ρ E ρ ≤ 8 := by rw [ud_at]; exact hmD
  by_cases c : r = 0
  · have hρ1 : ρ = 1 := by omega
    clear hρ
    subst c hρ1
    exact s_stepKnot0 (P := P) h hRo hdg hj hS hi hl9 hf1 hm hm2 hv hg hm' hf hK hq ud_at ud_at hL.2.1.2.1 hL.2.1.2.2 hRel.2.1.1 hRel.2.1.2.1 hRel.2.1.2.2 hnk hns hnl
  · have r1 : 1 ≤ r := by omega
    subst hρ
    obtain ⟨d0, d1, d2, d5, d6, d7, d8, ⟨d9, d10, d11⟩, d12, d13, d14⟩ := hL.2.2.2 r1
    have u1 : ∀ k, k ≤ r → ud kf (r + 1) nk k = kf k ∧ ud q (r + 1) kq k = q k := fun k hk => ⟨ud_ne (by omega), ud_ne (by omega)⟩
    exact s_stepKnot1 (P := P) h ⟨r1, hr.2⟩ hRo hdg hj hS hi hl9 hf1 hm hm2 hv hg hm' hf hK hq ud_at (WyR_cong d7 (fun k _ k1 => u1 k k1) (fun k _ k1 => ⟨rfl, rfl, ud_ne (by omega), rfl⟩)) (by rw [(u1 r (Int.le_refl _)).1]; exact d8) d9 d10 d11 (by have := d6.2.2.2.2.2; omega) ud_at (fun k k0 k1 => by rw [(u1 k k1).1]; have := d12 k k0 k1; omega) (cxg_dn r1 hg) hL.2.1.2.1 hL.2.1.2.2 hRel.2.1.1 hRel.2.1.2.1 hRel.2.1.2.2 hnk hns hnl
