/-- the way below a new knot -/
def WyL (C : tp_M) (p K P ρ : Int) (D e s rt : Int → Int) (mo q : Int → Int → Int) (f : Int → Int) : Prop := (C 1 0 = p ∧ C 1 1 = K ∧ C 1 2 = P) ∧ (∀ k, 0 ≤ k → k < 9 → C 303 k = f k) ∧ C 283 (ρ - 1) = rt (ρ - 1) ∧ ∀ k, 1 ≤ k → k < ρ → (C 280 k = D k ∧ rd (C (294 + k)) = q k) ∧ C 281 k = e k ∧ C 282 k = s k ∧ C 283 k = rt k ∧ ∀ j, 0 ≤ j → j < 8 → C (285 + k) j = mo k j
def pthL (ρ c k : Int) : Prop := c = 1 ∨ c = 303 ∨ (280 ≤ c ∧ c ≤ 283 ∧ k < ρ) ∨ (285 ≤ c ∧ c < 285 + ρ) ∨ (294 ≤ c ∧ c < 294 + ρ)
theorem WyL_fr {C N : tp_M} {p K P ρ : Int} {D e s rt : Int → Int} {mo q : Int → Int → Int} {f : Int → Int} (hρ : 1 ≤ ρ) (h : WyL C p K P ρ D e s rt mo q f) (hf : ∀ c k, pthL ρ c k → N c k = C c k) : WyL N p K P ρ D e s rt mo q f := by
  obtain ⟨⟨h1, h2, h3⟩, h4, h5, h6⟩ := h
  have f1 : ∀ k, N 1 k = C 1 k := fun k => hf _ _ (Or.inl rfl)
  have f3 : ∀ k, N 303 k = C 303 k := fun k => hf _ _ (Or.inr (Or.inl rfl))
  refine ⟨⟨by rw [f1]; exact h1, by rw [f1]; exact h2, by rw [f1]; exact h3⟩, fun k k0 k1 => by rw [f3]; exact h4 k k0 k1, by rw [hf _ _ (by unfold pthL; omega)]; exact h5, fun k k0 k1 => ?_⟩
  obtain ⟨⟨a1, a2⟩, a3, a4, a5, a6⟩ := h6 k k0 k1
  refine ⟨⟨by rw [hf _ _ (by unfold pthL; omega)]; exact a1, ?_⟩, by rw [hf _ _ (by unfold pthL; omega)]; exact a3, by rw [hf _ _ (by unfold pthL; omega)]; exact a4, by rw [hf _ _ (by unfold pthL; omega)]; exact a5, fun j j0 j1 => by rw [hf _ _ (by unfold pthL; omega)]; exact a6 j j0 j1⟩
  rw [← a2]
  exact rd_cong (fun j j0 j1 => hf _ _ (by unfold pthL; omega))
set_option maxHeartbeats 4000000 in
set_option maxRecDepth 100000 in
theorem s_keyC {br : Int → Int → Int → Int → tp_M → Option tp_M} {C : tp_M} {p K P ρ nk : Int} {D e s rt : Int → Int} {mo q : Int → Int → Int} {f : Int → Int} (h : pKP p K P) (hg : cxg p P ρ D e s rt mo q) (hρ : 1 ≤ ρ ∧ ρ ≤ 6) (hq : q ρ = nwK p K P ρ e rt mo q) (hW : WyL C p K P ρ D e s rt mo q f) (hrt : 0 ≤ rt (ρ - 1) ∧ rt (ρ - 1) < p) (hn : C 41 2 = nk + 1) (hnk : 0 ≤ nk ∧ nk < 24) (h0 : C (46 + 3 * nk) 0 = ρ) (hz : ∀ k, 0 ≤ k → k < 9 → C (46 + 3 * nk + 1) k = 0) (d : Int) : ∃ N, fo_X1_growKnot_22 br ρ d (46 + 3 * nk) C = fo_X1_growKnot_61 br ρ d (46 + 3 * nk) nk N ∧ rd (N (46 + 3 * nk + 1)) = q ρ ∧ ∀ c k, c ≠ 46 + 3 * nk + 1 → c ≠ 305 → c ≠ 306 → N c k = C c k := by
  obtain ⟨⟨h1, h2, h3⟩, h4, h5, h6⟩ := hW
  have w1 : tp_w (nk + 1 - 1) = nk := by rw [show nk + 1 - 1 = nk by omega]; exact ho_w (by omega) (by omega)
  have nm : ¬ 46 + 3 * nk = -1 := by omega
  by_cases c : ρ = 1
  · have wf := s_writeFirstKey (M := C) (i := nk) h h3 hnk (by rw [show (0 : Int) = ρ - 1 by omega, h5]; omega)
    refine ⟨tp_up (tp_up C (46 + 3 * nk + 1) 0 ((- C 283 0) % P)) (46 + 3 * nk + 1) 1 1, ?_, ?_, fun c k g1 _ _ => by rw [up_ne (fun hh => g1 hh.1), up_ne (fun hh => g1 hh.1)]⟩
    · unfold fo_X1_growKnot_22
      simp only [tp_lt, hn]
      rw [if_neg nm, w1, if_neg (fun hh => hh c), wf, Option.bind_some]
    · rw [hq]
      unfold nwK
      rw [if_pos c]
      have e0 : C 283 0 = rt 0 := by rw [c] at h5; exact h5
      funext k
      by_cases ck : 0 ≤ k ∧ k < 9
      · rw [rd_in ck]
        unfold ky1
        by_cases k0 : k = 0
        · subst k0; rw [if_pos rfl, up_ne (fun hh => absurd hh.2 (by decide)), up_eq ⟨rfl, rfl⟩, e0]
        · rw [if_neg k0]
          by_cases k1 : k = 1
          · subst k1; rw [if_pos rfl, up_eq ⟨rfl, rfl⟩]
          · rw [if_neg k1, up_ne (fun hh => k1 hh.2), up_ne (fun hh => k0 hh.2)]; exact hz k ck.1 ck.2
      · rw [rd_out ck]; unfold ky1; rw [if_neg (by omega), if_neg (by omega)]
  · have a := h6 (ρ - 1) (by omega) (by omega)
    have ge := cxg_e hg (ρ - 1) (by omega) (by omega)
    have gm := (hg.2.2.2 (ρ - 1) (by omega) (by omega)).2.2.2.2.1
    obtain ⟨N, n1, n2, n3⟩ := s_writeKey (M := C) (p := p) (K := K) (P := P) (i := nk) (r := ρ - 1) h h1 h2 h3 hnk (by omega) (by rw [h0]; omega) hz (fun k k0 k1 => by rw [(h6 k k0 (by omega)).1.2]; exact hg.2.2.1 k k0 (by omega)) (fun k k0 k1 => by
      rw [a.2.2.2.2 k (by omega) (by omega)]
      have := gm k k0 k1
      have := cxg_e hg k k0 (by omega)
      omega) (by rw [a.2.1]; omega) (by rw [a.2.2.2.1]; exact hrt)
    refine ⟨N, ?_, ?_, n3⟩
    · unfold fo_X1_growKnot_22
      simp only [tp_lt, hn]
      rw [if_neg nm, w1, if_pos c, n1, Option.bind_some]
    · rw [n2, hq]
      unfold nwK
      rw [if_neg c, a.2.2.2.2 0 (by omega) (by omega), a.2.2.2.1, a.2.1, a.1.2, show ρ - 1 - 1 = ρ - 2 by omega]
      exact kyP_cong (fun k k0 k1 => ⟨(h6 k k0 (by omega)).1.2, a.2.2.2.2 k (by omega) (by omega)⟩)
/-- the leaf of the place zero -/
def LfZ (C : tp_M) (nl z d nk : Int) : Prop := (2 ≤ z → LfC C nl 4 0 0 (z * d) nk) ∧ (z = 1 → LfC C nl 1 d 1 d nk)
def lz (z : Int) : Int := if z = 0 then 0 else 1
set_option maxHeartbeats 4000000 in
set_option maxRecDepth 100000 in
theorem s_leafZ {br : Int → Int → Int → Int → tp_M → Option tp_M} {C : tp_M} {ρ d kc nk nl z : Int} (h4 : C kc 4 = z) (hz : 0 ≤ z ∧ z ≤ 8) (hd : 1 ≤ d ∧ d ≤ 4) (hl : C 41 3 = nl) (hnl : 0 ≤ nl ∧ nl < 16) (hkc : 46 ≤ kc ∧ kc ≤ 115) : ∃ N, g85E br ρ d kc nk C = fo_X1_growKnot_171 br ρ d kc nk 0 N ∧ N 41 3 = nl + lz z ∧ LfZ N nl z d nk ∧ ∀ c k, ¬ (c = 41 ∧ k = 3) → c ≠ 262 + nl → N c k = C c k := by
  by_cases c2 : 2 ≤ z
  · have m := mulB (x := z) (y := d) (a := 8) (b := 4) (by omega) (by omega)
    obtain ⟨N, n1, n2, n3, n4⟩ := s_addLeaf (M := C) (n := nl) 4 0 0 (z * d) nk hl hnl
    have e4 : N kc 4 = z := by rw [n4 _ _ (by omega) (by omega)]; exact h4
    refine ⟨N, ?_, by rw [n2]; unfold lz; rw [if_neg (by omega)], ⟨fun _ => n3, fun hh => by omega⟩, n4⟩
    unfold g85E
    rw [h4, if_neg (by omega), ho_w (by omega) (by omega), n1, Option.bind_some]
    unfold fo_X1_growKnot_146 fo_X1_growKnot_168
    rw [e4, if_pos (by omega)]
  · by_cases c1 : z = 1
    · obtain ⟨N, n1, n2, n3, n4⟩ := s_addLeaf (M := C) (n := nl) 1 d 1 d nk hl hnl
      refine ⟨N, ?_, by rw [n2]; unfold lz; rw [if_neg (by omega)], ⟨fun hh => by omega, fun _ => n3⟩, n4⟩
      unfold g85E
      rw [h4, if_pos (by omega)]
      unfold fo_X1_growKnot_146 fo_X1_growKnot_168
      rw [h4, if_neg (fun hh => hh c1), n1, Option.bind_some]
    · refine ⟨C, ?_, by rw [hl]; unfold lz; rw [if_pos (by omega)]; omega, ⟨fun hh => by omega, fun hh => by omega⟩, fun c k _ _ => rfl⟩
      unfold g85E
      rw [h4, if_pos (by omega)]
      unfold fo_X1_growKnot_146 fo_X1_growKnot_168
      rw [h4, if_pos c1]
