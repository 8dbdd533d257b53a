theorem Gro_trans {C1 C2 R R1 R2 : tp_M} {nk ns nl nk1 ns1 nl1 nk2 ns2 nl2 W1 W2 v x1 x2 : Int} {c1 c2 : Nat} (h1 : Gro C1 R R1 nk ns nl nk1 ns1 nl1 W1 v c1 x1) (h2 : Gro C2 R1 R2 nk1 ns1 nl1 nk2 ns2 nl2 W2 v c2 x2) : Gro C2 R R2 nk ns nl nk2 ns2 nl2 (W1 + W2) v (c1 + c2) (x1 + x2) := by
  obtain ⟨_, ⟨a1, a2, a3⟩, ⟨a4, a5, a6⟩, a7, a8⟩ := h1
  obtain ⟨b0, ⟨b1, b2, b3⟩, ⟨b4, b5, b6⟩, b7, b8⟩ := h2
  have e := Int.add_mul W1 W2 v
  exact ⟨b0, ⟨by omega, by omega, by omega⟩, ⟨by omega, by omega, by omega⟩, rn_add a7 b7, by omega⟩
theorem Gro_w {C' R R' : tp_M} {nk ns nl nk' ns' nl' W W' v x : Int} {c : Nat} (h : Gro C' R R' nk ns nl nk' ns' nl' W v c x) (hW : W ≤ W') (hv : 0 ≤ v) : Gro C' R R' nk ns nl nk' ns' nl' W' v c x := by
  obtain ⟨b0, b1, ⟨b4, b5, b6⟩, b7, b8⟩ := h
  have e := Int.mul_le_mul_of_nonneg_right hW hv
  exact ⟨b0, b1, ⟨by omega, by omega, by omega⟩, b7, b8⟩
theorem chS_u {r nk ns nl c k : Int} (h : (c = 483 ∧ k < 11) ∨ c = 495 ∨ (c = 528 ∧ k ≤ r) ∨ ((c = 529 ∨ c = 530) ∧ k < r)) : chS r nk ns nl c k := by
  unfold chS
  rcases h with h | h | h | h <;> (refine ⟨?_, ?_, ⟨?_, ?_, ?_⟩, ?_, ?_, ?_, ?_, ?_, ?_, ?_, ?_, ?_, ?_, ?_, ?_⟩ <;> omega)
theorem WyR_S {R N : tp_M} {r r' nk ns nl : Int} {e s rt kf : Int → Int} {mo q : Int → Int → Int} (h : WyR R r e s rt kf mo q) (hk : ∀ k, 1 ≤ k → k ≤ r → 0 ≤ kf k ∧ kf k < nk) (hf : ∀ c k, chS r' nk ns nl c k → N c k = R c k) : WyR N r e s rt kf mo q := by
  refine WyR_fr h (fun c i hc hk' => ?_) (fun k j k0 k1 j0 j1 => hf _ _ (chS_tr (Or.inl ⟨rfl, by have := hk k k0 k1; omega⟩))) (fun k j k0 k1 j0 j1 => hf _ _ (chS_tr (Or.inr (Or.inr (Or.inr (Or.inr (Or.inl ⟨rfl, by have := hk k k0 k1; omega⟩)))))))
  obtain ⟨k, k0, k1, ki⟩ := hk'
  refine hf c i (chS_tr ?_)
  have a := (hk k k0 k1).2
  rw [ki]
  rcases hc with hc | hc | hc
  · exact Or.inr (Or.inl ⟨by omega, by omega, a⟩)
  · exact Or.inr (Or.inl ⟨by omega, by omega, a⟩)
  · exact Or.inr (Or.inr (Or.inr (Or.inl ⟨hc.1, hc.2, a⟩)))
/-- what a factor of a branch leaves as it is in the class -/
def frS (r nk ns nl c k : Int) : Prop := kpC (r + 1) nk ns nl c k ∧ ¬ (c = 283 ∧ k = r)
theorem frS_mono {r nk ns nl nk' ns' nl' c k : Int} (h : frS r nk ns nl c k) (h1 : nk ≤ nk') (h2 : ns ≤ ns') (h3 : nl ≤ nl') : frS r nk' ns' nl' c k := ⟨kpC_mono h.1 (Int.le_refl _) h1 h2 h3, h.2⟩
theorem kpC_n283 {r nk ns nl : Int} (hr : 0 ≤ r ∧ r ≤ 6) (hk : nk ≤ 24) (hs : ns ≤ 48) (hl : nl ≤ 16) : ¬ kpC r nk ns nl 283 r := by
  intro h
  unfold kpC at h
  rcases h with h | h | h | h | h | h | h | h | h | h | h | h <;> omega
theorem kpB_S {r nk ns nl c k : Int} (hr : 0 ≤ r ∧ r ≤ 6) (hk : nk ≤ 24) (hs : ns ≤ 48) (hl : nl ≤ 16) (h : kpB r nk ns nl c k) : frS r nk ns nl c k := by
  rcases h with h | h | h | h
  · refine ⟨kpC_mono h (by omega) (Int.le_refl _) (Int.le_refl _) (Int.le_refl _), fun hh => ?_⟩
    rw [hh.1, hh.2] at h
    exact kpC_n283 hr hk hs hl h
  · exact ⟨Or.inr (Or.inr (Or.inr (Or.inr (Or.inr (Or.inr (Or.inl ⟨by omega, by omega⟩)))))), by omega⟩
  · exact ⟨Or.inr (Or.inr (Or.inr (Or.inr (Or.inr (Or.inr (Or.inr (Or.inl ⟨by omega, by omega⟩))))))), by omega⟩
  · exact ⟨Or.inr (Or.inr (Or.inr (Or.inr (Or.inr (Or.inr (Or.inr (Or.inr (Or.inl ⟨by omega, by omega⟩)))))))), by omega⟩
theorem wy_S {r nk ns nl c k : Int} (hr : 0 ≤ r ∧ r ≤ 6) (h : c = 1 ∨ c = 303 ∨ ((280 ≤ c ∧ c ≤ 283) ∧ k < r) ∨ (c = 280 ∧ k = r) ∨ (285 ≤ c ∧ c < 285 + r) ∨ (294 ≤ c ∧ c ≤ 294 + r)) : frS r nk ns nl c k := by
  rcases h with h | h | h | h | h | h
  · exact ⟨Or.inl (by omega), by omega⟩
  · exact ⟨Or.inr (Or.inr (Or.inr (Or.inr (Or.inr (Or.inr (Or.inr (Or.inr (Or.inr (Or.inl h))))))))), by omega⟩
  · exact ⟨Or.inr (Or.inr (Or.inr (Or.inr (Or.inr (Or.inr (Or.inl ⟨h.1, by omega⟩)))))), by omega⟩
  · exact ⟨Or.inr (Or.inr (Or.inr (Or.inr (Or.inr (Or.inr (Or.inl ⟨by omega, by omega⟩)))))), by omega⟩
  · exact ⟨Or.inr (Or.inr (Or.inr (Or.inr (Or.inr (Or.inr (Or.inr (Or.inl ⟨h.1, by omega⟩))))))), by omega⟩
  · exact ⟨Or.inr (Or.inr (Or.inr (Or.inr (Or.inr (Or.inr (Or.inr (Or.inr (Or.inl ⟨h.1, by omega⟩)))))))), by omega⟩
theorem Lnk_fr {C R C' R' : tp_M} {p K P r x kn E nk nk' ns nl : Int} {D e s rt kf : Int → Int} {mo q : Int → Int → Int} {f : Int → Int} (hr : 0 ≤ r ∧ r ≤ 6) (h : Lnk C R p K P r x kn E nk D e s rt kf mo q f) (hn : nk ≤ nk') (h24 : nk ≤ 24) (hx : 1 ≤ r → 0 ≤ x ∧ x < ns) (hc : ∀ c k, frS r nk ns nl c k → C' c k = C c k) (hR : ∀ c k, chS r nk ns nl c k → R' c k = R c k) : Lnk C' R' p K P r x kn E nk' D e s rt kf mo q f := by
  obtain ⟨⟨⟨a1, a2, a3⟩, a4⟩, ⟨b1, b2, b3⟩, c0, h1⟩ := h
  have f1 : ∀ k, C' 1 k = C 1 k := fun k => hc _ _ (wy_S hr (Or.inl rfl))
  have f3 : ∀ k, C' 303 k = C 303 k := fun k => hc _ _ (wy_S hr (Or.inr (Or.inl rfl)))
  have g3 : ∀ k, k < 11 → R' 483 k = R 483 k := fun k hk => hR _ _ (chS_u (Or.inl ⟨rfl, hk⟩))
  have g5 : ∀ k, R' 495 k = R 495 k := fun k => hR _ _ (chS_u (Or.inr (Or.inl rfl)))
  refine ⟨⟨⟨by rw [f1]; exact a1, by rw [f1]; exact a2, by rw [f1]; exact a3⟩, fun k k0 k1 => by rw [f3]; exact a4 k k0 k1⟩, ⟨by rw [g3 _ (by decide)]; exact b1, by rw [g3 _ (by decide)]; exact b2, fun k k0 k1 => by rw [g5]; exact b3 k k0 k1⟩, c0, fun r1 => ?_⟩
  obtain ⟨d0, d1, ⟨d2, d3, d4⟩, d5, d6, d7, d8, ⟨d9, d10, d11⟩, d12, d13, d14⟩ := h1 r1
  have kb := d12 r r1 (Int.le_refl _)
  rw [d8] at kb
  have x2 := hx r1
  have k7 : ∀ c, 281 ≤ c → c ≤ 282 → C' c r = C c r := fun c y0 y1 => hc _ _ ⟨Or.inr (Or.inr (Or.inr (Or.inr (Or.inr (Or.inr (Or.inl ⟨by omega, by omega⟩)))))), by omega⟩
  have k8 : ∀ j, C' (285 + r) j = C (285 + r) j := fun j => hc _ _ ⟨Or.inr (Or.inr (Or.inr (Or.inr (Or.inr (Or.inr (Or.inr (Or.inl ⟨by omega, by omega⟩))))))), by omega⟩
  have k9 : ∀ c, 508 ≤ c → c ≤ 513 → R' c x = R c x := fun c y0 y1 => hR _ _ (chS_tr (Or.inr (Or.inr (Or.inr (Or.inr (Or.inr (Or.inl ⟨y0, y1, x2.2⟩)))))))
  have k10 : ∀ t, 0 ≤ t → t < 7 → R' 514 (7 * x + t) = R 514 (7 * x + t) := fun t t0 t1 => hR _ _ (chS_tr (Or.inr (Or.inr (Or.inr (Or.inr (Or.inr (Or.inr (Or.inl ⟨rfl, by omega⟩))))))))
  have k11 : ∀ k, 46 + 3 * kn ≠ 283 → C' (46 + 3 * kn) k = C (46 + 3 * kn) k := fun k hk => hc _ _ ⟨Or.inr (Or.inr (Or.inr (Or.inl ⟨by omega, by omega⟩))), fun hh => hk hh.1⟩
  have k12 : 46 + 3 * kn ≠ 283 := by omega
  exact ⟨d0, WyC_fr d1 (fun c k hh => hc c k (wy_S hr hh)), ⟨by rw [k7 _ (by decide) (by decide)]; exact d2, by rw [k7 _ (by decide) (by decide)]; exact d3, fun j j0 j1 => by rw [k8]; exact d4 j j0 j1⟩, d5, d6, WyR_S d7 d12 hR, d8, ⟨by rw [k9 _ (by decide) (by decide)]; exact d9, by rw [k9 _ (by decide) (by decide)]; exact d10, fun t t0 t1 => by rw [k10 t t0 t1]; exact d11 t t0 t1⟩, fun k y0 y1 => ⟨(d12 k y0 y1).1, Int.lt_of_lt_of_le (d12 k y0 y1).2 hn⟩, by rw [k11 _ k12]; exact d13, by rw [k11 _ k12]; exact d14⟩
theorem stR_fr {R R' : tp_M} {p r x kn j i i' nk ns nl : Int} {Res : Int → Int} (h : stR R p r x kn j i Res) (hk : 1 ≤ r → kn < nk ∧ x < ns) (hR : ∀ c k, chS r nk ns nl c k → R' c k = R c k) (h1 : R' 529 r = j) (h2 : R' 530 r = i') (h3 : R' 483 61 = r) : stR R' p r x kn j i' Res := by
  obtain ⟨a1, a2, a3, a4, a5, a6⟩ := h
  refine ⟨by rw [hR _ _ (chS_u (Or.inl ⟨rfl, by decide⟩))]; exact a1, h3, h1, h2, fun r0 => ?_, fun r1 => ?_⟩
  · obtain ⟨b1, b2, b3⟩ := a5 r0
    exact ⟨b1, by rw [hR _ _ (chS_u (Or.inr (Or.inr (Or.inl ⟨rfl, by omega⟩))))]; exact b2, fun k k0 k1 => by rw [hR _ _ (chS_u (Or.inr (Or.inl rfl)))]; exact b3 k k0 k1⟩
  · obtain ⟨b1, b2, b3, b4, b5, b6⟩ := a6 r1
    obtain ⟨kn1, xn⟩ := hk r1
    have g : ∀ c, 499 ≤ c → c ≤ 500 → R' c kn = R c kn := fun c y0 y1 => hR _ _ (chS_tr (Or.inr (Or.inl ⟨by omega, by omega, kn1⟩)))
    exact ⟨by rw [hR _ _ (chS_u (Or.inr (Or.inr (Or.inl ⟨rfl, by omega⟩))))]; exact b1, b2, by rw [g _ (by decide) (by decide)]; exact b3, by rw [g _ (by decide) (by decide)]; exact b4, b5, fun k k0 k1 => by rw [hR _ _ (chS_tr (Or.inr (Or.inr (Or.inr (Or.inr (Or.inr (Or.inr (Or.inr (Or.inl ⟨rfl, by omega⟩)))))))))]; exact b6 k k0 k1⟩
theorem Rel_fr {C C' R R' : tp_M} {ρ r nk ns nl : Int} (h : Rel C R nk ns nl) (hc : ∀ c k, kpC ρ nk ns nl c k → C' c k = C c k) (hr : ∀ c k, chS r nk ns nl c k → R' c k = R c k) (h1 : C' 41 2 = C 41 2 ∧ C' 41 6 = C 41 6 ∧ C' 41 3 = C 41 3) (h2 : R' 483 21 = R 483 21 ∧ R' 483 22 = R 483 22 ∧ R' 483 23 = R 483 23) : Rel C' R' nk ns nl := by
  have o := Rel_old h (Int.le_refl _) hc hr
  obtain ⟨⟨b1, b2, b3⟩, ⟨b4, b5, b6⟩, _⟩ := h
  exact ⟨⟨by rw [h1.1]; exact b1, by rw [h1.2.1]; exact b2, by rw [h1.2.2]; exact b3⟩, ⟨by rw [h2.1]; exact b4, by rw [h2.2.1]; exact b5, by rw [h2.2.2]; exact b6⟩, o⟩
theorem frS_Fl {C C' : tp_M} {r nk ns nl : Int} {l : List Fent} (hr : 0 ≤ r ∧ r ≤ 6) (hl : l.length ≤ 9) (h : Fl C (312 + 21 * r) l) (hc : ∀ c k, frS r nk ns nl c k → C' c k = C c k) : Fl C' (312 + 21 * r) l := Fl_fr hl h (fun c k hh => hc c k ⟨Or.inr (Or.inr (Or.inr (Or.inr (Or.inr (Or.inr (Or.inr (Or.inr (Or.inr (Or.inr (Or.inl ⟨by omega, by omega⟩)))))))))), by omega⟩)
