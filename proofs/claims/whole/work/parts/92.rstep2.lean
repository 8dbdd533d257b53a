/-- what a reference's knot holds -/
def KnV (R' : tp_M) (p K ρ nk ns nl : Int) (D e s rt : Int → Int) (mo : Int → Int → Int) (Y w : Int → Int) (z : Int) (l : List (Int × Int)) : Prop := (R' 499 nk = ns ∧ R' 500 nk = l.length ∧ R' 501 nk = z ∧ R' 502 nk = idL w (w (lsS w 9)) l) ∧ (∀ k, 0 ≤ k → k < 9 → R' 503 (9 * nk + k) = w k) ∧ (∀ (j : Nat) ab, l[j]? = some ab → SdR R' (ns + j) (sdF w (lft ρ e s) ab) (mnl e s (ρ - 1).toNat (sgS w (lft ρ e s) ab.1 ab.2)) (rsR p K.toNat ρ D e s rt mo Y w (lft ρ e s) ab)) ∧ R' 483 22 = ns + l.length ∧ R' 483 23 = nl + lz z ∧ LfZR R' nl z (D ρ) nk
theorem KnV_fr {R N : tp_M} {p K ρ nk ns nl : Int} {D e s rt : Int → Int} {mo : Int → Int → Int} {Y w : Int → Int} {z : Int} {l : List (Int × Int)} (h : KnV R p K ρ nk ns nl D e s rt mo Y w z l) (hf : ∀ c k, (c = 483 ∧ (k = 22 ∨ k = 23)) ∨ (499 ≤ c ∧ c ≤ 520) → N c k = R c k) : KnV N p K ρ nk ns nl D e s rt mo Y w z l := by
  obtain ⟨⟨a1, a2, a3, a4⟩, a5, a6, a7, a8, a9⟩ := h
  have g : ∀ c k, 499 ≤ c → c ≤ 520 → N c k = R c k := fun c k x1 x2 => hf c k (Or.inr ⟨x1, x2⟩)
  refine ⟨⟨by rw [g _ _ (by decide) (by decide)]; exact a1, by rw [g _ _ (by decide) (by decide)]; exact a2, by rw [g _ _ (by decide) (by decide)]; exact a3, by rw [g _ _ (by decide) (by decide)]; exact a4⟩, fun k k0 k1 => by rw [g _ _ (by decide) (by decide)]; exact a5 k k0 k1, fun j ab hj => ?_, by rw [hf _ _ (Or.inl ⟨rfl, Or.inl rfl⟩)]; exact a7, by rw [hf _ _ (Or.inl ⟨rfl, Or.inr rfl⟩)]; exact a8, fun hz => ?_, fun hz => ?_⟩
  · obtain ⟨⟨b0, b1, b2, b3, b4, b5⟩, b6, b7⟩ := a6 j ab hj
    exact ⟨⟨by rw [g _ _ (by decide) (by decide)]; exact b0, by rw [g _ _ (by decide) (by decide)]; exact b1, by rw [g _ _ (by decide) (by decide)]; exact b2, by rw [g _ _ (by decide) (by decide)]; exact b3, by rw [g _ _ (by decide) (by decide)]; exact b4, by rw [g _ _ (by decide) (by decide)]; exact b5⟩, fun t t0 t1 => by rw [g _ _ (by decide) (by decide)]; exact b6 t t0 t1, fun k k0 k1 => by rw [g _ _ (by decide) (by decide)]; exact b7 k k0 k1⟩
  · obtain ⟨b0, b1, b2, b3, b4⟩ := a9.1 hz
    exact ⟨by rw [g _ _ (by decide) (by decide)]; exact b0, by rw [g _ _ (by decide) (by decide)]; exact b1, by rw [g _ _ (by decide) (by decide)]; exact b2, by rw [g _ _ (by decide) (by decide)]; exact b3, by rw [g _ _ (by decide) (by decide)]; exact b4⟩
  · obtain ⟨b0, b1, b2, b3, b4⟩ := a9.2 hz
    exact ⟨by rw [g _ _ (by decide) (by decide)]; exact b0, by rw [g _ _ (by decide) (by decide)]; exact b1, by rw [g _ _ (by decide) (by decide)]; exact b2, by rw [g _ _ (by decide) (by decide)]; exact b3, by rw [g _ _ (by decide) (by decide)]; exact b4⟩
/-- what laying a knot and going into it changes -/
def chK (h nk ns nl c k : Int) : Prop := c = 487 ∨ c = 526 ∨ (c = 483 ∧ (k = 22 ∨ k = 23 ∨ k = 49 ∨ k = 56 ∨ k = 61)) ∨ (521 ≤ c ∧ c ≤ 525) ∨ (c = 503 ∧ 9 * nk ≤ k ∧ k < 9 * nk + 9) ∨ (499 ≤ c ∧ c ≤ 502 ∧ k = nk) ∨ (508 ≤ c ∧ c ≤ 513 ∧ ns ≤ k) ∨ (c = 514 ∧ 7 * ns ≤ k) ∨ (c = 515 ∧ 9 * ns ≤ k) ∨ (516 ≤ c ∧ c ≤ 520 ∧ nl ≤ k) ∨ (528 ≤ c ∧ c ≤ 530 ∧ k = h + 1)
def chJ (nk ns nl c k : Int) : Prop := c ≠ 487 ∧ c ≠ 526 ∧ ¬ (c = 483 ∧ (k = 22 ∨ k = 23 ∨ k = 49 ∨ k = 56)) ∧ ¬ (521 ≤ c ∧ c ≤ 525) ∧ ¬ (c = 503 ∧ 9 * nk ≤ k ∧ k < 9 * nk + 9) ∧ ¬ (499 ≤ c ∧ c ≤ 502 ∧ k = nk) ∧ ¬ (508 ≤ c ∧ c ≤ 513 ∧ ns ≤ k) ∧ ¬ (c = 514 ∧ 7 * ns ≤ k) ∧ ¬ (c = 515 ∧ 9 * ns ≤ k) ∧ ¬ (516 ≤ c ∧ c ≤ 520 ∧ nl ≤ k)
theorem chJ_61 {nk ns nl : Int} : chJ nk ns nl 483 61 := ⟨by decide, by decide, fun x => absurd x.2 (by decide), by decide, fun x => absurd x.1 (by decide), fun x => absurd x.1 (by decide), fun x => absurd x.1 (by decide), fun x => absurd x.1 (by decide), fun x => absurd x.1 (by decide), fun x => absurd x.1 (by decide)⟩
theorem chK_J {h nk ns nl c k : Int} (hc : ¬ chK h nk ns nl c k) : chJ nk ns nl c k ∧ ¬ (c = 483 ∧ k = 61) ∧ ¬ (c = 528 ∧ k = h + 1) ∧ ¬ (c = 529 ∧ k = h + 1) ∧ ¬ (c = 530 ∧ k = h + 1) := by
  unfold chK at hc
  simp only [not_or] at hc
  obtain ⟨h1, h2, h3, h4, h5, h6, h7, h8, h9, h10, h11⟩ := hc
  exact ⟨⟨h1, h2, fun x => h3 ⟨x.1, by omega⟩, h4, h5, h6, h7, h8, h9, h10⟩, fun x => h3 ⟨x.1, by omega⟩, fun x => h11 ⟨by omega, by omega, x.2⟩, fun x => h11 ⟨by omega, by omega, x.2⟩, fun x => h11 ⟨by omega, by omega, x.2⟩⟩
theorem chV {h c k : Int} (hc : (c = 483 ∧ (k = 22 ∨ k = 23)) ∨ (499 ≤ c ∧ c ≤ 520)) : ¬ (c = 483 ∧ k = 61) ∧ ¬ (c = 528 ∧ k = h + 1) ∧ ¬ (c = 529 ∧ k = h + 1) ∧ ¬ (c = 530 ∧ k = h + 1) := by omega
theorem KnR_J {R' R : tp_M} {p K ρ nk ns nl : Int} {D e s rt : Int → Int} {mo : Int → Int → Int} {Y w : Int → Int} {z : Int} {l : List (Int × Int)} (h : KnR R' R p K ρ nk ns nl D e s rt mo Y w z l) : KnV R' p K ρ nk ns nl D e s rt mo Y w z l ∧ ∀ c k, chJ nk ns nl c k → R' c k = R c k := by
  obtain ⟨a1, a2, a3, a4, a5, a6, a7⟩ := h
  exact ⟨⟨a1, a2, a3, a4, a5, a6⟩, fun c k hc => a7 c k hc.1 hc.2.1 hc.2.2.1 hc.2.2.2.1 hc.2.2.2.2.1 hc.2.2.2.2.2.1 hc.2.2.2.2.2.2.1 hc.2.2.2.2.2.2.2.1 hc.2.2.2.2.2.2.2.2.1 hc.2.2.2.2.2.2.2.2.2⟩
/-- the last part of going into a knot -/
theorem s_goesIn {R V : tp_M} {nk h : Int} (v1 : f_X11_laysKnot nk R = some V) (e61 : V 483 61 = h) (hh : 0 ≤ h ∧ h ≤ 6) : f_X11_goesInto nk R = some (tp_up (tp_up (tp_up (tp_up V 483 61 (h + 1)) 528 (h + 1) nk) 529 (h + 1) 0) 530 (h + 1) 0) := by
  have h8 : 0 ≤ h + 1 ∧ h + 1 < 8 := by omega
  have w8 : tp_w (h + 1) = h + 1 := ho_w (by omega) (by omega)
  unfold f_X11_goesInto
  have e1 : tp_up V 483 61 (h + 1) 483 61 = h + 1 := up_eq ⟨rfl, rfl⟩
  have e2 : tp_up (tp_up V 483 61 (h + 1)) 528 (h + 1) nk 483 61 = h + 1 := by rw [up_ne (fun hh => absurd hh.1 (by decide))]; exact e1
  have e3 : tp_up (tp_up (tp_up V 483 61 (h + 1)) 528 (h + 1) nk) 529 (h + 1) 0 483 61 = h + 1 := by rw [up_ne (fun hh => absurd hh.1 (by decide))]; exact e2
  rw [v1, Option.bind_some]
  simp only [tp_mp, e61, w8, e1, e2, e3]
  rw [if_pos h8, if_pos h8, if_pos h8]
set_option maxHeartbeats 4000000 in
set_option maxRecDepth 100000 in
theorem s_goesInto {R : tp_M} {p K P ρ m nk ns nl h : Int} {D e s rt kf : Int → Int} {mo q : Int → Int → Int} {f Y w : Int → Int} {z : Int} {l : List (Int × Int)} (hp : pKP p K P) (hg : cxg p P ρ D e s rt mo q) (hρ : 1 ≤ ρ ∧ ρ ≤ 6) (hm : 2 ≤ m ∧ m ≤ 8) (hmD : m * D ρ ≤ 8) (hf : inP P f 0 9) (hK : KnP p K P ρ m D e s rt mo q f Y w z l) (hW : WyR R ρ e s rt kf mo q) (hkf : kf ρ = nk) (hnk : 0 ≤ nk ∧ nk < 40) (hp0 : R 483 0 = p) (hP : R 483 2 = P) (hfR : ∀ k, 0 ≤ k → k < 9 → R 495 k = f k) (h7 : R 497 nk = m) (h2 : R 483 22 = ns) (h3 : R 483 23 = nl) (hns : 0 ≤ ns ∧ ns + l.length ≤ 60) (hnl : 0 ≤ nl ∧ nl < 20) (h61 : R 483 61 = h) (hh : 0 ≤ h ∧ h ≤ 6) : ∃ R', f_X11_goesInto nk R = some R' ∧ KnV R' p K ρ nk ns nl D e s rt mo Y w z l ∧ (R' 483 61 = h + 1 ∧ R' 528 (h + 1) = nk ∧ R' 529 (h + 1) = 0 ∧ R' 530 (h + 1) = 0) ∧ ∀ c k, ¬ chK h nk ns nl c k → R' c k = R c k := by
  obtain ⟨V, v1, v2⟩ := s_laysKnot hp hg hρ hm hmD hf hK hW hkf hnk hp0 hP hfR h7 h2 h3 hns hnl
  obtain ⟨kv, a7⟩ := KnR_J v2
  clear v2 hp hg hρ hm hmD hf hK hW hkf hnk hp0 hP hfR h7 h2 h3 hns hnl
  have e61 : V 483 61 = h := by rw [a7 _ _ chJ_61]; exact h61
  refine ⟨_, s_goesIn v1 e61 hh, KnV_fr kv (fun c k hc => ?_), ⟨?_, ?_, ?_, ?_⟩, fun c k hc => ?_⟩
  · have t := chV (h := h) hc
    rw [up_ne t.2.2.2, up_ne t.2.2.1, up_ne t.2.1, up_ne t.1]
  · rw [up_ne (fun hh => absurd hh.1 (by decide)), up_ne (fun hh => absurd hh.1 (by decide)), up_ne (fun hh => absurd hh.1 (by decide)), up_eq ⟨rfl, rfl⟩]
  · rw [up_ne (fun hh => absurd hh.1 (by decide)), up_ne (fun hh => absurd hh.1 (by decide)), up_eq ⟨rfl, rfl⟩]
  · rw [up_ne (fun hh => absurd hh.1 (by decide)), up_eq ⟨rfl, rfl⟩]
  · rw [up_eq ⟨rfl, rfl⟩]
  · have t := chK_J hc
    rw [up_ne t.2.2.2.2, up_ne t.2.2.2.1, up_ne t.2.2.1, up_ne t.2.1]
    exact a7 c k t.1
theorem s_rootOf {M : tp_M} {p i v : Int} (hp : 2 ≤ p ∧ p ≤ 7) (h0 : M 483 0 = p) (hi : 0 ≤ i ∧ i < 9) (hv : M 492 (9 * i) = v) (hv2 : 0 ≤ v ∧ v < p) : f_X11_rootOf i M = some ((p - v) % p) := by
  unfold f_X11_rootOf
  rw [ho_w (x := 9 * i) (by omega) (by omega), if_pos (by omega), h0, if_neg (by omega), hv, ho_w (x := p - v) (by omega) (by omega), Int.tmod_eq_emod_of_nonneg (by omega)]
set_option maxHeartbeats 4000000 in
set_option maxRecDepth 100000 in
theorem s_tf172 {M : tp_M} {x nk : Int} (hx : 0 ≤ x ∧ x < 60) (hnk : 0 ≤ nk ∧ nk < 40) : f_X11_takesFactor_172 x nk 0 M = f_X11_goesInto nk (tp_wr M 507 (7 * nk) 7 (fun t => M 514 (7 * x + t))) := by
  unfold f_X11_takesFactor_172
  have e0 : ((0 : Int), M) = (((0 : Nat) : Int), tp_wr M 507 (7 * nk) ((0 : Nat) : Int) (fun t => M 514 (7 * x + t))) := by rw [show ((0 : Nat) : Int) = 0 from rfl, wr_zero]
  rw [e0]
  refine lp_seq (fun j => ((j : Int), tp_wr M 507 (7 * nk) j (fun t => M 514 (7 * x + t)))) 7 (fun j hj rc => ?_) (fun rc => ?_) tp_N (by unfold tp_N; omega)
  · have u := wr_succ M 507 (7 * nk) j (fun t => M 514 (7 * x + t)) (by omega)
    have o : tp_wr M 507 (7 * nk) j (fun t => M 514 (7 * x + t)) 514 (7 * x + j) = M 514 (7 * x + j) := wr_out (fun hh => absurd hh.1 (by decide))
    have b1 : 0 ≤ 7 * x + (j : Int) ∧ 7 * x + (j : Int) < 448 := by omega
    have b2 : 0 ≤ 7 * nk + (j : Int) ∧ 7 * nk + (j : Int) < 280 := by omega
    simp only [f_X11_takesFactor_172B, tp_mp, tp_lt]
    rw [if_neg (by omega), ho_w (x := 7 * x) (by omega) (by omega), ho_w (x := 7 * x + j) (by omega) (by omega), if_pos b1, ho_w (x := 7 * nk) (by omega) (by omega), ho_w (x := 7 * nk + j) (by omega) (by omega), if_pos b2, w_succ (show j < 1000000 by omega), o, u]
    rfl
  · simp only [f_X11_takesFactor_172B]
    rw [if_pos (by omega)]
    cases f_X11_goesInto nk (tp_wr M 507 (7 * nk) ((7 : Nat) : Int) (fun t => M 514 (7 * x + t))) <;> rfl
