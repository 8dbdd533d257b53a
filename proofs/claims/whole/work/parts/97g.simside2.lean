/-- a side that is entered: the two stand at the same place -/
theorem Lnk_side {C C1 R : tp_M} {p K P ρ x kn nk ns0 : Int} {ix : Nat} {D e s rt kf : Int → Int} {mo q : Int → Int → Int} {f Y w : Int → Int} {l : List (Int × Int)} {ab : Int × Int} (hρ : 1 ≤ ρ ∧ ρ ≤ 6) (hg : cxg p P ρ D e s rt mo q) (hab : sdG ρ D e s w ab) (hKS : KnS C p K ρ kn ns0 D e s rt mo Y w l) (hix : l[ix]? = some ab) (hx : x = ns0 + ix) (hSE : SE C R x) (hW : WyC C p K P ρ D e s rt mo q f) (hWR : WyR R ρ e s rt kf mo q) (hkf : kf ρ = kn) (hkn : ∀ k, 1 ≤ k → k ≤ ρ → 0 ≤ kf k ∧ kf k < nk) (hnk : nk ≤ 24) (hR : R 483 0 = p ∧ R 483 2 = P ∧ ∀ k, 0 ≤ k → k < 9 → R 495 k = f k) (h1 : C1 281 ρ = sgE w ab.1 ab.2) (h2 : C1 282 ρ = sgS w (lft ρ e s) ab.1 ab.2) (h3 : ∀ k, 0 ≤ k → k < 8 → C1 (285 + ρ) k = C (118 + 3 * x + 1) k) (h4 : ∀ c k, ¬ ((c = 281 ∨ c = 282) ∧ k = ρ) → c ≠ 285 + ρ → C1 c k = C c k) : Lnk C1 R p K P ρ x kn (D ρ * sgE w ab.1 ab.2) nk D (ud e ρ (sgE w ab.1 ab.2)) (ud s ρ (sgS w (lft ρ e s) ab.1 ab.2)) rt kf (ud mo ρ (mnl e s (ρ - 1).toNat (sgS w (lft ρ e s) ab.1 ab.2))) q f := by
  obtain ⟨⟨k0, k2, k6, k7⟩, ks⟩ := hKS
  obtain ⟨⟨sd1, sd2⟩, sd3⟩ := ks ix ab hix
  rw [← hx] at sd1 sd2 sd3
  obtain ⟨⟨e0, e1, e2, e3, e4, e5⟩, e6, e7⟩ := hSE
  have u : ∀ k, k < ρ → ud e ρ (sgE w ab.1 ab.2) k = e k ∧ ud s ρ (sgS w (lft ρ e s) ab.1 ab.2) k = s k ∧ ud mo ρ (mnl e s (ρ - 1).toNat (sgS w (lft ρ e s) ab.1 ab.2)) k = mo k := fun k hk => ⟨ud_ne (by omega), ud_ne (by omega), ud_ne (by omega)⟩
  have W1 : WyC C1 p K P ρ D e s rt mo q f := WyC_fr hW (fun c k hh => by
    have y := wy_side (nk := 0) (ns := 0) (nl := 0) hρ hh
    exact h4 c k y.1.1 y.1.2)
  have kb := hkn ρ hρ.1 (Int.le_refl _)
  rw [hkf] at kb
  have fk : ∀ k, C1 (46 + 3 * kn) k = C (46 + 3 * kn) k := fun k => h4 _ _ (by omega) (by omega)
  obtain ⟨⟨g1, g2, g3⟩, ⟨g4, g5, g6⟩, g7, g8, g9, g10⟩ := hab
  have d3 : sdF w (lft ρ e s) ab 3 = sgE w ab.1 ab.2 := rfl
  have d5 : sdF w (lft ρ e s) ab 5 = sgS w (lft ρ e s) ab.1 ab.2 := rfl
  refine ⟨⟨W1.1, W1.2.1⟩, hR, fun hh => by omega, fun _ => ⟨by rw [ud_at], WyC_cong W1 u, ⟨by rw [ud_at]; exact h1, by rw [ud_at]; exact h2, fun j j0 j1 => by rw [ud_at, h3 j j0 j1]; exact sd2 j j0 j1⟩, cxg_cong hg u, ?_, WyR_cong hWR (fun k _ _ => ⟨rfl, rfl⟩) (fun k _ k1 => ⟨(u k k1).1, (u k k1).2.1, rfl, (u k k1).2.2⟩), hkf, ⟨?_, ?_, fun t t0 t1 => ?_⟩, hkn, by rw [fk]; exact k0, by rw [fk]; exact k2⟩⟩
  · unfold sdI
    rw [ud_at, ud_at, ud_at]
    exact ⟨g1, ⟨g4, g5⟩, g7, fun j j0 j1 => by rw [ud_ne (show j ≠ ρ by omega)]; exact g8 j j0 j1, g9, g10⟩
  · rw [ud_at, e3, sd1 3 (by decide) (by decide), d3]
  · rw [ud_at, e5, sd1 5 (by decide) (by decide), d5]
  · rw [ud_at, e6 t t0 t1, sd2 t t0 (by omega)]
set_option maxHeartbeats 4000000 in
set_option maxRecDepth 100000 in
theorem s_SL {n : Nat} {p K P ρ m kn ns0 : Int} {D e s rt kf : Int → Int} {mo q : Int → Int → Int} {f Y w : Int → Int} {z : Int} {l : List (Int × Int)} (hB : BrOk n) (h : pKP p K P) (hρ : 1 ≤ ρ ∧ ρ ≤ 6) (hn : (n : Int) + ρ = 7) (hn0 : n ≠ 0) (hf : inP P f 0 9) (hg : cxg p P ρ D e s rt mo q) (hK : KnP p K P ρ m D e s rt mo q f Y w z l) (hm : m ≤ 8) (hkf : kf ρ = kn) (hns0 : 0 ≤ ns0) : ∀ (t N ix : Nat) (C R : tp_M) (nk ns nl : Int), t < N → ix + t = l.length → Rel C R nk ns nl → KnS C p K ρ kn ns0 D e s rt mo Y w l → WyC C p K P ρ D e s rt mo q f → WyR R ρ e s rt kf mo q → (∀ k, 1 ≤ k → k ≤ ρ → 0 ≤ kf k ∧ kf k < nk) → (R 483 0 = p ∧ R 483 2 = P ∧ ∀ k, 0 ≤ k → k < 9 → R 495 k = f k) → R 528 ρ = kn → (R 529 ρ = ix ∧ R 530 ρ = 0 ∧ R 483 61 = ρ) → ns0 + l.length ≤ ns → 0 ≤ nl → lnS (l.drop ix) * D ρ ≤ 8 → 2 * nk + lnS (l.drop ix) * D ρ * (6 - ρ) ≤ 48 → ns + lnS (l.drop ix) * D ρ * (6 - ρ) ≤ 48 → nl + lnS (l.drop ix) * D ρ ≤ 16 → ∃ (C' R' : tp_M) (nk' ns' nl' : Int) (c : Nat), tp_lp (g171 (tp_br n) ρ (D ρ) (46 + 3 * kn) kn) N ((ix : Int), C) = some C' ∧ Gro C' R R' nk ns nl nk' ns' nl' (lnS (l.drop ix) * D ρ) (6 - ρ) c (l.length - ix) ∧ (R' 529 ρ = l.length ∧ R' 483 61 = ρ) ∧ (∀ c k, kpC ρ nk ns nl c k → C' c k = C c k) ∧ ∀ c k, chS ρ nk ns nl c k → R' c k = R c k := by
  have dr := (cxg_D hg ρ hρ.1 (Int.le_refl _)).1
  have len8 : (l.length : Int) ≤ 8 := by have := hK.le; have := hK.ln; have := hK.z0; omega
  intro t
  induction t with
  | zero =>
    intro N ix C R nk ns nl hN hi hRel hKS hW hWR hkn hR h28 hst hs hl0 b0 b1 b2 b3
    have ei : ix = l.length := by omega
    refine ⟨C, R, nk, ns, nl, 0, ?_, ⟨hRel, ⟨Int.le_refl _, Int.le_refl _, Int.le_refl _⟩, ?_, rfl, by omega⟩, ⟨by rw [hst.1, ei], hst.2.2⟩, fun _ _ _ => rfl, fun _ _ _ => rfl⟩
    · rw [lp_1 (by omega)]
      simp only [g171, fo_X1_growKnot_171B, hKS.1.2.2.2]
      rw [if_pos (by omega)]
    · rw [ei, List.drop_length]
      show 2 * nk ≤ 2 * nk + 0 * D ρ * (6 - ρ) ∧ ns ≤ ns + 0 * D ρ * (6 - ρ) ∧ nl ≤ nl + 0 * D ρ
      rw [Int.zero_mul, Int.zero_mul]
      omega
  | succ t ih =>
    intro N ix C R nk ns nl hN hi hRel hKS hW hWR hkn hR h28 hst hs hl0 b0 b1 b2 b3
    have il : ix < l.length := by omega
    obtain ⟨ab, hab⟩ : ∃ ab, l[ix]? = some ab := ⟨_, List.getElem?_eq_getElem il⟩
    have am := List.mem_of_getElem? hab
    have gd := hK.gd ab am
    obtain ⟨ro, dg0, dg1⟩ := hK.rs ab am
    have so := hK.ok ab am
    have T0 : 0 ≤ lnS (l.drop (ix + 1)) := lnS_nn (fun ab hm => (hK.ok ab (List.mem_of_mem_drop hm)).1.2.1)
    have e0 := lnS_drop hab
    obtain ⟨⟨g1, g2, g3⟩, _⟩ := gd
    obtain ⟨⟨d0, d0'⟩, ⟨d1, d2⟩, d3, d4, d5, d6, d7, d8, d9, d10, d11, d12⟩ := budS (nk := nk) (ns := ns) (nl := nl) (v := 6 - ρ) dr g1 (by omega) ⟨dg0, dg1⟩ g2 T0 e0 rfl b0 b1 b2 b3
    have kb := hkn ρ hρ.1 (Int.le_refl _)
    rw [hkf] at kb
    obtain ⟨x, hx⟩ : ∃ x, x = ns0 + (ix : Int) := ⟨_, rfl⟩
    have xb : 0 ≤ x ∧ x < 48 ∧ x < ns := by omega
    have hse := hRel.2.2.2.1 x (by omega) xb.2.2
    have ts := tg_side (i := x) ⟨xb.1, xb.2.1⟩
    have sd := hKS.2 ix ab hab
    rw [← hx] at sd
    have sa := s_sideAtN (M := C) (i := kn) (j := ix) (cnt := l.length) (fst := ns0) (by omega) (by rw [hRel.1.1]; exact kb.2) hKS.1.2.2.2 hKS.1.2.2.1 (by omega) (by omega)
    rw [← hx] at sa
    obtain ⟨C1, c1, c2, c3, c4, c5⟩ := s_enterSide (M := C) (q := x) (r := ρ) (E := sgE w ab.1 ab.2) (S := sgS w (lft ρ e s) ab.1 ab.2) ⟨xb.1, xb.2.1⟩ hρ (sd.1.1 3 (by decide) (by decide)) (sd.1.1 5 (by decide) (by decide)) ts.1
    have f5 : ∀ c k, c < 281 → C1 c k = C c k := fun c k hc => c5 c k (by omega) (by omega)
    have k5 : ∀ c k, kpC ρ nk ns nl c k → C1 c k = C c k := fun c k hh => by
      have y := kpC_side hρ d8 d9 d10 hh
      exact c5 c k y.1 y.2
    have L1 := Lnk_side (C := C) (C1 := C1) (R := R) (x := x) (nk := nk) (ix := ix) hρ hg (hK.gd ab am) hKS hab hx hse hW hWR hkf hkn d8 hR c2 c3 c4 c5
    have Rel1 : Rel C1 R nk ns nl := Rel_fr (r := ρ) hRel k5 (fun _ _ _ => rfl) ⟨f5 _ _ (by decide), f5 _ _ (by decide), f5 _ _ (by decide)⟩ ⟨rfl, rfl, rfl⟩
    have ke := hRel.2.2.1 kn kb.1 kb.2
    have r9 : R 499 kn = ns0 := by rw [ke.2.2.1.2.2.1]; exact hKS.1.2.2.1
    have r0 : R 500 kn = l.length := by rw [ke.2.2.1.2.2.2]; exact hKS.1.2.2.2
    have S1 : stR R p ρ x kn ix 0 (rsR p K.toNat ρ D e s rt mo Y w (lft ρ e s) ab) := ⟨hR.1, hst.2.2, hst.1, hst.2.1, fun hh => by omega, fun _ => ⟨h28, by omega, by rw [r9, hx], by rw [r0]; omega, by omega, fun k k0 k1 => by rw [hse.2.2 k k0 k1]; exact sd.2 k k0 k1⟩⟩
    obtain ⟨C2, R2, nk2, ns2, nl2, cc, q1, q2, ⟨q3, q4, q5⟩, q6, q7⟩ := hB C1 R p K P ρ x kn ix (D ρ * sgE w ab.1 ab.2) nk ns nl (118 + 3 * x + 2) D _ _ rt kf _ q f _ h (by omega) hn hn0 hf ro dg0 ts.2.2.2.1 ts.2.2.2.2 (by omega) (rs_id ro (fun k k0 k1 => by rw [f5 _ _ (by omega)]; exact sd.2 k k0 k1)) Rel1 L1 S1 (by omega) (by omega) (fun _ => xb.2.2) d11 d3 (by omega) (by omega) hl0 d5 d6 d7
    have ρ0 : ¬ ρ = 0 := by omega
    rw [if_neg ρ0] at q1 q5
    have q2' := Gro_w q2 d2 (show 0 ≤ 6 - ρ by omega)
    obtain ⟨m1, m2, m3⟩ := q2'.2.1
    obtain ⟨w1, w2, w3⟩ := q2'.2.2.1
    have k6 : ∀ c k, kpC ρ nk ns nl c k → C2 c k = C c k := fun c k hh => by rw [q6 c k (Or.inl hh), k5 c k hh]
    obtain ⟨C', R', nk', ns', nl', c, p1, p2, p3, p4, p5⟩ := ih (N - 1) (ix + 1) C2 R2 nk2 ns2 nl2 (by omega) (by omega) q2.1 (KnS_fr hKS kb ⟨hns0, hs⟩ k6) (WyC_fr hW (fun c k hh => by
      have y := wy_side (nk := nk) (ns := ns) (nl := nl) hρ hh
      rw [q6 c k y.2, c5 c k y.1.1 y.1.2]))
      (WyR_S hWR hkn q7) (fun k k0 k1 => ⟨(hkn k k0 k1).1, Int.lt_of_lt_of_le (hkn k k0 k1).2 m1⟩) ⟨by rw [q7 _ _ (chS_u (Or.inl ⟨rfl, by decide⟩))]; exact hR.1, by rw [q7 _ _ (chS_u (Or.inl ⟨rfl, by decide⟩))]; exact hR.2.1, fun k k0 k1 => by rw [q7 _ _ (chS_u (Or.inr (Or.inl rfl)))]; exact hR.2.2 k k0 k1⟩ (by rw [q7 _ _ (chS_u (Or.inr (Or.inr (Or.inl ⟨rfl, Int.le_refl _⟩))))]; exact h28) ⟨by rw [q3]; omega, q4, q5⟩ (by omega) (by omega) d4 (by omega) (by omega) (by omega)
    refine ⟨C', R', nk', ns', nl', cc + c, ?_, ?_, p3, fun c k hh => ?_, fun c k hh => ?_⟩
    · rw [lp_1 (by omega), ← p1]
      generalize tp_lp (g171 (tp_br n) ρ (D ρ) (46 + 3 * kn) kn) (N - 1) = Rc
      have w5 : tp_w (D ρ * sgE w ab.1 ab.2) = D ρ * sgE w ab.1 ab.2 := by
        have := d12 (by have := so.1; omega)
        exact ho_w (by omega) (by omega)
      have c13 : C1 (118 + 3 * x) 3 = sgE w ab.1 ab.2 := by rw [f5 _ _ (by omega)]; exact sd.1.1 3 (by decide) (by decide)
      simp only [g171, fo_X1_growKnot_171B, fo_X1_growKnot_231, hKS.1.2.2.2, tp_lt]
      rw [if_neg (by omega), sa, Option.bind_some, if_neg (by omega), c1, Option.bind_some, if_pos ts.1, c13, w5, q1, Option.bind_some, w_succ (show ix < 1000000 by omega)]
    · rw [d0]
      have g := Gro_trans q2' p2
      rw [show (1 : Int) + ((l.length : Int) - ((ix + 1 : Nat) : Int)) = (l.length : Int) - ix by omega] at g
      exact g
    · rw [p4 c k (kpC_mono hh (Int.le_refl _) m1 m2 m3), k6 c k hh]
    · rw [p5 c k (chS_mono hh (Int.le_refl _) m1 m2 m3), q7 c k hh]
