def LfR (N : tp_M) (n a0 a1 a2 a3 a4 : Int) : Prop := N 516 n = a0 ∧ N 517 n = a1 ∧ N 518 n = a2 ∧ N 519 n = a3 ∧ N 520 n = a4
set_option maxHeartbeats 4000000 in
set_option maxRecDepth 100000 in
theorem s_addsLeaf {M : tp_M} {n : Int} (a0 a1 a2 a3 a4 : Int) (hn : M 483 23 = n) (h : 0 ≤ n ∧ n < 20) : ∃ N, f_X11_addsLeaf a0 a1 a2 a3 a4 M = some N ∧ N 483 23 = n + 1 ∧ LfR N n a0 a1 a2 a3 a4 ∧ ∀ c k, ¬ (c = 483 ∧ k = 23) → ¬ (516 ≤ c ∧ c ≤ 520 ∧ k = n) → N c k = M c k := by
  refine ⟨tp_up (tp_up (tp_up (tp_up (tp_up (tp_up M 516 n a0) 517 n a1) 518 n a2) 519 n a3) 520 n a4) 483 23 (n + 1), ?_, by rw [up_eq ⟨rfl, rfl⟩], ?_, fun c k g1 g2 => ?_⟩
  · unfold f_X11_addsLeaf
    have e1 : ∀ (X : tp_M) (c v : Int), c ≠ 483 → tp_up X c n v 483 23 = X 483 23 := fun X c v hc => up_ne (fun hh => hc hh.1.symm)
    simp only [tp_mp, e1 _ 516 _ (by decide), e1 _ 517 _ (by decide), e1 _ 518 _ (by decide), e1 _ 519 _ (by decide), e1 _ 520 _ (by decide), hn]
    rw [if_pos h, if_pos h, if_pos h, if_pos h, if_pos h, ho_w (by omega) (by omega)]
  · refine ⟨?_, ?_, ?_, ?_, ?_⟩ <;> (repeat (first | rw [up_eq ⟨rfl, rfl⟩] | rw [up_ne (fun hh => absurd hh.1 (by decide))]))
  · rw [up_ne g1, up_ne (by omega), up_ne (by omega), up_ne (by omega), up_ne (by omega), up_ne (by omega)]
set_option maxHeartbeats 4000000 in
set_option maxRecDepth 100000 in
theorem s_nk54 {M : tp_M} {x : Int} (hx : 0 ≤ x ∧ x < 40) : f_X11_newKnot_54 x 0 M = some (x, tp_wr M 488 (9 * x) 9 (fun _ => 0)) := by
  unfold f_X11_newKnot_54
  have e0 : ((0 : Int), M) = (((0 : Nat) : Int), tp_wr M 488 (9 * x) ((0 : Nat) : Int) (fun _ => 0)) := by rw [show ((0 : Nat) : Int) = 0 from rfl, wr_zero]
  rw [e0]
  refine lp_seq (fun j => ((j : Int), tp_wr M 488 (9 * x) j (fun _ => 0))) 9 (fun j hj rc => ?_) (fun rc => ?_) tp_N (by unfold tp_N; omega)
  · have u := wr_succ M 488 (9 * x) j (fun _ => 0) (by omega)
    simp only [f_X11_newKnot_54B, tp_mp, tp_lt]
    rw [if_neg (by omega), ho_w (x := 9 * x) (by omega) (by omega), ho_w (x := 9 * x + j) (by omega) (by omega), if_pos (by omega), ho_w (by omega) (by omega), u, show (j : Int) + 1 = ((j + 1 : Nat) : Int) by omega]
  · simp only [f_X11_newKnot_54B]
    rw [if_pos (by omega)]; rfl
set_option maxHeartbeats 4000000 in
set_option maxRecDepth 100000 in
theorem s_newKnot {M : tp_M} {a m nk lv : Int} (hn : M 483 21 = nk) (hnk : 0 ≤ nk ∧ nk < 40) (ha : (a < 0 ∧ lv = 1) ∨ ((0 ≤ a ∧ a < 40) ∧ M 496 a + 1 = lv)) (hlv : 0 ≤ lv ∧ lv ≤ 10) : ∃ N, f_X11_newKnot a m M = some (nk, N) ∧ N 483 21 = nk + 1 ∧ (N 496 nk = lv ∧ N 497 nk = m ∧ N 498 nk = a) ∧ (∀ k, 0 ≤ k → k < 9 → N 488 (9 * nk + k) = 0) ∧ ∀ c k, ¬ (c = 483 ∧ k = 21) → ¬ (496 ≤ c ∧ c ≤ 498 ∧ k = nk) → ¬ (c = 488 ∧ 9 * nk ≤ k ∧ k < 9 * nk + 9) → N c k = M c k := by
  refine ⟨tp_wr (tp_up (tp_up (tp_up (tp_up M 483 21 (nk + 1)) 496 nk lv) 497 nk m) 498 nk a) 488 (9 * nk) 9 (fun _ => 0), ?_, ?_, ⟨?_, ?_, ?_⟩, fun k k0 k1 => ?_, fun c k g1 g2 g3 => ?_⟩
  · unfold f_X11_newKnot
    have e36 : ∀ X : tp_M, f_X11_newKnot_36 a m nk lv nk X = some (nk, tp_wr (tp_up (tp_up (tp_up X 496 nk lv) 497 nk m) 498 nk a) 488 (9 * nk) 9 (fun _ => 0)) := fun X => by
      unfold f_X11_newKnot_36
      simp only [tp_mp]
      rw [if_pos hnk, if_pos hnk, if_pos hnk, s_nk54 hnk]
    simp only [tp_mp, tp_lt, hn]
    rw [ho_w (x := nk + 1) (by omega) (by omega)]
    rcases ha with ⟨h1, h2⟩ | ⟨h1, h2⟩
    · rw [if_neg (by omega), ← h2, e36]
    · have e6 : tp_up M 483 21 (nk + 1) 496 a = M 496 a := up_ne (fun hh => absurd hh.1 (by decide))
      rw [if_pos h1.1, if_pos h1, e6, h2, ho_w (by omega) (by omega), e36]
  · rw [wr_out (fun hh => absurd hh.1 (by decide)), up_ne (fun hh => absurd hh.1 (by decide)), up_ne (fun hh => absurd hh.1 (by decide)), up_ne (fun hh => absurd hh.1 (by decide)), up_eq ⟨rfl, rfl⟩]
  · rw [wr_out (fun hh => absurd hh.1 (by decide)), up_ne (fun hh => absurd hh.1 (by decide)), up_ne (fun hh => absurd hh.1 (by decide)), up_eq ⟨rfl, rfl⟩]
  · rw [wr_out (fun hh => absurd hh.1 (by decide)), up_ne (fun hh => absurd hh.1 (by decide)), up_eq ⟨rfl, rfl⟩]
  · rw [wr_out (fun hh => absurd hh.1 (by decide)), up_eq ⟨rfl, rfl⟩]
  · rw [wr_in ⟨rfl, by omega, by omega⟩]
  · rw [wr_out (by omega), up_ne (by omega), up_ne (by omega), up_ne (by omega), up_ne (by omega)]
def LfZR (R : tp_M) (nl z d nk : Int) : Prop := (2 ≤ z → LfR R nl 4 0 0 (z * d) nk) ∧ (z = 1 → LfR R nl 1 d 1 d nk)
/-- a knot of the reference, with its sides -/
def KnR (R' R : tp_M) (p K ρ nk ns nl : Int) (D e s rt : Int → Int) (mo : Int → Int → Int) (Y w : Int → Int) (z : Int) (l : List (Int × Int)) : Prop := (R' 499 nk = ns ∧ R' 500 nk = l.length ∧ R' 501 nk = z ∧ R' 502 nk = idL w (w (lsS w 9)) l) ∧ (∀ k, 0 ≤ k → k < 9 → R' 503 (9 * nk + k) = w k) ∧ (∀ (j : Nat) ab, l[j]? = some ab → SdR R' (ns + j) (sdF w (lft ρ e s) ab) (mnl e s (ρ - 1).toNat (sgS w (lft ρ e s) ab.1 ab.2)) (rsR p K.toNat ρ D e s rt mo Y w (lft ρ e s) ab)) ∧ R' 483 22 = ns + l.length ∧ R' 483 23 = nl + lz z ∧ LfZR R' nl z (D ρ) nk ∧ ∀ c k, c ≠ 487 → c ≠ 526 → ¬ (c = 483 ∧ (k = 22 ∨ k = 23 ∨ k = 49 ∨ k = 56)) → ¬ (521 ≤ c ∧ c ≤ 525) → ¬ (c = 503 ∧ 9 * nk ≤ k ∧ k < 9 * nk + 9) → ¬ (499 ≤ c ∧ c ≤ 502 ∧ k = nk) → ¬ (508 ≤ c ∧ c ≤ 513 ∧ ns ≤ k) → ¬ (c = 514 ∧ 7 * ns ≤ k) → ¬ (c = 515 ∧ 9 * ns ≤ k) → ¬ (516 ≤ c ∧ c ≤ 520 ∧ nl ≤ k) → R' c k = R c k
set_option maxHeartbeats 4000000 in
set_option maxRecDepth 100000 in
theorem s_leafZR {R : tp_M} {nk nl z d : Int} (hz : 0 ≤ z ∧ z ≤ 8) (hd : 1 ≤ d ∧ d ≤ 4) (hl : R 483 23 = nl) (hnl : 0 ≤ nl ∧ nl < 20) : ∃ N, (if z ≤ 1 then (if ¬ z = 1 then f_X11_laysKnot_60 nk R else (f_X11_addsLeaf 1 d 1 d nk R).bind fun r11 => f_X11_laysKnot_60 nk r11) else (f_X11_addsLeaf 4 0 0 (tp_w (z * d)) nk R).bind fun r13 => f_X11_laysKnot_60 nk r13) = f_X11_laysKnot_60 nk N ∧ N 483 23 = nl + lz z ∧ LfZR N nl z d nk ∧ ∀ c k, ¬ (c = 483 ∧ k = 23) → ¬ (516 ≤ c ∧ c ≤ 520 ∧ k = nl) → N c k = R c k := by
  by_cases c2 : 2 ≤ z
  · have m := mulB (x := z) (y := d) (a := 8) (b := 4) (by omega) (by omega)
    obtain ⟨N, n1, n2, n3, n4⟩ := s_addsLeaf (M := R) (n := nl) 4 0 0 (z * d) nk hl hnl
    refine ⟨N, ?_, by rw [n2]; unfold lz; rw [if_neg (by omega)], ⟨fun _ => n3, fun hh => by omega⟩, n4⟩
    rw [if_neg (by omega), ho_w (by omega) (by omega), n1, Option.bind_some]
  · by_cases c1 : z = 1
    · obtain ⟨N, n1, n2, n3, n4⟩ := s_addsLeaf (M := R) (n := nl) 1 d 1 d nk hl hnl
      refine ⟨N, ?_, by rw [n2]; unfold lz; rw [if_neg (by omega)], ⟨fun hh => by omega, fun _ => n3⟩, n4⟩
      rw [if_pos (by omega), if_neg (fun hh => hh c1), n1, Option.bind_some]
    · refine ⟨R, ?_, by rw [hl]; unfold lz; rw [if_pos (by omega)]; omega, ⟨fun hh => by omega, fun hh => by omega⟩, fun c k _ _ => rfl⟩
      rw [if_pos (by omega), if_pos c1]
set_option maxHeartbeats 4000000 in
set_option maxRecDepth 100000 in
theorem s_laysKnot {R : tp_M} {p K P ρ m nk ns nl : Int} {D e s rt kf : Int → Int} {mo q : Int → Int → Int} {f Y w : Int → Int} {z : Int} {l : List (Int × Int)} (h : pKP p K P) (hg : cxg p P ρ D e s rt mo q) (hρ : 1 ≤ ρ ∧ ρ ≤ 6) (hm : 2 ≤ m ∧ m ≤ 8) (hmD : m * D ρ ≤ 8) (hf : inP P f 0 9) (hK : KnP p K P ρ m D e s rt mo q f Y w z l) (hW : WyR R ρ e s rt kf mo q) (hkf : kf ρ = nk) (hnk : 0 ≤ nk ∧ nk < 40) (hp : R 483 0 = p) (hP : R 483 2 = P) (hfR : ∀ k, 0 ≤ k → k < 9 → R 495 k = f k) (h7 : R 497 nk = m) (h2 : R 483 22 = ns) (h3 : R 483 23 = nl) (hns : 0 ≤ ns ∧ ns + l.length ≤ 60) (hnl : 0 ≤ nl ∧ nl < 20) : ∃ R', f_X11_laysKnot nk R = some R' ∧ KnR R' R p K ρ nk ns nl D e s rt mo Y w z l := by
  obtain ⟨cb, cc, co, cd⟩ := cxg_b hg hρ.1
  have dr := (cxg_D hg ρ hρ.1 (Int.le_refl _)).1
  have d4 := hg.2.1
  have len8 : (l.length : Int) ≤ 8 := by have := hK.le; have := hK.ln; have := hK.z0; omega
  obtain ⟨R1, a1, a2, a3, a4⟩ := s_takesKnotW (R := R) cb hg.1 hρ hW
  rw [hkf] at a1
  have f1 : ∀ k, 0 ≤ k → k < 9 → R1 495 k = f k := fun k k0 k1 => by rw [a4 _ _ (by omega) (by omega)]; exact hfR k k0 k1
  have p1 : R1 483 0 = p := by rw [a4 _ _ (by omega) (by omega)]; exact hp
  have P1 : R1 483 2 = P := by rw [a4 _ _ (by omega) (by omega)]; exact hP
  have m1 : R1 497 nk = m := by rw [a4 _ _ (by omega) (by omega)]; exact h7
  obtain ⟨R2, b1, b2, b3, b4⟩ := s_laysPoints (M := R1) (p := p) (K := K) (P := P) (r := ρ) (m := m) (kn := nk) h p1 P1 cb hρ (by omega) hmD hnk a2 hkf hg.2.2.1 cd m1 (fun k k0 k1 => by rw [f1 k k0 k1]; exact hf k k0 k1)
  have eY : rowN P q D ρ (R1 495) = Y := by
    rw [hK.hY]
    unfold rowN
    rw [rd_cong (f := R1 495) (g := f) f1]
  rw [eY, ← hK.hw] at b2 b3
  rw [← hK.hz] at b3
  have g2 : ∀ c k, c ≠ 487 → c ≠ 526 → ¬ (c = 483 ∧ k = 56) → ¬ (c = 501 ∨ c = 503) → R2 c k = R1 c k := fun c k x1 x2 x3 x4 => b4 c k x1 x2 x3 (by omega) (by omega)
  have C2 : CxR R2 ρ D e s kf q := CxR_fr a2 (fun c k hc => g2 c k (by omega) (by omega) (by omega) (by omega))
  have M2 : CxM R2 ρ rt (fun k => kf (k + 1)) mo := CxM_fr a3 (fun c k hc => g2 c k (by omega) (by omega) (by omega) (by omega))
  have l2 : R2 483 23 = nl := by rw [g2 _ _ (by omega) (by omega) (by omega) (by omega), a4 _ _ (by omega) (by omega)]; exact h3
  obtain ⟨R3, c1, c2, c3, c4⟩ := s_leafZR (R := R2) (nk := nk) (nl := nl) (z := z) (d := D ρ) (by have := hK.z0; omega) (by omega) l2 hnl
  have g3 : ∀ c k, c ≠ 483 → c < 516 ∨ 520 < c → R3 c k = R2 c k := fun c k x1 x2 => c4 c k (fun hh => x1 hh.1) (by omega)
  have g3' : ∀ k, k ≠ 23 → R3 483 k = R2 483 k := fun k hk => c4 _ _ (fun hh => hk hh.2) (by omega)
  have e5 : R3 495 = R1 495 := by funext k; rw [g3 _ _ (by omega) (by omega), g2 _ _ (by omega) (by omega) (by omega) (by omega)]
  have K3 : RKn R3 p K P ρ m nk D e s rt kf (fun k => kf (k + 1)) mo q Y w := by
    refine ⟨?_, ?_, CxR_fr C2 (fun c k hc => ?_), CxM_fr M2 (fun c k hc => g3 _ _ (by omega) (by omega)), ?_, ?_, fun k k0 k1 => ⟨?_, hK.wb k⟩⟩
    · rw [g3' _ (by decide), g2 _ _ (by omega) (by omega) (by omega) (by omega)]; exact p1
    · rw [g3' _ (by decide), g2 _ _ (by omega) (by omega) (by omega) (by omega)]; exact P1
    · rcases hc with hc | hc | hc
      · rw [hc.1]; exact g3' _ (by omega)
      · exact g3 _ _ (by omega) (by omega)
      · exact g3 _ _ (by omega) (by omega)
    · rw [e5]; exact fun k k0 k1 => by rw [f1 k k0 k1]; exact hf k k0 k1
    · rw [e5, eY]
    · rw [g3 _ _ (by omega) (by omega)]; exact b2 k k0 k1
  have m3 : R3 497 nk = m := by rw [g3 _ _ (by omega) (by omega), g2 _ _ (by omega) (by omega) (by omega) (by omega)]; exact m1
  have z3 : R3 501 nk = z := by rw [g3 _ _ (by omega) (by omega)]; exact b3
  have n3 : R3 483 22 = ns := by rw [g3' _ (by decide), g2 _ _ (by omega) (by omega) (by omega) (by omega), a4 _ _ (by omega) (by omega)]; exact h2
  obtain ⟨R4, d1, d2, d3, d4', d5, d6, d7⟩ := s_laysSides (M := R3) (p := p) (K := K) (P := P) (r := ρ) (m := m) (kn := nk) (n := ns) (z := z) (kf := kf) (mf := fun k => kf (k + 1)) (Y := Y) (w := w) h cb cc hρ (by omega) hmD hnk hkf co hg.2.2.1 cd hK.hd hK.zk m3 z3 (by rw [← hK.hl]; exact hK.ok) K3 n3 hns.1 (by rw [← hK.hl]; exact hns.2) (by rw [← hK.hl]; omega)
  rw [← hK.hl] at d2 d3 d5 d6 d7
  refine ⟨R4, ?_, ⟨d4', d6, ?_, d5⟩, fun k k0 k1 => ?_, d2, d3, ?_, ?_, fun c k x1 x2 x3 x4 x5 x6 x7 x8 x9 x10 => ?_⟩
  · unfold f_X11_laysKnot
    have r3 : R2 483 49 = ρ := C2.1
    have r5 : R2 522 ρ = D ρ := (C2.2.1 ρ hρ.1 (Int.le_refl _)).1
    simp only [tp_lt]
    rw [a1, Option.bind_some, b1, Option.bind_some, r3, if_pos (by omega), if_pos hnk, r5, b3, c1]
    unfold f_X11_laysKnot_60
    rw [d1, Option.bind_some]
  · rw [d7 _ _ (by omega) (by omega) (by omega) (by omega) (by omega) (by omega) (by omega)]; exact z3
  · rw [d7 _ _ (by omega) (by omega) (by omega) (by omega) (by omega) (by omega) (by omega), g3 _ _ (by omega) (by omega)]; exact b2 k k0 k1
  · rw [d7 _ _ (by omega) (by omega) (by omega) (by omega) (by omega) (by omega) (by omega)]; exact c2
  · have e : ∀ c, 516 ≤ c → c ≤ 520 → R4 c nl = R3 c nl := fun c q1 q2 => d7 _ _ (by omega) (by omega) (by omega) (by omega) (by omega) (by omega) (by omega)
    refine ⟨fun hz => ?_, fun hz => ?_⟩
    · obtain ⟨y1, y2, y3, y4, y5⟩ := c3.1 hz
      exact ⟨by rw [e _ (by omega) (by omega)]; exact y1, by rw [e _ (by omega) (by omega)]; exact y2, by rw [e _ (by omega) (by omega)]; exact y3, by rw [e _ (by omega) (by omega)]; exact y4, by rw [e _ (by omega) (by omega)]; exact y5⟩
    · obtain ⟨y1, y2, y3, y4, y5⟩ := c3.2 hz
      exact ⟨by rw [e _ (by omega) (by omega)]; exact y1, by rw [e _ (by omega) (by omega)]; exact y2, by rw [e _ (by omega) (by omega)]; exact y3, by rw [e _ (by omega) (by omega)]; exact y4, by rw [e _ (by omega) (by omega)]; exact y5⟩
  · rw [d7 c k x1 x2 (by omega) (by omega) (by omega) (by omega) (by omega), c4 c k (by omega) (by omega), b4 c k x1 x2 (by omega) x5 (by omega), a4 c k (by omega) x4]
