/-- what is known of a knot's points and sides -/
def KnP (p K P ρ m : Int) (D e s rt : Int → Int) (mo q : Int → Int → Int) (f Y w : Int → Int) (z : Int) (l : List (Int × Int)) : Prop := (Y = rowN P q D ρ f) ∧ (w = pts p K.toNat ρ m D e s Y) ∧ (z = zrD w m (m + 1).toNat) ∧ (l = sidesOf w z) ∧ (zok w m z) ∧ (∀ k, -1 ≤ w k ∧ w k ≤ 20000) ∧ (hdW p K.toNat ρ m D e s Y w) ∧ (∀ ab, ab ∈ l → SOk w (lft ρ e s) (w (lsS w 9)) ab) ∧ (∀ ab, ab ∈ l → sdG ρ D e s w ab) ∧ (∀ ab, ab ∈ l → Ro p (rsR p K.toNat ρ D e s rt mo Y w (lft ρ e s) ab) ∧ 0 ≤ tp_dg (rsR p K.toNat ρ D e s rt mo Y w (lft ρ e s) ab) 9 ∧ tp_dg (rsR p K.toNat ρ D e s rt mo Y w (lft ρ e s) ab) 9 ≤ sgG w ab.1 ab.2) ∧ (lnS l ≤ m - z) ∧ ((l.length : Int) ≤ lnS l) ∧ (0 ≤ lsS w 9 → z ≤ lsS w 9) ∧ (0 ≤ z ∧ z ≤ m)
theorem KnP.hY {p K P ρ m : Int} {D e s rt : Int → Int} {mo q : Int → Int → Int} {f Y w : Int → Int} {z : Int} {l : List (Int × Int)} (h : KnP p K P ρ m D e s rt mo q f Y w z l) : Y = rowN P q D ρ f := h.1
theorem KnP.hw {p K P ρ m : Int} {D e s rt : Int → Int} {mo q : Int → Int → Int} {f Y w : Int → Int} {z : Int} {l : List (Int × Int)} (h : KnP p K P ρ m D e s rt mo q f Y w z l) : w = pts p K.toNat ρ m D e s Y := h.2.1
theorem KnP.hz {p K P ρ m : Int} {D e s rt : Int → Int} {mo q : Int → Int → Int} {f Y w : Int → Int} {z : Int} {l : List (Int × Int)} (h : KnP p K P ρ m D e s rt mo q f Y w z l) : z = zrD w m (m + 1).toNat := h.2.2.1
theorem KnP.hl {p K P ρ m : Int} {D e s rt : Int → Int} {mo q : Int → Int → Int} {f Y w : Int → Int} {z : Int} {l : List (Int × Int)} (h : KnP p K P ρ m D e s rt mo q f Y w z l) : l = sidesOf w z := h.2.2.2.1
theorem KnP.zk {p K P ρ m : Int} {D e s rt : Int → Int} {mo q : Int → Int → Int} {f Y w : Int → Int} {z : Int} {l : List (Int × Int)} (h : KnP p K P ρ m D e s rt mo q f Y w z l) : zok w m z := h.2.2.2.2.1
theorem KnP.wb {p K P ρ m : Int} {D e s rt : Int → Int} {mo q : Int → Int → Int} {f Y w : Int → Int} {z : Int} {l : List (Int × Int)} (h : KnP p K P ρ m D e s rt mo q f Y w z l) : ∀ k, -1 ≤ w k ∧ w k ≤ 20000 := h.2.2.2.2.2.1
theorem KnP.hd {p K P ρ m : Int} {D e s rt : Int → Int} {mo q : Int → Int → Int} {f Y w : Int → Int} {z : Int} {l : List (Int × Int)} (h : KnP p K P ρ m D e s rt mo q f Y w z l) : hdW p K.toNat ρ m D e s Y w := h.2.2.2.2.2.2.1
theorem KnP.ok {p K P ρ m : Int} {D e s rt : Int → Int} {mo q : Int → Int → Int} {f Y w : Int → Int} {z : Int} {l : List (Int × Int)} (h : KnP p K P ρ m D e s rt mo q f Y w z l) : ∀ ab, ab ∈ l → SOk w (lft ρ e s) (w (lsS w 9)) ab := h.2.2.2.2.2.2.2.1
theorem KnP.gd {p K P ρ m : Int} {D e s rt : Int → Int} {mo q : Int → Int → Int} {f Y w : Int → Int} {z : Int} {l : List (Int × Int)} (h : KnP p K P ρ m D e s rt mo q f Y w z l) : ∀ ab, ab ∈ l → sdG ρ D e s w ab := h.2.2.2.2.2.2.2.2.1
theorem KnP.rs {p K P ρ m : Int} {D e s rt : Int → Int} {mo q : Int → Int → Int} {f Y w : Int → Int} {z : Int} {l : List (Int × Int)} (h : KnP p K P ρ m D e s rt mo q f Y w z l) : ∀ ab, ab ∈ l → Ro p (rsR p K.toNat ρ D e s rt mo Y w (lft ρ e s) ab) ∧ 0 ≤ tp_dg (rsR p K.toNat ρ D e s rt mo Y w (lft ρ e s) ab) 9 ∧ tp_dg (rsR p K.toNat ρ D e s rt mo Y w (lft ρ e s) ab) 9 ≤ sgG w ab.1 ab.2 := h.2.2.2.2.2.2.2.2.2.1
theorem KnP.ln {p K P ρ m : Int} {D e s rt : Int → Int} {mo q : Int → Int → Int} {f Y w : Int → Int} {z : Int} {l : List (Int × Int)} (h : KnP p K P ρ m D e s rt mo q f Y w z l) : lnS l ≤ m - z := h.2.2.2.2.2.2.2.2.2.2.1
theorem KnP.le {p K P ρ m : Int} {D e s rt : Int → Int} {mo q : Int → Int → Int} {f Y w : Int → Int} {z : Int} {l : List (Int × Int)} (h : KnP p K P ρ m D e s rt mo q f Y w z l) : (l.length : Int) ≤ lnS l := h.2.2.2.2.2.2.2.2.2.2.2.1
theorem KnP.zt {p K P ρ m : Int} {D e s rt : Int → Int} {mo q : Int → Int → Int} {f Y w : Int → Int} {z : Int} {l : List (Int × Int)} (h : KnP p K P ρ m D e s rt mo q f Y w z l) : 0 ≤ lsS w 9 → z ≤ lsS w 9 := h.2.2.2.2.2.2.2.2.2.2.2.2.1
theorem KnP.z0 {p K P ρ m : Int} {D e s rt : Int → Int} {mo q : Int → Int → Int} {f Y w : Int → Int} {z : Int} {l : List (Int × Int)} (h : KnP p K P ρ m D e s rt mo q f Y w z l) : 0 ≤ z ∧ z ≤ m := h.2.2.2.2.2.2.2.2.2.2.2.2.2
theorem kn_pure {p K P ρ m : Int} {D e s rt : Int → Int} {mo q : Int → Int → Int} {f : Int → Int} (h : pKP p K P) (hg : cxg p P ρ D e s rt mo q) (hρ : 1 ≤ ρ ∧ ρ ≤ 6) (hm : 2 ≤ m ∧ m ≤ 8) (hmD : m * D ρ ≤ 8) (hf : inP P f 0 9) : ∃ Y w z l, KnP p K P ρ m D e s rt mo q f Y w z l := by
  obtain ⟨w, hw⟩ : ∃ w, w = pts p K.toNat ρ m D e s (rowN P q D ρ f) := ⟨_, rfl⟩
  have wg := fun i => pts_g (Y := rowN P q D ρ f) h hg hρ hm.2 i
  rw [← hw] at wg
  have zk : zok w m (zrD w m (m + 1).toNat) := zok_zrD (by omega) (fun i hi => Classical.byContradiction fun hc => by have := ((wg i).2 (by omega)).1; omega)
  obtain ⟨r1, r2, r3, r4⟩ := sides_ok hm.2 zk
  exact ⟨_, w, _, _, rfl, hw, rfl, rfl, zk, fun k => (wg k).1, by rw [hw]; exact pts_hdW h hg hρ hm.2, fun ab hab => (side_g h hg hρ hm.2 hw (r1 ab hab)).1, fun ab hab => (side_g h hg hρ hm.2 hw (r1 ab hab)).2, fun ab hab => res_g h hg hρ hm.2 hmD hf rfl hw (r1 ab hab), r2, r3, r4, zk.1⟩
theorem WyL_x {C : tp_M} {p K P ρ : Int} {D e s rt : Int → Int} {mo q : Int → Int → Int} {f : Int → Int} (hW : WyL C p K P ρ D e s rt mo q f) (h0 : C 280 ρ = D ρ) : CxC C ρ D e s ∧ (∀ k, 1 ≤ k → k < ρ → rd (C (294 + k)) = q k) ∧ ∀ k, 1 ≤ k → k < ρ → C 283 k = rt k ∧ ∀ j, 0 ≤ j → j < 7 → C (285 + k) j = mo k j := by
  obtain ⟨_, _, _, h6⟩ := hW
  refine ⟨⟨fun k k0 k1 => ?_, fun k k0 k1 => ⟨(h6 k k0 k1).2.1, (h6 k k0 k1).2.2.1⟩⟩, fun k k0 k1 => (h6 k k0 k1).1.2, fun k k0 k1 => ⟨(h6 k k0 k1).2.2.2.1, fun j j0 j1 => (h6 k k0 k1).2.2.2.2 j j0 (by omega)⟩⟩
  by_cases c : k = ρ
  · rw [c]; exact h0
  · exact (h6 k k0 (by omega)).1.1
/-- a knot of the class, with its sides and their residuals -/
def KnC (C' C : tp_M) (p K P ρ m nk ns nl kn : Int) (D e s rt : Int → Int) (mo q : Int → Int → Int) (f Y w : Int → Int) (z : Int) (l : List (Int × Int)) : Prop := (KnF C' (46 + 3 * nk) ρ m (D ρ) kn z (idL w (w (lsS w 9)) l) ns l.length) ∧ (rd (C' (46 + 3 * nk + 1)) = q ρ) ∧ (∀ k, 0 ≤ k → k < 9 → C' (46 + 3 * nk + 2) k = w k) ∧ (∀ (j : Nat) ab, l[j]? = some ab → SdC C' w (lft ρ e s) ρ e s (ns + j) ab ∧ ∀ k, 0 ≤ k → k < 9 → C' (118 + 3 * (ns + j) + 2) k = rsR p K.toNat ρ D e s rt mo Y w (lft ρ e s) ab k) ∧ (C' 41 2 = nk + 1) ∧ (C' 41 6 = ns + l.length) ∧ (C' 41 3 = nl + lz z) ∧ (LfZ C' nl z (D ρ) nk) ∧ (WyC C' p K P ρ D e s rt mo q f) ∧ (∀ c k, kpC ρ nk ns nl c k → C' c k = C c k)
theorem KnC.kf {C' C : tp_M} {p K P ρ m nk ns nl kn : Int} {D e s rt : Int → Int} {mo q : Int → Int → Int} {f Y w : Int → Int} {z : Int} {l : List (Int × Int)} (h : KnC C' C p K P ρ m nk ns nl kn D e s rt mo q f Y w z l) : KnF C' (46 + 3 * nk) ρ m (D ρ) kn z (idL w (w (lsS w 9)) l) ns l.length := h.1
theorem KnC.ky {C' C : tp_M} {p K P ρ m nk ns nl kn : Int} {D e s rt : Int → Int} {mo q : Int → Int → Int} {f Y w : Int → Int} {z : Int} {l : List (Int × Int)} (h : KnC C' C p K P ρ m nk ns nl kn D e s rt mo q f Y w z l) : rd (C' (46 + 3 * nk + 1)) = q ρ := h.2.1
theorem KnC.pt {C' C : tp_M} {p K P ρ m nk ns nl kn : Int} {D e s rt : Int → Int} {mo q : Int → Int → Int} {f Y w : Int → Int} {z : Int} {l : List (Int × Int)} (h : KnC C' C p K P ρ m nk ns nl kn D e s rt mo q f Y w z l) : ∀ k, 0 ≤ k → k < 9 → C' (46 + 3 * nk + 2) k = w k := h.2.2.1
theorem KnC.sd {C' C : tp_M} {p K P ρ m nk ns nl kn : Int} {D e s rt : Int → Int} {mo q : Int → Int → Int} {f Y w : Int → Int} {z : Int} {l : List (Int × Int)} (h : KnC C' C p K P ρ m nk ns nl kn D e s rt mo q f Y w z l) : ∀ (j : Nat) ab, l[j]? = some ab → SdC C' w (lft ρ e s) ρ e s (ns + j) ab ∧ ∀ k, 0 ≤ k → k < 9 → C' (118 + 3 * (ns + j) + 2) k = rsR p K.toNat ρ D e s rt mo Y w (lft ρ e s) ab k := h.2.2.2.1
theorem KnC.n2 {C' C : tp_M} {p K P ρ m nk ns nl kn : Int} {D e s rt : Int → Int} {mo q : Int → Int → Int} {f Y w : Int → Int} {z : Int} {l : List (Int × Int)} (h : KnC C' C p K P ρ m nk ns nl kn D e s rt mo q f Y w z l) : C' 41 2 = nk + 1 := h.2.2.2.2.1
theorem KnC.n6 {C' C : tp_M} {p K P ρ m nk ns nl kn : Int} {D e s rt : Int → Int} {mo q : Int → Int → Int} {f Y w : Int → Int} {z : Int} {l : List (Int × Int)} (h : KnC C' C p K P ρ m nk ns nl kn D e s rt mo q f Y w z l) : C' 41 6 = ns + l.length := h.2.2.2.2.2.1
theorem KnC.n3 {C' C : tp_M} {p K P ρ m nk ns nl kn : Int} {D e s rt : Int → Int} {mo q : Int → Int → Int} {f Y w : Int → Int} {z : Int} {l : List (Int × Int)} (h : KnC C' C p K P ρ m nk ns nl kn D e s rt mo q f Y w z l) : C' 41 3 = nl + lz z := h.2.2.2.2.2.2.1
theorem KnC.lf {C' C : tp_M} {p K P ρ m nk ns nl kn : Int} {D e s rt : Int → Int} {mo q : Int → Int → Int} {f Y w : Int → Int} {z : Int} {l : List (Int × Int)} (h : KnC C' C p K P ρ m nk ns nl kn D e s rt mo q f Y w z l) : LfZ C' nl z (D ρ) nk := h.2.2.2.2.2.2.2.1
theorem KnC.wy {C' C : tp_M} {p K P ρ m nk ns nl kn : Int} {D e s rt : Int → Int} {mo q : Int → Int → Int} {f Y w : Int → Int} {z : Int} {l : List (Int × Int)} (h : KnC C' C p K P ρ m nk ns nl kn D e s rt mo q f Y w z l) : WyC C' p K P ρ D e s rt mo q f := h.2.2.2.2.2.2.2.2.1
theorem KnC.fr {C' C : tp_M} {p K P ρ m nk ns nl kn : Int} {D e s rt : Int → Int} {mo q : Int → Int → Int} {f Y w : Int → Int} {z : Int} {l : List (Int × Int)} (h : KnC C' C p K P ρ m nk ns nl kn D e s rt mo q f Y w z l) : ∀ c k, kpC ρ nk ns nl c k → C' c k = C c k := h.2.2.2.2.2.2.2.2.2
set_option maxHeartbeats 4000000 in
set_option maxRecDepth 100000 in
theorem s_knotC {br : Int → Int → Int → Int → tp_M → Option tp_M} {C : tp_M} {p K P ρ m nk ns nl kn : Int} {D e s rt : Int → Int} {mo q : Int → Int → Int} {f Y w : Int → Int} {z : Int} {l : List (Int × Int)} (h : pKP p K P) (hg : cxg p P ρ D e s rt mo q) (hρ : 1 ≤ ρ ∧ ρ ≤ 6) (hm : 2 ≤ m ∧ m ≤ 8) (hmD : m * D ρ ≤ 8) (hf : inP P f 0 9) (hK : KnP p K P ρ m D e s rt mo q f Y w z l) (hq : q ρ = nwK p K P ρ e rt mo q) (hW : WyL C p K P ρ D e s rt mo q f) (hrt : 0 ≤ rt (ρ - 1) ∧ rt (ρ - 1) < p) (h2 : C 41 2 = nk) (h6 : C 41 6 = ns) (h3 : C 41 3 = nl) (hnk : 0 ≤ nk ∧ nk < 24) (hns : 0 ≤ ns ∧ ns + l.length ≤ 48) (hnl : 0 ≤ nl ∧ nl < 16) : ∃ C', fo_X1_growKnot br ρ m (D ρ) kn C = fo_X1_growKnot_171 br ρ (D ρ) (46 + 3 * nk) nk 0 C' ∧ KnC C' C p K P ρ m nk ns nl kn D e s rt mo q f Y w z l := by
  obtain ⟨cb, cc, co, cd⟩ := cxg_b hg hρ.1
  have dr := (cxg_D hg ρ hρ.1 (Int.le_refl _)).1
  have d4 := hg.2.1
  have len8 : (l.length : Int) ≤ 8 := by have := hK.le; have := hK.ln; have := hK.z0; omega
  obtain ⟨M1, a1, a2, a3, a4, a5, a6⟩ := s_addKnot (M := C) (n := nk) (ns := ns) ρ m (D ρ) kn h2 hnk h6
  have W1 : WyL M1 p K P ρ D e s rt mo q f := WyL_fr hρ.1 hW (fun c k hc => a6 c k (by unfold pthL at hc; omega) (by unfold pthL at hc; omega))
  obtain ⟨M2, b1, b2, b3⟩ := s_keyC (br := br) (C := M1) h hg hρ hq W1 hrt a2 hnk a3.1 a4 (D ρ)
  have W2 : WyL M2 p K P ρ D e s rt mo q f := WyL_fr hρ.1 W1 (fun c k hc => b3 c k (by unfold pthL at hc; omega) (by unfold pthL at hc; omega) (by unfold pthL at hc; omega))
  have k2 : ∀ k, M2 (46 + 3 * nk) k = M1 (46 + 3 * nk) k := fun k => b3 _ _ (by omega) (by omega) (by omega)
  obtain ⟨x0, x1, x2, x3, x4, x5, x6, x7⟩ := a3
  obtain ⟨M3, c1, c2, c3, c4⟩ := s_enterKnot (M := M2) (i := nk) (r := ρ) (d := D ρ) hnk hρ (by rw [k2]; exact x0) (by rw [k2]; exact x2)
  have W3 : WyL M3 p K P ρ D e s rt mo q f := WyL_fr hρ.1 W2 (fun c k hc => c4 c k (by unfold pthL at hc; omega) (by unfold pthL at hc; omega))
  have kk3 : ∀ c k, 46 + 3 * nk ≤ c → c < 46 + 3 * nk + 3 → M3 c k = M2 c k := fun c k g1 g2 => c4 _ _ (by omega) (by omega)
  have q3 : rd (M3 (294 + ρ)) = q ρ := by rw [← b2]; exact rd_cong (fun k k0 k1 => c3 k k0 k1)
  obtain ⟨X3, Q3, R3⟩ := WyL_x W3 c2
  obtain ⟨M4, d1, d2, d3, d4', d5⟩ := s_findPoints (M := M3) (p := p) (K := K) (P := P) (i := nk) (r := ρ) (m := m) h W3.1.1 W3.1.2.1 W3.1.2.2 cb hρ hnk (by omega) hmD (by rw [kk3 _ _ (by omega) (by omega), k2]; exact x0) (by rw [kk3 _ _ (by omega) (by omega), k2]; exact x1) (by rw [kk3 _ _ (by omega) (by omega), k2]; exact x2) X3 (by rw [← b2]; exact rd_cong (fun k k0 k1 => kk3 _ _ (by omega) (by omega))) hg.2.2.1 Q3 cd (fun k k0 k1 => by rw [W3.2.1 k k0 k1]; exact hf k k0 k1) (fun k k0 k1 => by rw [kk3 _ _ (by omega) (by omega), b3 _ _ (by omega) (by omega) (by omega)]; exact a5 k k0 k1)
  have eY : rowN P q D ρ (M3 303) = Y := by
    rw [hK.hY]
    unfold rowN
    rw [rd_cong (f := M3 303) (g := f) (fun k k0 k1 => W3.2.1 k k0 k1)]
  rw [eY, ← hK.hw] at d2 d3
  rw [eY] at d4'
  rw [← hK.hz] at d3
  have W4 : WyL M4 p K P ρ D e s rt mo q f := WyL_fr hρ.1 W3 (fun c k hc => d5 c k (by unfold pthL at hc; omega) (by unfold pthL at hc; omega) (by unfold pthL at hc; omega) (by unfold pthL at hc; omega) (by unfold pthL at hc; omega) (by unfold pthL at hc; omega))
  have kk4 : ∀ c k, 46 ≤ c → c < 304 → c ≠ 46 + 3 * nk + 2 → ¬ (c = 46 + 3 * nk ∧ k = 4) → M4 c k = M3 c k := fun c k g1 g2 g3 g4 => d5 c k (by omega) (by omega) (by omega) (by omega) g3 g4
  have n4 : ∀ k, M4 41 k = M2 41 k := fun k => by rw [d5 _ _ (by omega) (by omega) (by omega) (by omega) (by omega) (by omega), c4 _ _ (by omega) (by omega)]
  have m2 : ∀ k, M2 41 k = M1 41 k := fun k => b3 _ _ (by omega) (by omega) (by omega)
  have kn4 : ∀ k, k ≠ 4 → M4 (46 + 3 * nk) k = M1 (46 + 3 * nk) k := fun k hk => by rw [kk4 _ _ (by omega) (by omega) (by omega) (fun hh => hk hh.2), kk3 _ _ (by omega) (by omega), k2]
  have X4 : M4 280 ρ = D ρ := by rw [kk4 _ _ (by omega) (by omega) (by omega) (by omega)]; exact c2
  obtain ⟨Y4, _, R4⟩ := WyL_x W4 X4
  have hn4 : M4 41 6 = ns := by rw [n4, m2, a6 _ _ (by omega) (by omega)]; exact h6
  obtain ⟨M5, e1, e2, e3, e4, e5, e6⟩ := s_findSides (M := M4) (r := ρ) (i := nk) (n := ns) (z := z) (w := w) cb cc hρ hnk Y4 (by rw [kn4 _ (by decide)]; exact x0) d3 ⟨hK.z0.1, hK.zt⟩ (by rw [kn4 _ (by decide)]; exact x5) (by rw [kn4 _ (by decide)]; exact x7) d2 (fun k _ _ => hK.wb k) hn4 (by rw [← hK.hl]; omega) (by rw [← hK.hl]; exact hK.ok) (by rw [← hK.hl]; omega)
  rw [← hK.hl] at e2 e3 e4 e5 e6
  have W5 : WyL M5 p K P ρ D e s rt mo q f := WyL_fr hρ.1 W4 (fun c k hc => e6 c k (by unfold pthL at hc; omega) (by unfold pthL at hc; omega) (by unfold pthL at hc; omega) (by unfold pthL at hc; omega))
  have f5 : ∀ c k, 280 ≤ c → c < 310 → M5 c k = M4 c k := fun c k g1 g2 => e6 c k (by omega) (by omega) (by omega) (by omega)
  obtain ⟨Y5, _, R5⟩ := WyL_x W5 (by rw [f5 _ _ (by omega) (by omega)]; exact X4)
  have kn5 : ∀ k, k ≠ 5 → k ≠ 7 → M5 (46 + 3 * nk) k = M4 (46 + 3 * nk) k := fun k g1 g2 => e6 _ _ (by omega) (by omega) (by omega) (by omega)
  have p5 : ∀ k, M5 (46 + 3 * nk + 2) k = M4 (46 + 3 * nk + 2) k := fun k => e6 _ _ (by omega) (by omega) (by omega) (by omega)
  have n5 : M5 41 2 = nk + 1 := by rw [e6 _ _ (by omega) (by omega) (by omega) (by omega), n4, m2]; exact a2
  obtain ⟨M6, g1, g2, g3⟩ := s_g85 (br := br) (p := p) (K := K) (P := P) (r := ρ) (m := m) (i := nk) (d := D ρ) (ns := ns) (Y := Y) (w := w) (l := l) h cb cc hρ co hnk hns hK.ok hK.hd l.length tp_N 0 M5 (by unfold tp_N; omega) (by omega) Y5 (by rw [kn5 _ (by decide) (by decide), kn4 _ (by decide)]; exact x0) e5 (by rw [kn5 _ (by decide) (by decide), kn4 _ (by decide)]; exact x6) (by rw [n5]; omega) (by rw [W5.1.1]) R5 (fun k k0 k1 => by rw [p5]; exact d2 k k0 k1) (fun i i0 i1 i2 => by rw [f5 _ _ (by omega) (by omega), f5 _ _ (by omega) (by omega)]; exact d4' i i0 i1 i2) e2 (fun j ab _ hj => by omega)
  have W6 : WyL M6 p K P ρ D e s rt mo q f := WyL_fr hρ.1 W5 (fun c k hc => g3 c k (by unfold pthL at hc; omega) (fun j hj => by unfold pthL at hc; omega))
  have f6 : ∀ c k, c < 118 ∨ (262 ≤ c ∧ c < 311) → M6 c k = M5 c k := fun c k hc => g3 c k (by omega) (fun j hj => by omega)
  have kz6 : M6 (46 + 3 * nk) 4 = z := by rw [f6 _ _ (by omega), kn5 _ (by decide) (by decide)]; exact d3
  have hl6 : M6 41 3 = nl := by rw [f6 _ _ (by omega), e6 _ _ (by omega) (by omega) (by omega) (by omega), n4, m2, a6 _ _ (by omega) (by omega)]; exact h3
  obtain ⟨M7, i1, i2, i3, i4⟩ := s_leafZ (br := br) (C := M6) (ρ := ρ) (d := D ρ) (kc := 46 + 3 * nk) (nk := nk) (nl := nl) (z := z) kz6 (by have := hK.z0; omega) (by omega) hl6 hnl (by omega)
  have f7 : ∀ c k, c ≠ 41 → ¬ (262 ≤ c ∧ c < 278) → M7 c k = M6 c k := fun c k x1 x2 => i4 c k (fun hh => x1 hh.1) (by omega)
  have kn7 : ∀ k, M7 (46 + 3 * nk) k = M5 (46 + 3 * nk) k := fun k => by rw [f7 _ _ (by omega) (by omega), f6 _ _ (by omega)]
  have n7 : ∀ k, k ≠ 3 → M7 41 k = M5 41 k := fun k hk => by rw [i4 _ _ (fun hh => hk hh.2) (by omega), f6 _ _ (by omega)]
  have W7 : WyL M7 p K P ρ D e s rt mo q f := WyL_fr hρ.1 W6 (fun c k hc => f7 c k (by unfold pthL at hc; omega) (by unfold pthL at hc; omega))
  refine ⟨M7, ?_, ⟨?_, ?_, ?_, ?_, ?_, ?_, i2, i3, ?_, ?_⟩⟩
  · unfold fo_X1_growKnot
    rw [if_neg (by omega), a1, Option.bind_some]
    show fo_X1_growKnot_22 br ρ (D ρ) (46 + 3 * nk) M1 = _
    rw [b1]
    unfold fo_X1_growKnot_61
    rw [c1, Option.bind_some, d1, Option.bind_some, e1, Option.bind_some, ← i1, ← g1]
    rfl
  · refine ⟨?_, ?_, ?_, ?_, ?_, ?_, ?_, ?_⟩
    · rw [kn7, kn5 _ (by decide) (by decide), kn4 _ (by decide)]; exact x0
    · rw [kn7, kn5 _ (by decide) (by decide), kn4 _ (by decide)]; exact x1
    · rw [kn7, kn5 _ (by decide) (by decide), kn4 _ (by decide)]; exact x2
    · rw [kn7, kn5 _ (by decide) (by decide), kn4 _ (by decide)]; exact x3
    · rw [kn7, kn5 _ (by decide) (by decide)]; exact d3
    · rw [kn7]; exact e4
    · rw [kn7, kn5 _ (by decide) (by decide), kn4 _ (by decide)]; exact x6
    · rw [kn7]; exact e5
  · rw [← b2]
    refine rd_cong (fun k k0 k1 => ?_)
    rw [f7 _ _ (by omega) (by omega), f6 _ _ (by omega), e6 _ _ (by omega) (by omega) (by omega) (by omega), kk4 _ _ (by omega) (by omega) (by omega) (by omega), kk3 _ _ (by omega) (by omega)]
  · intro k k0 k1
    rw [f7 _ _ (by omega) (by omega), f6 _ _ (by omega), p5]; exact d2 k k0 k1
  · intro j ab hj
    have hjl : j < l.length := by obtain ⟨q1, _⟩ := List.getElem?_eq_some_iff.mp hj; exact q1
    have e := e2 j ab hj
    refine ⟨⟨fun F f0 f1 => ?_, fun k k0 k1 => ?_⟩, fun k k0 k1 => ?_⟩
    · rw [f7 _ _ (by omega) (by omega), g3 _ _ (by omega) (fun i hi => by omega)]; exact e.1 F f0 f1
    · rw [f7 _ _ (by omega) (by omega), g3 _ _ (by omega) (fun i hi => by omega)]; exact e.2 k k0 k1
    · rw [f7 _ _ (by omega) (by omega)]; exact g2 j ab hj k k0 k1
  · rw [n7 _ (by decide)]; exact n5
  · rw [n7 _ (by decide)]; exact e3
  · obtain ⟨y1, y2, y3, y4⟩ := W7
    refine ⟨y1, y2, fun k k0 k1 => ?_, fun k k0 k1 => (y4 k k0 k1).2⟩
    by_cases c : k = ρ
    · rw [c]
      refine ⟨by rw [f7 _ _ (by omega) (by omega), f6 _ _ (by omega), f5 _ _ (by omega) (by omega)]; exact X4, ?_⟩
      rw [← q3]
      exact rd_cong (fun j j0 j1 => by rw [f7 _ _ (by omega) (by omega), f6 _ _ (by omega), f5 _ _ (by omega) (by omega), kk4 _ _ (by omega) (by omega) (by omega) (by omega)])
    · exact (y4 k k0 (by omega)).1
  · intro c k hc
    unfold kpC at hc
    have t7 : ¬ (c = 41 ∧ k = 3) ∧ c ≠ 262 + nl := by omega
    have t6 : c ≠ 311 ∧ ¬ (118 + 3 * ns ≤ c ∧ c < 118 + 3 * (ns + l.length)) := by omega
    have t5 : c ≠ 310 ∧ ¬ (c = 41 ∧ k = 6) ∧ ¬ (c = 46 + 3 * nk ∧ (k = 5 ∨ k = 7)) := by omega
    have t4 : c ≠ 304 ∧ c ≠ 307 ∧ c ≠ 308 ∧ c ≠ 309 ∧ c ≠ 46 + 3 * nk + 2 ∧ ¬ (c = 46 + 3 * nk ∧ k = 4) := by omega
    have t3 : ¬ (c = 280 ∧ k = ρ) ∧ c ≠ 294 + ρ ∧ c ≠ 46 + 3 * nk + 1 ∧ c ≠ 305 ∧ c ≠ 306 := by omega
    have t1 : ¬ (c = 41 ∧ k = 2) ∧ ¬ (46 + 3 * nk ≤ c ∧ c < 46 + 3 * nk + 3) := by omega
    clear hc
    rw [i4 c k t7.1 t7.2, g3 c k t6.1 (fun j hj => by omega), e6 c k t5.1 t5.2.1 t5.2.2 t6.2, d5 c k t4.1 t4.2.1 t4.2.2.1 t4.2.2.2.1 t4.2.2.2.2.1 t4.2.2.2.2.2, c4 c k t3.1 t3.2.1, b3 c k t3.2.2.1 t3.2.2.2.1 t3.2.2.2.2, a6 c k t1.1 t1.2]
