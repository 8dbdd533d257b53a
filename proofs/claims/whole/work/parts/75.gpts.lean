def seg (Y : Int → Int) (Dr i : Int) : Int → Int := fun j => Y (i * Dr + j)
/-- the head of a part -/
def Hd (p : Int) (K : Nat) (r : Int) (D e s Y : Int → Int) (i : Int) : Int × Int := hdS (kval p K (D r) (fun j => vpl D e s (D r) j (r - 1).toNat) (seg Y (D r) i)) (seg Y (D r) i) (D r).toNat
def lft (r : Int) (e s : Int → Int) : Int := if r = 1 then 0 else e (r - 1) * s (r - 1)
def pts (p : Int) (K : Nat) (r m : Int) (D e s Y : Int → Int) : Int → Int := fun i => if 0 ≤ i ∧ i ≤ m ∧ 0 ≤ (Hd p K r D e s Y i).1 then (Hd p K r D e s Y i).1 + i * lft r e s else -1
def zrD (w : Int → Int) (m : Int) : Nat → Int
  | 0 => m
  | k + 1 => if 0 ≤ w (m - k) then m - k else zrD w m k
theorem lft_b {r : Int} {D e s : Int → Int} (h : cxb r D e s) (hr : 1 ≤ r) : 0 ≤ lft r e s ∧ lft r e s ≤ 16000 := by
  unfold lft
  by_cases c : r = 1
  · rw [if_pos c]; omega
  · rw [if_neg c]
    have h2 := h.2 (r - 1) (by omega) (by omega)
    have := mulB (x := e (r - 1)) (y := s (r - 1)) (a := 8) (b := 2000) (by omega) (by omega)
    omega
theorem kval_b {p K P r : Int} {D e s Y : Int → Int} (h : pKP p K P) (hb : cxb r D e s) (hr : 1 ≤ r ∧ r ≤ 6) (j : Int) : 0 ≤ kval p K.toNat (D r) (fun j => vpl D e s (D r) j (r - 1).toNat) Y j ∧ kval p K.toNat (D r) (fun j => vpl D e s (D r) j (r - 1).toNat) Y j ≤ 600000 := by
  obtain ⟨h1, h2, h3, h4, h5, h6⟩ := h
  have hb1 := hb.1
  have a := vpl_b hb j (r - 1).toNat (by omega)
  have pb := pvn_b p K.toNat (Y j)
  have b := mulB (x := pvn p K.toNat (Y j)) (y := D r) (a := 28) (b := 8) (by omega) (by omega)
  show 0 ≤ pvn p K.toNat (Y j) * D r + vpl D e s (D r) j (r - 1).toNat ∧ pvn p K.toNat (Y j) * D r + vpl D e s (D r) j (r - 1).toNat ≤ 600000
  omega
theorem Hd_b {p K P r : Int} {D e s Y : Int → Int} (h : pKP p K P) (hb : cxb r D e s) (hr : 1 ≤ r ∧ r ≤ 6) (i : Int) : -1 ≤ (Hd p K.toNat r D e s Y i).1 ∧ (Hd p K.toNat r D e s Y i).1 ≤ 600000 := by
  have hs := hdS_b (val := kval p K.toNat (D r) (fun j => vpl D e s (D r) j (r - 1).toNat) (seg Y (D r) i)) (Y := seg Y (D r) i) (fun j => (kval_b h hb hr j).1) (D r).toNat
  unfold Hd
  by_cases c : 0 ≤ (hdS (kval p K.toNat (D r) (fun j => vpl D e s (D r) j (r - 1).toNat) (seg Y (D r) i)) (seg Y (D r) i) (D r).toNat).1
  · have := (hs.1 c).2.2.2
    rw [this]
    have := kval_b (Y := seg Y (D r) i) h hb hr (hdS (kval p K.toNat (D r) (fun j => vpl D e s (D r) j (r - 1).toNat) (seg Y (D r) i)) (seg Y (D r) i) (D r).toNat).2
    omega
  · rw [(hs.2 (by omega)).1]; show (-1 : Int) ≤ -1 ∧ (-1 : Int) ≤ 600000; omega
def pB67 (x1 x2 : Int) : (Int × tp_M → Option tp_M) → Int × tp_M → Option tp_M := fun rec_ u => f_X1_findPoints_67B x1 x2 (fun x3' M0' => rec_ (x3', M0')) u.1 u.2
/-- where a point is, its head -/
def hdOk (M : tp_M) (p : Int) (K : Nat) (r m : Int) (D e s Y : Int → Int) (n : Int) : Prop := ∀ i, n ≤ i → i ≤ m → 0 ≤ (Hd p K r D e s Y i).1 → M 308 i = (Hd p K r D e s Y i).2 ∧ M 309 i = rsv p K (seg Y (D r) i (Hd p K r D e s Y i).2)
set_option maxHeartbeats 4000000 in
set_option maxRecDepth 100000 in
theorem s_fp67 {p K P r m kc : Int} {D e s Y : Int → Int} (h : pKP p K P) (tk : kn_t kc) (hb : cxb r D e s) (hr : 1 ≤ r ∧ r ≤ 6) (hm : 0 ≤ m ∧ m ≤ 8) (hmD : m * D r ≤ 8) (hkc : 46 ≤ kc ∧ kc ≤ 115) (hY : inP P Y 0 18) : ∀ (n N : Nat) (M : tp_M), n < N → (n : Int) ≤ m + 1 → M 1 0 = p → M 1 1 = K → M kc 2 = D r → (∀ j, 0 ≤ j → j < (m + 1) * D r → M 304 j = Y j) → (∀ j, 0 ≤ j → j < D r → M 307 j = vpl D e s (D r) j (r - 1).toNat) → (∀ i, 0 ≤ i → i < 9 → M (kc + 2) i = if (n : Int) ≤ i then pts p K.toNat r m D e s Y i else -1) → M kc 4 = zrD (pts p K.toNat r m D e s Y) m (m + 1 - n).toNat → hdOk M p K.toNat r m D e s Y n → ∃ N', tp_lp (pB67 kc (lft r e s)) N ((n : Int) - 1, M) = some N' ∧ (∀ i, 0 ≤ i → i < 9 → N' (kc + 2) i = pts p K.toNat r m D e s Y i) ∧ N' kc 4 = zrD (pts p K.toNat r m D e s Y) m (m + 1).toNat ∧ hdOk N' p K.toNat r m D e s Y 0 ∧ ∀ c k, c ≠ 308 → c ≠ 309 → c ≠ kc + 2 → ¬ (c = kc ∧ k = 4) → N' c k = M c k := by
  have hb1 := hb.1
  have hl := lft_b hb hr.1
  intro n
  induction n with
  | zero =>
    intro N M hN hn hp hK hD hY4 hV hpt hz hq'
    refine ⟨M, ?_, fun i i0 i1 => by rw [hpt i i0 i1, if_pos (by omega)], by rw [hz, show (m + 1 - ((0 : Nat) : Int)).toNat = (m + 1).toNat by omega], hq', fun c k _ _ _ _ => rfl⟩
    rw [lp_1 (by omega)]
    simp only [pB67, f_X1_findPoints_67B]
    rw [if_pos (by omega)]
  | succ n ih =>
    intro N M hN hn hp hK hD hY4 hV hpt hz hq'
    have n8 : (0 : Int) ≤ n ∧ (n : Int) ≤ 8 := by omega
    have nm : (n : Int) ≤ m := by omega
    have nD : (n : Int) * D r ≤ m * D r := Int.mul_le_mul_of_nonneg_right nm (by omega)
    have nD0 : 0 ≤ (n : Int) * D r := Int.mul_nonneg (by omega) (by omega)
    have mD1 : (m + 1) * D r = m * D r + D r := by rw [Int.add_mul, Int.one_mul]
    obtain ⟨M1, a1, a2, a3⟩ := s_findHead (M := M) (p := p) (K := K) (P := P) (kc := kc) (i := n) (Dr := D r) (vp := fun j => vpl D e s (D r) j (r - 1).toNat) (Y := seg Y (D r) n) h tk hp hK hD hb1 n8 (by omega) (by omega) (fun j j0 j1 => hY _ (by omega) (by omega)) (fun j j0 j1 => by
      have := vpl_b hb j (r - 1).toNat (by omega)
      omega) (fun j j0 j1 => ⟨hY4 _ (by omega) (by omega), hV j j0 j1⟩)
    have eH : hdS (kval p K.toNat (D r) (fun j => vpl D e s (D r) j (r - 1).toNat) (seg Y (D r) n)) (seg Y (D r) n) (D r).toNat = Hd p K.toNat r D e s Y n := rfl
    rw [eH] at a1
    have a2' : 0 ≤ (Hd p K.toNat r D e s Y n).1 → M1 308 n = (Hd p K.toNat r D e s Y n).2 ∧ M1 309 n = rsv p K.toNat (seg Y (D r) n (Hd p K.toNat r D e s Y n).2) := a2
    have hdb := Hd_b (Y := Y) h hb hr (n : Int)
    generalize hHv : Hd p K.toNat r D e s Y n = H at a1 a2' hdb
    have en : ((n + 1 : Nat) : Int) - 1 = n := by omega
    have e1 : (m + 1 - (n : Int)).toNat = (m + 1 - ((n + 1 : Nat) : Int)).toNat + 1 := by omega
    have e2 : m - (((m + 1 - ((n + 1 : Nat) : Int)).toNat : Nat) : Int) = n := by omega
    have ez : zrD (pts p K.toNat r m D e s Y) m (m + 1 - (n : Int)).toNat = if 0 ≤ pts p K.toNat r m D e s Y n then (n : Int) else zrD (pts p K.toNat r m D e s Y) m (m + 1 - ((n + 1 : Nat) : Int)).toNat := by
      rw [e1]
      show (if 0 ≤ pts p K.toNat r m D e s Y (m - (((m + 1 - ((n + 1 : Nat) : Int)).toNat : Nat) : Int)) then m - (((m + 1 - ((n + 1 : Nat) : Int)).toNat : Nat) : Int) else _) = _
      rw [e2]
    have ml := mulB (x := (n : Int)) (y := lft r e s) (a := 8) (b := 16000) n8 hl
    have ep : pts p K.toNat r m D e s Y n = if 0 ≤ H.1 then H.1 + (n : Int) * lft r e s else -1 := by
      unfold pts
      rw [hHv]
      by_cases c : 0 ≤ H.1
      · rw [if_pos c, if_pos ⟨n8.1, nm, c⟩]
      · rw [if_neg c, if_neg (fun h => c h.2.2)]
    have b1 : -2147483648 ≤ (n : Int) * lft r e s ∧ (n : Int) * lft r e s ≤ 2147483647 := by omega
    have b2 : -2147483648 ≤ H.1 + (n : Int) * lft r e s ∧ H.1 + (n : Int) * lft r e s ≤ 2147483647 := by omega
    have b3 : -2147483648 ≤ (n : Int) + -1 ∧ (n : Int) + -1 ≤ 2147483647 := by omega
    have e3 : (n : Int) + -1 = (n : Int) - 1 := by omega
    have g0 : ¬ (n : Int) < 0 := by omega
    have g1 : 0 ≤ (n : Int) ∧ (n : Int) < 9 := by omega
    have kc1 : kc + 2 ≠ 308 ∧ kc + 2 ≠ 309 ∧ kc ≠ kc + 2 ∧ kc ≠ 308 ∧ kc ≠ 309 := by omega
    have kc2 : (304 : Int) ≠ kc + 2 ∧ (307 : Int) ≠ kc + 2 ∧ (1 : Int) ≠ kc + 2 ∧ (308 : Int) ≠ kc + 2 ∧ (309 : Int) ≠ kc + 2 := by omega
    have kc3 : (304 : Int) ≠ kc ∧ (307 : Int) ≠ kc ∧ (1 : Int) ≠ kc ∧ (308 : Int) ≠ kc ∧ (309 : Int) ≠ kc := by omega
    rw [lp_1 (by omega), en]
    by_cases c : 0 ≤ H.1
    · rw [if_pos c] at ep
      have pz : 0 ≤ pts p K.toNat r m D e s Y n := by rw [ep]; omega
      rw [if_pos pz] at ez
      generalize hM2 : tp_up (tp_up M1 (kc + 2) n (H.1 + (n : Int) * lft r e s)) kc 4 n = M2
      have f2 : ∀ c k, c ≠ 308 → c ≠ 309 → c ≠ kc + 2 → ¬ (c = kc ∧ k = 4) → M2 c k = M c k := fun c k q1 q2 q3 q4 => by
        rw [← hM2, up_ne q4, up_ne (fun h => q3 h.1), a3 c k (fun h => q1 h.1) (fun h => q2 h.1)]
      have f3 : ∀ c k, c ≠ kc + 2 → c ≠ kc → M2 c k = M1 c k := fun c k q1 q2 => by
        rw [← hM2, up_ne (fun h => q2 h.1), up_ne (fun h => q1 h.1)]
      obtain ⟨N', k1, k2, k3, k4, k5⟩ := ih (N - 1) M2 (by omega) (by omega) (by rw [f2 _ _ (by decide) (by decide) kc2.2.2.1 (fun h => absurd h.2 (by decide))]; exact hp) (by rw [f2 _ _ (by decide) (by decide) kc2.2.2.1 (fun h => absurd h.2 (by decide))]; exact hK) (by rw [f2 _ _ kc1.2.2.2.1 kc1.2.2.2.2 kc1.2.2.1 (fun h => absurd h.2 (by decide))]; exact hD) (fun j j0 j1 => by rw [f2 _ _ (by decide) (by decide) kc2.1 (fun h => kc3.1 h.1)]; exact hY4 j j0 j1) (fun j j0 j1 => by rw [f2 _ _ (by decide) (by decide) kc2.2.1 (fun h => kc3.2.1 h.1)]; exact hV j j0 j1) (fun i i0 i1 => by
          rw [← hM2, up_ne (fun h => kc1.2.2.1 h.1.symm)]
          by_cases ci : i = n
          · rw [up_eq ⟨rfl, ci⟩, if_pos (by omega), ci, ep]
          · rw [up_ne (fun h => ci h.2), a3 _ _ (fun h => kc1.1 h.1) (fun h => kc1.2.1 h.1), hpt i i0 i1]
            by_cases c2 : ((n + 1 : Nat) : Int) ≤ i
            · rw [if_pos c2, if_pos (by omega)]
            · rw [if_neg c2, if_neg (by omega)]) (by rw [ez, ← hM2, up_eq ⟨rfl, rfl⟩]) (fun i i0 i1 i2 => by
          by_cases ci : i = n
          · rw [f3 _ _ kc2.2.2.2.1 kc3.2.2.2.1, f3 _ _ kc2.2.2.2.2 kc3.2.2.2.2, ci, hHv]
            exact a2' c
          · have := hq' i (by omega) i1 i2
            rw [f3 _ _ kc2.2.2.2.1 kc3.2.2.2.1, f3 _ _ kc2.2.2.2.2 kc3.2.2.2.2, a3 _ _ (fun h => ci h.2) (fun h => ci h.2), a3 _ _ (fun h => ci h.2) (fun h => ci h.2)]
            exact this)
      refine ⟨N', ?_, k2, k3, k4, fun c k q1 q2 q3 q4 => by rw [k5 c k q1 q2 q3 q4, f2 c k q1 q2 q3 q4]⟩
      generalize tp_lp (pB67 kc (lft r e s)) (N - 1) = Rc at k1 ⊢
      simp only [pB67, f_X1_findPoints_67B, f_X1_findPoints_104, tp_mp, tp_lt]
      rw [if_neg g0, a1, Option.bind_some, if_pos c, if_pos g1, ho_w b1.1 b1.2, ho_w b2.1 b2.2, hM2, ho_w b3.1 b3.2, e3]
      exact k1
    · rw [if_neg c] at ep
      have pz : ¬ 0 ≤ pts p K.toNat r m D e s Y n := by rw [ep]; decide
      rw [if_neg pz] at ez
      obtain ⟨N', k1, k2, k3, k4, k5⟩ := ih (N - 1) M1 (by omega) (by omega) (by rw [a3 _ _ (fun h => absurd h.1 (by decide)) (fun h => absurd h.1 (by decide))]; exact hp) (by rw [a3 _ _ (fun h => absurd h.1 (by decide)) (fun h => absurd h.1 (by decide))]; exact hK) (by rw [a3 _ _ (fun h => kc1.2.2.2.1 h.1) (fun h => kc1.2.2.2.2 h.1)]; exact hD) (fun j j0 j1 => by rw [a3 _ _ (fun h => absurd h.1 (by decide)) (fun h => absurd h.1 (by decide))]; exact hY4 j j0 j1) (fun j j0 j1 => by rw [a3 _ _ (fun h => absurd h.1 (by decide)) (fun h => absurd h.1 (by decide))]; exact hV j j0 j1) (fun i i0 i1 => by
          rw [a3 _ _ (fun h => kc1.1 h.1) (fun h => kc1.2.1 h.1), hpt i i0 i1]
          by_cases ci : i = n
          · rw [if_neg (by omega), if_pos (by omega), ci, ep]
          · by_cases c2 : ((n + 1 : Nat) : Int) ≤ i
            · rw [if_pos c2, if_pos (by omega)]
            · rw [if_neg c2, if_neg (by omega)]) (by rw [ez, a3 _ _ (fun h => kc1.2.2.2.1 h.1) (fun h => kc1.2.2.2.2 h.1)]; exact hz) (fun i i0 i1 i2 => by
          by_cases ci : i = n
          · rw [ci, hHv] at i2; exact absurd i2 c
          · have := hq' i (by omega) i1 i2
            rw [a3 _ _ (fun h => ci h.2) (fun h => ci h.2), a3 _ _ (fun h => ci h.2) (fun h => ci h.2)]
            exact this)
      refine ⟨N', ?_, k2, k3, k4, fun c k q1 q2 q3 q4 => by rw [k5 c k q1 q2 q3 q4, a3 c k (fun h => q1 h.1) (fun h => q2 h.1)]⟩
      generalize tp_lp (pB67 kc (lft r e s)) (N - 1) = Rc at k1 ⊢
      simp only [pB67, f_X1_findPoints_67B, f_X1_findPoints_104, tp_mp, tp_lt]
      rw [if_neg g0, a1, Option.bind_some, if_neg c, ho_w b3.1 b3.2, e3]
      exact k1
set_option maxHeartbeats 4000000 in
set_option maxRecDepth 100000 in
theorem s_findPoints {M : tp_M} {p K P i r m : Int} {D e s : Int → Int} {q : Int → Int → Int} (h : pKP p K P) (hp : M 1 0 = p) (hK : M 1 1 = K) (hP : M 1 2 = P) (hb : cxb r D e s) (hr : 1 ≤ r ∧ r ≤ 6) (hi : 0 ≤ i ∧ i < 24) (hm : 0 ≤ m ∧ m ≤ 8) (hmD : m * D r ≤ 8) (hl : M (46 + 3 * i) 0 = r) (hm1 : M (46 + 3 * i) 1 = m) (hd : M (46 + 3 * i) 2 = D r) (hC : CxC M r D e s) (hk : rd (M (46 + 3 * i + 1)) = q r) (hq : ∀ k, 1 ≤ k → k ≤ r → Ro P (q k)) (hqM : ∀ k, 1 ≤ k → k < r → rd (M (294 + k)) = q k) (hdv : ∀ k, 1 ≤ k → k < r → D (k + 1) ∣ D r) (hf : inP P (M 303) 0 9) (hpt : ∀ k, 0 ≤ k → k < 9 → M (46 + 3 * i + 2) k = -1) : ∃ N, f_X1_findPoints (46 + 3 * i) M = some N ∧ (∀ k, 0 ≤ k → k < 9 → N (46 + 3 * i + 2) k = pts p K.toNat r m D e s (rowN P q D r (M 303)) k) ∧ N (46 + 3 * i) 4 = zrD (pts p K.toNat r m D e s (rowN P q D r (M 303))) m (m + 1).toNat ∧ hdOk N p K.toNat r m D e s (rowN P q D r (M 303)) 0 ∧ ∀ c k, c ≠ 304 → c ≠ 307 → c ≠ 308 → c ≠ 309 → c ≠ 46 + 3 * i + 2 → ¬ (c = 46 + 3 * i ∧ k = 4) → N c k = M c k := by
  have h' := h
  obtain ⟨h1, h2, h3, h4, h5, h6⟩ := h
  have hb1 := hb.1
  have tk := tg_kn hi
  have mD1 : (m + 1) * D r = m * D r + D r := by rw [Int.add_mul, Int.one_mul]
  have mD0 : 0 ≤ m * D r := Int.mul_nonneg hm.1 (by omega)
  obtain ⟨K1, a1, a2, a3, a4⟩ := s_expandParts (M := M) (P := P) (i := i) (r := r) (B := (m + 1) * D r) (q := q) (D := D) hP ⟨h5, h6⟩ hi hr (by omega) hl hd hk (hq r (by omega) (Int.le_refl _)) hb1 hf (fun k k0 k1 => by
    have b1 := hb.2 k k0 k1
    have b2 := cxb_D hb k0 k1
    exact ⟨hC.1 k k0 (by omega), hC.1 (k + 1) (by omega) (by omega), hqM k k0 k1, hq k k0 (by omega), b1.1.1, b1.1.2, b2.1, b2.2, Int.dvd_mul_of_dvd_right (hdv k k0 k1)⟩)
  generalize hkc : 46 + 3 * i = kc at *
  have hkc2 : 46 ≤ kc ∧ kc ≤ 115 := by omega
  clear hkc
  have hC1 : CxC K1 r D e s := ⟨fun k k0 k1 => by rw [a4 _ _ (by decide)]; exact hC.1 k k0 k1, fun k k0 k1 => ⟨by rw [a4 _ _ (by decide)]; exact (hC.2 k k0 k1).1, by rw [a4 _ _ (by decide)]; exact (hC.2 k k0 k1).2⟩⟩
  have kcn : kc ≠ 304 ∧ kc ≠ 307 ∧ kc + 2 ≠ 304 ∧ kc + 2 ≠ 307 ∧ kc + 2 ≠ kc := by omega
  generalize hV : tp_wr K1 307 0 9 (fun j => vpl D e s (D r) j (r - 1).toNat) = V
  have fV : ∀ c k, c ≠ 307 → V c k = K1 c k := fun c k hc => by rw [← hV, wr_out (fun h => hc h.1)]
  have lp7 : f_X1_findPoints_7 kc 0 K1 = (f_X5_lift r V).bind fun r5 => f_X1_findPoints_67 kc r5 (min m 8) (tp_up V kc 4 m) := by
    unfold f_X1_findPoints_7
    have e0 : ((0 : Int), K1) = (((0 : Nat) : Int), tp_wr K1 307 0 ((0 : Nat) : Int) (fun j => vpl D e s (D r) j (r - 1).toNat)) := by rw [show ((0 : Nat) : Int) = 0 from rfl, wr_zero]
    rw [e0]
    refine lp_seq (fun j => ((j : Int), tp_wr K1 307 0 j (fun j => vpl D e s (D r) j (r - 1).toNat))) 9 (fun j hj rc => ?_) (fun rc => ?_) tp_N (by unfold tp_N; omega)
    · have u := wr_succ0 K1 307 j (fun j => vpl D e s (D r) j (r - 1).toNat)
      have g0 : ¬ 9 ≤ (j : Int) := by omega
      have g1 : 0 ≤ (j : Int) ∧ (j : Int) < 9 := by omega
      have g2 : 0 ≤ (j : Int) ∧ (j : Int) ≤ 100 := by omega
      have g4 : j < 1000000 := by omega
      generalize hW : tp_wr K1 307 0 j (fun j => vpl D e s (D r) j (r - 1).toNat) = W at *
      have fW : ∀ c k, c ≠ 307 → W c k = K1 c k := fun c k hc => by rw [← hW, wr_out (fun h => hc h.1)]
      have l1 : W kc 0 = r := by rw [fW _ _ kcn.2.1, a4 _ _ kcn.1]; exact hl
      have hCW : CxC W r D e s := ⟨fun k k0 k1 => by rw [fW _ _ (by decide)]; exact hC1.1 k k0 k1, fun k k0 k1 => ⟨by rw [fW _ _ (by decide)]; exact (hC1.2 k k0 k1).1, by rw [fW _ _ (by decide)]; exact (hC1.2 k k0 k1).2⟩⟩
      have sv := s_valueOfPlace hb hCW hr g2
      simp only [f_X1_findPoints_7B, tp_mp, tp_lt]
      rw [if_neg g0, l1, sv, Option.bind_some, if_pos g1, w_succ g4]
      exact congrArg (fun z => rc (((j + 1 : Nat) : Int), z)) u
    · have e9 : tp_wr K1 307 0 ((9 : Nat) : Int) (fun j => vpl D e s (D r) j (r - 1).toNat) = V := hV
      have l1 : V kc 0 = r := by rw [fV _ _ kcn.2.1, a4 _ _ kcn.1]; exact hl
      have l2 : V kc 1 = m := by rw [fV _ _ kcn.2.1, a4 _ _ kcn.1]; exact hm1
      have l3 : tp_up V kc 4 m kc 1 = m := by rw [up_ne (fun h => absurd h.2 (by decide))]; exact l2
      simp only [f_X1_findPoints_7B, tp_mp, tp_lt, e9]
      rw [if_pos (by decide), l1, l2, l3]
  have hCV : CxC V r D e s := ⟨fun k k0 k1 => by rw [fV _ _ (by decide)]; exact hC1.1 k k0 k1, fun k k0 k1 => ⟨by rw [fV _ _ (by decide)]; exact (hC1.2 k k0 k1).1, by rw [fV _ _ (by decide)]; exact (hC1.2 k k0 k1).2⟩⟩
  have sl := s_lift hb hCV hr
  have el : (if r = 1 then 0 else e (r - 1) * s (r - 1)) = lft r e s := rfl
  rw [el] at sl
  have Yin : inP P (rowN P q D r (M 303)) 0 18 := by
    unfold rowN
    refine lvE_in h5 _ (oux_in h5 101 0 (fun k k0 k1 => ?_))
    by_cases c : k < 9
    · rw [rd_in ⟨k0, c⟩]; exact hf k k0 c
    · rw [rd_out (by omega)]; omega
  generalize hV2 : tp_up V kc 4 m = V2 at lp7
  have fV2 : ∀ c k, c ≠ 304 → c ≠ 307 → ¬ (c = kc ∧ k = 4) → V2 c k = M c k := fun c k q1 q2 q3 => by rw [← hV2, up_ne q3, fV c k q2, a4 c k q1]
  obtain ⟨N, n1, n2, n3, n4, n5⟩ := s_fp67 (p := p) (K := K) (P := P) (r := r) (m := m) (kc := kc) (D := D) (e := e) (s := s) (Y := rowN P q D r (M 303)) h' tk.1 hb hr hm hmD hkc2 Yin (m + 1).toNat tp_N V2 (by unfold tp_N; omega) (by omega) (by rw [fV2 _ _ (by decide) (by decide) (fun h => absurd h.2 (by decide))]; exact hp) (by rw [fV2 _ _ (by decide) (by decide) (fun h => absurd h.2 (by decide))]; exact hK) (by rw [fV2 _ _ kcn.1 kcn.2.1 (fun h => absurd h.2 (by decide))]; exact hd) (fun j j0 j1 => by rw [← hV2, up_ne (fun h => kcn.1 h.1.symm), fV _ _ (by decide)]; exact a2 j j0 j1) (fun j j0 j1 => by rw [← hV2, up_ne (fun h => kcn.2.1 h.1.symm), ← hV, wr_in (by omega), show j - 0 = j by omega]) (fun k k0 k1 => by
      rw [fV2 _ _ kcn.2.2.1 kcn.2.2.2.1 (fun h => kcn.2.2.2.2 h.1), hpt k k0 k1]
      by_cases c : (((m + 1).toNat : Nat) : Int) ≤ k
      · rw [if_pos c]; unfold pts; rw [if_neg (by omega)]
      · rw [if_neg c]) (by
      rw [← hV2, up_eq ⟨rfl, rfl⟩, show (m + 1 - (((m + 1).toNat : Nat) : Int)).toNat = 0 by omega]
      rfl) (fun k k0 k1 _ => by omega)
  refine ⟨N, ?_, n2, n3, n4, fun c k q1 q2 q3 q4 q5 q6 => by rw [n5 c k q3 q4 q5 q6, fV2 c k q1 q2 q6]⟩
  unfold f_X1_findPoints
  rw [if_pos (show tp_tg kc = 2 from tk.1), a1, Option.bind_some, lp7, sl, Option.bind_some, show min m 8 = (((m + 1).toNat : Nat) : Int) - 1 by omega]
  exact n1
def qB29 (x1 x2 : Int) : (Int × tp_M → Option tp_M) → Int × tp_M → Option tp_M := fun rec_ u => f_X11_laysPoints_29B x1 x2 (fun x3' M0' => rec_ (x3', M0')) u.1 u.2
theorem s_rlift {M : tp_M} {r : Int} {D e s kf : Int → Int} {q : Int → Int → Int} (h : cxb r D e s) (hC : CxR M r D e s kf q) (hr : 1 ≤ r ∧ r ≤ 6) : f_X11_lift M = some (lft r e s) := by
  unfold f_X11_lift lft
  by_cases c : r = 1
  · rw [if_neg (show ¬ ¬ M 483 49 = 1 by rw [hC.1]; omega), if_pos c]
  · have h1 := hC.2.2 (r - 1) (by omega) (by omega)
    have h2 := h.2 (r - 1) (by omega) (by omega)
    have mm := mulB (x := e (r - 1)) (y := s (r - 1)) (a := 8) (b := 2000) (by omega) (by omega)
    have w := ho_w (x := r - 1) (by omega) (by omega)
    have w2 := ho_w (x := e (r - 1) * s (r - 1)) (by omega) (by omega)
    rw [if_pos (show ¬ M 483 49 = 1 by rw [hC.1]; exact c), hC.1, w, if_pos (by omega), if_pos (by omega), h1.1, h1.2, w2, if_neg c]
set_option maxHeartbeats 4000000 in
set_option maxRecDepth 100000 in
theorem s_lp29 {p K P r m kn : Int} {D e s kf X Y : Int → Int} {q : Int → Int → Int} (h : pKP p K P) (hb : cxb r D e s) (hr : 1 ≤ r ∧ r ≤ 6) (hm : 0 ≤ m ∧ m ≤ 8) (hmD : m * D r ≤ 8) (hkn : 0 ≤ kn ∧ kn < 40) (hq : ∀ k, 1 ≤ k → k ≤ r → Ro P (q k)) (hdv : ∀ k, 1 ≤ k → k < r → D (k + 1) ∣ D r) (hXY : ∀ j, 0 ≤ j → j < (m + 1) * D r → Y j = lvE P q D (r - 1).toNat X j) : ∀ (n N i : Nat) (M : tp_M), n < N → i + n = 9 → M 483 0 = p → M 483 2 = P → CxR M r D e s kf q → M 497 kn = m → inP P (M 487) 0 24 → (∀ j, (i : Int) * D r ≤ j → j < 24 → M 487 j = X j) → ∃ N', tp_lp (qB29 kn (D r)) N ((i : Int), M) = f_X11_laysPoints_108 kn m N' ∧ (∀ k, (i : Int) ≤ k → k < 9 → N' 503 (9 * kn + k) = pts p K.toNat r m D e s Y k) ∧ ∀ c k, c ≠ 487 → c ≠ 526 → ¬ (c = 483 ∧ k = 56) → ¬ (c = 503 ∧ 9 * kn + i ≤ k ∧ k < 9 * kn + 9) → N' c k = M c k := by
  have hb1 := hb.1
  have hl := lft_b hb hr.1
  intro n
  induction n with
  | zero =>
    intro N i M hN hi hp hP hC hm1 hin hX
    refine ⟨M, ?_, fun k k0 k1 => by omega, fun c k _ _ _ _ => rfl⟩
    rw [lp_1 (by omega)]
    simp only [qB29, f_X11_laysPoints_29B, tp_lt]
    rw [if_pos (by omega), if_pos hkn, hm1]
  | succ n ih =>
    intro N i M hN hi hp hP hC hm1 hin hX
    have i8 : (0 : Int) ≤ i ∧ (i : Int) ≤ 8 := by omega
    have b1 : -2147483648 ≤ 9 * kn ∧ 9 * kn ≤ 2147483647 := by omega
    have b2 : -2147483648 ≤ 9 * kn + (i : Int) ∧ 9 * kn + (i : Int) ≤ 2147483647 := by omega
    have g0 : ¬ 9 ≤ (i : Int) := by omega
    have g1 : 0 ≤ 9 * kn + (i : Int) ∧ 9 * kn + (i : Int) < 360 := by omega
    have g4 : i < 1000000 := by omega
    have ei : ((i + 1 : Nat) : Int) = (i : Int) + 1 := by omega
    have ml := mulB (x := (i : Int)) (y := lft r e s) (a := 8) (b := 16000) i8 hl
    have b3 : -2147483648 ≤ (i : Int) * lft r e s ∧ (i : Int) * lft r e s ≤ 2147483647 := by omega
    have iD1 : ((i : Int) + 1) * D r = (i : Int) * D r + D r := by rw [Int.add_mul, Int.one_mul]
    have iD0 : 0 ≤ (i : Int) * D r := Int.mul_nonneg i8.1 (by omega)
    rw [lp_1 (by omega)]
    by_cases c : (i : Int) ≤ m
    · have iD : (i : Int) * D r ≤ m * D r := Int.mul_le_mul_of_nonneg_right c (by omega)
      have iD2 : ((i : Int) + 1) * D r ≤ (m + 1) * D r := Int.mul_le_mul_of_nonneg_right (by omega) (by omega)
      obtain ⟨N1, a1, a2, a3, a4, a5⟩ := s_head (M := M) (p := p) (K := K) (P := P) (r := r) (fr := (i : Int) * D r) (D := D) (e := e) (s := s) (kf := kf) (X := X) (q := q) h hp hP hb hr hC hq (by omega) (fun k k0 k1 => ⟨Int.dvd_mul_of_dvd_right (hdv k k0 k1), hdv k k0 k1⟩) hin (fun j j0 j1 => hX j j0 (by omega)) (Y := seg Y (D r) i) (fun j j0 j1 => hXY _ (by omega) (by omega)) (H := Hd p K.toNat r D e s Y i) rfl
      have hdb := Hd_b (Y := Y) h hb hr (i : Int)
      have hC1 : CxR N1 r D e s kf q := CxR_fr hC (fun c k hc => a5 _ _ (by omega) (by omega) (by omega))
      have sl := s_rlift hb hC1 hr
      have ep : pts p K.toNat r m D e s Y i = if 0 ≤ (Hd p K.toNat r D e s Y i).1 then (Hd p K.toNat r D e s Y i).1 + (i : Int) * lft r e s else -1 := by
        unfold pts
        by_cases c2 : 0 ≤ (Hd p K.toNat r D e s Y i).1
        · rw [if_pos c2, if_pos ⟨i8.1, c, c2⟩]
        · rw [if_neg c2, if_neg (fun h => c2 h.2.2)]
      generalize Hd p K.toNat r D e s Y i = H at a1 hdb ep
      have b4 : -2147483648 ≤ H.1 + (i : Int) * lft r e s ∧ H.1 + (i : Int) * lft r e s ≤ 2147483647 := by omega
      have b5 : -2147483648 ≤ (i : Int) * D r ∧ (i : Int) * D r ≤ 2147483647 := by omega
      have g5 : ¬ 9 ≤ (i : Int) * D r := by omega
      have g6 : ¬ m < (i : Int) := by omega
      generalize hM2 : tp_up N1 503 (9 * kn + i) (pts p K.toNat r m D e s Y i) = M2
      have f2 : ∀ c k, c ≠ 503 → M2 c k = N1 c k := fun c k hc => by rw [← hM2, up_ne (fun h => hc h.1)]
      obtain ⟨N', k1, k2, k3⟩ := ih (N - 1) (i + 1) M2 (by omega) (by omega) (by rw [f2 _ _ (by decide), a5 _ _ (by decide) (by decide) (fun h => absurd h.2 (by decide))]; exact hp) (by rw [f2 _ _ (by decide), a5 _ _ (by decide) (by decide) (fun h => absurd h.2 (by decide))]; exact hP) (CxR_fr hC1 (fun c k hc => f2 _ _ (by omega))) (by rw [f2 _ _ (by decide), a5 _ _ (by decide) (by decide) (fun h => absurd h.1 (by decide))]; exact hm1) (fun j j0 j1 => by rw [f2 _ _ (by decide)]; exact a3 j j0 j1) (fun j j0 j1 => by rw [f2 _ _ (by decide), a4 j (by rw [ei] at j0; omega)]; exact hX j (by rw [ei] at j0; omega) j1)
      refine ⟨N', ?_, fun k k0 k1 => ?_, fun c k q1 q2 q3 q4 => by rw [k3 c k q1 q2 q3 (by omega), ← hM2, up_ne (by omega), a5 c k q1 q2 q3]⟩
      · generalize tp_lp (qB29 kn (D r)) (N - 1) = Rc at k1 ⊢
        simp only [qB29, f_X11_laysPoints_29B, f_X11_laysPoints_64, f_X11_laysPoints_94, tp_mp, tp_lt, hm1]
        rw [if_neg g0, if_pos hkn, if_neg g6, ho_w b5.1 b5.2, if_neg g5, a1, Option.bind_some, ho_w b1.1 b1.2, ho_w b2.1 b2.2, w_succ g4]
        by_cases c2 : 0 ≤ H.1
        · rw [if_pos c2] at ep
          rw [if_pos c2, sl, Option.bind_some, ho_w b3.1 b3.2, ho_w b4.1 b4.2, if_pos g1, ← ep, hM2]
          exact k1
        · rw [if_neg c2] at ep
          rw [if_neg c2, if_pos g1, ← ep, hM2]
          exact k1
      · by_cases ck : k = i
        · rw [k3 _ _ (by decide) (by decide) (fun h => absurd h.1 (by decide)) (by omega), ck, ← hM2, up_eq ⟨rfl, rfl⟩]
        · exact k2 k (by omega) k1
    · have ep : pts p K.toNat r m D e s Y i = -1 := by unfold pts; rw [if_neg (fun h => c h.2.1)]
      have g6 : m < (i : Int) := by omega
      generalize hM2 : tp_up M 503 (9 * kn + i) (pts p K.toNat r m D e s Y i) = M2
      have f2 : ∀ c k, c ≠ 503 → M2 c k = M c k := fun c k hc => by rw [← hM2, up_ne (fun h => hc h.1)]
      obtain ⟨N', k1, k2, k3⟩ := ih (N - 1) (i + 1) M2 (by omega) (by omega) (by rw [f2 _ _ (by decide)]; exact hp) (by rw [f2 _ _ (by decide)]; exact hP) (CxR_fr hC (fun c k hc => f2 _ _ (by omega))) (by rw [f2 _ _ (by decide)]; exact hm1) (fun j j0 j1 => by rw [f2 _ _ (by decide)]; exact hin j j0 j1) (fun j j0 j1 => by rw [f2 _ _ (by decide)]; exact hX j (by rw [ei] at j0; omega) j1)
      refine ⟨N', ?_, fun k k0 k1 => ?_, fun c k q1 q2 q3 q4 => by rw [k3 c k q1 q2 q3 (by omega), ← hM2, up_ne (by omega)]⟩
      · generalize tp_lp (qB29 kn (D r)) (N - 1) = Rc at k1 ⊢
        simp only [qB29, f_X11_laysPoints_29B, f_X11_laysPoints_63, f_X11_laysPoints_64, f_X11_laysPoints_94, tp_mp, tp_lt, hm1]
        rw [if_neg g0, if_pos hkn, if_pos g6, if_neg (by decide), ho_w b1.1 b1.2, ho_w b2.1 b2.2, w_succ g4, if_pos g1, ← ep, hM2]
        exact k1
      · by_cases ck : k = i
        · rw [k3 _ _ (by decide) (by decide) (fun h => absurd h.1 (by decide)) (by omega), ck, ← hM2, up_eq ⟨rfl, rfl⟩]
        · exact k2 k (by omega) k1
set_option maxHeartbeats 4000000 in
set_option maxRecDepth 100000 in
theorem s_lp108 {M : tp_M} {kn m : Int} {w : Int → Int} (hkn : 0 ≤ kn ∧ kn < 40) (hm : 0 ≤ m ∧ m ≤ 8) (hw : ∀ k, 0 ≤ k → k < 9 → M 503 (9 * kn + k) = w k) (hz : M 501 kn = m) : f_X11_laysPoints_108 kn m M = some (tp_up M 501 kn (zrD w m (m + 1).toNat)) := by
  unfold f_X11_laysPoints_108
  have e0 : (m, M) = (m - ((0 : Nat) : Int), tp_up M 501 kn (zrD w m 0)) := by
    have : tp_up M 501 kn (zrD w m 0) = M := by
      funext x y
      by_cases c : x = 501 ∧ y = kn
      · rw [up_eq c, c.1, c.2, hz]; rfl
      · rw [up_ne c]
    rw [this, show m - ((0 : Nat) : Int) = m by omega]
  rw [e0]
  refine lp_seq (fun t => (m - (t : Int), tp_up M 501 kn (zrD w m t))) (m + 1).toNat (fun t ht rc => ?_) (fun rc => ?_) tp_N (by unfold tp_N; omega)
  · have b1 : -2147483648 ≤ 9 * kn ∧ 9 * kn ≤ 2147483647 := by omega
    have b2 : -2147483648 ≤ 9 * kn + (m - (t : Int)) ∧ 9 * kn + (m - (t : Int)) ≤ 2147483647 := by omega
    have b3 : -2147483648 ≤ m - (t : Int) + -1 ∧ m - (t : Int) + -1 ≤ 2147483647 := by omega
    have g0 : ¬ m - (t : Int) < 0 := by omega
    have g1 : 0 ≤ 9 * kn + (m - (t : Int)) ∧ 9 * kn + (m - (t : Int)) < 360 := by omega
    have e3 : m - (t : Int) + -1 = m - ((t + 1 : Nat) : Int) := by omega
    have rw1 : tp_up M 501 kn (zrD w m t) 503 (9 * kn + (m - (t : Int))) = w (m - t) := by rw [up_ne (fun h => absurd h.1 (by decide)), hw _ (by omega) (by omega)]
    have r5 : tp_up M 501 kn (zrD w m t) 501 kn = zrD w m t := up_eq ⟨rfl, rfl⟩
    have ez : zrD w m (t + 1) = if 0 ≤ w (m - t) then m - t else zrD w m t := rfl
    simp only [f_X11_laysPoints_108B, f_X11_laysPoints_141, tp_mp, tp_lt, up_up]
    rw [if_neg g0, ho_w b1.1 b1.2, ho_w b2.1 b2.2, if_pos g1, if_pos hkn, ho_w b3.1 b3.2, e3, ez]
    by_cases c : 0 ≤ w (m - t)
    · rw [if_neg (show ¬ tp_up M 501 kn (zrD w m t) 503 (9 * kn + (m - (t : Int))) < 0 by rw [rw1]; omega), if_pos hkn, if_pos c]
    · rw [if_pos (show tp_up M 501 kn (zrD w m t) 503 (9 * kn + (m - (t : Int))) < 0 by rw [rw1]; omega), if_pos hkn, if_neg c, r5]
  · simp only [f_X11_laysPoints_108B]
    rw [if_pos (by omega)]
set_option maxHeartbeats 4000000 in
set_option maxRecDepth 100000 in
theorem s_laysPoints {M : tp_M} {p K P r m kn : Int} {D e s kf : Int → Int} {q : Int → Int → Int} (h : pKP p K P) (hp : M 483 0 = p) (hP : M 483 2 = P) (hb : cxb r D e s) (hr : 1 ≤ r ∧ r ≤ 6) (hm : 0 ≤ m ∧ m ≤ 8) (hmD : m * D r ≤ 8) (hkn : 0 ≤ kn ∧ kn < 40) (hC : CxR M r D e s kf q) (hkr : kf r = kn) (hq : ∀ k, 1 ≤ k → k ≤ r → Ro P (q k)) (hdv : ∀ k, 1 ≤ k → k < r → D (k + 1) ∣ D r) (hm1 : M 497 kn = m) (hf : inP P (M 495) 0 9) : ∃ N, f_X11_laysPoints kn M = some N ∧ (∀ k, 0 ≤ k → k < 9 → N 503 (9 * kn + k) = pts p K.toNat r m D e s (rowN P q D r (M 495)) k) ∧ N 501 kn = zrD (pts p K.toNat r m D e s (rowN P q D r (M 495))) m (m + 1).toNat ∧ ∀ c k, c ≠ 487 → c ≠ 526 → ¬ (c = 483 ∧ k = 56) → ¬ (c = 503 ∧ 9 * kn ≤ k ∧ k < 9 * kn + 9) → ¬ (c = 501 ∧ k = kn) → N c k = M c k := by
  have h' := h
  obtain ⟨h1, h2, h3, h4, h5, h6⟩ := h
  have hb1 := hb.1
  have cr := hC.2.1 r (by omega) (Int.le_refl _)
  rw [hkr] at cr
  obtain ⟨N1, a1, a2, a3⟩ := s_laysRow (M := M) (P := P) (kn := kn) (r := r) (D := D) (qr := q r) hP ⟨h5, h6⟩ hkn hC.1 hr cr.1 hb1 cr.2.2.2 (hq r (by omega) (Int.le_refl _)) hf
  generalize hM2 : tp_up N1 501 kn m = M2
  have f2 : ∀ c k, c ≠ 487 → ¬ (c = 501 ∧ k = kn) → M2 c k = M c k := fun c k q1 q2 => by rw [← hM2, up_ne q2, a3 c k q1]
  have r487 : ∀ j, M2 487 j = N1 487 j := fun j => by rw [← hM2, up_ne (fun h => absurd h.1 (by decide))]
  have hC2 : CxR M2 r D e s kf q := CxR_fr hC (fun c k hc => f2 _ _ (by omega) (by omega))
  have i2 : inP P (M2 487) 0 24 := fun j j0 j1 => by
    rw [r487, a2 j j0 j1]
    refine oux_in h5 101 0 (a := 0) (b := 24) (fun k k0 k1 => ?_) j j0 j1
    by_cases c : k < 9
    · rw [rd_in ⟨k0, c⟩]; exact hf k k0 c
    · rw [rd_out (by omega)]; omega
  obtain ⟨N2, b1, b2, b3⟩ := s_lp29 (p := p) (K := K) (P := P) (r := r) (m := m) (kn := kn) (D := D) (e := e) (s := s) (kf := kf) (X := oux P (q r) (D r) 9 101 0 (rd (M 495))) (Y := rowN P q D r (M 495)) (q := q) h' hb hr hm hmD hkn hq hdv (fun j _ _ => rfl) 9 tp_N 0 M2 (by unfold tp_N; omega) (by omega) (by rw [f2 _ _ (by decide) (fun h => absurd h.1 (by decide))]; exact hp) (by rw [f2 _ _ (by decide) (fun h => absurd h.1 (by decide))]; exact hP) hC2 (by rw [f2 _ _ (by decide) (fun h => absurd h.1 (by decide))]; exact hm1) i2 (fun j j0 j1 => by rw [r487]; exact a2 j (by rw [show ((0 : Nat) : Int) * D r = 0 from Int.zero_mul _] at j0; exact j0) j1)
  have l108 := s_lp108 (M := N2) (kn := kn) (m := m) (w := pts p K.toNat r m D e s (rowN P q D r (M 495))) hkn hm (fun k k0 k1 => b2 k k0 k1) (by rw [b3 _ _ (by decide) (by decide) (fun h => absurd h.1 (by decide)) (fun h => absurd h.1 (by decide)), ← hM2, up_eq ⟨rfl, rfl⟩])
  refine ⟨_, ?_, fun k k0 k1 => by rw [up_ne (fun h => absurd h.1 (by decide))]; exact b2 k k0 k1, up_eq ⟨rfl, rfl⟩, fun c k q1 q2 q3 q4 q5 => by rw [up_ne q5, b3 c k q1 q2 q3 (by omega), f2 c k q1 q5]⟩
  have g8 : 0 ≤ r ∧ r < 8 := by omega
  have m1 : N1 497 kn = m := by rw [a3 _ _ (by decide)]; exact hm1
  unfold f_X11_laysPoints
  simp only [tp_lt, tp_mp]
  rw [hC.1, if_pos g8, cr.1, a1, Option.bind_some, if_pos hkn, if_pos hkn, m1, hM2]
  refine Eq.trans b1 ?_
  exact l108
