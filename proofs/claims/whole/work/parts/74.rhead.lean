def CxR (M : tp_M) (r : Int) (D e s kf : Int → Int) (q : Int → Int → Int) : Prop := M 483 49 = r ∧ (∀ k, 1 ≤ k → k ≤ r → M 522 k = D k ∧ M 524 k = kf k ∧ (0 ≤ kf k ∧ kf k < 40) ∧ keyAt M (kf k) = q k) ∧ ∀ k, 1 ≤ k → k < r → M 521 k = e k ∧ M 523 k = s k
theorem CxR_fr {M N : tp_M} {r : Int} {D e s kf : Int → Int} {q : Int → Int → Int} (h : CxR M r D e s kf q) (hf : ∀ c k, (c = 483 ∧ k = 49) ∨ (c = 488 ∧ k < 360) ∨ (521 ≤ c ∧ c ≤ 524) → N c k = M c k) : CxR N r D e s kf q := by
  refine ⟨by rw [hf _ _ (by omega)]; exact h.1, fun k k0 k1 => ?_, fun k k0 k1 => ?_⟩
  · obtain ⟨a1, a2, a3, a4⟩ := h.2.1 k k0 k1
    exact ⟨by rw [hf _ _ (by omega)]; exact a1, by rw [hf _ _ (by omega)]; exact a2, a3, by rw [← a4]; exact keyAt_cong (fun j j0 j1 => hf _ _ (by omega))⟩
  · obtain ⟨a1, a2⟩ := h.2.2 k k0 k1
    exact ⟨by rw [hf _ _ (by omega)]; exact a1, by rw [hf _ _ (by omega)]; exact a2⟩
set_option maxHeartbeats 4000000 in
set_option maxRecDepth 100000 in
theorem s_laysRow {M : tp_M} {P kn r : Int} {D : Int → Int} {qr : Int → Int} (hP : M 483 2 = P) (hP2 : 0 < P ∧ P ≤ 400000000) (hkn : 0 ≤ kn ∧ kn < 40) (hr : M 483 49 = r) (hr2 : 1 ≤ r ∧ r ≤ 6) (hD : M 522 r = D r) (hD2 : 1 ≤ D r ∧ D r ≤ 8) (hq : keyAt M kn = qr) (hq2 : Ro P qr) (hf : inP P (M 495) 0 9) : ∃ N, f_X11_laysRow kn M = some N ∧ (∀ j, 0 ≤ j → j < 24 → N 487 j = oux P qr (D r) 9 101 0 (rd (M 495)) j) ∧ ∀ c k, c ≠ 487 → N c k = M c k := by
  have hq' : rd (fun k => M 488 (9 * kn + k)) = qr := hq
  have iq : inP P (fun k => M 488 (9 * kn + k)) 0 9 := rd_inP (by rw [hq']; exact hq2)
  generalize hW : tp_wr M 487 0 24 (rd (M 495)) = W
  have fW : ∀ c k, c ≠ 487 → W c k = M c k := fun c k hc => by rw [← hW, wr_out (fun h => hc h.1)]
  have rW : ∀ j, 0 ≤ j → j < 24 → W 487 j = rd (M 495) j := fun j j0 j1 => by rw [← hW, wr_in (by omega), show j - 0 = j by omega]
  have iW : inP P (W 487) 0 24 := fun j j0 j1 => by
    rw [rW j j0 j1]
    by_cases c : j < 9
    · rw [rd_in ⟨j0, c⟩]; exact hf j j0 c
    · rw [rd_out (by omega)]; omega
  have ek : ∀ k, W 488 (9 * kn + k) = M 488 (9 * kn + k) := fun k => fW _ _ (by decide)
  have sp := s_splits (M := W) (P := P) (a := 0) (n := 9) (ky := 9 * kn) (d := D r) (by rw [fW _ _ (by decide)]; exact hP) hP2 (by omega) (by omega) (by omega) (fun k k0 k1 => iW k k0 (by omega)) (fun k k0 k1 => by simp only; rw [ek]; exact iq k k0 (by omega))
  refine ⟨tp_row W 487 (oux P (fun k => W 488 (9 * kn + k)) (D r) (0 + 9) 101 0 (W 487)), ?_, fun j j0 j1 => ?_, fun c k hc => by rw [row_ne hc, fW c k hc]⟩
  · have b1 : -2147483648 ≤ 9 * kn ∧ 9 * kn ≤ 2147483647 := by omega
    have g8 : 0 ≤ r ∧ r < 8 := by omega
    have r1 : W 483 49 = r := by rw [fW _ _ (by decide)]; exact hr
    have r2 : W 522 r = D r := by rw [fW _ _ (by decide)]; exact hD
    unfold f_X11_laysRow f_X11_laysRow_2
    have e0 : ((0 : Int), M) = (((0 : Nat) : Int), tp_wr M 487 0 ((0 : Nat) : Int) (rd (M 495))) := by rw [show ((0 : Nat) : Int) = 0 from rfl, wr_zero]
    rw [e0]
    refine lp_seq (fun j => ((j : Int), tp_wr M 487 0 j (rd (M 495)))) 24 (fun j hj rc => ?_) (fun rc => ?_) tp_N (by unfold tp_N; omega)
    · have u := wr_succ0 M 487 j (rd (M 495))
      have g4 : j < 1000000 := by omega
      have g0 : ¬ 24 ≤ (j : Int) := by omega
      have g1 : 0 ≤ (j : Int) ∧ (j : Int) < 24 := by omega
      simp only [f_X11_laysRow_2B, f_X11_laysRow_29, tp_mp, tp_lt]
      rw [if_neg g0, w_succ g4]
      by_cases c : 9 ≤ (j : Int)
      · rw [if_pos c, if_pos g1]
        rw [rd_out (by omega)] at u
        rw [u]
      · rw [if_neg c, if_pos (by omega), if_pos g1, wr_out (fun h => absurd h.1 (by decide))]
        rw [rd_in (by omega)] at u
        rw [u]
    · have e24 : tp_wr M 487 0 ((24 : Nat) : Int) (rd (M 495)) = W := hW
      simp only [f_X11_laysRow_2B, e24]
      rw [if_pos (by decide), r1, if_pos g8, r2, ho_w b1.1 b1.2, sp, Option.bind_some]
  · rw [row_eq, show (0 : Int) + 9 = 9 by omega]
    by_cases c : j < 9
    · exact oux_cong (a := 0) (by omega) (fun k k0 k1 => by rw [ek, ← hq', rd_in (by omega)]) 101 0 (Int.le_refl _) (fun k k0 k1 => rW k k0 (by omega)) j j0 c
    · rw [oux_out (by omega) 101 0 (by omega), oux_out (by omega) 101 0 (by omega)]; exact rW j j0 j1
set_option maxHeartbeats 4000000 in
set_option maxRecDepth 100000 in
theorem s_hd25 {M : tp_M} {P fr e k d sz kf : Int} {g : Int → Int} {rec_17 : Int → tp_M → Option (Int × tp_M)} (hP : M 483 2 = P) (hP2 : 0 < P ∧ P ≤ 400000000) (hk : 1 ≤ k ∧ k ≤ 5) (hd : M 522 k = d) (hd2 : 1 ≤ d ∧ d ≤ 8) (hs : M 522 (k + 1) = sz) (hsz : 1 ≤ sz ∧ sz ≤ 8) (hkf : M 524 k = kf) (hkf2 : 0 ≤ kf ∧ kf < 40) (hg : keyAt M kf = g) (hg2 : Ro P g) (hfr : 0 ≤ fr ∧ 1 ≤ e ∧ fr + e ≤ 24) (h1 : sz ∣ fr) (h2 : sz ∣ e) (hX : inP P (M 487) 0 24) : f_X11_head_25 rec_17 fr e k 0 M = rec_17 (k - 1) (tp_row M 487 (fun j => if fr ≤ j ∧ j < fr + e then blk P g d sz (M 487) j else M 487 j)) := by
  have hg' : rd (fun k => M 488 (9 * kf + k)) = g := hg
  obtain ⟨u, hu⟩ := h1
  obtain ⟨t0, ht0⟩ := h2
  have t00 : 0 ≤ t0 := by
    by_cases c : 0 ≤ t0
    · exact c
    · have := Int.mul_nonneg (show 0 ≤ sz by omega) (show 0 ≤ -t0 by omega)
      rw [Int.mul_neg] at this
      omega
  obtain ⟨T, rfl⟩ : ∃ T : Nat, t0 = T := ⟨t0.toNat, by omega⟩
  have T24 : (T : Int) ≤ 24 := by
    have := Int.mul_le_mul_of_nonneg_right (show (1 : Int) ≤ sz by omega) (show 0 ≤ (T : Int) by omega)
    omega
  unfold f_X11_head_25
  have e0 : ((0 : Int), M) = (sz * ((0 : Nat) : Int), tp_row M 487 (fun j => if fr ≤ j ∧ j < fr + sz * ((0 : Nat) : Int) then blk P g d sz (M 487) j else M 487 j)) := by
    have : (fun j : Int => if fr ≤ j ∧ j < fr + sz * ((0 : Nat) : Int) then blk P g d sz (M 487) j else M 487 j) = M 487 := by
      funext j; rw [if_neg (by rw [show sz * ((0 : Nat) : Int) = 0 from Int.mul_zero sz]; omega)]
    rw [this, row_id, show sz * ((0 : Nat) : Int) = 0 from Int.mul_zero sz]
  rw [e0]
  refine lp_seq (fun t => (sz * (t : Int), tp_row M 487 (fun j => if fr ≤ j ∧ j < fr + sz * (t : Int) then blk P g d sz (M 487) j else M 487 j))) T (fun t ht rc => ?_) (fun rc => ?_) tp_N (by unfold tp_N; omega)
  · have l0 : 0 ≤ sz * (t : Int) := Int.mul_nonneg (by omega) (by omega)
    have l1 : sz * ((t : Int) + 1) ≤ sz * (T : Int) := Int.mul_le_mul_of_nonneg_left (by omega) (by omega)
    rw [Int.mul_add, Int.mul_one] at l1
    have b1 : -2147483648 ≤ sz * (t : Int) + sz ∧ sz * (t : Int) + sz ≤ 2147483647 := by omega
    have b2 : -2147483648 ≤ fr + sz * (t : Int) ∧ fr + sz * (t : Int) ≤ 2147483647 := by omega
    have b3 : -2147483648 ≤ 9 * kf ∧ 9 * kf ≤ 2147483647 := by omega
    have b4 : -2147483648 ≤ k + 1 ∧ k + 1 ≤ 2147483647 := by omega
    have g0 : ¬ e ≤ sz * (t : Int) := by omega
    have g1 : 0 ≤ k ∧ k < 8 := by omega
    have g2 : 0 ≤ k + 1 ∧ k + 1 < 8 := by omega
    have g3 : 0 ≤ fr + sz * (t : Int) ∧ 0 ≤ sz ∧ fr + sz * (t : Int) + sz ≤ 24 := by omega
    have g5 : 0 ≤ 9 * kf ∧ 9 * kf + d ≤ 369 := by omega
    have g6 : 1 ≤ d ∧ d ≤ 24 := by omega
    have es : sz * ((t + 1 : Nat) : Int) = sz * (t : Int) + sz := by rw [show ((t + 1 : Nat) : Int) = (t : Int) + 1 by omega, Int.mul_add, Int.mul_one]
    have es2 : fr + sz * (t : Int) = sz * (u + t) := by rw [Int.mul_add, ← hu]
    have jd : ∀ j, fr + sz * (t : Int) ≤ j → j < fr + sz * (t : Int) + sz → j / sz = u + t := fun j j0 j1 => by
      rw [es2] at j0 j1
      have a := Int.ediv_lt_of_lt_mul (a := j) (b := u + t + 1) (c := sz) (by omega) (by rw [Int.mul_comm, Int.mul_add, Int.mul_one]; exact j1)
      have b := Int.le_ediv_of_mul_le (a := u + t) (b := j) (c := sz) (by omega) (by rw [Int.mul_comm]; exact j0)
      omega
    generalize hX0 : M 487 = X at *
    generalize hY0 : (fun j : Int => if fr ≤ j ∧ j < fr + sz * (t : Int) then blk P g d sz X j else X j) = Y
    have Yj : ∀ j, Y j = if fr ≤ j ∧ j < fr + sz * (t : Int) then blk P g d sz X j else X j := fun j => by rw [← hY0]
    have Yin : inP P Y 0 24 := fun j j0 j1 => by
      rw [Yj]
      by_cases c : fr ≤ j ∧ j < fr + sz * (t : Int)
      · rw [if_pos c]; exact blk_in hP2.1 hX j j0 j1
      · rw [if_neg c]; exact hX j j0 j1
    have r48 : ∀ j, tp_row M 487 Y 488 j = M 488 j := fun j => row_ne (by decide)
    have r487 : tp_row M 487 Y 487 = Y := by funext j; exact row_eq
    have gk : ∀ j, 0 ≤ j → j < d → tp_row M 487 Y 488 (9 * kf + j) = g j := fun j j0 j1 => by
      rw [r48, ← hg', rd_in (by omega)]
    have sp := s_splits (M := tp_row M 487 Y) (P := P) (a := fr + sz * (t : Int)) (n := sz) (ky := 9 * kf) (d := d) (by rw [row_ne (by decide)]; exact hP) hP2 g6 g5 g3 (by rw [r487]; exact fun j j0 j1 => Yin j j0 (by omega)) (fun j j0 j1 => by simp only; rw [gk j j0 j1]; exact hg2.1 j j0 (by omega))
    have fin : oux P (fun j => tp_row M 487 Y 488 (9 * kf + j)) d (fr + sz * (t : Int) + sz) 101 (fr + sz * (t : Int)) Y = fun j => if fr ≤ j ∧ j < fr + (sz * (t : Int) + sz) then blk P g d sz X j else X j := by
      funext j
      by_cases c : fr + sz * (t : Int) ≤ j ∧ j < fr + sz * (t : Int) + sz
      · rw [if_pos (by omega)]
        unfold blk
        rw [jd j c.1 c.2, ← es2]
        exact oux_cong (a := fr + sz * (t : Int)) (by omega) gk 101 _ (Int.le_refl _) (fun i i0 i1 => by rw [Yj, if_neg (by omega)]) j c.1 c.2
      · rw [oux_out (by omega) 101 _ c, Yj]
        by_cases c2 : fr ≤ j ∧ j < fr + sz * (t : Int)
        · rw [if_pos c2, if_pos (by omega)]
        · rw [if_neg c2, if_neg (by omega)]
    rw [r487, fin] at sp
    have rr : tp_row (tp_row M 487 Y) 487 (fun j => if fr ≤ j ∧ j < fr + (sz * (t : Int) + sz) then blk P g d sz X j else X j) = tp_row M 487 (fun j => if fr ≤ j ∧ j < fr + (sz * (t : Int) + sz) then blk P g d sz X j else X j) := by
      funext a b
      unfold tp_row
      by_cases c : a = 487
      · rw [if_pos c, if_pos c]
      · rw [if_neg c, if_neg c, if_neg c]
    rw [rr] at sp
    have q1 : tp_row M 487 Y 522 (k + 1) = sz := by rw [row_ne (by decide)]; exact hs
    have q2 : tp_row M 487 Y 522 k = d := by rw [row_ne (by decide)]; exact hd
    have q3 : tp_row M 487 Y 524 k = kf := by rw [row_ne (by decide)]; exact hkf
    have q4 : ∀ Z, tp_row M 487 Z 522 (k + 1) = sz := fun Z => by rw [row_ne (by decide)]; exact hs
    simp only [f_X11_head_25B, tp_lt]
    rw [if_neg g0, ho_w b4.1 b4.2, if_pos g2, if_pos g1, if_pos g1, q1, q2, q3, ho_w b2.1 b2.2, ho_w b3.1 b3.2, sp, Option.bind_some, if_pos g2, q4, ho_w b1.1 b1.2, es]
  · have g0 : e ≤ sz * (T : Int) := by omega
    simp only [f_X11_head_25B, tp_lt]
    rw [if_pos g0, ho_w (x := k + -1) (by omega) (by omega), ← ht0]
    rfl
def rB17' (x1 x2 : Int) : (Int × tp_M → Option (Int × tp_M)) → Int × tp_M → Option (Int × tp_M) := fun rec_ u => f_X11_head_17B x1 x2 (fun x3' M0' => rec_ (x3', M0')) u.1 u.2
set_option maxHeartbeats 4000000 in
set_option maxRecDepth 100000 in
theorem s_hd17 {P r fr : Int} {D e s kf : Int → Int} {q : Int → Int → Int} (hP2 : 0 < P ∧ P ≤ 400000000) (hr : 1 ≤ r ∧ r ≤ 6) (hb : cxb r D e s) (hq : ∀ k, 1 ≤ k → k ≤ r → Ro P (q k)) (hfr : 0 ≤ fr ∧ fr + D r ≤ 24) (hdv : ∀ k, 1 ≤ k → k < r → D (k + 1) ∣ fr ∧ D (k + 1) ∣ D r) : ∀ (n N : Nat) (M : tp_M) (X : Int → Int), n < N → (n : Int) < r → M 483 2 = P → CxR M r D e s kf q → inP P (M 487) 0 24 → (∀ j, fr ≤ j → j < fr + D r → M 487 j = X j) → ∃ K, tp_lp (rB17' fr (D r)) N ((n : Int), M) = f_X11_head_92 fr (D r) (-1) (-1) 0 K ∧ (∀ j, fr ≤ j → j < fr + D r → K 487 j = lvE P q D n X j) ∧ inP P (K 487) 0 24 ∧ (∀ j, ¬ (fr ≤ j ∧ j < fr + D r) → K 487 j = M 487 j) ∧ ∀ c k, c ≠ 487 → K c k = M c k := by
  intro n
  induction n with
  | zero =>
    intro N M X hN hn hP hC hi hX
    refine ⟨M, ?_, hX, hi, fun j _ => rfl, fun c k _ => rfl⟩
    rw [lp_1 (by omega)]
    simp only [rB17', f_X11_head_17B]
    rw [if_pos (by omega)]
  | succ n ih =>
    intro N M X hN hn hP hC hi hX
    have n0 : 1 ≤ (n : Int) + 1 := by omega
    have n1 : (n : Int) + 1 < r := by omega
    have c1 := hC.2.1 _ n0 (Int.le_of_lt n1)
    have c2 := hC.2.1 ((n : Int) + 1 + 1) (by omega) (by omega)
    have b1 := hb.2 _ n0 n1
    have b2 := cxb_D hb n0 n1
    have dv := hdv _ n0 n1
    have h25 := s_hd25 (M := M) (P := P) (fr := fr) (e := D r) (k := (n : Int) + 1) (d := D ((n : Int) + 1)) (sz := D ((n : Int) + 1 + 1)) (kf := kf ((n : Int) + 1)) (g := q ((n : Int) + 1)) (rec_17 := fun x3' M0' => tp_lp (rB17' fr (D r)) (N - 1) (x3', M0')) hP hP2 (by omega) c1.1 b1.1 c2.1 b2 c1.2.1 c1.2.2.1 c1.2.2.2 (hq _ n0 (Int.le_of_lt n1)) ⟨hfr.1, hb.1.1, hfr.2⟩ dv.1 dv.2 hi
    generalize hZ : (fun j : Int => if fr ≤ j ∧ j < fr + D r then blk P (q ((n : Int) + 1)) (D ((n : Int) + 1)) (D ((n : Int) + 1 + 1)) (M 487) j else M 487 j) = Z at h25
    have Zj : ∀ j, Z j = if fr ≤ j ∧ j < fr + D r then blk P (q ((n : Int) + 1)) (D ((n : Int) + 1)) (D ((n : Int) + 1 + 1)) (M 487) j else M 487 j := fun j => by rw [← hZ]
    have Zin : inP P Z 0 24 := fun j j0 j1 => by
      rw [Zj]
      by_cases c : fr ≤ j ∧ j < fr + D r
      · rw [if_pos c]; exact blk_in hP2.1 hi j j0 j1
      · rw [if_neg c]; exact hi j j0 j1
    have r487 : tp_row M 487 Z 487 = Z := by funext j; exact row_eq
    have dvs : D ((n : Int) + 1 + 1) ∣ fr + D r := Int.dvd_add dv.1 dv.2
    have hX2 : ∀ j, fr ≤ j → j < fr + D r → Z j = blk P (q ((n : Int) + 1)) (D ((n : Int) + 1)) (D ((n : Int) + 2)) X j := fun j j0 j1 => by
      rw [Zj, if_pos ⟨j0, j1⟩, show (n : Int) + 2 = (n : Int) + 1 + 1 by omega]
      exact blk_cong b2.1 (by omega) dv.1 dvs (fun _ _ _ => rfl) hX j j0 j1
    obtain ⟨K, k1, k2, k3, k4, k5⟩ := ih (N - 1) (tp_row M 487 Z) (blk P (q ((n : Int) + 1)) (D ((n : Int) + 1)) (D ((n : Int) + 2)) X) (by omega) (by omega) (by rw [row_ne (by decide)]; exact hP) (CxR_fr hC (fun c k hc => row_ne (by omega))) (by rw [r487]; exact Zin) (by rw [r487]; exact hX2)
    refine ⟨K, ?_, k2, k3, fun j hj => by rw [k4 j hj, r487, Zj, if_neg hj], fun c k hc => by rw [k5 c k hc, row_ne hc]⟩
    rw [lp_1 (by omega)]
    generalize tp_lp (rB17' fr (D r)) (N - 1) = Rc at k1 h25 ⊢
    have g0 : ¬ ((n + 1 : Nat) : Int) < 1 := by omega
    have en : ((n + 1 : Nat) : Int) = (n : Int) + 1 := by omega
    simp only [rB17', f_X11_head_17B]
    rw [if_neg g0, en, h25, show (n : Int) + 1 - 1 = n by omega]
    exact k1
theorem s_hd132e {M : tp_M} {fr Dr b ba v r : Int} {j : Nat} {rec_92 : Int → Int → Int → Option (Int × tp_M)} {rc : Int → Int → Option (Int × tp_M)} (hr : M 483 49 = r) (hj : j ≤ 100) : f_X11_head_132B rec_92 fr Dr b ba j M rc v r = if b < 0 ∨ v < b then rec_92 v j ((j + 1 : Nat) : Int) else rec_92 b ba ((j + 1 : Nat) : Int) := by
  have g7 : j < 1000000 := by omega
  unfold f_X11_head_132B f_X11_head_200 f_X11_head_207 f_X11_head_219 f_X11_head_225 f_X11_head_226
  dsimp only [tp_lt]
  rw [hr, if_pos (Int.le_refl r), w_succ g7]
  by_cases c1 : b < 0
  · rw [if_pos c1, if_pos c1, if_pos (Or.inl c1)]
  · rw [if_neg c1]
    by_cases c2 : v < b
    · rw [if_neg (by omega), if_neg c1, if_neg (by omega), if_pos (Or.inr c2)]
    · rw [if_pos (by omega), if_neg c1, if_pos (by omega), if_neg (fun h => h.elim c1 c2)]
set_option maxHeartbeats 4000000 in
set_option maxRecDepth 100000 in
theorem s_hd132 {M : tp_M} {r fr b ba v : Int} {j : Nat} {D e s kf : Int → Int} {q : Int → Int → Int} {rec_92 : Int → Int → Int → Option (Int × tp_M)} (hb : cxb r D e s) (hr : 1 ≤ r ∧ r ≤ 6) (hC : CxR M r D e s kf q) (hj : j ≤ 100) (hv : 0 ≤ v ∧ v ≤ 1000) : f_X11_head_132 rec_92 fr (D r) b ba j v 1 M = if b < 0 ∨ v + vpl D e s (D r) j (r - 1).toNat < b then rec_92 (v + vpl D e s (D r) j (r - 1).toNat) j ((j + 1 : Nat) : Int) else rec_92 b ba ((j + 1 : Nat) : Int) := by
  unfold f_X11_head_132
  have e0 : (v, (1 : Int)) = (v + vpl D e s (D r) j 0, ((0 : Nat) : Int) + 1) := by show _ = (v + (0 : Int), _); rw [Int.add_zero, show ((0 : Nat) : Int) + 1 = 1 by omega]
  rw [e0]
  refine lp_seq (fun n => (v + vpl D e s (D r) j n, (n : Int) + 1)) (r - 1).toNat (fun n hn rc => ?_) (fun rc => ?_) tp_N (by unfold tp_N; omega)
  · have n0 : 1 ≤ (n : Int) + 1 := by omega
    have n1 : (n : Int) + 1 < r := by omega
    have hk := hb.2 _ n0 n1
    have d1 := cxb_D hb n0 n1
    have vt := vpl_t hb (j := (j : Int)) n0 n1
    have vb := vpl_b hb (j : Int) n (by omega)
    have c1 := hC.2.1 _ n0 (Int.le_of_lt n1)
    have c2 := hC.2.1 ((n : Int) + 1 + 1) (by omega) (by omega)
    have c3 := hC.2.2 _ n0 n1
    have q0 : 0 ≤ (j : Int) / D ((n : Int) + 1) := Int.ediv_nonneg (by omega) (by omega)
    have q1 : (j : Int) / D ((n : Int) + 1) ≤ j := Int.ediv_le_self _ (by omega)
    have e2 : (n : Int) + 1 + 1 = (n : Int) + 2 := by omega
    have t1 := Int.tdiv_eq_ediv_of_nonneg (a := D r) (b := D ((n : Int) + 1 + 1)) (by have := hb.1; omega)
    have t2 := Int.tdiv_eq_ediv_of_nonneg (a := (j : Int)) (b := D ((n : Int) + 1)) (by omega)
    have t3 := Int.tmod_eq_emod_of_nonneg (a := (j : Int) / D ((n : Int) + 1)) (b := e ((n : Int) + 1)) q0
    have g0 : ¬ r ≤ (n : Int) + 1 := by omega
    have g3 : 0 ≤ (n : Int) + 1 ∧ (n : Int) + 1 < 8 := by omega
    have g3' : 0 ≤ (n : Int) + 1 + 1 ∧ (n : Int) + 1 + 1 < 8 := by omega
    have g4 : ¬ D ((n : Int) + 1) = 0 := by omega
    have g5 : ¬ e ((n : Int) + 1) = 0 := by omega
    have g6 : ¬ D ((n : Int) + 1 + 1) = 0 := by omega
    have bq : -2147483648 ≤ (j : Int) / D ((n : Int) + 1) ∧ (j : Int) / D ((n : Int) + 1) ≤ 2147483647 := by omega
    have b1 : -2147483648 ≤ D r / D ((n : Int) + 1 + 1) ∧ D r / D ((n : Int) + 1 + 1) ≤ 2147483647 := by omega
    have b2 : -2147483648 ≤ xpt D e j ((n : Int) + 1) * s ((n : Int) + 1) ∧ xpt D e j ((n : Int) + 1) * s ((n : Int) + 1) ≤ 2147483647 := by omega
    have b3 : -2147483648 ≤ xpt D e j ((n : Int) + 1) * s ((n : Int) + 1) * (D r / D ((n : Int) + 1 + 1)) ∧ xpt D e j ((n : Int) + 1) * s ((n : Int) + 1) * (D r / D ((n : Int) + 1 + 1)) ≤ 2147483647 := by omega
    have n6 : n ≤ 6 := by omega
    have b4 : -2147483648 ≤ v + vpl D e s (D r) j n + xpt D e j ((n : Int) + 1) * s ((n : Int) + 1) * (D r / D ((n : Int) + 1 + 1)) ∧ v + vpl D e s (D r) j n + xpt D e j ((n : Int) + 1) * s ((n : Int) + 1) * (D r / D ((n : Int) + 1 + 1)) ≤ 2147483647 := by omega
    have b5 : -2147483648 ≤ (n : Int) + 1 + 1 ∧ (n : Int) + 1 + 1 ≤ 2147483647 := by omega
    have ex : (j : Int) / D ((n : Int) + 1) % e ((n : Int) + 1) = xpt D e j ((n : Int) + 1) := rfl
    simp only [f_X11_head_132B, tp_lt]
    rw [if_neg (show ¬ M 483 49 ≤ (n : Int) + 1 by rw [hC.1]; exact g0), if_pos g3, if_neg (show ¬ M 522 ((n : Int) + 1) = 0 by rw [c1.1]; exact g4), if_pos g3, if_neg (show ¬ M 521 ((n : Int) + 1) = 0 by rw [c3.1]; exact g5), if_pos g3, ho_w b5.1 b5.2, if_pos g3', if_neg (show ¬ M 522 ((n : Int) + 1 + 1) = 0 by rw [c2.1]; exact g6), c1.1, c3.1, c3.2, c2.1, t1, t2, ho_w bq.1 bq.2, t3, ex, ho_w b2.1 b2.2, ho_w b1.1 b1.2, ho_w b3.1 b3.2, ho_w b4.1 b4.2]
    have ev : vpl D e s (D r) j (n + 1) = vpl D e s (D r) j n + xpt D e j ((n : Int) + 1) * s ((n : Int) + 1) * (D r / D ((n : Int) + 2)) := rfl
    rw [ev, e2, show ((n + 1 : Nat) : Int) + 1 = (n : Int) + 2 by omega, Int.add_assoc]
  · have er : (((r - 1).toNat : Nat) : Int) + 1 = r := by omega
    simp only [er]
    exact s_hd132e hC.1 hj
def hB92 (x1 x2 : Int) (M : tp_M) : (Int × Int × Int → Option (Int × tp_M)) → Int × Int × Int → Option (Int × tp_M) := fun rec_ u => f_X11_head_92B x1 x2 M (fun x3' x4' x5' => rec_ (x3', x4', x5')) u.1 u.2.1 u.2.2
set_option maxHeartbeats 4000000 in
set_option maxRecDepth 100000 in
theorem s_hd92 {M : tp_M} {p K P r fr : Int} {D e s kf Y : Int → Int} {q : Int → Int → Int} (h : pKP p K P) (hp : M 483 0 = p) (hb : cxb r D e s) (hr : 1 ≤ r ∧ r ≤ 6) (hC : CxR M r D e s kf q) (hfr : 0 ≤ fr ∧ fr + D r ≤ 24) (hY : inP P Y 0 (D r)) (hM : ∀ j, 0 ≤ j → j < D r → M 487 (fr + j) = Y j) : ∀ (m N n : Nat), m < N → ((n + m : Nat) : Int) = D r → tp_lp (hB92 fr (D r) M) N ((hdS (kval p K.toNat (D r) (fun j => vpl D e s (D r) j (r - 1).toNat) Y) Y n).1, (hdS (kval p K.toNat (D r) (fun j => vpl D e s (D r) j (r - 1).toNat) Y) Y n).2, (n : Int)) = (f_X11_laysHead fr (hdS (kval p K.toNat (D r) (fun j => vpl D e s (D r) j (r - 1).toNat) Y) Y (n + m)).2 M).bind fun r5 => some ((hdS (kval p K.toNat (D r) (fun j => vpl D e s (D r) j (r - 1).toNat) Y) Y (n + m)).1, r5) := by
  have h' := h
  obtain ⟨h1, h2, h3, h4, h5, h6⟩ := h
  have hp2 := pm_2 h1
  have hb1 := hb.1
  generalize hval : kval p K.toNat (D r) (fun j => vpl D e s (D r) j (r - 1).toNat) Y = val
  have vj : ∀ j : Int, val j = pvn p K.toNat (Y j) * D r + vpl D e s (D r) j (r - 1).toNat := fun j => by rw [← hval]; rfl
  intro m
  induction m with
  | zero =>
    intro N n hN hn
    rw [lp_1 (by omega)]
    simp only [hB92, f_X11_head_92B]
    rw [if_pos (by omega)]
    rfl
  | succ m ih =>
    intro N n hN hn
    have key := ih (N - 1) (n + 1) (by omega) (by omega)
    rw [show n + 1 + m = n + (m + 1) by omega] at key
    rw [← key, lp_1 (by omega)]
    generalize tp_lp (hB92 fr (D r) M) (N - 1) = Rc
    have n1 : (n : Int) < D r := by omega
    have g0 : ¬ D r ≤ (n : Int) := by omega
    have g1 : 0 ≤ fr + (n : Int) ∧ fr + (n : Int) < 24 := by omega
    have b1 : -2147483648 ≤ fr + (n : Int) ∧ fr + (n : Int) ≤ 2147483647 := by omega
    have g7 : n < 1000000 := by omega
    have e0 : hdS val Y (n + 1) = if Y n ≠ 0 ∧ ((hdS val Y n).1 < 0 ∨ val n < (hdS val Y n).1) then (val n, (n : Int)) else hdS val Y n := rfl
    have yn := hY n (by omega) n1
    have mn := hM n (by omega) n1
    simp only [hB92, f_X11_head_92B, tp_lt]
    rw [if_neg g0, ho_w b1.1 b1.2, if_pos g1]
    by_cases c0 : Y n = 0
    · rw [if_pos (mn.trans c0), e0, if_neg (fun h => h.1 c0)]
      unfold f_X11_head_226
      dsimp only [tp_lt]
      rw [w_succ g7]
    · have pb := pvn_b p K.toNat (Y n)
      have sp := s_powerIn (M := M) (p := p) (v := Y n) (n := K.toNat) hp hp2 (by omega) (by omega) (by rw [← h4]; exact yn.2)
      have mb := mulB (x := D r) (y := pvn p K.toNat (Y n)) (a := 8) (b := 28) (by omega) (by omega)
      have b2 : -2147483648 ≤ D r * pvn p K.toNat (Y n) ∧ D r * pvn p K.toNat (Y n) ≤ 2147483647 := by omega
      have h132 := s_hd132 (M := M) (r := r) (fr := fr) (b := (hdS val Y n).1) (ba := (hdS val Y n).2) (v := D r * pvn p K.toNat (Y n)) (j := n) (D := D) (e := e) (s := s) (kf := kf) (q := q) (rec_92 := fun x3' x4' x5' => Rc (x3', x4', x5')) hb hr hC (by omega) (by omega)
      rw [if_neg (fun h => c0 (mn.symm.trans h)), if_pos g1, mn, sp, Option.bind_some, ho_w b2.1 b2.2, h132, e0]
      have ev : D r * pvn p K.toNat (Y n) + vpl D e s (D r) n (r - 1).toNat = val n := by rw [vj, Int.mul_comm]
      rw [ev]
      by_cases c1 : (hdS val Y n).1 < 0 ∨ val n < (hdS val Y n).1
      · rw [if_pos c1, if_pos ⟨c0, c1⟩]
      · rw [if_neg c1, if_neg (fun h => c1 h.2)]
theorem ediv_pow {v p : Int} (hp : 0 ≤ p) (n : Nat) (hv : 0 ≤ v) : v / p ^ n / p = v / p ^ (n + 1) := by
  rw [Int.pow_succ]
  have : 0 ≤ p ^ n := by
    induction n with
    | zero => rw [Int.pow_zero]; omega
    | succ n ih => rw [Int.pow_succ]; exact Int.mul_nonneg ih hp
  rw [Int.ediv_ediv_of_nonneg this]
set_option maxHeartbeats 4000000 in
set_option maxRecDepth 100000 in
theorem s_lh93 {M : tp_M} {p v : Int} {n : Nat} (hp : M 483 0 = p) (hp2 : 2 ≤ p ∧ p ≤ 7) (hv : 0 ≤ v ∧ v ≤ 400000000) (hn : M 526 0 = n) (hn2 : n ≤ 28) : f_X11_laysHead_93 v 0 M = some (tp_up M 483 56 (v / p ^ n % p)) := by
  unfold f_X11_laysHead_93
  have e0 : (v, (0 : Int)) = (v / p ^ 0, ((0 : Nat) : Int)) := by rw [Int.pow_zero, Int.ediv_one]; rfl
  rw [e0]
  refine lp_seq (fun j => (v / p ^ j, (j : Int))) n (fun j hj rc => ?_) (fun rc => ?_) tp_N (by unfold tp_N; omega)
  · have pm := pow_mono (p := p) (by omega) (a := j) (b := j) (Nat.le_refl _)
    have q0 : 0 ≤ v / p ^ j := Int.ediv_nonneg hv.1 (by omega)
    have q1 : v / p ^ j ≤ v := Int.ediv_le_self _ hv.1
    have d1 := div_b hp2.1 q0 (by omega)
    have t1 := Int.tdiv_eq_ediv_of_nonneg (a := v / p ^ j) (b := p) q0
    have g0 : ¬ (n : Int) ≤ j := by omega
    have g1 : ¬ p = 0 := by omega
    have g4 : j < 1000000 := by omega
    have b1 : -9223372036854775808 ≤ v / p ^ j / p ∧ v / p ^ j / p ≤ 9223372036854775807 := by omega
    simp only [f_X11_laysHead_93B, tp_lt, hp, hn]
    rw [if_pos (by decide), if_neg g0, if_neg g1, t1, ho_wl b1.1 b1.2, w_succ g4, ediv_pow (by omega) j hv.1]
  · simp only [f_X11_laysHead_93B, tp_mp, hn]
    rw [if_pos (by decide), if_pos (Int.le_refl _), s_residue1 hp hp2, Option.bind_some]
set_option maxHeartbeats 4000000 in
set_option maxRecDepth 100000 in
theorem s_lh46 {M : tp_M} {r fr j : Int} {D e s kf : Int → Int} {q : Int → Int → Int} (hb : cxb r D e s) (hr : 1 ≤ r ∧ r ≤ 6) (hC : CxR M r D e s kf q) (hj : 0 ≤ j ∧ j ≤ 100) (hfr : 0 ≤ fr ∧ fr + j < 24) : f_X11_laysHead_46 fr j 1 M = f_X11_laysHead_93 (M 487 (fr + j)) 0 (tp_wr M 526 1 (r - 1) (fun k => xpt D e j (k + 1))) := by
  unfold f_X11_laysHead_46
  have e0 : ((1 : Int), M) = (((0 : Nat) : Int) + 1, tp_wr M 526 1 ((0 : Nat) : Int) (fun k => xpt D e j (k + 1))) := by rw [show ((0 : Nat) : Int) = 0 from rfl, wr_zero]; rfl
  rw [e0]
  refine lp_seq (fun n => ((n : Int) + 1, tp_wr M 526 1 n (fun k => xpt D e j (k + 1)))) (r - 1).toNat (fun n hn rc => ?_) (fun rc => ?_) tp_N (by unfold tp_N; omega)
  · have n0 : 1 ≤ (n : Int) + 1 := by omega
    have n1 : (n : Int) + 1 < r := by omega
    have hk := hb.2 _ n0 n1
    have u := wr_succ M 526 1 n (fun k => xpt D e j (k + 1)) (by omega)
    rw [show (1 : Int) + n = (n : Int) + 1 by omega, show (n : Int) + 1 = ((n + 1 : Nat) : Int) by omega] at u
    have q0 : 0 ≤ j / D ((n + 1 : Nat) : Int) := Int.ediv_nonneg (by omega) (by rw [show ((n + 1 : Nat) : Int) = (n : Int) + 1 by omega]; omega)
    have q1 : j / D ((n + 1 : Nat) : Int) ≤ j := Int.ediv_le_self _ (by omega)
    have en : ((n + 1 : Nat) : Int) = (n : Int) + 1 := by omega
    have bq : -2147483648 ≤ j / D ((n + 1 : Nat) : Int) ∧ j / D ((n + 1 : Nat) : Int) ≤ 2147483647 := by omega
    have g0 : ¬ r ≤ (n : Int) + 1 := by omega
    have g3 : 0 ≤ (n : Int) + 1 ∧ (n : Int) + 1 < 8 := by omega
    have g3' : 0 ≤ (n : Int) + 1 ∧ (n : Int) + 1 < 7 := by omega
    have b5 : -2147483648 ≤ (n : Int) + 1 + 1 ∧ (n : Int) + 1 + 1 ≤ 2147483647 := by omega
    have t2 := Int.tdiv_eq_ediv_of_nonneg (a := j) (b := D ((n + 1 : Nat) : Int)) hj.1
    have t3 := Int.tmod_eq_emod_of_nonneg (a := j / D ((n + 1 : Nat) : Int)) (b := e ((n + 1 : Nat) : Int)) q0
    have hC1 : CxR (tp_wr M 526 1 n (fun k => xpt D e j (k + 1))) r D e s kf q := CxR_fr hC (fun c k hc => wr_out (by omega))
    generalize hW : tp_wr M 526 1 n (fun k => xpt D e j (k + 1)) = W at *
    have c1 := hC1.2.1 _ n0 (Int.le_of_lt n1)
    have c3 := hC1.2.2 _ n0 n1
    simp only [f_X11_laysHead_46B, tp_mp, tp_lt]
    rw [if_neg (show ¬ W 483 49 ≤ (n : Int) + 1 by rw [hC1.1]; exact g0), if_pos g3, if_neg (show ¬ W 522 ((n : Int) + 1) = 0 by rw [c1.1]; omega), if_pos g3, if_neg (show ¬ W 521 ((n : Int) + 1) = 0 by rw [c3.1]; omega), if_pos g3', c1.1, c3.1, ho_w b5.1 b5.2, ← en, t2, ho_w bq.1 bq.2, t3]
    exact congrArg (fun z => rc (((n + 1 : Nat) : Int) + 1, z)) u
  · have er : (((r - 1).toNat : Nat) : Int) = r - 1 := by omega
    have hC1 : CxR (tp_wr M 526 1 (r - 1) (fun k => xpt D e j (k + 1))) r D e s kf q := CxR_fr hC (fun c k hc => wr_out (by omega))
    have g1 : 0 ≤ fr + j ∧ fr + j < 24 := by omega
    have b1 : -2147483648 ≤ fr + j ∧ fr + j ≤ 2147483647 := by omega
    have r1 : tp_wr M 526 1 (r - 1) (fun k => xpt D e j (k + 1)) 487 (fr + j) = M 487 (fr + j) := wr_out (fun h => absurd h.1 (by decide))
    simp only [f_X11_laysHead_46B, tp_lt, er]
    rw [if_pos (show tp_wr M 526 1 (r - 1) (fun k => xpt D e j (k + 1)) 483 49 ≤ r - 1 + 1 by rw [hC1.1]; omega), ho_w b1.1 b1.2, if_pos g1, r1]
/-- what a head leaves -/
def hdM (N M : tp_M) (p : Int) (K : Nat) (r j : Int) (D e Y : Int → Int) : Prop := (∀ k, 1 ≤ k → k < 7 → N 526 k = if k < r then xpt D e j k else 0) ∧ N 483 56 = rsv p K (Y j) ∧ ∀ c k, c ≠ 526 → ¬ (c = 483 ∧ k = 56) → N c k = M c k
set_option maxHeartbeats 4000000 in
set_option maxRecDepth 100000 in
theorem s_laysHead {M : tp_M} {p K P r fr j : Int} {D e s kf Y : Int → Int} {q : Int → Int → Int} (h : pKP p K P) (hp : M 483 0 = p) (hb : cxb r D e s) (hr : 1 ≤ r ∧ r ≤ 6) (hC : CxR M r D e s kf q) (hfr : 0 ≤ fr ∧ fr + D r ≤ 24) (hj : j < D r) (hY : 0 ≤ j → M 487 (fr + j) = Y j ∧ 0 < Y j ∧ Y j < P) : ∃ N, f_X11_laysHead fr j M = some N ∧ (0 ≤ j → hdM N M p K.toNat r j D e Y) ∧ (∀ c k, c ≠ 526 → ¬ (c = 483 ∧ k = 56) → N c k = M c k) := by
  have h' := h
  obtain ⟨h1, h2, h3, h4, h5, h6⟩ := h
  have hp2 := pm_2 h1
  have hb1 := hb.1
  generalize hW : tp_wr M 526 0 7 (fun _ => 0) = W
  have fW : ∀ c k, c ≠ 526 → W c k = M c k := fun c k hc => by rw [← hW, wr_out (fun h => hc h.1)]
  have start : f_X11_laysHead fr j M = if 0 ≤ j then (if 0 ≤ tp_w (fr + j) ∧ tp_w (fr + j) < 24 then (f_X11_powerIn (W 487 (tp_w (fr + j))) W).bind fun r3 => f_X11_laysHead_46 fr j 1 (tp_up W 526 0 r3) else none) else some W := by
    unfold f_X11_laysHead f_X11_laysHead_2
    have e0 : ((0 : Int), M) = (((0 : Nat) : Int), tp_wr M 526 0 ((0 : Nat) : Int) (fun _ => 0)) := by rw [show ((0 : Nat) : Int) = 0 from rfl, wr_zero]
    rw [e0]
    refine lp_seq (fun n => ((n : Int), tp_wr M 526 0 n (fun _ => 0))) 7 (fun n hn rc => ?_) (fun rc => ?_) tp_N (by unfold tp_N; omega)
    · have u := wr_succ0 M 526 n (fun _ => 0)
      have g0 : ¬ 7 ≤ (n : Int) := by omega
      have g1 : 0 ≤ (n : Int) ∧ (n : Int) < 7 := by omega
      have g4 : n < 1000000 := by omega
      simp only [f_X11_laysHead_2B, tp_mp, tp_lt]
      rw [if_neg g0, if_pos g1, w_succ g4]
      exact congrArg (fun z => rc (((n + 1 : Nat) : Int), z)) u
    · have e7 : tp_wr M 526 0 ((7 : Nat) : Int) (fun _ => 0) = W := hW
      simp only [f_X11_laysHead_2B, tp_mp, e7]
      rw [if_pos (by decide)]
      rfl
  by_cases c : 0 ≤ j
  · obtain ⟨y1, y2, y3⟩ := hY c
    have w := ho_w (x := fr + j) (by omega) (by omega)
    have yW : W 487 (fr + j) = Y j := by rw [fW _ _ (by decide)]; exact y1
    have sp := s_powerIn (M := W) (p := p) (v := Y j) (n := K.toNat) (by rw [fW _ _ (by decide)]; exact hp) hp2 (by omega) (by omega) (by rw [← h4]; exact y3)
    have pb := pvn_b p K.toNat (Y j)
    generalize hV : tp_up W 526 0 (pvn p K.toNat (Y j)) = V
    have fV : ∀ c k, c ≠ 526 → V c k = M c k := fun c k hc => by rw [← hV, up_ne (fun h => hc h.1), fW c k hc]
    have hCV : CxR V r D e s kf q := CxR_fr hC (fun c k hc => fV _ _ (by omega))
    have l46 := s_lh46 (M := V) (fr := fr) (j := j) hb hr hCV (by omega) (by omega)
    generalize hU : tp_wr V 526 1 (r - 1) (fun k => xpt D e j (k + 1)) = U at l46
    have fU : ∀ c k, c ≠ 526 → U c k = M c k := fun c k hc => by rw [← hU, wr_out (fun h => hc h.1), fV c k hc]
    have u0 : U 526 0 = (((pvn p K.toNat (Y j)).toNat : Nat) : Int) := by
      rw [← hU, wr_out (by omega), ← hV, up_eq ⟨rfl, rfl⟩]; omega
    have l93 := s_lh93 (M := U) (p := p) (v := Y j) (n := (pvn p K.toNat (Y j)).toNat) (by rw [fU _ _ (by decide)]; exact hp) hp2 (by omega) u0 (by omega)
    refine ⟨tp_up U 483 56 (Y j / p ^ (pvn p K.toNat (Y j)).toNat % p), ?_, fun _ => ⟨fun k k0 k1 => ?_, by rw [up_eq ⟨rfl, rfl⟩]; rfl, fun c k hc hd => by rw [up_ne hd, fU c k hc]⟩, fun c k hc hd => by rw [up_ne hd, fU c k hc]⟩
    · rw [start, if_pos c, w, if_pos (by omega), yW, sp, Option.bind_some, hV, l46, fV _ _ (by decide), y1, l93]
    · rw [up_ne (fun h => absurd h.1 (by decide)), ← hU]
      by_cases c2 : k < r
      · rw [if_pos c2, wr_in (by omega), show k - 1 + 1 = k by omega]
      · rw [if_neg c2, wr_out (by omega), ← hV, up_ne (by omega), ← hW, wr_in (by omega)]
  · exact ⟨W, by rw [start, if_neg c], fun h => absurd h c, fun c k hc _ => fW c k hc⟩
set_option maxHeartbeats 4000000 in
set_option maxRecDepth 100000 in
theorem s_head {M : tp_M} {p K P r fr : Int} {D e s kf X : Int → Int} {q : Int → Int → Int} (h : pKP p K P) (hp : M 483 0 = p) (hP : M 483 2 = P) (hb : cxb r D e s) (hr : 1 ≤ r ∧ r ≤ 6) (hC : CxR M r D e s kf q) (hq : ∀ k, 1 ≤ k → k ≤ r → Ro P (q k)) (hfr : 0 ≤ fr ∧ fr + D r ≤ 24) (hdv : ∀ k, 1 ≤ k → k < r → D (k + 1) ∣ fr ∧ D (k + 1) ∣ D r) (hi : inP P (M 487) 0 24) (hX : ∀ j, fr ≤ j → j < fr + D r → M 487 j = X j) {Y : Int → Int} (hY : ∀ j, 0 ≤ j → j < D r → Y j = lvE P q D (r - 1).toNat X (fr + j)) {H : Int × Int} (hH : H = hdS (kval p K.toNat (D r) (fun j => vpl D e s (D r) j (r - 1).toNat) Y) Y (D r).toNat) : ∃ N, f_X11_head fr M = some (H.1, N) ∧ (0 ≤ H.1 → (∀ k, 1 ≤ k → k < 7 → N 526 k = if k < r then xpt D e H.2 k else 0) ∧ N 483 56 = rsv p K.toNat (Y H.2)) ∧ inP P (N 487) 0 24 ∧ (∀ j, ¬ (fr ≤ j ∧ j < fr + D r) → N 487 j = M 487 j) ∧ ∀ c k, c ≠ 487 → c ≠ 526 → ¬ (c = 483 ∧ k = 56) → N c k = M c k := by
  have h' := h
  obtain ⟨h1, h2, h3, h4, h5, h6⟩ := h
  have hb1 := hb.1
  obtain ⟨K1, a1, a2, a3, a4, a5⟩ := s_hd17 (P := P) (r := r) (fr := fr) (D := D) (e := e) (s := s) (kf := kf) (q := q) ⟨h5, h6⟩ hr hb hq hfr hdv (r - 1).toNat tp_N M X (by unfold tp_N; omega) (by omega) hP hC hi hX
  have hC1 : CxR K1 r D e s kf q := CxR_fr hC (fun c k hc => a5 _ _ (by omega))
  have yk : ∀ j, 0 ≤ j → j < D r → K1 487 (fr + j) = Y j := fun j j0 j1 => by rw [hY j j0 j1]; exact a2 _ (by omega) (by omega)
  have Yin : inP P Y 0 (D r) := fun j j0 j1 => by rw [← yk j j0 j1]; exact a3 _ (by omega) (by omega)
  have h92 := s_hd92 (M := K1) (p := p) (K := K) (P := P) (fr := fr) (Y := Y) h' (by rw [a5 _ _ (by decide)]; exact hp) hb hr hC1 hfr Yin yk (D r).toNat tp_N 0 (by unfold tp_N; omega) (by omega)
  rw [show 0 + (D r).toNat = (D r).toNat by omega, ← hH] at h92
  have hv0 : ∀ j : Nat, 0 ≤ kval p K.toNat (D r) (fun j => vpl D e s (D r) j (r - 1).toNat) Y j := fun j => by
    have a := (vpl_b hb (j : Int) (r - 1).toNat (by omega)).1
    have b := Int.mul_nonneg (pvn_b p K.toNat (Y j)).1 (show 0 ≤ D r by omega)
    show 0 ≤ pvn p K.toNat (Y j) * D r + vpl D e s (D r) j (r - 1).toNat
    omega
  have hs := hdS_b (Y := Y) hv0 (D r).toNat
  rw [← hH] at hs
  have hneg : ¬ 0 ≤ H.1 → H = (-1, -1) := fun hc => (hs.2 (by omega)).1
  have jlt : H.2 < D r := by
    by_cases c : 0 ≤ H.1
    · have := hs.1 c; omega
    · rw [hneg c]; show (-1 : Int) < D r; omega
  obtain ⟨N, n1, n2, n3⟩ := s_laysHead (M := K1) (p := p) (K := K) (P := P) (r := r) (fr := fr) (j := H.2) (Y := Y) h' (by rw [a5 _ _ (by decide)]; exact hp) hb hr hC1 hfr jlt (fun hj => by
    have c : 0 ≤ H.1 := Classical.byContradiction fun hc => by rw [hneg hc] at hj; exact absurd hj (by show ¬ (0 : Int) ≤ -1; omega)
    have hs1 := hs.1 c
    have yin := Yin H.2 hj jlt
    exact ⟨yk _ hj jlt, by have := hs1.2.2.1; omega, yin.2⟩)
  have nf : ∀ c k, c ≠ 526 → ¬ (c = 483 ∧ k = 56) → N c k = K1 c k := n3
  refine ⟨N, ?_, fun hc => ?_, ?_, fun j hj => by rw [nf _ _ (by decide) (fun h => absurd h.1 (by decide)), a4 j hj], fun c k g1 g2 g3 => by rw [nf c k g2 g3, a5 c k g1]⟩
  · have w := ho_w (x := r - 1) (by omega) (by omega)
    have g8 : 0 ≤ r ∧ r < 8 := by omega
    have er : r - 1 = (((r - 1).toNat : Nat) : Int) := by omega
    have dr := (hC.2.1 r (by omega) (Int.le_refl _)).1
    unfold f_X11_head
    simp only [tp_lt]
    rw [hC.1, if_pos g8, dr, w, er]
    refine Eq.trans a1 ?_
    refine Eq.trans h92 ?_
    rw [n1, Option.bind_some]
  · have hs1 := hs.1 hc
    have hm := n2 hs1.1
    exact ⟨hm.1, hm.2.1⟩
  · intro j j0 j1
    rw [nf _ _ (by decide) (fun h => absurd h.1 (by decide))]
    exact a3 j j0 j1
