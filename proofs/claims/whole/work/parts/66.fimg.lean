theorem ac_z (n : Nat) (s : Nat → Int) (i : Nat) : ac (fun _ => 0) n s i = 0 := by
  have := ac_ext (a := fun _ => 0) (n := 0) (m := n) (by omega) (fun _ _ _ => rfl) s i
  rw [this]; rfl
theorem ac_off (Y : Int → Int) (c : Int) (s : Nat → Int) (i n : Nat) (hn : n ≤ 9) : ac (fun k => if 0 ≤ k - n ∧ k - n < 9 then c * Y (k - n) else 0) 18 s i = c * ac Y 9 s (i + n) := by
  have h := ac_split (fun k => if 0 ≤ k - n ∧ k - n < 9 then c * Y (k - n) else 0) n (18 - n) s i
  rw [show n + (18 - n) = 18 by omega] at h
  rw [h]
  have h1 : ac (fun k => if 0 ≤ k - n ∧ k - n < 9 then c * Y (k - n) else 0) n s i = 0 := by
    rw [ac_cong (b := fun _ => 0) (fun k hk => by rw [if_neg (by omega)]), ac_z]
  rw [h1, ac_ext (n := 9) (m := 18 - n) (by omega) (fun k k0 k1 => by rw [if_neg (by omega)]), ac_cong (b := fun k => c * Y k) (fun k hk => by rw [if_pos (by omega), show (n : Int) + k - n = k by omega]), ac_smul]
  omega
theorem cvs_ac (X Y : Int → Int) (s : Nat → Int) (i : Nat) : ∀ n : Nat, n ≤ 9 → ac (fun k => cvs X Y k n) 18 s i = ac X n (fun j => ac Y 9 s j) i := by
  intro n
  induction n with
  | zero => intro _; exact ac_z 18 s i
  | succ n ih =>
    intro hn
    show ac (fun k => cvs X Y k n + if 0 ≤ k - n ∧ k - n < 9 then X n * Y (k - n) else 0) 18 s i = ac X n (fun j => ac Y 9 s j) i + X n * ac Y 9 s (i + n)
    rw [ac_add (fun k => cvs X Y k n) (fun k => if 0 ≤ k - n ∧ k - n < 9 then X n * Y (k - n) else 0), ih (by omega), ac_off Y (X n) s i n (by omega)]
theorem cut_ac {d L : Nat} (hd : d ≤ L) (D : Int → Int) (s : Nat → Int) (i : Nat) : ac (cutz d L D) L s i = ac D d s i := by
  rw [ac_ext (n := d) (m := L) hd (fun k k0 k1 => by unfold cutz; rw [if_pos (by omega)])]
  exact ac_cong (fun k hk => by unfold cutz; rw [if_neg (by omega)]) s i
theorem rem_ac {p : Int} {g c : Int → Int} {d L : Nat} (hg : g d = 1) (hd : d ≤ L) {s : Nat → Int} (hs : Kr p g (d + 1) s) (i : Nat) : p ∣ ac c L s i - ac (cutz d L (dv p g d (L - d) c)) L s i := by
  have h1 := dv_spec (p := p) hg (L - d) c s i
  rw [show d + (L - d) = L by omega] at h1
  have h3 : p ∣ ac (fun k => dv p g d (L - d) c (k + d)) (L - d) (fun j => ac g (d + 1) s j) i := ac_dvd hs i
  rw [cut_ac hd]
  have h4 := Int.dvd_add h1 h3
  refine dvd_of h4 ?_
  omega
theorem dg_lt {a : Int → Int} {m : Nat} (h : ∀ k : Int, (m : Int) ≤ k → k < 9 → a k = 0) : tp_dg a 9 < m := by
  have h1 := tp_dg_r a 9
  have h2 := tp_dg_at a 9
  by_cases c : tp_dg a 9 < m
  · exact c
  · exact absurd (h _ (by omega) (by omega)) (h2 (by omega))
theorem inP_fit {p : Int} (hp : 2 ≤ p ∧ p ≤ 7) {X : Int → Int} (h : inP p X 0 9) : fit X := fun k k0 k1 => by have := h k k0 k1; omega
set_option maxHeartbeats 4000000 in
set_option maxRecDepth 100000 in
theorem s_r55 {M : tp_M} {p c0 x1 : Int} {i : Nat} {rec_17 rec_35 : Int → tp_M → Option tp_M} (hp : 2 ≤ p ∧ p ≤ 7) (hi : i < 9) (hX : inP p (M (c0 + 14)) 0 9) (hY : inP p (M (c0 + 15)) 0 9) : f_X0_raiseImage_55 rec_17 rec_35 c0 x1 i 0 (tp_wr M (c0 + 20) 0 18 (fun k => cvs (M (c0 + 14)) (M (c0 + 15)) k i)) = rec_35 ((i + 1 : Nat) : Int) (tp_wr M (c0 + 20) 0 18 (fun k => cvs (M (c0 + 14)) (M (c0 + 15)) k (i + 1))) := by
  have fX := inP_fit hp hX
  have fY := inP_fit hp hY
  unfold f_X0_raiseImage_55
  have e1 : ((0 : Int), tp_wr M (c0 + 20) 0 18 (fun k => cvs (M (c0 + 14)) (M (c0 + 15)) k i)) = (((0 : Nat) : Int), tp_wr M (c0 + 20) 0 18 (fun k => cvs (M (c0 + 14)) (M (c0 + 15)) k i + if 0 ≤ k - i ∧ k - i < ((0 : Nat) : Int) then M (c0 + 14) i * M (c0 + 15) (k - i) else 0)) := congrArg (fun z => ((0 : Int), z)) (wr_cong (fun k k0 k1 => by rw [if_neg (by omega)]; omega))
  rw [e1]
  refine lp_seq (fun j => ((j : Int), tp_wr M (c0 + 20) 0 18 (fun k => cvs (M (c0 + 14)) (M (c0 + 15)) k i + if 0 ≤ k - i ∧ k - i < (j : Int) then M (c0 + 14) i * M (c0 + 15) (k - i) else 0))) 9 (fun j hj rc2 => ?_) (fun rc2 => ?_) tp_N (by unfold tp_N; omega)
  · have q := tp_mulc (fX i (by omega) (by omega)) (fY j (by omega) (by omega))
    have b := cvs_b fX fY (i + j) i (by omega)
    simp only [f_X0_raiseImage_55B, tp_lt, tp_mp, w_succ (show j < 1000000 by omega)]
    rw [if_neg (by omega), ho_w (x := (i : Int) + j) (by omega) (by omega), if_pos (by omega), if_pos (by omega), if_pos (by omega), if_pos (by omega), wr_out (x := c0 + 14) (by omega), wr_out (x := c0 + 15) (by omega), wr_in (by omega), show (i : Int) + j - 0 = i + j by omega, if_neg (by omega), ho_w (x := M (c0 + 14) i * M (c0 + 15) j) (by omega) (by omega), ho_w (by omega) (by omega), wr_up (by omega)]
    refine congrArg (fun z => rc2 (((j + 1 : Nat) : Int), z)) (wr_cong (fun k k0 k1 => ?_))
    by_cases e : k = i + j
    · subst e
      rw [if_pos rfl, if_pos (by omega), show (i : Int) + j - i = j by omega]; omega
    · rw [if_neg e]
      by_cases c : 0 ≤ k - i ∧ k - i < (j : Int)
      · rw [if_pos c, if_pos (by omega)]
      · rw [if_neg c, if_neg (by omega)]
  · simp only [f_X0_raiseImage_55B, f_X0_raiseImage_91, tp_lt, w_succ (show i < 1000000 by omega)]
    rw [if_pos (by omega)]
    refine congrArg (fun z => rec_35 ((i + 1 : Nat) : Int) z) (wr_cong (fun k k0 k1 => by rw [show ((9 : Nat) : Int) = 9 from rfl]; rfl))
set_option maxHeartbeats 4000000 in
set_option maxRecDepth 100000 in
theorem s_r35 {M : tp_M} {p c0 x1 : Int} {rec_17 : Int → tp_M → Option tp_M} (hp : 2 ≤ p ∧ p ≤ 7) (hX : inP p (M (c0 + 14)) 0 9) (hY : inP p (M (c0 + 15)) 0 9) : f_X0_raiseImage_35 rec_17 c0 x1 0 (tp_fl M (c0 + 20) 18 0) = f_X0_raiseImage_99 rec_17 c0 x1 0 (tp_wr M (c0 + 20) 0 18 (fun k => cvs (M (c0 + 14)) (M (c0 + 15)) k 9)) := by
  unfold f_X0_raiseImage_35
  have e0 : ((0 : Int), tp_fl M (c0 + 20) 18 0) = (((0 : Nat) : Int), tp_wr M (c0 + 20) 0 18 (fun k => cvs (M (c0 + 14)) (M (c0 + 15)) k 0)) := by rw [fl_wr]; rfl
  rw [e0]
  refine lp_seq (fun i => ((i : Int), tp_wr M (c0 + 20) 0 18 (fun k => cvs (M (c0 + 14)) (M (c0 + 15)) k i))) 9 (fun i hi rc => ?_) (fun rc => ?_) tp_N (by unfold tp_N; omega)
  · have h55 := s_r55 (M := M) (p := p) (c0 := c0) (x1 := x1) (i := i) (rec_17 := rec_17) (rec_35 := fun x2' M0' => rc (x2', M0')) hp hi hX hY
    simp only [f_X0_raiseImage_35B]
    rw [if_neg (by omega), if_pos (by omega), wr_out (x := c0 + 14) (by omega)]
    by_cases c : M (c0 + 14) i = 0
    · rw [if_neg (by omega)]
      unfold f_X0_raiseImage_91
      simp only [tp_lt, w_succ (show i < 1000000 by omega)]
      refine congrArg (fun z => rc (((i + 1 : Nat) : Int), z)) (wr_cong (fun k k0 k1 => ?_))
      show _ = cvs (M (c0 + 14)) (M (c0 + 15)) k i + if 0 ≤ k - i ∧ k - i < 9 then M (c0 + 14) i * M (c0 + 15) (k - i) else 0
      rw [c, Int.zero_mul]
      by_cases c2 : 0 ≤ k - i ∧ k - i < 9
      · rw [if_pos c2]; omega
      · rw [if_neg c2]; omega
    · rw [if_pos c]
      exact h55
  · simp only [f_X0_raiseImage_35B]
    rw [if_pos (by omega)]
set_option maxHeartbeats 4000000 in
set_option maxRecDepth 100000 in
theorem s_r99 {M : tp_M} {p c0 x1 : Int} {g : Int → Int} {rec_17 : Int → tp_M → Option tp_M} (tg0 : tp_tg c0 = 0) (hP : M c0 4 = p) (hp : 2 ≤ p ∧ p ≤ 7) : f_X0_raiseImage_99 rec_17 c0 x1 0 (tp_wr M (c0 + 20) 0 18 g) = (f_X10_degreeOf (c0 + 13) (tp_wr M (c0 + 20) 0 18 (fun k => g k % p))).bind fun r8 => (f_X0_keepRemainder c0 (c0 + 20) (c0 + 13) r8 (tp_wr M (c0 + 20) 0 18 (fun k => g k % p))).bind fun r10 => rec_17 (tp_w (x1 + 1)) (tp_cp r10 (c0 + 20) 0 (c0 + 14) 0 9) := by
  unfold f_X0_raiseImage_99
  have e0 : ((0 : Int), tp_wr M (c0 + 20) 0 18 g) = (((0 : Nat) : Int), tp_wr M (c0 + 20) 0 18 (fun k => if k < ((0 : Nat) : Int) then g k % p else g k)) := congrArg (fun z => ((0 : Int), z)) (wr_cong (fun k k0 k1 => by rw [if_neg (by omega)]))
  rw [e0]
  refine lp_seq (fun j => ((j : Int), tp_wr M (c0 + 20) 0 18 (fun k => if k < (j : Int) then g k % p else g k))) 18 (fun j hj rc => ?_) (fun rc => ?_) tp_N (by unfold tp_N; omega)
  · simp only [f_X0_raiseImage_99B, tp_lt, tp_mp]
    rw [if_neg (by omega), if_pos (by omega), wr_in (by omega), show (j : Int) - 0 = j by omega, if_neg (by omega), s_residue0 tg0 (by rw [wr_out (by omega)]; exact hP) hp]
    simp only [Option.bind_some]
    rw [if_pos (by omega), w_succ (show j < 1000000 by omega), wr_up (by omega)]
    refine congrArg (fun z => rc (((j + 1 : Nat) : Int), z)) (wr_cong (fun k k0 k1 => ?_))
    by_cases e : k = j
    · rw [if_pos e, if_pos (by omega), e]
    · rw [if_neg e]
      by_cases c : k < (j : Int)
      · rw [if_pos c, if_pos (by omega)]
      · rw [if_neg c, if_neg (by omega)]
  · have ew : tp_wr M (c0 + 20) 0 18 (fun k => if k < ((18 : Nat) : Int) then g k % p else g k) = tp_wr M (c0 + 20) 0 18 (fun k => g k % p) := wr_cong (fun k k0 k1 => by rw [if_pos (by omega)])
    simp only [f_X0_raiseImage_99B, tp_lt, tp_mp]
    rw [if_pos (by omega), ew]
    rfl
/-- a row taken so often -/
def opit (B : Int → Int) : Nat → (Nat → Int) → (Nat → Int)
  | 0, s => s
  | t + 1, s => opit B t (fun j => ac B 9 s j)
theorem opit_sh {p : Int} {R B : Int → Int} {q : Nat} (hB : ∀ s, Kr p R 9 s → ∀ i, p ∣ ac B 9 s i - s (i + q)) : ∀ (t : Nat) (s : Nat → Int), Kr p R 9 s → ∀ i, p ∣ opit B t s i - s (i + t * q) := by
  intro t
  induction t with
  | zero => intro s _ i; exact ⟨0, by show s i - s (i + 0 * q) = p * 0; rw [show i + 0 * q = i by omega]; omega⟩
  | succ t ih =>
    intro s hs i
    have h1 := ih (fun j => ac B 9 s j) (kr_ac hs B 9) i
    have h2 := hB s hs (i + t * q)
    have h3 := Int.dvd_add h1 h2
    refine dvd_of h3 ?_
    show _ = opit B t (fun j => ac B 9 s j) i - s (i + (t + 1) * q)
    rw [show i + (t + 1) * q = i + t * q + q by rw [Nat.add_mul]; omega]
    omega
def rB17 (x0 : Int) : (Int × tp_M → Option tp_M) → Int × tp_M → Option tp_M := fun rec_ u => f_X0_raiseImage_17B x0 (fun x1' M0' => rec_ (x1', M0')) u.1 u.2
set_option maxHeartbeats 4000000 in
set_option maxRecDepth 100000 in
theorem s_r17 {p c0 : Int} {R B : Int → Int} {m : Nat} (hpm : Pm p) (hF : tgF c0) (hR : Mo p R m) (hB : Ro p B) : ∀ (n N : Nat) (x1 : Int) (M : tp_M) (t : Nat), n < N → 1 ≤ x1 → x1 + n = p → M c0 4 = p → rd (M (c0 + 13)) = R → rd (M (c0 + 15)) = B → Ro p (rd (M (c0 + 14))) → (∀ s, Kr p R 9 s → ∀ i, p ∣ ac (rd (M (c0 + 14))) 9 s i - opit B t s i) → ∃ K, tp_lp (rB17 c0) N (x1, M) = some K ∧ Ro p (rd (K (c0 + 14))) ∧ (1 ≤ n → ∀ k, (m : Int) ≤ k → rd (K (c0 + 14)) k = 0) ∧ (n = 0 → K = M) ∧ (∀ s, Kr p R 9 s → ∀ i, p ∣ ac (rd (K (c0 + 14))) 9 s i - opit B (t + n) s i) ∧ ∀ c k, c ≠ c0 + 14 → c ≠ c0 + 20 → K c k = M c k := by
  have hp := pm_2 hpm
  have t13 := hF.2.2.1 13 (by omega) (by omega) (by omega)
  intro n
  induction n with
  | zero =>
    intro N x1 M t hN h1 hx hP h13 h15 hI hA
    refine ⟨M, ?_, hI, fun h => by omega, fun _ => rfl, hA, fun c k _ _ => rfl⟩
    rw [lp_1 (by omega)]
    simp only [rB17, f_X0_raiseImage_17B]
    rw [if_pos (by omega)]
  | succ n ih =>
    intro N x1 M t hN h1 hx hP h13 h15 hI hA
    have fX := rd_inP hI
    have fY : inP p (M (c0 + 15)) 0 9 := rd_inP (by rw [h15]; exact hB)
    generalize hG : (fun k => cvs (M (c0 + 14)) (M (c0 + 15)) k 9 % p) = G
    have hGk : ∀ k, G k = cvs (M (c0 + 14)) (M (c0 + 15)) k 9 % p := fun k => by rw [← hG]
    generalize hM1 : tp_wr M (c0 + 20) 0 18 G = M1
    have f1 : ∀ c k, c ≠ c0 + 20 → M1 c k = M c k := fun c k h => by rw [← hM1, wr_out (by omega)]
    have r13 : rd (M1 (c0 + 13)) = R := by rw [← h13]; exact rd_cong (fun k _ _ => f1 _ _ (by omega))
    have d13 : tp_dg (M1 (c0 + 13)) 9 = m := by rw [← rd_dg, r13]; exact dg_mo hR
    have m13 : M1 (c0 + 13) m = 1 := by rw [← hR.2.2.1, ← r13, rd_in (by have := hR.2.1; omega)]
    have i13 : inP p (M1 (c0 + 13)) 0 9 := rd_inP (by rw [r13]; exact hR.1)
    have i20 : inP p (M1 (c0 + 20)) 0 18 := fun k k0 k1 => by
      rw [← hM1, wr_in (by omega), show k - 0 = k by omega, hGk]
      exact ⟨Int.emod_nonneg _ (by omega), Int.emod_lt_of_pos _ (by omega)⟩
    have kr := s_keepRem (M := M1) (p := p) (c0 := c0) (a := c0 + 20) (b := c0 + 13) (d := m) (L := 18) hF.1 hF.2.2.2.1 t13.1 hF.2.2.2.2 (by omega) t13.2 (by rw [f1 _ _ (by omega)]; exact hP) hp (by omega) hR.2.1 i20 (fun k k0 k1 => i13 k k0 (by have := hR.2.1; omega))
    generalize hD : cutz m ((18 : Nat) : Int) (dv p (M1 (c0 + 13)) m (18 - m) (M1 (c0 + 20))) = D at kr
    generalize hM2 : tp_cp (tp_row M1 (c0 + 20) D) (c0 + 20) 0 (c0 + 14) 0 9 = M2
    have f2 : ∀ c k, c ≠ c0 + 14 → c ≠ c0 + 20 → M2 c k = M c k := fun c k h1 h2 => by rw [← hM2, cp_out (by omega), row_ne h2, f1 c k h2]
    have r14 : rd (M2 (c0 + 14)) = rd D := rd_cong (fun k k0 k1 => by rw [← hM2, cp_in (by omega), row_eq, show (0 : Int) + (k - 0) = k by omega])
    have hm8 := hR.2.1
    have hDro : Ro p (rd D) := rd_ro (fun k k0 k1 => by
      rw [← hD]; unfold cutz
      by_cases c : (m : Int) ≤ k ∧ k < (18 : Nat)
      · rw [if_pos c]; omega
      · rw [if_neg c]; exact dv_r (by omega) (N := 18) _ i20 k k0 (by omega))
    have hDz : ∀ k, (m : Int) ≤ k → rd D k = 0 := fun k hk => by
      by_cases c : k < 9
      · rw [rd_in (by omega), ← hD]; unfold cutz; rw [if_pos (by omega)]
      · exact rd_out (by omega)
    have hDa : ∀ s, Kr p R 9 s → ∀ i, p ∣ ac (rd D) 9 s i - ac (rd (M (c0 + 14))) 9 (fun j => ac B 9 s j) i := fun s hs i => by
      have hs' : Kr p (M1 (c0 + 13)) (m + 1) s := by
        have h1 := (kr_mo hR s).mp hs
        intro i
        rw [ac_cong (b := R) (fun k hk => by rw [← r13, rd_in (by omega)])]
        exact h1 i
      have h1 := rem_ac (p := p) (g := M1 (c0 + 13)) (c := M1 (c0 + 20)) (d := m) (L := 18) m13 (by omega) hs' i
      rw [hD] at h1
      have h2 : ac D 18 s i = ac (rd D) 9 s i := by
        rw [ac_rd]
        exact ac_ext (by omega) (fun k k0 k1 => by rw [← hD]; unfold cutz; rw [if_pos (by omega)]) s i
      have h3 : p ∣ ac (M1 (c0 + 20)) 18 s i - ac (fun k => cvs (M (c0 + 14)) (M (c0 + 15)) k 9) 18 s i := ac_mod (fun k hk => by
        rw [← hM1, wr_in (by omega), show (k : Int) - 0 = k by omega, hGk]
        exact md_dvd _ _) s i
      rw [cvs_ac _ _ _ _ 9 (by omega)] at h3
      have h4 : ac (M (c0 + 14)) 9 (fun j => ac (M (c0 + 15)) 9 s j) i = ac (rd (M (c0 + 14))) 9 (fun j => ac B 9 s j) i := by
        rw [ac_rd]
        exact ac_scong (fun k hk => by rw [← h15, ac_rd])
      rw [h4] at h3
      rw [h2] at h1
      have h5 := Int.dvd_sub h3 h1
      exact dvd_of h5 (by omega)
    obtain ⟨K, k1, k2, k3, k4, k5, k6⟩ := ih (N - 1) (x1 + 1) M2 (t + 1) (by omega) (by omega) (by omega) (by rw [f2 _ _ (by omega) (by omega)]; exact hP) (by rw [← h13]; exact rd_cong (fun k _ _ => f2 _ _ (by omega) (by omega))) (by rw [← h15]; exact rd_cong (fun k _ _ => f2 _ _ (by omega) (by omega))) (by rw [r14]; exact hDro) (fun s hs i => by
      rw [r14]
      have h1 := hDa s hs i
      have h2 := hA (fun j => ac B 9 s j) (kr_ac hs B 9) i
      have h3 := Int.dvd_add h1 h2
      refine dvd_of h3 ?_
      show _ = ac (rd D) 9 s i - opit B t (fun j => ac B 9 s j) i
      omega)
    refine ⟨K, ?_, k2, fun _ k hk => ?_, fun h => by omega, fun s hs i => ?_, fun c k h1 h2 => by rw [k6 c k h1 h2, f2 c k h1 h2]⟩
    · rw [lp_1 (by omega)]
      generalize tp_lp (rB17 c0) (N - 1) = Rc at k1 ⊢
      simp only [rB17, f_X0_raiseImage_17B]
      rw [if_neg (by omega), s_fill (n := 18) hF.2.2.2.1 hF.2.2.2.2 (by omega)]
      simp only [Option.bind_some]
      rw [s_r35 hp fX fY, s_r99 hF.1 hP hp, hG, hM1, s_degreeOf t13.1 t13.2, d13]
      simp only [Option.bind_some]
      rw [kr]
      simp only [Option.bind_some]
      rw [hM2, ho_w (x := x1 + 1) (by omega) (by omega)]
      exact k1
    · by_cases c : 1 ≤ n
      · exact k3 c k hk
      · rw [k4 (by omega), r14]; exact hDz k hk
    · have := k5 s hs i
      rw [show t + (n + 1) = t + 1 + n by omega]
      exact this
theorem s_raiseImage {M : tp_M} {p c0 : Int} {m q : Nat} (hpm : Pm p) (hF : tgF c0) (hP : M c0 4 = p) (hR : Mo p (rd (M (c0 + 13))) m) (hI : Ro p (rd (M (c0 + 14)))) (hq : ∀ s, Kr p (rd (M (c0 + 13))) 9 s → ∀ i, p ∣ ac (rd (M (c0 + 14))) 9 s i - s (i + q)) : ∃ K, f_X0_raiseImage c0 M = some K ∧ Ro p (rd (K (c0 + 14))) ∧ (∀ s, Kr p (rd (M (c0 + 13))) 9 s → ∀ i, p ∣ ac (rd (K (c0 + 14))) 9 s i - s (i + p.toNat * q)) ∧ ∀ c k, c ≠ c0 + 14 → c ≠ c0 + 15 → c ≠ c0 + 20 → K c k = M c k := by
  have hp := pm_2 hpm
  generalize hM1 : tp_cp M (c0 + 14) 0 (c0 + 15) 0 9 = M1
  have f1 : ∀ c k, c ≠ c0 + 15 → M1 c k = M c k := fun c k h => by rw [← hM1, cp_out (by omega)]
  have r13 : rd (M1 (c0 + 13)) = rd (M (c0 + 13)) := rd_cong (fun k _ _ => f1 _ _ (by omega))
  have r14 : rd (M1 (c0 + 14)) = rd (M (c0 + 14)) := rd_cong (fun k _ _ => f1 _ _ (by omega))
  have r15 : rd (M1 (c0 + 15)) = rd (M (c0 + 14)) := rd_cong (fun k k0 k1 => by rw [← hM1, cp_in (by omega), show (0 : Int) + (k - 0) = k by omega])
  obtain ⟨K, k1, k2, k3, k4, k5, k6⟩ := s_r17 (p := p) (c0 := c0) (R := rd (M (c0 + 13))) (B := rd (M (c0 + 14))) (m := m) hpm hF hR hI (p - 1).toNat tp_N 1 M1 1 (by unfold tp_N; omega) (by omega) (by omega) (by rw [f1 _ _ (by omega)]; exact hP) r13 r15 (by rw [r14]; exact hI) (fun s hs i => by rw [r14]; exact ⟨0, by show ac (rd (M (c0 + 14))) 9 s i - ac (rd (M (c0 + 14))) 9 s i = p * 0; omega⟩)
  refine ⟨K, ?_, k2, fun s hs i => ?_, fun c k h1 h2 h3 => by rw [k6 c k h1 h3, f1 c k h2]⟩
  · unfold f_X0_raiseImage
    rw [if_pos hF.1, if_pos (by omega)]
    simp only [tp_mp]
    rw [hM1]
    exact k1
  · have h1 := k5 s hs i
    have h2 := opit_sh hq (1 + (p - 1).toNat) s hs i
    rw [show 1 + (p - 1).toNat = p.toNat by omega] at h1 h2
    have h3 := Int.dvd_add h1 h2
    exact dvd_of h3 (by omega)
def tB48 (x0 : Int) : (Int × Int × Int × tp_M → Option tp_M) → Int × Int × Int × tp_M → Option tp_M := fun rec_ u => f_X0_takeCommon_48B x0 (fun x1' x2' x3' M0' => rec_ (x1', x2', x3', M0')) u.1 u.2.1 u.2.2.1 u.2.2.2
set_option maxHeartbeats 4000000 in
set_option maxRecDepth 100000 in
theorem s_t48 {p c0 : Int} (hpm : Pm p) (hF : tgF c0) : ∀ (n N : Nat) (x1 x2 x3 : Int) (M : tp_M) (m1 : Nat), n < N → (x1 = c0 + 16 ∧ x2 = c0 + 17 ∨ x1 = c0 + 17 ∧ x2 = c0 + 16) → 0 ≤ x3 → x3 + n ≤ 9 → M c0 4 = p → Mo p (rd (M x1)) m1 → Ro p (rd (M x2)) → tp_dg (rd (M x2)) 9 < n → ∃ (K : tp_M) (mC : Nat), tp_lp (tB48 c0) N (x1, x2, x3, M) = some K ∧ Mo p (rd (K (c0 + 16))) mC ∧ (∀ s, Kr p (rd (K (c0 + 16))) 9 s ↔ Kr p (rd (M x1)) 9 s ∧ Kr p (rd (M x2)) 9 s) ∧ ∀ c k, c ≠ c0 + 16 → c ≠ c0 + 17 → K c k = M c k := by
  have hp := pm_2 hpm
  have t16 := hF.2.2.1 16 (by omega) (by omega) (by omega)
  have t17 := hF.2.2.1 17 (by omega) (by omega) (by omega)
  have fin : ∀ (x1 x2 : Int) (M : tp_M) (m1 : Nat), (x1 = c0 + 16 ∧ x2 = c0 + 17 ∨ x1 = c0 + 17 ∧ x2 = c0 + 16) → Mo p (rd (M x1)) m1 → tp_dg (rd (M x2)) 9 < 0 → ∃ (K : tp_M) (mC : Nat), f_X0_takeCommon_90 c0 x1 M = some K ∧ Mo p (rd (K (c0 + 16))) mC ∧ (∀ s, Kr p (rd (K (c0 + 16))) 9 s ↔ Kr p (rd (M x1)) 9 s ∧ Kr p (rd (M x2)) 9 s) ∧ ∀ c k, c ≠ c0 + 16 → c ≠ c0 + 17 → K c k = M c k := by
    intro x1 x2 M m1 hx h1 h2
    have e : rd (tp_cp M x1 0 (c0 + 16) 0 9 (c0 + 16)) = rd (M x1) := rd_cong (fun k k0 k1 => by rw [cp_in (by omega), show (0 : Int) + (k - 0) = k by omega])
    refine ⟨tp_cp M x1 0 (c0 + 16) 0 9, m1, ?_, by rw [e]; exact h1, fun s => ?_, fun c k h1 h2 => cp_out (by omega)⟩
    · unfold f_X0_takeCommon_90
      rw [if_pos (by omega)]; rfl
    · rw [e]
      refine ⟨fun h => ⟨h, fun i => ?_⟩, fun h => h.1⟩
      have hz := tp_dg_top (rd (M x2)) 9
      rw [ac_cong (b := fun _ => 0) (fun k hk => hz k (by omega) (by omega)), ac_z]
      exact ⟨0, by omega⟩
  intro n
  induction n with
  | zero =>
    intro N x1 x2 x3 M m1 hN hx h3 hn hP h1 h2 hd
    have tx2 : tp_tg x2 = 21 ∧ tp_al x2 = 9 := by rcases hx with ⟨_, rfl⟩ | ⟨_, rfl⟩ <;> assumption
    have hd0 : tp_dg (rd (M x2)) 9 < 0 := hd
    obtain ⟨K, mC, k1, k2⟩ := fin x1 x2 M m1 hx h1 hd0
    refine ⟨K, mC, ?_, k2⟩
    rw [lp_1 (by omega)]
    simp only [tB48, f_X0_takeCommon_48B]
    rw [if_neg (by omega), s_degreeOf tx2.1 tx2.2, ← rd_dg]
    simp only [Option.bind_some]
    rw [if_pos hd0]
    exact k1
  | succ n ih =>
    intro N x1 x2 x3 M m1 hN hx h3 hn hP h1 h2 hd
    have tx2 : tp_tg x2 = 21 ∧ tp_al x2 = 9 := by rcases hx with ⟨_, rfl⟩ | ⟨_, rfl⟩ <;> assumption
    have tx1 : tp_tg x1 = 21 ∧ tp_al x1 = 9 := by rcases hx with ⟨rfl, _⟩ | ⟨rfl, _⟩ <;> assumption
    rw [lp_1 (by omega)]
    by_cases c : tp_dg (rd (M x2)) 9 < 0
    · obtain ⟨K, mC, k1, k2⟩ := fin x1 x2 M m1 hx h1 c
      refine ⟨K, mC, ?_, k2⟩
      simp only [tB48, f_X0_takeCommon_48B]
      rw [if_neg (by omega), s_degreeOf tx2.1 tx2.2, ← rd_dg]
      simp only [Option.bind_some]
      rw [if_pos c]
      exact k1
    · obtain ⟨m2, hm2⟩ : ∃ m2 : Nat, tp_dg (M x2) 9 = m2 := ⟨(tp_dg (M x2) 9).toNat, by rw [rd_dg] at c; omega⟩
      have dgr := tp_dg_r (M x2) 9
      have i2 := rd_inP h2
      have mm := s_makeMonic (M := M) (p := p) (c0 := c0) (a := x2) (m := m2) hpm hF.1 tx2.1 tx2.2 hP (by omega) hm2 i2
      obtain ⟨g1, g2⟩ := mk_mo hpm hm2 i2
      generalize hG : mkc p (iv p (M x2 m2)) (m2 + 1) (M x2) = G at *
      generalize hM1 : tp_row M x2 G = M1 at *
      have f1 : ∀ c k, c ≠ x2 → M1 c k = M c k := fun c k h => by rw [← hM1, row_ne h]
      have r2 : M1 x2 = G := by funext k; rw [← hM1, row_eq]
      have r1 : M1 x1 = M x1 := by funext k; exact f1 _ _ (by omega)
      have i1 : inP p (M x1) 0 9 := rd_inP h1.1
      have iG : inP p G 0 9 := rd_inP g1.1
      have d2 : tp_dg (M1 x2) 9 = m2 := by rw [r2, ← rd_dg]; exact dg_mo g1
      have hm8 := g1.2.1
      have kr := s_keepRem (M := M1) (p := p) (c0 := c0) (a := x1) (b := x2) (d := m2) (L := 9) hF.1 tx1.1 tx2.1 tx1.2 (by omega) tx2.2 (by rw [f1 _ _ (by omega)]; exact hP) hp (by omega) hm8 (by rw [r1]; exact i1) (by rw [r2]; exact fun k k0 k1 => iG k k0 (by omega))
      rw [r1, r2] at kr
      generalize hD : cutz m2 ((9 : Nat) : Int) (dv p G m2 (9 - m2) (M x1)) = D at kr
      generalize hM2 : tp_row M1 x1 D = M2 at kr
      have f2 : ∀ c k, c ≠ x1 → c ≠ x2 → M2 c k = M c k := fun c k h1 h2 => by rw [← hM2, row_ne h1, f1 c k h2]
      have q1 : M2 x1 = D := by funext k; rw [← hM2, row_eq]
      have q2 : M2 x2 = G := by funext k; rw [← hM2, row_ne (by omega), r2]
      have hDro : Ro p (rd D) := rd_ro (fun k k0 k1 => by
        rw [← hD]; unfold cutz
        by_cases c : (m2 : Int) ≤ k ∧ k < (9 : Nat)
        · rw [if_pos c]; omega
        · rw [if_neg c]; exact dv_r (by omega) (N := 9) _ i1 k k0 (by omega))
      have hDd : tp_dg (rd D) 9 < m2 := dg_lt (fun k k0 k1 => by rw [rd_in (by omega), ← hD]; unfold cutz; rw [if_pos (by omega)])
      obtain ⟨K, mC, k1, k2, k3, k4⟩ := ih (N - 1) x2 x1 (x3 + 1) M2 m2 (by omega) (by omega) (by omega) (by omega) (by rw [f2 _ _ (by omega) (by omega)]; exact hP) (by rw [q2]; exact g1) (by rw [q1]; exact hDro) (by rw [q1]; rw [rd_dg] at hd; omega)
      rw [q1, q2] at k3
      refine ⟨K, mC, ?_, k2, fun s => ?_, fun c k h1 h2 => by rw [k4 c k h1 h2, f2 c k (by omega) (by omega)]⟩
      · generalize tp_lp (tB48 c0) (N - 1) = Rc at k1 ⊢
        simp only [tB48, f_X0_takeCommon_48B, tp_lt]
        rw [if_neg (by omega), s_degreeOf tx2.1 tx2.2, hm2]
        simp only [Option.bind_some]
        rw [if_neg (by omega), mm]
        simp only [Option.bind_some]
        rw [s_degreeOf tx2.1 tx2.2, d2]
        simp only [Option.bind_some]
        rw [kr]
        simp only [Option.bind_some]
        rw [ho_w (x := x3 + 1) (by omega) (by omega)]
        exact k1
      · rw [k3]
        have key : Kr p (rd G) 9 s → (Kr p (rd D) 9 s ↔ Kr p (rd (M x1)) 9 s) := fun hs => by
          have hs' : Kr p G (m2 + 1) s := by
            have h1 := (kr_mo g1 s).mp hs
            intro i
            rw [ac_cong (b := rd G) (fun k hk => by rw [rd_in (by omega)])]
            exact h1 i
          have h1 := fun i => rem_ac (p := p) (g := G) (c := M x1) (d := m2) (L := 9) (by have := g1.2.2.1; rw [rd_in (by omega)] at this; exact this) (by omega) hs' i
          rw [hD] at h1
          constructor
          · intro h i
            have h2 := h i
            rw [ac_rd] at h2 ⊢
            have := Int.dvd_add (h1 i) h2
            exact dvd_of this (by omega)
          · intro h i
            have h2 := h i
            rw [ac_rd] at h2 ⊢
            have := Int.dvd_sub h2 (h1 i)
            exact dvd_of this (by omega)
        have g2' : Kr p (rd G) 9 s ↔ Kr p (rd (M x2)) 9 s := (g2 s).trans (kr_rd p (M x2) s).symm
        constructor
        · intro h
          exact ⟨(key h.1).mp h.2, g2'.mp h.1⟩
        · intro h
          have hg := g2'.mpr h.2
          exact ⟨hg, (key hg).mpr h.1⟩
theorem ac_d1 (s : Nat → Int) (i : Nat) : ac (fun k => if k = 1 then 1 else 0) 9 s i = s (i + 1) := by
  rw [ac_ext (n := 2) (m := 9) (by omega) (fun k k0 k1 => by rw [if_neg (by omega)])]
  show 0 + (if ((0 : Nat) : Int) = 1 then (1 : Int) else 0) * s (i + 0) + (if ((1 : Nat) : Int) = 1 then (1 : Int) else 0) * s (i + 1) = _
  rw [if_neg (by omega), if_pos (by omega)]; omega
set_option maxHeartbeats 4000000 in
set_option maxRecDepth 100000 in
theorem s_takeCommon {M : tp_M} {p c0 : Int} {m : Nat} (hpm : Pm p) (hF : tgF c0) (hP : M c0 4 = p) (hR : Mo p (rd (M (c0 + 13))) m) (hI : Ro p (rd (M (c0 + 14)))) : ∃ (K : tp_M) (mC : Nat), f_X0_takeCommon c0 M = some K ∧ Mo p (rd (K (c0 + 16))) mC ∧ (∀ s, Kr p (rd (K (c0 + 16))) 9 s ↔ Kr p (rd (M (c0 + 13))) 9 s ∧ ∀ i, p ∣ ac (rd (M (c0 + 14))) 9 s i - s (i + 1)) ∧ ∀ c k, c ≠ c0 + 16 → c ≠ c0 + 17 → K c k = M c k := by
  have hp := pm_2 hpm
  have i14 := rd_inP hI
  generalize hM9 : tp_cp (tp_cp M (c0 + 13) 0 (c0 + 16) 0 9) (c0 + 14) 0 (c0 + 17) 0 9 = M9
  have f9 : ∀ c k, c ≠ c0 + 16 → c ≠ c0 + 17 → M9 c k = M c k := fun c k h1 h2 => by rw [← hM9, cp_out (by omega), cp_out (by omega)]
  have r16 : ∀ k, 0 ≤ k → k < 9 → M9 (c0 + 16) k = M (c0 + 13) k := fun k k0 k1 => by rw [← hM9, cp_out (by omega), cp_in (by omega), show (0 : Int) + (k - 0) = k by omega]
  have r17 : ∀ k, 0 ≤ k → k < 9 → M9 (c0 + 17) k = M (c0 + 14) k := fun k k0 k1 => by rw [← hM9, cp_in (by omega), cp_out (by omega), show (0 : Int) + (k - 0) = k by omega]
  have q1 := i14 1 (by omega) (by omega)
  generalize hM : tp_up M9 (c0 + 17) 1 ((M (c0 + 14) 1 - 1) % p) = M12
  have f12 : ∀ c k, c ≠ c0 + 16 → c ≠ c0 + 17 → M12 c k = M c k := fun c k h1 h2 => by rw [← hM, up_ne (by omega), f9 c k h1 h2]
  have e16 : rd (M12 (c0 + 16)) = rd (M (c0 + 13)) := rd_cong (fun k k0 k1 => by rw [← hM, up_ne (by omega), r16 k k0 k1])
  have e17 : ∀ k, 0 ≤ k → k < 9 → M12 (c0 + 17) k = if k = 1 then (M (c0 + 14) 1 - 1) % p else M (c0 + 14) k := fun k k0 k1 => by
    rw [← hM]
    by_cases c : k = 1
    · rw [if_pos c, up_eq ⟨rfl, c⟩]
    · rw [if_neg c, up_ne (by omega), r17 k k0 k1]
  have o17 : Ro p (rd (M12 (c0 + 17))) := rd_ro (fun k k0 k1 => by
    rw [e17 k k0 k1]
    by_cases c : k = 1
    · rw [if_pos c]; exact ⟨Int.emod_nonneg _ (by omega), Int.emod_lt_of_pos _ (by omega)⟩
    · rw [if_neg c]; exact i14 k k0 k1)
  have dgr := tp_dg_r (rd (M12 (c0 + 17))) 9
  obtain ⟨K, mC, k1, k2, k3, k4⟩ := s_t48 (p := p) (c0 := c0) hpm hF 9 tp_N (c0 + 16) (c0 + 17) 0 M12 m (by unfold tp_N; omega) (Or.inl ⟨rfl, rfl⟩) (by omega) (by omega) (by rw [f12 _ _ (by omega) (by omega)]; exact hP) (by rw [e16]; exact hR) o17 (by omega)
  rw [e16] at k3
  refine ⟨K, mC, ?_, k2, fun s => ?_, fun c k h1 h2 => by rw [k4 c k h1 h2, f12 c k h1 h2]⟩
  · unfold f_X0_takeCommon
    simp only [tp_lt, tp_mp]
    rw [if_pos hF.1, if_pos (by omega), if_pos (by omega), if_pos (by omega), hM9, r17 1 (by omega) (by omega), ho_w (x := M (c0 + 14) 1 - 1) (by omega) (by omega), s_residue0 hF.1 (by rw [f9 _ _ (by omega) (by omega)]; exact hP) hp]
    simp only [Option.bind_some]
    rw [if_pos (by omega), hM]
    exact k1
  · rw [k3]
    have hmd : ∀ i, p ∣ ac (rd (M12 (c0 + 17))) 9 s i - (ac (rd (M (c0 + 14))) 9 s i - s (i + 1)) := fun i => by
      have h1 : p ∣ ac (rd (M12 (c0 + 17))) 9 s i - ac (fun k => rd (M (c0 + 14)) k + (-1) * (if k = 1 then 1 else 0)) 9 s i := ac_mod (fun k hk => by
        rw [rd_in (by omega), rd_in (by omega), e17 k (by omega) (by omega)]
        by_cases c : (k : Int) = 1
        · rw [if_pos c, if_pos c, c]
          exact dvd_of (md_dvd (M (c0 + 14) 1 - 1) p) (by omega)
        · rw [if_neg c, if_neg c]; exact ⟨0, by omega⟩) s i
      rw [ac_add (rd (M (c0 + 14))) (fun k => (-1) * (if k = 1 then 1 else 0)), ac_smul (-1) (fun k => if k = 1 then 1 else 0), ac_d1] at h1
      exact dvd_of h1 (by omega)
    constructor
    · intro h
      refine ⟨h.1, fun i => ?_⟩
      have := Int.dvd_sub (h.2 i) (hmd i)
      exact dvd_of this (by omega)
    · intro h
      refine ⟨h.1, fun i => ?_⟩
      have := Int.dvd_add (hmd i) (h.2 i)
      exact dvd_of this (by omega)
