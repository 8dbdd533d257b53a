theorem dv_cong {p : Int} {g g' : Int → Int} {d : Nat} {N : Int} (hg : ∀ k : Int, 0 ≤ k → k < d → g k = g' k) : ∀ (n : Nat) {c c' : Int → Int}, (d : Int) + n ≤ N → (∀ k, 0 ≤ k → k < N → c k = c' k) → ∀ k, 0 ≤ k → k < N → dv p g d n c k = dv p g' d n c' k := by
  intro n
  induction n with
  | zero => intro c c' _ h; exact h
  | succ n ih =>
    intro c c' hn h
    exact ih (by omega) (e1_cong (a := 0) (b := N) hg h (by omega) (by omega))
theorem qr_ro {p : Int} (hp : Pm p) {g R : Int → Int} {d : Nat} (hR : Ro p R) : Ro p (qr p g d R) := by
  have hp2 := pm_2 hp
  refine ⟨fun k k0 k1 => ?_, fun k hk => ?_⟩
  · unfold qr
    by_cases c : 0 ≤ k ∧ k + d < 9
    · rw [if_pos c]; exact dv_r (by omega) (N := 9) _ hR.1 _ (by omega) (by omega)
    · rw [if_neg c]; omega
  · unfold qr; rw [if_neg (by omega)]
theorem mt_ro {p : Int} (hp : Pm p) {g : Int → Int} {d : Nat} : ∀ (n : Nat) {R : Int → Int}, Ro p R → Ro p (mt p g d n R).2 := by
  intro n
  induction n with
  | zero => intro R h; exact h
  | succ n ih =>
    intro R h
    unfold mt
    by_cases c : (d : Int) ≤ tp_dg R 9 ∧ dvb p g d R = true
    · rw [if_pos c]; exact ih (qr_ro hp h)
    · rw [if_neg c]; exact h
theorem dq_b {p n : Int} (hp : 2 ≤ p) (hn : 0 ≤ n) : ∀ j : Nat, 0 ≤ dq p j n ∧ dq p j n ≤ n := by
  intro j
  induction j with
  | zero => exact ⟨hn, Int.le_refl _⟩
  | succ j ih =>
    show 0 ≤ dq p j n / p ∧ dq p j n / p ≤ n
    have h1 := Int.ediv_nonneg ih.1 (show 0 ≤ p by omega)
    have h2 := Int.ediv_le_self p ih.1
    omega
set_option maxHeartbeats 4000000 in
set_option maxRecDepth 100000 in
theorem s_writeCand {M : tp_M} {p c0 n : Int} {d : Nat} (tg0 : tp_tg c0 = 0) (hP : M c0 4 = p) (hp : 2 ≤ p ∧ p ≤ 7) (hn : 0 ≤ n ∧ n ≤ 2147483647) : f_X0_writeCandidate c0 n d M = some (tp_wr M (c0 + 19) 0 9 (cand p d n)) := by
  unfold f_X0_writeCandidate
  rw [if_pos tg0]
  unfold f_X0_writeCandidate_5
  have e0 : (n, (0 : Int), M) = (dq p 0 n, ((0 : Nat) : Int), tp_wr M (c0 + 19) 0 ((0 : Nat) : Int) (cand p d n)) := by rw [show ((0 : Nat) : Int) = 0 from rfl, wr_zero]; rfl
  rw [e0]
  refine lp_seq (fun j => (dq p j n, (j : Int), tp_wr M (c0 + 19) 0 j (cand p d n))) 9 (fun j hj rc => ?_) (fun rc => ?_) tp_N (by unfold tp_N; omega)
  · have hb := dq_b (p := p) (n := n) hp.1 hn.1 j
    have hb' := dq_b (p := p) (n := n) hp.1 hn.1 (j + 1)
    have r4 : ∀ v, tp_up (tp_wr M (c0 + 19) 0 j (cand p d n)) (c0 + 19) j v c0 4 = p := fun v => by rw [up_ne (by omega), wr_out (by omega)]; exact hP
    have r5 : tp_wr M (c0 + 19) 0 j (cand p d n) c0 4 = p := by rw [wr_out (by omega)]; exact hP
    have u := wr_succ0 M (c0 + 19) j (cand p d n)
    have q : ∀ N : tp_M, f_X10_quotient (dq p j n) p N = some (dq p (j + 1) n) := fun N => by
      unfold f_X10_quotient
      rw [if_pos (by omega), if_neg (by omega), Int.tdiv_eq_ediv_of_nonneg hb.1]
      show some (tp_w (dq p (j + 1) n)) = _
      rw [ho_w (by omega) (by omega)]
    have r : ∀ N : tp_M, f_X10_remainder (dq p j n) p N = some (dq p j n % p) := fun N => by
      unfold f_X10_remainder
      rw [if_pos (by omega), if_neg (by omega), Int.tmod_eq_emod_of_nonneg hb.1]
    have fin : ∀ v, v = cand p d n j → f_X0_writeCandidate_46 (fun x3' x4' M0' => rc (x3', x4', M0')) c0 d (dq p j n) j v j (c0 + 19) (tp_wr M (c0 + 19) 0 j (cand p d n)) = rc (dq p (j + 1) n, ((j + 1 : Nat) : Int), tp_wr M (c0 + 19) 0 ((j + 1 : Nat) : Int) (cand p d n)) := fun v hv => by
      unfold f_X0_writeCandidate_46
      rw [if_pos (by omega)]
      simp only [tp_mp, tp_lt, r4, q, Option.bind_some, w_succ (show j < 1000000 by omega)]
      rw [hv, u]
    simp only [f_X0_writeCandidate_5B, r5, r, Option.bind_some]
    rw [if_neg (by omega)]
    by_cases c1 : (d : Int) ≤ j
    · rw [if_pos c1]
      by_cases c2 : (j : Int) = d
      · rw [if_neg (by omega)]
        exact fin 1 (by unfold cand; rw [if_neg (by omega), if_pos c2])
      · rw [if_pos c2]
        exact fin 0 (by unfold cand; rw [if_neg (by omega), if_neg c2])
    · rw [if_neg c1]
      exact fin _ (by unfold cand; rw [if_pos (by omega), show ((j : Int)).toNat = j by omega])
  · simp only [f_X0_writeCandidate_5B]
    rw [if_pos (by omega)]; rfl
def sB40 (x0 x1 x3 : Int) (M0 : tp_M) : (Int → Option (Int × tp_M)) → Int → Option (Int × tp_M) := fun rec_ u => f_X0_splitOff_40B x0 x1 x3 M0 (fun x4' => rec_ x4') u
theorem s_so40 {M : tp_M} {c0 a : Int} {d : Nat} (hd : d ≤ 8) : ∀ (m N x : Nat), x + m = d → m < N → tp_lp (sB40 c0 a d M) N (x : Int) = if ∀ k : Nat, k < d → x ≤ k → M (c0 + 18) k = 0 then f_X0_splitOff_71 c0 a d M else some (0, M) := by
  intro m
  induction m with
  | zero =>
    intro N x hx hN
    rw [lp_1 (by omega), if_pos (fun k h1 h2 => by omega)]
    simp only [sB40, f_X0_splitOff_40B]
    rw [if_pos (by omega)]
  | succ m ih =>
    intro N x hx hN
    rw [lp_1 (by omega)]
    have key := ih (N - 1) (x + 1) (by omega) (by omega)
    generalize tp_lp (sB40 c0 a d M) (N - 1) = R at key ⊢
    simp only [sB40, f_X0_splitOff_40B, tp_lt]
    rw [if_neg (by omega), if_neg (by omega), if_pos (by omega)]
    by_cases c : M (c0 + 18) x = 0
    · rw [if_pos c, w_succ (show x < 1000000 by omega), key]
      by_cases c2 : ∀ k : Nat, k < d → x + 1 ≤ k → M (c0 + 18) k = 0
      · rw [if_pos c2, if_pos (fun k h1 h2 => by
          by_cases e : k = x
          · rw [e]; exact c
          · exact c2 k h1 (by omega))]
      · rw [if_neg c2, if_neg (fun h => c2 (fun k h1 h2 => h k h1 (by omega)))]
    · rw [if_neg c, if_neg (fun h => c (h x (by omega) (by omega)))]
theorem s_so71 {M : tp_M} {c0 a : Int} {d : Nat} (ha9 : tp_al a = 9) (hne : a ≠ c0 + 18) (hd : d ≤ 8) : f_X0_splitOff_71 c0 a d M = some (1, tp_wr M a 0 9 (fun k => if k + d < 9 then M (c0 + 18) (k + d) else 0)) := by
  unfold f_X0_splitOff_71 f_X0_splitOff_74
  have e0 : ((0 : Int), M) = (((0 : Nat) : Int), tp_wr M a 0 ((0 : Nat) : Int) (fun k => if k + d < 9 then M (c0 + 18) (k + d) else 0)) := by rw [show ((0 : Nat) : Int) = 0 from rfl, wr_zero]
  rw [e0]
  refine lp_seq (fun j => ((j : Int), tp_wr M a 0 j (fun k => if k + d < 9 then M (c0 + 18) (k + d) else 0))) 9 (fun j hj rc => ?_) (fun rc => ?_) tp_N (by unfold tp_N; omega)
  · have u := wr_succ0 M a j (fun k => if k + d < 9 then M (c0 + 18) (k + d) else 0)
    simp only [f_X0_splitOff_74B, f_X0_splitOff_106, tp_lt, tp_mp, ha9]
    rw [ho_w (x := (j : Int) + d) (by omega) (by omega), w_succ (show j < 1000000 by omega), if_neg (by omega)]
    by_cases c : (j : Int) + d < 9
    · rw [if_neg (by omega), if_pos (by omega), if_pos (by omega), wr_out (by omega)]
      simp only [if_pos c] at u
      rw [u]
    · rw [if_pos (by omega), if_pos (by omega)]
      simp only [if_neg c] at u
      rw [u]
  · simp only [f_X0_splitOff_74B]
    rw [if_pos (by omega)]; rfl
set_option maxHeartbeats 4000000 in
set_option maxRecDepth 100000 in
theorem s_splitOff {M : tp_M} {p c0 a b : Int} {d : Nat} (hpm : Pm p) (hF : tgF c0) (tga : tp_tg a = 21) (ha9 : tp_al a = 9) (tgb : tp_tg b = 21) (hb9 : tp_al b = 9) (hP : M c0 4 = p) (hca : a ≠ c0 ∧ a ≠ c0 + 18) (hcb : b ≠ c0 + 18) (hd : 1 ≤ d ∧ d ≤ 8) (hR : Ro p (rd (M a))) (hg : Ro p (rd (M b))) : ∃ N, f_X0_splitOff c0 a b d M = some (if (d : Int) ≤ tp_dg (rd (M a)) 9 ∧ dvb p (rd (M b)) d (rd (M a)) = true then 1 else 0, N) ∧ (((d : Int) ≤ tp_dg (rd (M a)) 9 ∧ dvb p (rd (M b)) d (rd (M a)) = true) → rd (N a) = qr p (rd (M b)) d (rd (M a))) ∧ (¬ ((d : Int) ≤ tp_dg (rd (M a)) 9 ∧ dvb p (rd (M b)) d (rd (M a)) = true) → N a = M a) ∧ ∀ c k, c ≠ a → c ≠ c0 + 18 → N c k = M c k := by
  have hp := pm_2 hpm
  have t18 := hF.2.2.1 18 (by omega) (by omega) (by omega)
  have hfa := rd_inP hR
  have hfb := rd_inP hg
  unfold f_X0_splitOff
  rw [if_pos hF.1, if_pos tga, if_pos tgb, if_neg (by omega), s_degreeOf tga ha9, ← rd_dg]
  simp only [Option.bind_some]
  by_cases c1 : (d : Int) ≤ tp_dg (rd (M a)) 9
  · rw [if_pos c1, if_pos (by rw [ha9]; omega)]
    simp only [tp_mp]
    have r4 : tp_cp M a 0 (c0 + 18) 0 9 c0 4 = p := by rw [cp_out (by omega)]; exact hP
    have rl : ∀ k : Int, 0 ≤ k → k < 9 → tp_cp M a 0 (c0 + 18) 0 9 (c0 + 18) k = rd (M a) k := fun k k0 k1 => by
      rw [cp_in (by omega), rd_in ⟨k0, k1⟩, show (0 : Int) + (k - 0) = k by omega]
    have rb : ∀ k : Int, tp_cp M a 0 (c0 + 18) 0 9 b k = M b k := fun k => cp_out (by omega)
    have ra : ∀ k : Int, tp_cp M a 0 (c0 + 18) 0 9 a k = M a k := fun k => cp_out (by omega)
    have ro : ∀ c k : Int, c ≠ c0 + 18 → tp_cp M a 0 (c0 + 18) 0 9 c k = M c k := fun c k h => cp_out (by omega)
    generalize tp_cp M a 0 (c0 + 18) 0 9 = M8 at *
    have hdv := s_divide (M := M8) (p := p) (c0 := c0) (a := c0 + 18) (b := b) (d := d) (L := 9) hF.1 t18.1 tgb t18.2 (by omega) hb9 r4 hp (by omega) hd.2 (fun k k0 k1 => by rw [rl k k0 (by omega)]; exact hR.1 k k0 (by omega)) (fun k k0 k1 => by rw [rb]; exact hfb k k0 (by omega))
    rw [hdv]
    simp only [Option.bind_some]
    have eD : ∀ k : Int, 0 ≤ k → k < 9 → dv p (M8 b) d (9 - d) (M8 (c0 + 18)) k = dv p (rd (M b)) d (9 - d) (rd (M a)) k := dv_cong (N := 9) (fun k k0 k1 => by rw [rb, rd_in (by omega)]) (9 - d) (by omega) rl
    generalize dv p (M8 b) d (9 - d) (M8 (c0 + 18)) = D at *
    unfold f_X0_splitOff_40
    have h40 := s_so40 (M := tp_row M8 (c0 + 18) D) (c0 := c0) (a := a) (d := d) hd.2 d tp_N 0 (by omega) (by unfold tp_N; omega)
    have h40' : tp_lp (fun rec_ u => f_X0_splitOff_40B c0 a d (tp_row M8 (c0 + 18) D) (fun x4' => rec_ x4') u) tp_N 0 = if ∀ k : Nat, k < d → 0 ≤ k → tp_row M8 (c0 + 18) D (c0 + 18) k = 0 then f_X0_splitOff_71 c0 a d (tp_row M8 (c0 + 18) D) else some (0, tp_row M8 (c0 + 18) D) := h40
    rw [h40']
    by_cases c2 : dvb p (rd (M b)) d (rd (M a)) = true
    · have hz : ∀ k : Nat, k < d → dv p (rd (M b)) d (9 - d) (rd (M a)) k = 0 := of_decide_eq_true c2
      rw [if_pos (fun k h1 _ => by rw [row_eq, eD k (by omega) (by omega)]; exact hz k h1), s_so71 ha9 hca.2 hd.2, if_pos ⟨c1, c2⟩]
      refine ⟨_, rfl, fun _ => ?_, fun h => absurd ⟨c1, c2⟩ h, fun c k h1 h2 => by rw [wr_out (by omega), row_ne h2, ro c k h2]⟩
      funext k
      unfold qr
      by_cases c3 : 0 ≤ k ∧ k < 9
      · rw [rd_in c3, wr_in (by omega), show k - 0 = k by omega]
        by_cases c4 : k + d < 9
        · rw [if_pos c4, if_pos ⟨c3.1, c4⟩, row_eq, eD _ (by omega) (by omega)]
        · rw [if_neg c4, if_neg (by omega)]
      · rw [rd_out c3, if_neg (by omega)]
    · have hz : ¬ ∀ k : Nat, k < d → dv p (rd (M b)) d (9 - d) (rd (M a)) k = 0 := fun h => c2 (decide_eq_true h)
      rw [if_neg (fun h => hz (fun k h1 => by have := h k h1 (by omega); rw [row_eq, eD k (by omega) (by omega)] at this; exact this)), if_neg (fun h => c2 h.2)]
      exact ⟨_, rfl, fun h => absurd h.2 c2, fun _ => by funext k; rw [row_ne hca.2, ra], fun c k h1 h2 => by rw [row_ne h2, ro c k h2]⟩
  · rw [if_neg c1, if_neg (fun h => c1 h.1)]
    exact ⟨M, rfl, fun h => absurd h.1 c1, fun _ => rfl, fun c k _ _ => rfl⟩
def kB60 (x0 x2 x3 : Int) : (tp_M → Option tp_M) → tp_M → Option tp_M := fun rec_ u => f_X0_keep_60B x0 x2 x3 (fun M0' => rec_ M0') u
set_option maxHeartbeats 4000000 in
set_option maxRecDepth 100000 in
theorem s_k60 {p c0 i : Int} {d : Nat} {g : Int → Int} (hpm : Pm p) (hF : tgF c0) (hi : 0 ≤ i ∧ i < 9) (hd : 1 ≤ d ∧ d ≤ 8) (hg : Ro p g) : ∀ (n N : Nat) (M : tp_M), n < N → n ≤ 9 → M c0 4 = p → M (c0 + 2) i = 9 - n → rd (M (c0 + 4 + i)) = g → Ro p (rd (M (c0 + 13))) → ∃ K, tp_lp (kB60 c0 d i) N M = some K ∧ K (c0 + 2) i = 9 - n + (mt p g d n (rd (M (c0 + 13)))).1 ∧ rd (K (c0 + 13)) = (mt p g d n (rd (M (c0 + 13)))).2 ∧ ∀ c k, c ≠ c0 + 13 → c ≠ c0 + 18 → ¬ (c = c0 + 2 ∧ k = i) → K c k = M c k := by
  have t13 := hF.2.2.1 13 (by omega) (by omega) (by omega)
  have ti := hF.2.2.1 (4 + i) (by omega) (by omega) (by omega)
  rw [← Int.add_assoc] at ti
  intro n
  induction n with
  | zero =>
    intro N M hN h9 hP ht hr hR
    refine ⟨M, ?_, by rw [ht]; show _ = 9 - ((0 : Nat) : Int) + ((0 : Nat) : Int); omega, rfl, fun c k _ _ _ => rfl⟩
    rw [lp_1 (by omega)]
    simp only [kB60, f_X0_keep_60B]
    rw [if_pos hi, if_pos (by omega)]
  | succ n ih =>
    intro N M hN h9 hP ht hr hR
    obtain ⟨N1, e1, e2, e3, e4⟩ := s_splitOff (M := M) (p := p) (c0 := c0) (a := c0 + 13) (b := c0 + 4 + i) (d := d) hpm hF t13.1 t13.2 ti.1 ti.2 hP (by omega) (by omega) hd hR (by rw [hr]; exact hg)
    rw [hr] at e1 e2 e3
    rw [lp_1 (by omega)]
    by_cases c : (d : Int) ≤ tp_dg (rd (M (c0 + 13))) 9 ∧ dvb p g d (rd (M (c0 + 13))) = true
    · rw [if_pos c] at e1
      have e2' := e2 c
      have emt : mt p g d (n + 1) (rd (M (c0 + 13))) = ((mt p g d n (qr p g d (rd (M (c0 + 13))))).1 + 1, (mt p g d n (qr p g d (rd (M (c0 + 13))))).2) := by
        conv => lhs; unfold mt
        rw [if_pos c]
      rw [emt]
      have t2 : N1 (c0 + 2) i = M (c0 + 2) i := e4 _ _ (by omega) (by omega)
      obtain ⟨K, k1, k2, k3, k4⟩ := ih (N - 1) (tp_up N1 (c0 + 2) i (9 - (n : Int))) (by omega) (by omega) (by rw [up_ne (by omega), e4 _ _ (by omega) (by omega)]; exact hP) (up_eq ⟨rfl, rfl⟩) (by
        rw [← hr]
        exact rd_cong (fun k k0 k1 => by rw [up_ne (by omega), e4 _ _ (by omega) (by omega)])) (by
        have : rd (tp_up N1 (c0 + 2) i (9 - (n : Int)) (c0 + 13)) = qr p g d (rd (M (c0 + 13))) := by
          rw [← e2']; exact rd_cong (fun k k0 k1 => up_ne (by omega))
        rw [this]; exact qr_ro hpm hR)
      have e5 : rd (tp_up N1 (c0 + 2) i (9 - (n : Int)) (c0 + 13)) = qr p g d (rd (M (c0 + 13))) := by
        rw [← e2']; exact rd_cong (fun k k0 k1 => up_ne (by omega))
      rw [e5] at k2 k3
      refine ⟨K, ?_, by rw [k2]; simp only; omega, k3, fun c k h1 h2 h3 => by rw [k4 c k h1 h2 h3, up_ne h3, e4 c k h1 h2]⟩
      generalize tp_lp (kB60 c0 d i) (N - 1) = Rc at k1 ⊢
      simp only [kB60, f_X0_keep_60B, tp_mp]
      rw [if_pos hi, if_neg (by omega), if_pos hi, e1]
      simp only [Option.bind_some]
      rw [if_neg (by omega), if_pos hi, if_pos hi, t2, ht, ho_w (x := 9 - ((n + 1 : Nat) : Int) + 1) (by omega) (by omega), show (9 : Int) - ((n + 1 : Nat) : Int) + 1 = 9 - (n : Int) by omega]
      exact k1
    · rw [if_neg c] at e1
      have e3' := e3 c
      have emt : mt p g d (n + 1) (rd (M (c0 + 13))) = (0, rd (M (c0 + 13))) := by
        conv => lhs; unfold mt
        rw [if_neg c]
      rw [emt]
      refine ⟨N1, ?_, by rw [e4 _ _ (by omega) (by omega), ht]; simp only; omega, by rw [e3'], fun c k h1 h2 h3 => e4 c k h1 h2⟩
      simp only [kB60, f_X0_keep_60B, tp_mp]
      rw [if_pos hi, if_neg (by omega), if_pos hi, e1]
      simp only [Option.bind_some]
      rw [if_pos trivial]
set_option maxHeartbeats 4000000 in
set_option maxRecDepth 100000 in
theorem s_keep {M : tp_M} {p c0 a i : Int} {d : Nat} (hpm : Pm p) (hF : tgF c0) (tga : tp_tg a = 21) (ha9 : tp_al a = 9) (hP : M c0 4 = p) (hi : M c0 0 = i) (hi2 : 0 ≤ i ∧ i < 9) (ha : a = c0 + 13 ∨ a = c0 + 16 ∨ a = c0 + 19) (hd : 1 ≤ d ∧ d ≤ 8) (hg : Ro p (rd (M a))) (hR : Ro p (rd (M (c0 + 13)))) : ∃ K, f_X0_keep c0 a d M = some K ∧ K c0 0 = i + 1 ∧ K (c0 + 1) i = d ∧ K (c0 + 2) i = (mt p (rd (M a)) d 9 (rd (M (c0 + 13)))).1 ∧ (∀ k, 0 ≤ k → k < 9 → K (c0 + 4 + i) k = M a k) ∧ rd (K (c0 + 13)) = (mt p (rd (M a)) d 9 (rd (M (c0 + 13)))).2 ∧ ∀ c k, ¬ (c = c0 ∧ k = 0) → ¬ (c = c0 + 1 ∧ k = i) → ¬ (c = c0 + 2 ∧ k = i) → c ≠ c0 + 4 + i → c ≠ c0 + 13 → c ≠ c0 + 18 → K c k = M c k := by
  have w := ho_w (x := i + 1) (by omega) (by omega)
  generalize hM : tp_up (tp_up (tp_cp (tp_up M c0 0 (i + 1)) a 0 (c0 + 4 + i) 0 9) (c0 + 1) i d) (c0 + 2) i 0 = M4
  have fr : ∀ c k, ¬ (c = c0 ∧ k = 0) → ¬ (c = c0 + 1 ∧ k = i) → ¬ (c = c0 + 2 ∧ k = i) → c ≠ c0 + 4 + i → M4 c k = M c k := fun c k h1 h2 h3 h4 => by
    rw [← hM, up_ne h3, up_ne h2, cp_out (by omega), up_ne h1]
  have rw9 : ∀ k, 0 ≤ k → k < 9 → M4 (c0 + 4 + i) k = M a k := fun k k0 k1 => by
    rw [← hM, up_ne (by omega), up_ne (by omega), cp_in (by omega), up_ne (by omega), show (0 : Int) + (k - 0) = k by omega]
  have e13 : rd (M4 (c0 + 13)) = rd (M (c0 + 13)) := rd_cong (fun k k0 k1 => fr _ _ (by omega) (by omega) (by omega) (by omega))
  obtain ⟨K, k1, k2, k3, k4⟩ := s_k60 (p := p) (c0 := c0) (i := i) (d := d) (g := rd (M a)) hpm hF hi2 hd hg 9 tp_N M4 (by unfold tp_N; omega) (by omega) (by rw [fr _ _ (by omega) (by omega) (by omega) (by omega)]; exact hP) (by rw [← hM, up_eq ⟨rfl, rfl⟩]; rfl) (rd_cong rw9) (by rw [e13]; exact hR)
  rw [e13] at k2 k3
  refine ⟨K, ?_, by rw [k4 _ _ (by omega) (by omega) (by omega), ← hM, up_ne (by omega), up_ne (by omega), cp_out (by omega), up_eq ⟨rfl, rfl⟩], by rw [k4 _ _ (by omega) (by omega) (by omega), ← hM, up_ne (by omega), up_eq ⟨rfl, rfl⟩], by rw [k2]; omega, fun k k0 k1 => by rw [k4 _ _ (by omega) (by omega) (by omega), rw9 k k0 k1], k3, fun c k h1 h2 h3 h4 h5 h6 => by rw [k4 c k h5 h6 h3, fr c k h1 h2 h3 h4]⟩
  unfold f_X0_keep
  simp only [tp_lt, tp_mp]
  rw [if_pos hF.1, if_pos tga, hi, if_neg (by omega), if_pos hi2.2, if_pos hi2, if_pos (by rw [ha9]; omega), if_pos hi2, if_pos hi2, w, hM]
  exact k1
abbrev Fent := Nat × Nat × (Int → Int)
/-- the factors as they lie there -/
def Fl (M : tp_M) (c0 : Int) (l : List Fent) : Prop := M c0 0 = l.length ∧ ∀ (i : Nat) (x : Fent), l[i]? = some x → M (c0 + 1) i = x.1 ∧ M (c0 + 2) i = x.2.1 ∧ ∀ k, 0 ≤ k → k < 9 → M (c0 + 4 + i) k = x.2.2 k
theorem app_at {l : List Fent} {y x : Fent} {i : Nat} (h : (l ++ [y])[i]? = some x) : (i < l.length ∧ l[i]? = some x) ∨ (i = l.length ∧ x = y) := by
  by_cases c : i < l.length
  · rw [List.getElem?_append_left c] at h; exact Or.inl ⟨c, h⟩
  · rw [List.getElem?_append_right (by omega)] at h
    by_cases e : i = l.length
    · rw [e, Nat.sub_self] at h
      exact Or.inr ⟨e, by simpa using h.symm⟩
    · obtain ⟨j, hj⟩ : ∃ j, i - l.length = j + 1 := ⟨i - l.length - 1, by omega⟩
      rw [hj] at h
      simp at h
theorem lt_of_at {l : List Fent} {x : Fent} {i : Nat} (h : l[i]? = some x) : i < l.length := by
  by_cases c : i < l.length
  · exact c
  · rw [List.getElem?_eq_none (by omega)] at h; cases h
theorem Fl_app {M K : tp_M} {c0 : Int} {l : List Fent} {d t : Nat} {g : Int → Int} (h : Fl M c0 l) (hl : l.length < 9) (h0 : K c0 0 = (l.length : Int) + 1) (h1 : K (c0 + 1) l.length = d) (h2 : K (c0 + 2) l.length = t) (h3 : ∀ k, 0 ≤ k → k < 9 → K (c0 + 4 + l.length) k = g k) (hf : ∀ c k : Int, ¬ (c = c0 ∧ k = 0) → ¬ (c = c0 + 1 ∧ k = l.length) → ¬ (c = c0 + 2 ∧ k = l.length) → c ≠ c0 + 4 + l.length → c ≠ c0 + 13 → c ≠ c0 + 18 → K c k = M c k) : Fl K c0 (l ++ [(d, t, g)]) := by
  refine ⟨by rw [h0, List.length_append]; simp, fun i x hx => ?_⟩
  rcases app_at hx with ⟨hi, hx'⟩ | ⟨hi, rfl⟩
  · obtain ⟨q1, q2, q3⟩ := h.2 i x hx'
    refine ⟨by rw [hf _ _ (by omega) (by omega) (by omega) (by omega) (by omega) (by omega)]; exact q1, by rw [hf _ _ (by omega) (by omega) (by omega) (by omega) (by omega) (by omega)]; exact q2, fun k k0 k1 => by rw [hf _ _ (by omega) (by omega) (by omega) (by omega) (by omega) (by omega)]; exact q3 k k0 k1⟩
  · subst hi
    exact ⟨h1, h2, h3⟩
theorem Fl_fr {M K : tp_M} {c0 : Int} {l : List Fent} (hl : l.length ≤ 9) (h : Fl M c0 l) (hf : ∀ c k, (c = c0 ∧ k = 0) ∨ c = c0 + 1 ∨ c = c0 + 2 ∨ (c0 + 4 ≤ c ∧ c ≤ c0 + 12) → K c k = M c k) : Fl K c0 l := by
  refine ⟨by rw [hf _ _ (by omega)]; exact h.1, fun i x hx => ?_⟩
  have hi := lt_of_at hx
  obtain ⟨q1, q2, q3⟩ := h.2 i x hx
  exact ⟨by rw [hf _ _ (by omega)]; exact q1, by rw [hf _ _ (by omega)]; exact q2, fun k k0 k1 => by rw [hf _ _ (by omega)]; exact q3 k k0 k1⟩
