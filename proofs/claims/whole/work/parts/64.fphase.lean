theorem pw_b {p : Int} (hp : Pm p) {j : Nat} (hj : j ≤ 4) : 1 ≤ p ^ j ∧ p ^ j ≤ 2401 := by
  unfold Pm at hp
  have h : j = 0 ∨ j = 1 ∨ j = 2 ∨ j = 3 ∨ j = 4 := by omega
  rcases hp with rfl | rfl | rfl | rfl <;> rcases h with rfl | rfl | rfl | rfl | rfl <;> decide
def frF (c0 : Int) (M K : tp_M) : Prop := (∀ k, K (c0 + 14) k = M (c0 + 14) k) ∧ ∀ c k, ¬ (c0 ≤ c ∧ c ≤ c0 + 20) → K c k = M c k
theorem frF_trans {c0 : Int} {M K N : tp_M} (h1 : frF c0 M K) (h2 : frF c0 K N) : frF c0 M N := ⟨fun k => by rw [h2.1, h1.1], fun c k hc => by rw [h2.2 c k hc, h1.2 c k hc]⟩
set_option maxHeartbeats 4000000 in
set_option maxRecDepth 100000 in
theorem s_fod77 {M : tp_M} {p c0 : Int} {d : Nat} {l : List Fent} (hpm : Pm p) (hF : tgF c0) (hd : 1 ≤ d ∧ d ≤ 8) (hP : M c0 4 = p) (hl : Fl M c0 l) (hl9 : l.length < 9) (hC : Ro p (rd (M (c0 + 16)))) (hR : Ro p (rd (M (c0 + 13)))) : ∃ K, f_X0_findOfDegree_77 c0 d M = some K ∧ Fl K c0 (l ++ (cfin p d ([], rd (M (c0 + 16)), rd (M (c0 + 13)))).1) ∧ rd (K (c0 + 13)) = (cfin p d ([], rd (M (c0 + 16)), rd (M (c0 + 13)))).2 ∧ K c0 4 = p ∧ frF c0 M K := by
  have t16 := hF.2.2.1 16 (by omega) (by omega) (by omega)
  unfold f_X0_findOfDegree_77 cfin
  rw [s_degreeOf t16.1 t16.2, ← rd_dg]
  simp only [Option.bind_some]
  by_cases c : tp_dg (rd (M (c0 + 16))) 9 = d
  · rw [if_neg (by omega)]
    simp only [if_pos c]
    obtain ⟨K, k1, k2, k3, k4, k5, k6, k7⟩ := s_keep (M := M) (p := p) (c0 := c0) (a := c0 + 16) (i := l.length) (d := d) hpm hF t16.1 t16.2 hP hl.1 (by omega) (by omega) hd hC hR
    rw [k1]
    refine ⟨K, rfl, Fl_app hl hl9 k2 k3 k4 (fun k k0 k1 => by rw [k5 k k0 k1, rd_in ⟨k0, k1⟩]) k7, k6, by rw [k7 _ _ (by omega) (by omega) (by omega) (by omega) (by omega) (by omega)]; exact hP, fun k => k7 _ _ (by omega) (by omega) (by omega) (by omega) (by omega) (by omega), fun c k hc => k7 _ _ (by omega) (by omega) (by omega) (by omega) (by omega) (by omega)⟩
  · rw [if_pos c]
    simp only [if_neg c, List.append_nil]
    exact ⟨M, rfl, hl, rfl, hP, fun k => rfl, fun c k _ => rfl⟩
def oB24 (x0 x1 x2 : Int) : (Int × tp_M → Option tp_M) → Int × tp_M → Option tp_M := fun rec_ u => f_X0_findOfDegree_24B x0 x1 x2 (fun x3' M0' => rec_ (x3', M0')) u.1 u.2
theorem cand_rd {p : Int} (hp : Pm p) {d : Nat} (hd : d ≤ 8) (n : Int) : rd (cand p d n) = cand p d n := rd_id (cand_mo hp hd n).1
set_option maxHeartbeats 4000000 in
set_option maxRecDepth 100000 in
theorem s_fod24 {p c0 Q : Int} {d : Nat} (hpm : Pm p) (hF : tgF c0) (hd : 1 ≤ d ∧ d ≤ 8) (hQ : Q ≤ 2401) : ∀ (m N : Nat) (n : Int) (M : tp_M) (l : List Fent) (mC : Nat), m < N → 0 ≤ n → n + m = Q → M c0 4 = p → Fl M c0 l → Mo p (rd (M (c0 + 16))) mC → Ro p (rd (M (c0 + 13))) → l.length + mC ≤ 8 → ∃ K, tp_lp (oB24 c0 d Q) N (n, M) = some K ∧ Fl K c0 (l ++ (cfin p d (cl p d m n (rd (M (c0 + 16))) (rd (M (c0 + 13))))).1) ∧ rd (K (c0 + 13)) = (cfin p d (cl p d m n (rd (M (c0 + 16))) (rd (M (c0 + 13))))).2 ∧ K c0 4 = p ∧ frF c0 M K := by
  have hp := pm_2 hpm
  have t16 := hF.2.2.1 16 (by omega) (by omega) (by omega)
  have t19 := hF.2.2.1 19 (by omega) (by omega) (by omega)
  intro m
  induction m with
  | zero =>
    intro N n M l mC hN h0 hn hP hl hC hR hlc
    obtain ⟨K, k1, k2, k3, k4, k5⟩ := s_fod77 (M := M) (p := p) (c0 := c0) (d := d) (l := l) hpm hF hd hP hl (by omega) hC.1 hR
    refine ⟨K, ?_, k2, k3, k4, k5⟩
    rw [lp_1 (by omega)]
    simp only [oB24, f_X0_findOfDegree_24B]
    rw [if_pos (by omega)]
    exact k1
  | succ m ih =>
    intro N n M l mC hN h0 hn hP hl hC hR hlc
    have eC := dg_mo hC
    rw [lp_1 (by omega)]
    by_cases c1 : tp_dg (rd (M (c0 + 16))) 9 ≤ d
    · rw [cl_small c1]
      obtain ⟨K, k1, k2, k3, k4, k5⟩ := s_fod77 (M := M) (p := p) (c0 := c0) (d := d) (l := l) hpm hF hd hP hl (by omega) hC.1 hR
      refine ⟨K, ?_, k2, k3, k4, k5⟩
      simp only [oB24, f_X0_findOfDegree_24B]
      rw [if_neg (by omega), s_degreeOf t16.1 t16.2, ← rd_dg]
      simp only [Option.bind_some]
      rw [if_pos c1]
      exact k1
    · generalize hM1 : tp_wr M (c0 + 19) 0 9 (cand p d n) = M1
      have wc : f_X0_writeCandidate c0 n d M = some M1 := by rw [← hM1]; exact s_writeCand hF.1 hP hp (by omega)
      have f1 : ∀ c k, c ≠ c0 + 19 → M1 c k = M c k := fun c k h => by rw [← hM1, wr_out (by omega)]
      have r19 : rd (M1 (c0 + 19)) = cand p d n := by
        rw [← cand_rd hpm hd.2 n]
        exact rd_cong (fun k k0 k1 => by rw [← hM1, wr_in (by omega), show k - 0 = k by omega])
      have r16 : rd (M1 (c0 + 16)) = rd (M (c0 + 16)) := rd_cong (fun k _ _ => f1 _ _ (by omega))
      have r13 : rd (M1 (c0 + 13)) = rd (M (c0 + 13)) := rd_cong (fun k _ _ => f1 _ _ (by omega))
      have hcm := cand_mo hpm hd.2 n
      obtain ⟨N1, e1, e2, e3, e4⟩ := s_splitOff (M := M1) (p := p) (c0 := c0) (a := c0 + 16) (b := c0 + 19) (d := d) hpm hF t16.1 t16.2 t19.1 t19.2 (by rw [f1 _ _ (by omega)]; exact hP) (by omega) (by omega) hd (by rw [r16]; exact hC.1) (by rw [r19]; exact hcm.1)
      rw [r16, r19] at e1 e2 e3
      have g13 : rd (N1 (c0 + 13)) = rd (M (c0 + 13)) := by rw [← r13]; exact rd_cong (fun k _ _ => e4 _ _ (by omega) (by omega))
      have lN1 : Fl N1 c0 l := Fl_fr (by omega) hl (fun c k h => by rw [e4 _ _ (by omega) (by omega), f1 _ _ (by omega)])
      have pN1 : N1 c0 4 = p := by rw [e4 _ _ (by omega) (by omega), f1 _ _ (by omega)]; exact hP
      have fN1 : frF c0 M N1 := ⟨fun k => by rw [e4 _ _ (by omega) (by omega), f1 _ _ (by omega)], fun c k h => by rw [e4 _ _ (by omega) (by omega), f1 _ _ (by omega)]⟩
      by_cases c2 : dvb p (cand p d n) d (rd (M (c0 + 16))) = true
      · have cc : (d : Int) ≤ tp_dg (rd (M (c0 + 16))) 9 ∧ dvb p (cand p d n) d (rd (M (c0 + 16))) = true := ⟨by omega, c2⟩
        rw [if_pos cc] at e1
        have e2' := e2 cc
        have g19 : rd (N1 (c0 + 19)) = cand p d n := by rw [← r19]; exact rd_cong (fun k _ _ => e4 _ _ (by omega) (by omega))
        obtain ⟨K1, k1, k2, k3, k4, k5, k6, k7⟩ := s_keep (M := N1) (p := p) (c0 := c0) (a := c0 + 19) (i := l.length) (d := d) hpm hF t19.1 t19.2 pN1 lN1.1 (by omega) (by omega) hd (by rw [g19]; exact hcm.1) (by rw [g13]; exact hR)
        rw [g19, g13] at k4 k6
        have lK1 : Fl K1 c0 (l ++ [(d, (mt p (cand p d n) d 9 (rd (M (c0 + 13)))).1, cand p d n)]) := Fl_app lN1 (by omega) k2 k3 k4 (fun k k0 k1 => by rw [k5 k k0 k1, ← g19, rd_in ⟨k0, k1⟩]) k7
        have q16 : rd (K1 (c0 + 16)) = qr p (cand p d n) d (rd (M (c0 + 16))) := by
          rw [← e2']; exact rd_cong (fun k _ _ => k7 _ _ (by omega) (by omega) (by omega) (by omega) (by omega) (by omega))
        obtain ⟨K, j1, j2, j3, j4, j5⟩ := ih (N - 1) (n + 1) K1 (l ++ [(d, (mt p (cand p d n) d 9 (rd (M (c0 + 13)))).1, cand p d n)]) (mC - d) (by omega) (by omega) (by omega) (by rw [k7 _ _ (by omega) (by omega) (by omega) (by omega) (by omega) (by omega)]; exact pN1) lK1 (by rw [q16]; exact qr_mo hpm hC (by omega)) (by rw [k6]; exact mt_ro hpm 9 hR) (by rw [List.length_append]; simp only [List.length_cons, List.length_nil]; omega)
        rw [q16, k6] at j2 j3
        have ec : cl p d (m + 1) n (rd (M (c0 + 16))) (rd (M (c0 + 13))) = ((d, (mt p (cand p d n) d 9 (rd (M (c0 + 13)))).1, cand p d n) :: (cl p d m (n + 1) (qr p (cand p d n) d (rd (M (c0 + 16)))) (mt p (cand p d n) d 9 (rd (M (c0 + 13)))).2).1, (cl p d m (n + 1) (qr p (cand p d n) d (rd (M (c0 + 16)))) (mt p (cand p d n) d 9 (rd (M (c0 + 13)))).2).2) := by
          conv => lhs; unfold cl
          rw [if_neg c1, if_pos c2]
        rw [ec, cfin_cons]
        refine ⟨K, ?_, ?_, j3, j4, frF_trans (frF_trans fN1 ⟨fun k => k7 _ _ (by omega) (by omega) (by omega) (by omega) (by omega) (by omega), fun c k hc => k7 _ _ (by omega) (by omega) (by omega) (by omega) (by omega) (by omega)⟩) j5⟩
        · generalize tp_lp (oB24 c0 d Q) (N - 1) = Rc at j1 ⊢
          simp only [oB24, f_X0_findOfDegree_24B, f_X0_findOfDegree_71, tp_lt]
          rw [if_neg (by omega), s_degreeOf t16.1 t16.2, ← rd_dg]
          simp only [Option.bind_some]
          rw [if_neg c1, wc]
          simp only [Option.bind_some]
          rw [e1]
          simp only [Option.bind_some]
          rw [if_neg (by omega), k1]
          simp only [Option.bind_some]
          rw [ho_w (x := n + 1) (by omega) (by omega)]
          exact j1
        · rw [List.append_assoc] at j2
          exact j2
      · have cc : ¬ ((d : Int) ≤ tp_dg (rd (M (c0 + 16))) 9 ∧ dvb p (cand p d n) d (rd (M (c0 + 16))) = true) := fun h => c2 h.2
        rw [if_neg cc] at e1
        have e3' := e3 cc
        have q16 : rd (N1 (c0 + 16)) = rd (M (c0 + 16)) := by rw [e3', r16]
        obtain ⟨K, j1, j2, j3, j4, j5⟩ := ih (N - 1) (n + 1) N1 l mC (by omega) (by omega) (by omega) pN1 lN1 (by rw [q16]; exact hC) (by rw [g13]; exact hR) hlc
        rw [q16, g13] at j2 j3
        have ec : cl p d (m + 1) n (rd (M (c0 + 16))) (rd (M (c0 + 13))) = cl p d m (n + 1) (rd (M (c0 + 16))) (rd (M (c0 + 13))) := by
          conv => lhs; unfold cl
          rw [if_neg c1, if_neg c2]
        rw [ec]
        refine ⟨K, ?_, j2, j3, j4, frF_trans fN1 j5⟩
        generalize tp_lp (oB24 c0 d Q) (N - 1) = Rc at j1 ⊢
        simp only [oB24, f_X0_findOfDegree_24B, f_X0_findOfDegree_71, tp_lt]
        rw [if_neg (by omega), s_degreeOf t16.1 t16.2, ← rd_dg]
        simp only [Option.bind_some]
        rw [if_neg c1, wc]
        simp only [Option.bind_some]
        rw [e1]
        simp only [Option.bind_some]
        rw [if_pos trivial, ho_w (x := n + 1) (by omega) (by omega)]
        exact j1
theorem s_fod {M : tp_M} {p c0 : Int} {d : Nat} (hpm : Pm p) (hF : tgF c0) (hd : 1 ≤ d ∧ d ≤ 4) (hP : M c0 4 = p) : f_X0_findOfDegree c0 d M = f_X0_findOfDegree_24 c0 d (p ^ d) 0 M := by
  unfold f_X0_findOfDegree
  rw [if_pos hF.1]
  unfold f_X0_findOfDegree_4
  have e0 : ((1 : Int), (0 : Int)) = (p ^ 0, ((0 : Nat) : Int)) := by rw [Int.pow_zero]; rfl
  rw [e0]
  refine lp_seq (fun j => (p ^ j, (j : Int))) d (fun j hj rc => ?_) (fun rc => ?_) tp_N (by unfold tp_N; omega)
  · have b := pw_b hpm (j := j + 1) (by omega)
    simp only [f_X0_findOfDegree_4B, tp_lt, hP]
    rw [if_neg (by omega), ← Int.pow_succ, ho_w (x := p ^ (j + 1)) (by omega) (by omega), w_succ (show j < 1000000 by omega)]
  · simp only [f_X0_findOfDegree_4B]
    rw [if_pos (by omega)]
theorem s_findOfDegree {M : tp_M} {p c0 : Int} {d mC : Nat} {l : List Fent} (hpm : Pm p) (hF : tgF c0) (hd : 1 ≤ d ∧ d ≤ 4) (hP : M c0 4 = p) (hl : Fl M c0 l) (hC : Mo p (rd (M (c0 + 16))) mC) (hR : Ro p (rd (M (c0 + 13)))) (hlc : l.length + mC ≤ 8) : ∃ K, f_X0_findOfDegree c0 d M = some K ∧ Fl K c0 (l ++ (cfin p d (cl p d (p ^ d).toNat 0 (rd (M (c0 + 16))) (rd (M (c0 + 13))))).1) ∧ rd (K (c0 + 13)) = (cfin p d (cl p d (p ^ d).toNat 0 (rd (M (c0 + 16))) (rd (M (c0 + 13))))).2 ∧ K c0 4 = p ∧ frF c0 M K := by
  have b := pw_b hpm (j := d) (by omega)
  obtain ⟨K, k1, k2⟩ := s_fod24 (p := p) (c0 := c0) (Q := p ^ d) (d := d) hpm hF (by omega) b.2 (p ^ d).toNat tp_N 0 M l mC (by unfold tp_N; omega) (by omega) (by omega) hP hl hC hR hlc
  refine ⟨K, ?_, k2⟩
  rw [s_fod hpm hF hd hP]
  exact k1
