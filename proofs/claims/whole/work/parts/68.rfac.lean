set_option maxHeartbeats 4000000 in
set_option maxRecDepth 100000 in
theorem s_measures {M : tp_M} : f_X11_measures M = some (tp_up M 483 11 (tp_dg (M 489) 9)) := by
  unfold f_X11_measures
  simp only [tp_mp]
  unfold f_X11_measures_7
  have e0 : ((0 : Int), tp_up M 483 11 (-1)) = (((0 : Nat) : Int), tp_up M 483 11 (tp_dg (M 489) 0)) := rfl
  rw [e0]
  refine lp_seq (fun j => ((j : Int), tp_up M 483 11 (tp_dg (M 489) j))) 9 (fun j hj rc => ?_) (fun rc => ?_) tp_N (by unfold tp_N; omega)
  · have r : tp_up M 483 11 (tp_dg (M 489) j) 489 j = M 489 j := up_ne (by omega)
    have r2 : tp_up M 483 11 (tp_dg (M 489) j) 483 11 = tp_dg (M 489) j := up_eq ⟨rfl, rfl⟩
    have ed : tp_dg (M 489) (j + 1) = if M 489 j = 0 then tp_dg (M 489) j else j := rfl
    simp only [f_X11_measures_7B, f_X11_measures_31, tp_mp, tp_lt, w_succ (show j < 1000000 by omega), up_up]
    rw [if_neg (by omega), if_pos (by omega), ed]
    by_cases c : M 489 j = 0
    · rw [if_pos (r.trans c), if_pos c, r2]
    · rw [if_neg (fun h => c (r.symm.trans h)), if_neg c]
  · simp only [f_X11_measures_7B]
    rw [if_pos (by omega)]
set_option maxHeartbeats 4000000 in
set_option maxRecDepth 100000 in
theorem s_inverse {M : tp_M} {p v : Int} (hpm : Pm p) (hP : M 483 0 = p) (hv : 0 < v ∧ v < p) : f_X11_inverse v M = some (iv p v) := by
  have hp := pm_2 hpm
  obtain ⟨i1, i2, i3, i4⟩ := iv_spec hpm hv
  unfold f_X11_inverse f_X11_inverse_2
  have e0 : (1 : Int) = ((0 : Nat) : Int) + 1 := by omega
  conv => lhs; rw [e0]
  refine lp_seq (fun j => (j : Int) + 1) (iv p v - 1).toNat (fun j hj rc => ?_) (fun rc => ?_) tp_N (by unfold tp_N; omega)
  · have q2 := mul7 (x := (j : Int) + 1) (y := v) (by omega) (by omega)
    have n1 := i4 (j + 1) (by omega) (by omega) (by omega)
    rw [show ((j + 1 : Nat) : Int) = (j : Int) + 1 by omega] at n1
    simp only [f_X11_inverse_2B, tp_lt, hP]
    rw [if_neg (by omega), ho_w (x := ((j : Int) + 1) * v) (by omega) (by omega), Int.tmod_eq_emod_of_nonneg (by omega), if_neg n1, ho_w (x := (j : Int) + 1 + 1) (by omega) (by omega), show (j : Int) + 1 + 1 = ((j + 1 : Nat) : Int) + 1 by omega]
  · have eu : (((iv p v - 1).toNat : Nat) : Int) + 1 = iv p v := by omega
    have q2 := mul7 (x := iv p v) (y := v) (by omega) (by omega)
    simp only [f_X11_inverse_2B, eu, hP]
    rw [if_neg (by omega), ho_w (x := iv p v * v) (by omega) (by omega), Int.tmod_eq_emod_of_nonneg (by omega), if_pos i3]
set_option maxHeartbeats 4000000 in
set_option maxRecDepth 100000 in
theorem s_v40 {M : tp_M} {p d top : Int} {f : Int → Int} {rec_33 : Int → tp_M → Option (Int × tp_M)} (hP : M 483 0 = p) (hp : 2 ≤ p ∧ p ≤ 7) (hd : 0 ≤ d ∧ d ≤ 8) (ht : d ≤ top ∧ top < 9) (hf : inP p f 0 (top + 1)) (hg : inP p (M 493) 0 d) : f_X11_divides_40 rec_33 d top 0 (tp_row M 494 f) = rec_33 (top - 1) (tp_row M 494 (e1 p (M 493) d top f)) := by
  unfold f_X11_divides_40
  obtain ⟨n, en⟩ : ∃ n : Nat, d = n := ⟨d.toNat, by omega⟩
  have e0 : ((0 : Int), tp_row M 494 f) = (((0 : Nat) : Int), tp_row M 494 (e1p p (M 493) d top ((0 : Nat) : Int) f)) := by rw [e1p_0]; rfl
  rw [e0]
  refine lp_seq (fun j => ((j : Int), tp_row M 494 (e1p p (M 493) d top j f))) n (fun j hj rc => ?_) (fun rc => ?_) tp_N (by unfold tp_N; omega)
  · have w := ho_w (x := top - d + j) (by omega) (by omega)
    have w' := ho_w (x := top - d) (by omega) (by omega)
    have r1 : tp_row M 494 (e1p p (M 493) d top j f) 494 (top - d + j) = f (top - d + j) := by
      rw [row_eq]; unfold e1p; rw [if_neg (by omega)]
    have r1' : tp_row M 494 (e1p p (M 493) d top j f) 494 top = f top := by
      rw [row_eq]; unfold e1p; rw [if_neg (by omega)]
    have r2 : tp_row M 494 (e1p p (M 493) d top j f) 493 j = M 493 j := row_ne (by omega)
    have r3 : tp_row M 494 (e1p p (M 493) d top j f) 483 0 = p := by rw [row_ne (by omega)]; exact hP
    have q1 := hf (top - d + j) (by omega) (by omega)
    have q2 := hf top (by omega) (by omega)
    have q3 := hg j (by omega) (by omega)
    have q4 := mul7 (x := f top) (y := M 493 j) (by omega) (by omega)
    simp only [f_X11_divides_40B, tp_lt, tp_mp, w', w, w_succ (show j < 1000000 by omega), r1, r1', r2, s_residue1 r3 hp, Option.bind_some, row_up]
    rw [ho_w (x := f top * M 493 j) (by omega) (by omega), ho_w (x := f (top - d + j) - f top * M 493 j) (by omega) (by omega), e1p_s]
    repeat (first | rw [if_pos (by omega)] | rw [if_neg (by omega)] | simp only [Option.bind_some, not_true_eq_false, not_false_eq_true, if_true, if_false])
  · simp only [f_X11_divides_40B, tp_lt]
    rw [if_pos (by omega), ho_w (by omega) (by omega), e1p_d en]
    rfl
def vB33 (x1 : Int) : (Int × tp_M → Option (Int × tp_M)) → Int × tp_M → Option (Int × tp_M) := fun rec_ u => f_X11_divides_33B x1 (fun x2' M0' => rec_ (x2', M0')) u.1 u.2
set_option maxHeartbeats 4000000 in
set_option maxRecDepth 100000 in
theorem s_v33 {M : tp_M} {p : Int} {d : Nat} (hP : M 483 0 = p) (hp : 2 ≤ p ∧ p ≤ 7) (hd : d ≤ 8) (hg : inP p (M 493) 0 d) : ∀ (n N : Nat) (f : Int → Int), n < N → d + n ≤ 9 → inP p f 0 ((d + n : Nat) : Int) → tp_lp (vB33 d) N ((d : Int) + n - 1, tp_row M 494 f) = f_X11_divides_100 d 1 0 (tp_row M 494 (dv p (M 493) d n f)) := by
  intro n
  induction n with
  | zero =>
    intro N f hN hn hf
    rw [lp_1 (by omega)]
    simp only [vB33, f_X11_divides_33B]
    rw [if_pos (by omega)]
    rfl
  | succ n ih =>
    intro N f hN hn hf
    have hf1 : inP p f 0 ((d : Int) + n + 1) := fun k k0 k1 => hf k k0 (by omega)
    have key := ih (N - 1) (e1 p (M 493) d ((d + n : Nat) : Int) f) (by omega) (by omega) (e1_in (by omega) (fun k k0 k1 => hf k k0 (by omega)))
    have et2 : (((d + n : Nat)) : Int) = (d : Int) + n := by omega
    rw [et2] at key
    rw [lp_1 (by omega)]
    generalize tp_lp (vB33 d) (N - 1) = R at key ⊢
    have et : (d : Int) + ((n + 1 : Nat) : Int) - 1 = (d : Int) + n := by omega
    rw [et]
    have e40 := s_v40 (M := M) (p := p) (d := d) (top := (d : Int) + n) (f := f) (rec_33 := fun x2' M0' => R (x2', M0')) hP hp (by omega) (by omega) hf1 hg
    simp only [vB33, f_X11_divides_33B]
    rw [if_neg (by omega), e40]
    show _ = f_X11_divides_100 d 1 0 (tp_row M 494 (dv p (M 493) d n (e1 p (M 493) d ((d + n : Nat) : Int) f)))
    rw [et2]
    exact key
theorem s_v100 {M : tp_M} {d : Nat} (hd : d ≤ 8) : f_X11_divides_100 d 1 0 M = f_X11_divides_132 d (if ∀ k : Nat, k < d → M 494 k = 0 then 1 else 0) 0 M := by
  unfold f_X11_divides_100
  have e0 : ((1 : Int), (0 : Int)) = ((if ∀ k : Nat, k < 0 → M 494 k = 0 then (1 : Int) else 0), ((0 : Nat) : Int)) := by rw [if_pos (fun k h => by omega)]; rfl
  rw [e0]
  refine lp_seq (fun j => ((if ∀ k : Nat, k < j → M 494 k = 0 then (1 : Int) else 0), (j : Int))) d (fun j hj rc => ?_) (fun rc => ?_) tp_N (by unfold tp_N; omega)
  · simp only [f_X11_divides_100B, f_X11_divides_122, f_X11_divides_123, tp_lt, w_succ (show j < 1000000 by omega)]
    rw [if_neg (by omega)]
    by_cases c1 : ∀ k : Nat, k < j → M 494 k = 0
    · rw [if_pos c1, if_neg (by omega), if_pos (by omega)]
      by_cases c2 : M 494 j = 0
      · rw [if_neg (by omega), if_pos (fun k h => by
          by_cases e : k = j
          · rw [e]; exact c2
          · exact c1 k (by omega))]
      · rw [if_pos c2, if_neg (fun h => c2 (h j (by omega)))]
    · rw [if_neg c1, if_pos rfl, if_neg (fun h => c1 (fun k hk => h k (by omega)))]
  · simp only [f_X11_divides_100B]
    rw [if_pos (by omega)]
theorem s_v132n {M : tp_M} {d m : Nat} (hm : M 483 11 = m) (hm8 : m ≤ 8) : f_X11_divides_132 d 0 0 M = some (0, M) := by
  unfold f_X11_divides_132
  rw [lp_1 (by unfold tp_N; omega)]
  simp only [f_X11_divides_132B, f_X11_divides_178, tp_mp, hm]
  have e : tp_up M 483 11 (tp_w ((m : Int) - 0)) = M := by
    rw [ho_w (by omega) (by omega)]
    funext x y
    by_cases c : x = 483 ∧ y = 11
    · rw [up_eq c, c.1, c.2, hm]; omega
    · rw [up_ne c]
  rw [e, if_neg (by omega)]
  rfl
set_option maxHeartbeats 4000000 in
set_option maxRecDepth 100000 in
theorem s_v132y {M : tp_M} {d m : Nat} (hm : M 483 11 = m) (hm8 : m ≤ 8) (hd : d ≤ m) : f_X11_divides_132 d 1 0 M = some (1, tp_up (tp_wr M 489 0 ((m : Int) + 1) (fun k => if (m : Int) < k + d then 0 else M 494 (k + d))) 483 11 ((m : Int) - d)) := by
  unfold f_X11_divides_132
  have e0 : ((0 : Int), M) = (((0 : Nat) : Int), tp_wr M 489 0 ((0 : Nat) : Int) (fun k => if (m : Int) < k + d then 0 else M 494 (k + d))) := by rw [show ((0 : Nat) : Int) = 0 from rfl, wr_zero]
  rw [e0]
  refine lp_seq (fun j => ((j : Int), tp_wr M 489 0 j (fun k => if (m : Int) < k + d then 0 else M 494 (k + d)))) (m + 1) (fun j hj rc => ?_) (fun rc => ?_) tp_N (by unfold tp_N; omega)
  · have u := wr_succ0 M 489 j (fun k => if (m : Int) < k + d then 0 else M 494 (k + d))
    have r : tp_wr M 489 0 j (fun k => if (m : Int) < k + d then 0 else M 494 (k + d)) 483 11 = m := by rw [wr_out (by omega)]; exact hm
    simp only [f_X11_divides_132B, f_X11_divides_171, tp_mp, tp_lt, r]
    rw [if_neg (by omega), if_neg (by omega), ho_w (x := (j : Int) + d) (by omega) (by omega), w_succ (show j < 1000000 by omega)]
    by_cases c : (m : Int) < (j : Int) + d
    · rw [if_pos c, if_pos (by omega)]
      simp only [if_pos c] at u
      rw [u]
    · rw [if_neg c, if_pos (by omega), if_pos (by omega), wr_out (x := 494) (by omega)]
      simp only [if_neg c] at u
      rw [u]
  · have r : tp_wr M 489 0 ((m + 1 : Nat) : Int) (fun k => if (m : Int) < k + d then 0 else M 494 (k + d)) 483 11 = m := by rw [wr_out (by omega)]; exact hm
    simp only [f_X11_divides_132B, f_X11_divides_178, tp_mp, r]
    rw [if_pos (by omega), if_neg (show ¬ (1 : Int) = 0 by decide), if_pos (Or.inr trivial), ho_w (x := (m : Int) - d) (by omega) (by omega), show ((m + 1 : Nat) : Int) = (m : Int) + 1 by omega]
set_option maxHeartbeats 4000000 in
set_option maxRecDepth 100000 in
theorem s_divides {M : tp_M} {p : Int} {d m : Nat} (hpm : Pm p) (hP : M 483 0 = p) (hd : 1 ≤ d ∧ d ≤ m) (hT : Mo p (rd (M 493)) d) (hR : Mo p (rd (M 489)) m) (hm : M 483 11 = m) : ∃ N, f_X11_divides d M = some (if dvb p (rd (M 493)) d (rd (M 489)) = true then 1 else 0, N) ∧ (dvb p (rd (M 493)) d (rd (M 489)) = true → rd (N 489) = qr p (rd (M 493)) d (rd (M 489)) ∧ N 483 11 = ((m - d : Nat) : Int)) ∧ (¬ dvb p (rd (M 493)) d (rd (M 489)) = true → N 489 = M 489 ∧ N 483 11 = m) ∧ ∀ c k, c ≠ 489 → c ≠ 494 → ¬ (c = 483 ∧ k = 11) → N c k = M c k := by
  have hp := pm_2 hpm
  have hm8 := hR.2.1
  have iR := rd_inP hR.1
  have iT := rd_inP hT.1
  have hcopy : f_X11_divides d M = f_X11_divides_33 d m (tp_wr M 494 0 ((m : Int) + 1) (M 489)) := by
    unfold f_X11_divides f_X11_divides_2
    have e0 : ((0 : Int), M) = (((0 : Nat) : Int), tp_wr M 494 0 ((0 : Nat) : Int) (M 489)) := by rw [show ((0 : Nat) : Int) = 0 from rfl, wr_zero]
    rw [e0]
    refine lp_seq (fun j => ((j : Int), tp_wr M 494 0 j (M 489))) (m + 1) (fun j hj rc => ?_) (fun rc => ?_) tp_N (by unfold tp_N; omega)
    · have u := wr_succ0 M 494 j (M 489)
      have r : tp_wr M 494 0 j (M 489) 483 11 = m := by rw [wr_out (by omega)]; exact hm
      simp only [f_X11_divides_2B, tp_mp, tp_lt, r]
      rw [if_neg (by omega), if_pos (by omega), if_pos (by omega), wr_out (x := 489) (by omega), u, w_succ (show j < 1000000 by omega)]
    · have r : tp_wr M 494 0 ((m + 1 : Nat) : Int) (M 489) 483 11 = m := by rw [wr_out (by omega)]; exact hm
      simp only [f_X11_divides_2B, tp_lt, r]
      rw [if_pos (by omega), show ((m + 1 : Nat) : Int) = (m : Int) + 1 by omega]
  have erow : tp_wr M 494 0 ((m : Int) + 1) (M 489) = tp_row M 494 (fun k => if 0 ≤ k ∧ k < (m : Int) + 1 then M 489 k else M 494 k) := by
    funext x y
    unfold tp_row
    by_cases c : x = 494
    · rw [if_pos c]
      show tp_wr M 494 0 ((m : Int) + 1) (M 489) x y = if 0 ≤ y ∧ y < (m : Int) + 1 then M 489 y else M 494 y
      by_cases c2 : 0 ≤ y ∧ y < (m : Int) + 1
      · rw [if_pos c2, wr_in (by omega), show y - 0 = y by omega]
      · rw [if_neg c2, wr_out (by omega), c]
    · rw [if_neg c, wr_out (by omega)]
  generalize hf : (fun k : Int => if 0 ≤ k ∧ k < (m : Int) + 1 then M 489 k else M 494 k) = f at erow
  have fk : ∀ k : Int, 0 ≤ k → k < (m : Int) + 1 → f k = rd (M 489) k := fun k k0 k1 => by
    rw [← hf]; simp only; rw [if_pos ⟨k0, k1⟩, rd_in (by omega)]
  have h33 := s_v33 (M := M) (p := p) (d := d) hP hp (by omega) (fun k k0 k1 => iT k k0 (by omega)) (m + 1 - d) tp_N f (by unfold tp_N; omega) (by omega) (fun k k0 k1 => by rw [fk k k0 (by omega)]; exact hR.1.1 k k0 (by omega))
  rw [show (d : Int) + ((m + 1 - d : Nat) : Int) - 1 = m by omega] at h33
  have eD : ∀ k : Int, 0 ≤ k → k < (m : Int) + 1 → dv p (M 493) d (m + 1 - d) f k = dv p (rd (M 493)) d (9 - d) (rd (M 489)) k := fun k k0 k1 => by
    rw [dv_top hR hd.2]
    exact dv_cong (N := (m : Int) + 1) (fun k k0 k1 => by rw [rd_in (by omega)]) (m + 1 - d) (by omega) fk k k0 k1
  generalize dv p (M 493) d (m + 1 - d) f = D at h33 eD
  have hmD : tp_row M 494 D 483 11 = m := by rw [row_ne (by omega)]; exact hm
  have start : f_X11_divides d M = f_X11_divides_132 d (if ∀ k : Nat, k < d → tp_row M 494 D 494 k = 0 then 1 else 0) 0 (tp_row M 494 D) := by
    rw [hcopy, erow]
    unfold f_X11_divides_33
    refine Eq.trans h33 ?_
    exact s_v100 (by omega)
  rw [start]
  by_cases c2 : dvb p (rd (M 493)) d (rd (M 489)) = true
  · have hz : ∀ k : Nat, k < d → dv p (rd (M 493)) d (9 - d) (rd (M 489)) k = 0 := of_decide_eq_true c2
    rw [if_pos (fun k h1 => by rw [row_eq, eD k (by omega) (by omega)]; exact hz k h1), s_v132y hmD hm8 hd.2, if_pos c2]
    refine ⟨_, rfl, fun _ => ⟨?_, by rw [up_eq ⟨rfl, rfl⟩]; omega⟩, fun h => absurd c2 h, fun c k h1 h2 h3 => by rw [up_ne h3, wr_out (by omega), row_ne h2]⟩
    funext k
    unfold qr
    by_cases c3 : 0 ≤ k ∧ k < 9
    · rw [rd_in c3, up_ne (by omega)]
      by_cases c5 : k < (m : Int) + 1
      · rw [wr_in (by omega), show k - 0 = k by omega]
        by_cases c4 : (m : Int) < k + d
        · rw [if_pos c4]
          by_cases c6 : 0 ≤ k ∧ k + d < 9
          · rw [if_pos c6, dv_top hR hd.2, dv_high _ _ _ _ _ _ (by omega), hR.2.2.2 _ c4]
          · rw [if_neg c6]
        · rw [if_neg c4, if_pos (by omega), row_eq, eD _ (by omega) (by omega)]
      · rw [wr_out (by omega), row_ne (by omega)]
        have h1 := hR.2.2.2 k (by omega)
        rw [rd_in c3] at h1
        rw [h1]
        by_cases c6 : 0 ≤ k ∧ k + d < 9
        · rw [if_pos c6, dv_top hR hd.2, dv_high _ _ _ _ _ _ (by omega), hR.2.2.2 _ (by omega)]
        · rw [if_neg c6]
    · rw [rd_out c3, if_neg (by omega)]
  · have hz : ¬ ∀ k : Nat, k < d → dv p (rd (M 493)) d (9 - d) (rd (M 489)) k = 0 := fun h => c2 (decide_eq_true h)
    rw [if_neg (fun h => hz (fun k h1 => by have := h k h1; rw [row_eq, eD k (by omega) (by omega)] at this; exact this)), s_v132n hmD hm8, if_neg c2]
    exact ⟨_, rfl, fun h => absurd h c2, fun _ => ⟨by funext k; rw [row_ne (by omega)], hmD⟩, fun c k h1 h2 h3 => row_ne h2⟩
set_option maxHeartbeats 4000000 in
set_option maxRecDepth 100000 in
theorem s_laysTrial {M : tp_M} {p n : Int} {d : Nat} (hP : M 483 0 = p) (hp : 2 ≤ p ∧ p ≤ 7) (hn : 0 ≤ n ∧ n ≤ 2147483647) : f_X11_laysTrial n d M = some (tp_wr M 493 0 9 (cand p d n)) := by
  unfold f_X11_laysTrial f_X11_laysTrial_5
  have e0 : (n, (0 : Int), M) = (dq p 0 n, ((0 : Nat) : Int), tp_wr M 493 0 ((0 : Nat) : Int) (cand p d n)) := by rw [show ((0 : Nat) : Int) = 0 from rfl, wr_zero]; rfl
  rw [e0]
  refine lp_seq (fun j => (dq p j n, (j : Int), tp_wr M 493 0 j (cand p d n))) 9 (fun j hj rc => ?_) (fun rc => ?_) tp_N (by unfold tp_N; omega)
  · have hb := dq_b (p := p) (n := n) hp.1 hn.1 j
    have hb' := dq_b (p := p) (n := n) hp.1 hn.1 (j + 1)
    have r4 : ∀ v, tp_up (tp_wr M 493 0 j (cand p d n)) 493 j v 483 0 = p := fun v => by rw [up_ne (by omega), wr_out (by omega)]; exact hP
    have r5 : tp_wr M 493 0 j (cand p d n) 483 0 = p := by rw [wr_out (by omega)]; exact hP
    have u := wr_succ0 M 493 j (cand p d n)
    have q : tp_w (Int.tdiv (dq p j n) p) = dq p (j + 1) n := by
      rw [Int.tdiv_eq_ediv_of_nonneg hb.1]
      show tp_w (dq p (j + 1) n) = _
      rw [ho_w (by omega) (by omega)]
    have fin : ∀ v, v = cand p d n j → f_X11_laysTrial_44 (fun x3' x4' M0' => rc (x3', x4', M0')) d (dq p j n) j v j (tp_wr M 493 0 j (cand p d n)) = rc (dq p (j + 1) n, ((j + 1 : Nat) : Int), tp_wr M 493 0 ((j + 1 : Nat) : Int) (cand p d n)) := fun v hv => by
      unfold f_X11_laysTrial_44
      rw [if_pos (by omega)]
      simp only [tp_mp, tp_lt, r4, q, w_succ (show j < 1000000 by omega)]
      rw [if_neg (by omega), hv, u]
    simp only [f_X11_laysTrial_5B, r5]
    rw [if_neg (by omega)]
    by_cases c1 : (d : Int) ≤ j
    · rw [if_pos c1]
      by_cases c2 : (j : Int) = d
      · rw [if_neg (by omega)]
        exact fin 1 (by unfold cand; rw [if_neg (by omega), if_pos c2])
      · rw [if_pos c2]
        exact fin 0 (by unfold cand; rw [if_neg (by omega), if_neg c2])
    · rw [if_neg c1, if_neg (by omega), Int.tmod_eq_emod_of_nonneg hb.1]
      exact fin _ (by unfold cand; rw [if_pos (by omega), show ((j : Int)).toNat = j by omega])
  · simp only [f_X11_laysTrial_5B]
    rw [if_pos (by omega)]; rfl
set_option maxHeartbeats 4000000 in
set_option maxRecDepth 100000 in
theorem s_addsFactor {M : tp_M} {d t : Int} {i : Nat} (hi : M 483 12 = i) (h9 : i < 9) : f_X11_addsFactor d t M = some (tp_up (tp_wr (tp_up (tp_up M 490 i d) 491 i t) 492 (9 * (i : Int)) 9 (M 493)) 483 12 ((i : Int) + 1)) := by
  unfold f_X11_addsFactor
  simp only [tp_mp]
  rw [hi, if_pos (by omega), up_ne (c' := 483) (by omega), hi, if_pos (by omega)]
  unfold f_X11_addsFactor_22
  generalize hM2 : tp_up (tp_up M 490 i d) 491 i t = M2
  have i2 : M2 483 12 = i := by rw [← hM2, up_ne (by omega), up_ne (by omega)]; exact hi
  have t2 : ∀ k, M2 493 k = M 493 k := fun k => by rw [← hM2, up_ne (by omega), up_ne (by omega)]
  have e0 : ((0 : Int), M2) = (((0 : Nat) : Int), tp_wr M2 492 (9 * (i : Int)) ((0 : Nat) : Int) (M 493)) := by rw [show ((0 : Nat) : Int) = 0 from rfl, wr_zero]
  rw [e0]
  refine lp_seq (fun j => ((j : Int), tp_wr M2 492 (9 * (i : Int)) j (M 493))) 9 (fun j hj rc => ?_) (fun rc => ?_) tp_N (by unfold tp_N; omega)
  · have u := wr_succ M2 492 (9 * (i : Int)) j (M 493) (by omega)
    rw [show (j : Int) + 1 = ((j + 1 : Nat) : Int) by omega] at u
    have r : tp_wr M2 492 (9 * (i : Int)) j (M 493) 483 12 = i := by rw [wr_out (by omega)]; exact i2
    simp only [f_X11_addsFactor_22B, tp_mp, tp_lt, r]
    rw [if_neg (by omega), if_pos (by omega), ho_w (x := 9 * (i : Int)) (by omega) (by omega), ho_w (x := 9 * (i : Int) + j) (by omega) (by omega), if_pos (by omega), wr_out (x := 493) (by omega), t2, u, w_succ (show j < 1000000 by omega)]
  · have r : tp_wr M2 492 (9 * (i : Int)) ((9 : Nat) : Int) (M 493) 483 12 = i := by rw [wr_out (by omega)]; exact i2
    simp only [f_X11_addsFactor_22B, tp_mp, r]
    rw [if_pos (by omega), ho_w (x := (i : Int) + 1) (by omega) (by omega)]
    rfl
def Rl (M : tp_M) (l : List Fent) : Prop := M 483 12 = l.length ∧ ∀ (i : Nat) (x : Fent), l[i]? = some x → M 490 i = x.1 ∧ M 491 i = x.2.1 ∧ ∀ k, 0 ≤ k → k < 9 → M 492 (9 * i + k) = x.2.2 k
theorem Rl_fr {M K : tp_M} {l : List Fent} (h : Rl M l) (hf : ∀ c k, (c = 483 ∧ k = 12) ∨ c = 490 ∨ c = 491 ∨ c = 492 → K c k = M c k) : Rl K l := by
  refine ⟨by rw [hf _ _ (by omega)]; exact h.1, fun i x hx => ?_⟩
  obtain ⟨q1, q2, q3⟩ := h.2 i x hx
  exact ⟨by rw [hf _ _ (by omega)]; exact q1, by rw [hf _ _ (by omega)]; exact q2, fun k k0 k1 => by rw [hf _ _ (by omega)]; exact q3 k k0 k1⟩
theorem s_addsF {M : tp_M} {d t : Nat} {g : Int → Int} {l : List Fent} (hl : Rl M l) (h9 : l.length < 9) (hg : rd (M 493) = rd g) : ∃ K, f_X11_addsFactor d t M = some K ∧ Rl K (l ++ [(d, t, g)]) ∧ ∀ c k, ¬ (c = 483 ∧ k = 12) → c ≠ 490 → c ≠ 491 → c ≠ 492 → K c k = M c k := by
  refine ⟨_, s_addsFactor hl.1 h9, ⟨by rw [up_eq ⟨rfl, rfl⟩, List.length_append]; simp, fun i x hx => ?_⟩, fun c k h1 h2 h3 h4 => by rw [up_ne h1, wr_out (by omega), up_ne (by omega), up_ne (by omega)]⟩
  rcases app_at hx with ⟨hi, hx'⟩ | ⟨hi, rfl⟩
  · obtain ⟨q1, q2, q3⟩ := hl.2 i x hx'
    refine ⟨by rw [up_ne (by omega), wr_out (by omega), up_ne (by omega), up_ne (by omega)]; exact q1, by rw [up_ne (by omega), wr_out (by omega), up_ne (by omega), up_ne (by omega)]; exact q2, fun k k0 k1 => by rw [up_ne (by omega), wr_out (by omega), up_ne (by omega), up_ne (by omega)]; exact q3 k k0 k1⟩
  · subst hi
    refine ⟨by rw [up_ne (by omega), wr_out (by omega), up_ne (by omega), up_eq ⟨rfl, rfl⟩], by rw [up_ne (by omega), wr_out (by omega), up_eq ⟨rfl, rfl⟩], fun k k0 k1 => ?_⟩
    rw [up_ne (by omega), wr_in (by omega), show 9 * (l.length : Int) + k - 9 * (l.length : Int) = k by omega]
    have := congrFun hg k
    rw [rd_in ⟨k0, k1⟩, rd_in ⟨k0, k1⟩] at this
    exact this
def aB106 (rec_62 : Int → Int → tp_M → Option tp_M) (rec_82 : Int → tp_M → Option tp_M) (x2 x3 x4 : Int) : (Int × tp_M → Option tp_M) → Int × tp_M → Option tp_M := fun rec_ u => f_X11_takesApart_106B rec_62 rec_82 x2 x3 x4 (fun x5' M0' => rec_ (x5', M0')) u.1 u.2
set_option maxHeartbeats 4000000 in
set_option maxRecDepth 100000 in
theorem s_a106 {p x2 x4 : Int} {d : Nat} {g : Int → Int} {rec_62 : Int → Int → tp_M → Option tp_M} {rec_82 : Int → tp_M → Option tp_M} (hpm : Pm p) (hd : 1 ≤ d) (hg : Mo p g d) : ∀ (n N x5 : Nat) (M : tp_M) (m : Nat), n < N → x5 + n ≤ 20 → M 483 0 = p → rd (M 493) = g → Mo p (rd (M 489)) m → M 483 11 = m → m < n → ∃ K, tp_lp (aB106 rec_62 rec_82 x2 d x4) N ((x5 : Int), M) = f_X11_takesApart_128 rec_62 rec_82 x2 d x4 ((x5 + (mt p g d n (rd (M 489))).1 : Nat) : Int) K ∧ rd (K 489) = (mt p g d n (rd (M 489))).2 ∧ K 483 11 = tp_dg (mt p g d n (rd (M 489))).2 9 ∧ ∀ c k, c ≠ 489 → c ≠ 494 → ¬ (c = 483 ∧ k = 11) → K c k = M c k := by
  intro n
  induction n with
  | zero => intro N x5 M m _ _ _ _ _ _ h; omega
  | succ n ih =>
    intro N x5 M m hN hx hP h93 hR hm hmn
    have e := dg_mo hR
    rw [lp_1 (by omega)]
    by_cases c1 : m < d
    · have emt : mt p g d (n + 1) (rd (M 489)) = (0, rd (M 489)) := by
        conv => lhs; unfold mt
        rw [if_neg (fun h => by omega)]
      rw [emt]
      refine ⟨M, ?_, rfl, by rw [hm, e], fun c k _ _ _ => rfl⟩
      simp only [aB106, f_X11_takesApart_106B, hm]
      rw [if_pos (by omega)]
      rfl
    · obtain ⟨N1, a1, a2, a3, a4⟩ := s_divides (M := M) (p := p) (d := d) (m := m) hpm hP ⟨hd, by omega⟩ (by rw [h93]; exact hg) hR hm
      rw [h93] at a1 a2 a3
      by_cases c2 : dvb p g d (rd (M 489)) = true
      · obtain ⟨b1, b2⟩ := a2 c2
        rw [if_pos c2] at a1
        have emt : mt p g d (n + 1) (rd (M 489)) = ((mt p g d n (qr p g d (rd (M 489)))).1 + 1, (mt p g d n (qr p g d (rd (M 489)))).2) := by
          conv => lhs; unfold mt
          rw [if_pos ⟨by omega, c2⟩]
        rw [emt]
        obtain ⟨K, k1, k2, k3, k4⟩ := ih (N - 1) (x5 + 1) N1 (m - d) (by omega) (by omega) (by rw [a4 _ _ (by omega) (by omega) (by omega)]; exact hP) (by rw [← h93]; exact rd_cong (fun k _ _ => a4 _ _ (by omega) (by omega) (by omega))) (by rw [b1]; exact qr_mo hpm hR (by omega)) b2 (by omega)
        rw [b1] at k1 k2 k3
        refine ⟨K, ?_, k2, k3, fun c k h1 h2 h3 => by rw [k4 c k h1 h2 h3, a4 c k h1 h2 h3]⟩
        generalize tp_lp (aB106 rec_62 rec_82 x2 d x4) (N - 1) = Rc at k1 ⊢
        simp only [aB106, f_X11_takesApart_106B, hm, tp_lt]
        rw [if_neg (by omega), a1]
        simp only [Option.bind_some]
        rw [if_neg (by omega), w_succ (show x5 < 1000000 by omega)]
        rw [show x5 + ((mt p g d n (qr p g d (rd (M 489)))).1 + 1) = x5 + 1 + (mt p g d n (qr p g d (rd (M 489)))).1 by omega]
        exact k1
      · obtain ⟨b1, b2⟩ := a3 c2
        rw [if_neg c2] at a1
        have emt : mt p g d (n + 1) (rd (M 489)) = (0, rd (M 489)) := by
          conv => lhs; unfold mt
          rw [if_neg (fun h => c2 h.2)]
        rw [emt]
        refine ⟨N1, ?_, by rw [b1], by rw [b2, e], a4⟩
        simp only [aB106, f_X11_takesApart_106B, hm]
        rw [if_neg (by omega), a1]
        simp only [Option.bind_some]
        rw [if_pos trivial]
        rfl
def frR (M K : tp_M) : Prop := ∀ c k, ¬ (489 ≤ c ∧ c ≤ 494) → ¬ (c = 483 ∧ (k = 11 ∨ k = 12)) → K c k = M c k
def aB82 (rec_62 : Int → Int → tp_M → Option tp_M) (x2 x3 : Int) : (Int × tp_M → Option tp_M) → Int × tp_M → Option tp_M := fun rec_ u => f_X11_takesApart_82B rec_62 x2 x3 (fun x4' M0' => rec_ (x4', M0')) u.1 u.2
set_option maxHeartbeats 4000000 in
set_option maxRecDepth 100000 in
theorem s_a82 {p Q : Int} {d : Nat} {rec_62 : Int → Int → tp_M → Option tp_M} (hpm : Pm p) (hd : 1 ≤ d ∧ d ≤ 8) (hQ : Q ≤ 2401) : ∀ (m N : Nat) (n : Int) (M : tp_M) (l : List Fent) (mR : Nat), m < N → 0 ≤ n → n + m = Q → M 483 0 = p → Rl M l → Mo p (rd (M 489)) mR → M 483 11 = mR → l.length + mR ≤ 8 → ∃ K, tp_lp (aB82 rec_62 Q d) N (n, M) = rec_62 Q ((d : Int) + 1) K ∧ Rl K (l ++ (rp p d m n (rd (M 489))).1) ∧ rd (K 489) = (rp p d m n (rd (M 489))).2 ∧ K 483 11 = tp_dg (rp p d m n (rd (M 489))).2 9 ∧ frR M K := by
  have hp := pm_2 hpm
  intro m
  induction m with
  | zero =>
    intro N n M l mR hN h0 hn hP hl hR hm hlm
    refine ⟨M, ?_, by show Rl M (l ++ []); rw [List.append_nil]; exact hl, rfl, by rw [hm]; exact (dg_mo hR).symm, fun c k _ _ => rfl⟩
    rw [lp_1 (by omega)]
    simp only [aB82, f_X11_takesApart_82B, f_X11_takesApart_146, tp_lt]
    rw [if_pos (by omega), ho_w (x := (d : Int) + 1) (by omega) (by omega)]
  | succ m ih =>
    intro N n M l mR hN h0 hn hP hl hR hm hlm
    have e := dg_mo hR
    rw [lp_1 (by omega)]
    by_cases c1 : tp_dg (rd (M 489)) 9 < d
    · rw [rp_small c1]
      refine ⟨M, ?_, by rw [List.append_nil]; exact hl, rfl, by rw [hm]; exact e.symm, fun c k _ _ => rfl⟩
      simp only [aB82, f_X11_takesApart_82B, f_X11_takesApart_146, tp_lt, hm]
      rw [if_neg (by omega), if_pos (by omega), ho_w (x := (d : Int) + 1) (by omega) (by omega)]
    · generalize hM1 : tp_wr M 493 0 9 (cand p d n) = M1
      have wc : f_X11_laysTrial n d M = some M1 := by rw [← hM1]; exact s_laysTrial hP hp (by omega)
      have f1 : ∀ c k, c ≠ 493 → M1 c k = M c k := fun c k h => by rw [← hM1, wr_out (by omega)]
      have r93 : rd (M1 493) = cand p d n := by
        rw [← cand_rd hpm hd.2 n]
        exact rd_cong (fun k k0 k1 => by rw [← hM1, wr_in (by omega), show k - 0 = k by omega])
      have r89 : rd (M1 489) = rd (M 489) := rd_cong (fun k _ _ => f1 _ _ (by omega))
      have hcm := cand_mo hpm hd.2 n
      have l1 : Rl M1 l := Rl_fr hl (fun c k h => f1 _ _ (by omega))
      generalize hRc : tp_lp (aB82 rec_62 Q d) (N - 1) = Rc
      obtain ⟨K1, k1, k2, k3, k4⟩ := s_a106 (p := p) (x2 := Q) (x4 := n) (d := d) (g := cand p d n) (rec_62 := rec_62) (rec_82 := fun x4' M0' => Rc (x4', M0')) hpm hd.1 hcm 9 tp_N 0 M1 mR (by unfold tp_N; omega) (by omega) (by rw [f1 _ _ (by omega)]; exact hP) r93 (by rw [r89]; exact hR) (by rw [f1 _ _ (by omega)]; exact hm) (by have := hR.2.1; omega)
      rw [r89] at k1 k2 k3
      obtain ⟨m', t1, t2, t3, t4, t5, t6⟩ := mt_spec hpm hd.1 hcm 9 (rd (M 489)) mR hR (by have := hR.2.1; omega)
      have e' := dg_mo t1
      have p1 : K1 483 0 = p := by rw [k4 _ _ (by omega) (by omega) (by omega), f1 _ _ (by omega)]; exact hP
      have lK1 : Rl K1 l := Rl_fr l1 (fun c k h => k4 _ _ (by omega) (by omega) (by omega))
      have fK1 : frR M K1 := fun c k h1 h2 => by rw [k4 _ _ (by omega) (by omega) (by omega), f1 _ _ (by omega)]
      have start : aB82 rec_62 Q d Rc (n, M) = f_X11_takesApart_128 rec_62 (fun x4' M0' => Rc (x4', M0')) Q d n ((0 + (mt p (cand p d n) d 9 (rd (M 489))).1 : Nat) : Int) K1 := by
        simp only [aB82, f_X11_takesApart_82B, hm]
        rw [if_neg (by omega), if_neg (by omega), wc]
        simp only [Option.bind_some]
        exact k1
      rw [start]
      by_cases ht : (mt p (cand p d n) d 9 (rd (M 489))).1 = 0
      · have er : rp p d (m + 1) n (rd (M 489)) = rp p d m (n + 1) (rd (M 489)) := by
          conv => lhs; unfold rp
          rw [if_neg c1, if_pos ht]
        rw [er]
        have eR := (t5 ht).2
        rw [eR] at k2 k3
        obtain ⟨K, j1, j2, j3, j4, j5⟩ := ih (N - 1) (n + 1) K1 l mR (by omega) (by omega) (by omega) p1 lK1 (by rw [k2]; exact hR) (by rw [k3]; exact e) hlm
        rw [k2] at j2 j3 j4
        rw [hRc] at j1
        refine ⟨K, ?_, j2, j3, j4, fun c k h1 h2 => by rw [j5 c k h1 h2, fK1 c k h1 h2]⟩
        unfold f_X11_takesApart_128 f_X11_takesApart_140
        simp only [tp_lt]
        rw [ht, if_pos (by omega), ho_w (x := n + 1) (by omega) (by omega)]
        exact j1
      · have er : rp p d (m + 1) n (rd (M 489)) = ((d, (mt p (cand p d n) d 9 (rd (M 489))).1, cand p d n) :: (rp p d m (n + 1) (mt p (cand p d n) d 9 (rd (M 489))).2).1, (rp p d m (n + 1) (mt p (cand p d n) d 9 (rd (M 489))).2).2) := by
          conv => lhs; unfold rp
          rw [if_neg c1, if_neg ht]
        rw [er]
        have hmul : 1 * 1 ≤ (mt p (cand p d n) d 9 (rd (M 489))).1 * d := Nat.mul_le_mul (by omega) hd.1
        obtain ⟨K2, u1, u2, u3⟩ := s_addsF (M := K1) (d := d) (t := (mt p (cand p d n) d 9 (rd (M 489))).1) (g := cand p d n) (l := l) lK1 (by omega) (by
          rw [cand_rd hpm hd.2 n, ← r93]
          exact rd_cong (fun k _ _ => k4 _ _ (by omega) (by omega) (by omega)))
        have s89 : rd (K2 489) = (mt p (cand p d n) d 9 (rd (M 489))).2 := by
          rw [← k2]; exact rd_cong (fun k _ _ => u3 _ _ (by omega) (by omega) (by omega) (by omega))
        obtain ⟨K, j1, j2, j3, j4, j5⟩ := ih (N - 1) (n + 1) K2 (l ++ [(d, (mt p (cand p d n) d 9 (rd (M 489))).1, cand p d n)]) m' (by omega) (by omega) (by omega) (by rw [u3 _ _ (by omega) (by omega) (by omega) (by omega)]; exact p1) u2 (by rw [s89]; exact t1) (by rw [u3 _ _ (by omega) (by omega) (by omega) (by omega), k3]; exact e') (by rw [List.length_append]; simp only [List.length_cons, List.length_nil]; omega)
        rw [s89] at j2 j3 j4
        rw [hRc] at j1
        refine ⟨K, ?_, ?_, j3, j4, fun c k h1 h2 => by rw [j5 c k h1 h2, u3 _ _ (by omega) (by omega) (by omega) (by omega), fK1 c k h1 h2]⟩
        · unfold f_X11_takesApart_128 f_X11_takesApart_140
          simp only [tp_lt]
          rw [if_neg (by omega), show 0 + (mt p (cand p d n) d 9 (rd (M 489))).1 = (mt p (cand p d n) d 9 (rd (M 489))).1 by omega, u1]
          simp only [Option.bind_some]
          rw [ho_w (x := n + 1) (by omega) (by omega)]
          exact j1
        · rw [List.append_assoc] at j2
          exact j2
def aB62 : (Int × Int × tp_M → Option tp_M) → Int × Int × tp_M → Option tp_M := fun rec_ u => f_X11_takesApart_62B (fun x2' x3' M0' => rec_ (x2', x3', M0')) u.1 u.2.1 u.2.2
set_option maxHeartbeats 4000000 in
set_option maxRecDepth 100000 in
theorem s_a161 {M : tp_M} {p : Int} {m : Nat} {l : List Fent} (hR : Mo p (rd (M 489)) m) (hm : M 483 11 = m) (hl : Rl M l) (hlm : l.length + m ≤ 8) (h1 : 1 ≤ m) : ∃ K, f_X11_takesApart_161 0 M = some K ∧ Rl K (l ++ [(m, 1, rd (M 489))]) ∧ frR M K := by
  generalize hM1 : tp_wr M 493 0 9 (rd (M 489)) = M1
  have f1 : ∀ c k, c ≠ 493 → M1 c k = M c k := fun c k h => by rw [← hM1, wr_out (by omega)]
  have lp : f_X11_takesApart_161 0 M = f_X11_addsFactor m 1 M1 := by
    unfold f_X11_takesApart_161
    have e0 : ((0 : Int), M) = (((0 : Nat) : Int), tp_wr M 493 0 ((0 : Nat) : Int) (rd (M 489))) := by rw [show ((0 : Nat) : Int) = 0 from rfl, wr_zero]
    rw [e0]
    refine lp_seq (fun j => ((j : Int), tp_wr M 493 0 j (rd (M 489)))) 9 (fun j hj rc => ?_) (fun rc => ?_) tp_N (by unfold tp_N; omega)
    · have u := wr_succ0 M 493 j (rd (M 489))
      have r : tp_wr M 493 0 j (rd (M 489)) 483 11 = m := by rw [wr_out (by omega)]; exact hm
      simp only [f_X11_takesApart_161B, f_X11_takesApart_190, tp_mp, tp_lt, r]
      rw [if_neg (by omega), w_succ (show j < 1000000 by omega)]
      by_cases c : (m : Int) < j
      · rw [if_pos c, if_pos (by omega)]
        rw [hR.2.2.2 j c] at u
        rw [u]
      · rw [if_neg c, if_pos (by omega), if_pos (by omega), wr_out (x := 489) (by omega)]
        rw [rd_in (by omega)] at u
        rw [u]
    · have r : tp_wr M 493 0 ((9 : Nat) : Int) (rd (M 489)) 483 11 = m := by rw [wr_out (by omega)]; exact hm
      have e9 : tp_wr M 493 0 ((9 : Nat) : Int) (rd (M 489)) = M1 := hM1
      simp only [f_X11_takesApart_161B, r]
      rw [if_pos (by omega), e9]
      cases f_X11_addsFactor (m : Int) 1 M1 <;> rfl
  obtain ⟨K, k1, k2, k3⟩ := s_addsF (M := M1) (d := m) (t := 1) (g := rd (M 489)) (l := l) (Rl_fr hl (fun c k h => f1 _ _ (by omega))) (by omega) (rd_cong (fun k k0 k1 => by rw [← hM1, wr_in (by omega), show k - 0 = k by omega]))
  exact ⟨K, by rw [lp]; exact k1, k2, fun c k h1 h2 => by rw [k3 _ _ (by omega) (by omega) (by omega) (by omega), f1 _ _ (by omega)]⟩
set_option maxHeartbeats 4000000 in
set_option maxRecDepth 100000 in
theorem s_a62 {p : Int} (hpm : Pm p) : ∀ (n N d : Nat) (M : tp_M) (l : List Fent) (m : Nat), n < N → n + d = 10 → 1 ≤ d → M 483 0 = p → Rl M l → Mo p (rd (M 489)) m → M 483 11 = m → l.length + m ≤ 8 → ∃ K, tp_lp aB62 N (p ^ (d - 1), (d : Int), M) = some K ∧ Rl K (l ++ ((fz p n d (rd (M 489))).1 ++ ftl (fz p n d (rd (M 489))).2)) ∧ frR M K := by
  have hp := pm_2 hpm
  have fin : ∀ (d : Nat) (M : tp_M) (l : List Fent) (m : Nat) (Rc : Int × Int × tp_M → Option tp_M) (x2 : Int), d ≤ 10 → Rl M l → Mo p (rd (M 489)) m → M 483 11 = m → l.length + m ≤ 8 → (m : Int) < 2 * d → ∃ K, aB62 Rc (x2, (d : Int), M) = some K ∧ Rl K (l ++ ([] ++ ftl (rd (M 489)))) ∧ frR M K := by
    intro d M l m Rc x2 hd hl hR hm hlm hc
    have e := dg_mo hR
    simp only [aB62, f_X11_takesApart_62B, hm]
    rw [ho_w (x := 2 * (d : Int)) (by omega) (by omega), if_pos hc]
    unfold ftl
    rw [e, List.nil_append, Int.toNat_natCast]
    by_cases c : 0 < (m : Int)
    · rw [if_neg (by omega), if_pos c]
      exact s_a161 hR hm hl hlm (by omega)
    · rw [if_pos (by omega), if_neg c, List.append_nil]
      exact ⟨M, rfl, hl, fun c k _ _ => rfl⟩
  intro n
  induction n with
  | zero =>
    intro N d M l m hN hn hd hP hl hR hm hlm
    rw [lp_1 (by omega)]
    exact fin d M l m _ _ (by omega) hl hR hm hlm (by omega)
  | succ n ih =>
    intro N d M l m hN hn hd hP hl hR hm hlm
    have e := dg_mo hR
    rw [lp_1 (by omega)]
    by_cases c : tp_dg (rd (M 489)) 9 < 2 * d
    · have ef : fz p (n + 1) d (rd (M 489)) = ([], rd (M 489)) := by
        conv => lhs; unfold fz
        rw [if_pos c]
      rw [ef]
      exact fin d M l m _ _ (by omega) hl hR hm hlm (by omega)
    · have ef : fz p (n + 1) d (rd (M 489)) = ((rp p d (p ^ d).toNat 0 (rd (M 489))).1 ++ (fz p n (d + 1) (rp p d (p ^ d).toNat 0 (rd (M 489))).2).1, (fz p n (d + 1) (rp p d (p ^ d).toNat 0 (rd (M 489))).2).2) := by
        conv => lhs; unfold fz
        rw [if_neg c]
      rw [ef]
      have hm8 := hR.2.1
      have hd4 : d ≤ 4 := by omega
      have b := pw_b hpm (j := d) hd4
      have epw : p ^ (d - 1) * p = p ^ d := by rw [← Int.pow_succ, show (d - 1).succ = d by omega]
      generalize hRc : tp_lp aB62 (N - 1) = Rc
      obtain ⟨K1, k1, k2, k3, k4, k5⟩ := s_a82 (p := p) (Q := p ^ d) (d := d) (rec_62 := fun x2' x3' M0' => Rc (x2', x3', M0')) hpm ⟨hd, by omega⟩ b.2 (p ^ d).toNat tp_N 0 M l m (by unfold tp_N; omega) (by omega) (by omega) hP hl hR hm hlm
      obtain ⟨m1, u1, u2, u3⟩ := rp_sum hpm (d := d) ⟨hd, by omega⟩ (p ^ d).toNat 0 (rd (M 489)) m hR
      have hlen := fsm_len u3
      generalize rp p d (p ^ d).toNat 0 (rd (M 489)) = RP at *
      obtain ⟨K, j1, j2, j3⟩ := ih (N - 1) (d + 1) K1 (l ++ RP.1) m1 (by omega) (by omega) (by omega) (by rw [k5 _ _ (by omega) (by omega)]; exact hP) k2 (by rw [k3]; exact u1) (by rw [k4]; exact dg_mo u1) (by rw [List.length_append]; omega)
      rw [k3] at j2
      rw [hRc, show d + 1 - 1 = d by omega] at j1
      refine ⟨K, ?_, ?_, fun c k h1 h2 => by rw [j3 c k h1 h2, k5 c k h1 h2]⟩
      · simp only [aB62, f_X11_takesApart_62B, hm, hP, tp_lt]
        rw [ho_w (x := 2 * (d : Int)) (by omega) (by omega), if_neg (by omega), epw, ho_w (x := p ^ d) (by omega) (by omega)]
        refine Eq.trans k1 ?_
        rw [show (d : Int) + 1 = ((d + 1 : Nat) : Int) by omega]
        exact j1
      · rw [List.append_assoc] at j2
        simp only [List.append_assoc]
        exact j2
set_option maxHeartbeats 4000000 in
set_option maxRecDepth 100000 in
theorem s_takesApart {M : tp_M} {p : Int} (hpm : Pm p) (hP : M 483 0 = p) (hr : Ro p (rd (M 489))) (hd : 0 ≤ tp_dg (rd (M 489)) 9) : ∃ K, f_X11_takesApart M = some K ∧ Rl K (fzl p (mon p (rd (M 489)))) ∧ frR M K := by
  have hp := pm_2 hpm
  obtain ⟨m, hm⟩ : ∃ m : Nat, tp_dg (M 489) 9 = m := ⟨(tp_dg (rd (M 489)) 9).toNat, by rw [← rd_dg]; omega⟩
  have dgr := tp_dg_r (M 489) 9
  have i5 := rd_inP hr
  have hat := tp_dg_at (M 489) 9 (by omega)
  rw [hm] at hat dgr
  have hv := i5 m (by omega) (by omega)
  obtain ⟨i1, i2, i3, i4⟩ := iv_spec hpm (v := M 489 m) (by omega)
  have hmo := (mk_mo hpm hm i5).1
  have emon : rd (mkc p (iv p (M 489 m)) (m + 1) (M 489)) = mon p (rd (M 489)) := by
    rw [← mon_cong (p := p) (r := M 489) (t := rd (M 489)) (by rw [rd_id hr])]
    unfold mon
    rw [hm]
  rw [emon] at hmo
  generalize hM2 : tp_up (tp_up M 483 12 0) 483 11 m = M2
  have f2 : ∀ c k, ¬ (c = 483 ∧ (k = 11 ∨ k = 12)) → M2 c k = M c k := fun c k h => by rw [← hM2, up_ne (by omega), up_ne (by omega)]
  have r89 : M2 489 = M 489 := by funext k; exact f2 _ _ (by omega)
  have p2 : M2 483 0 = p := by rw [f2 _ _ (by omega)]; exact hP
  have m2 : M2 483 11 = m := by rw [← hM2, up_eq ⟨rfl, rfl⟩]
  have z2 : M2 483 12 = 0 := by rw [← hM2, up_ne (by omega), up_eq ⟨rfl, rfl⟩]
  have lp25 : f_X11_takesApart_25 (iv p (M 489 m)) 0 M2 = f_X11_takesApart_62 1 1 (tp_row M2 489 (mkc p (iv p (M 489 m)) (m + 1) (M 489))) := by
    unfold f_X11_takesApart_25
    generalize iv p (M 489 m) = u at *
    have e0 : ((0 : Int), M2) = (((0 : Nat) : Int), tp_row M2 489 (mkc p u ((0 : Nat) : Int) (M 489))) := by
      have : mkc p u ((0 : Nat) : Int) (M 489) = M2 489 := by
        rw [r89]; funext k; unfold mkc; rw [if_neg (by omega)]
      rw [this, row_id]; rfl
    rw [e0]
    refine lp_seq (fun j => ((j : Int), tp_row M2 489 (mkc p u j (M 489)))) (m + 1) (fun j hj rc => ?_) (fun rc => ?_) tp_N (by unfold tp_N; omega)
    · have r1 : tp_row M2 489 (mkc p u j (M 489)) 489 j = M 489 j := by
        rw [row_eq]; unfold mkc; rw [if_neg (by omega)]
      have r3 : tp_row M2 489 (mkc p u j (M 489)) 483 0 = p := by rw [row_ne (by omega)]; exact p2
      have r4 : tp_row M2 489 (mkc p u j (M 489)) 483 11 = m := by rw [row_ne (by omega)]; exact m2
      have q1 := i5 j (by omega) (by omega)
      have q2 := mul7 (x := M 489 j) (y := u) (by omega) (by omega)
      simp only [f_X11_takesApart_25B, tp_lt, tp_mp, r1, r3, r4, row_up]
      rw [if_neg (by omega), if_pos (by omega), if_neg (by omega), if_pos (by omega), ho_w (x := M 489 j * u) (by omega) (by omega), Int.tmod_eq_emod_of_nonneg (by omega), w_succ (show j < 1000000 by omega)]
      have e : udS (mkc p u j (M 489)) j ((M 489 j * u) % p) = mkc p u ((j + 1 : Nat) : Int) (M 489) := by
        funext k
        unfold udS mkc
        by_cases h : k = j
        · rw [if_pos h, if_pos (by omega), h]
        · rw [if_neg h]
          by_cases h2 : 0 ≤ k ∧ k < (j : Int)
          · rw [if_pos h2, if_pos (by omega)]
          · rw [if_neg h2, if_neg (by omega)]
      rw [e]
    · have r4 : tp_row M2 489 (mkc p u ((m + 1 : Nat) : Int) (M 489)) 483 11 = m := by rw [row_ne (by omega)]; exact m2
      simp only [f_X11_takesApart_25B, r4]
      rw [if_pos (by omega), show ((m + 1 : Nat) : Int) = (m : Int) + 1 by omega]
  generalize hG : mkc p (iv p (M 489 m)) (m + 1) (M 489) = G at *
  have q89 : rd (tp_row M2 489 G 489) = mon p (rd (M 489)) := by
    rw [← emon]; exact rd_cong (fun k _ _ => row_eq)
  obtain ⟨K, k1, k2, k3⟩ := s_a62 hpm 9 tp_N 1 (tp_row M2 489 G) [] m (by unfold tp_N; omega) (by omega) (by omega) (by rw [row_ne (by omega)]; exact p2) ⟨by rw [row_ne (by omega)]; exact z2, fun i x hx => by simp at hx⟩ (by rw [q89]; exact hmo) (by rw [row_ne (by omega)]; exact m2) (by have := hmo.2.1; simp only [List.length_nil]; omega)
  rw [q89] at k2
  refine ⟨K, ?_, k2, fun c k h1 h2 => by rw [k3 c k h1 h2, row_ne (by omega), f2 _ _ h2]⟩
  unfold f_X11_takesApart
  simp only [tp_mp]
  rw [s_measures, show tp_up M 483 12 0 489 = M 489 from by funext k; exact up_ne (by omega), hm, hM2]
  simp only [Option.bind_some]
  rw [m2, if_pos (by omega), show M2 489 m = M 489 m from f2 _ _ (by omega), s_inverse hpm p2 (by omega)]
  simp only [Option.bind_some]
  rw [lp25]
  rw [show (1 : Nat) - 1 = 0 from rfl, Int.pow_zero] at k1
  exact k1
