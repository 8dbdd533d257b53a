def fsm : List Fent → Nat
  | [] => 0
  | x :: l => x.1 * x.2.1 + fsm l
theorem fsm_app (l l' : List Fent) : fsm (l ++ l') = fsm l + fsm l' := by
  induction l with
  | nil => show fsm l' = 0 + fsm l'; omega
  | cons x l ih => show x.1 * x.2.1 + fsm (l ++ l') = x.1 * x.2.1 + fsm l + fsm l'; rw [ih]; omega
def fok (p : Int) (l : List Fent) : Prop := ∀ x, x ∈ l → 1 ≤ x.1 ∧ 1 ≤ x.2.1 ∧ Mo p x.2.2 x.1
theorem fok_app {p : Int} {l l' : List Fent} (h : fok p l) (h' : fok p l') : fok p (l ++ l') := fun x hx => by
  rcases List.mem_append.mp hx with h1 | h1
  · exact h x h1
  · exact h' x h1
theorem fsm_len {p : Int} : ∀ {l : List Fent}, fok p l → l.length ≤ fsm l := by
  intro l
  induction l with
  | nil => intro _; exact Nat.le_refl _
  | cons x l ih =>
    intro h
    have h1 := h x List.mem_cons_self
    have h2 := ih (fun y hy => h y (List.mem_cons_of_mem _ hy))
    have h3 : 1 * 1 ≤ x.1 * x.2.1 := Nat.mul_le_mul h1.1 h1.2.1
    show l.length + 1 ≤ x.1 * x.2.1 + fsm l
    omega
theorem rp_sum {p : Int} (hp : Pm p) {d : Nat} (hd : 1 ≤ d ∧ d ≤ 8) : ∀ (m : Nat) (n : Int) (R : Int → Int) (mR : Nat), Mo p R mR → ∃ m' : Nat, Mo p (rp p d m n R).2 m' ∧ fsm (rp p d m n R).1 + m' = mR ∧ fok p (rp p d m n R).1 := by
  intro m
  induction m with
  | zero => intro n R mR hR; exact ⟨mR, hR, by show 0 + mR = mR; omega, fun x hx => by cases hx⟩
  | succ m ih =>
    intro n R mR hR
    have hg := cand_mo hp hd.2 n
    obtain ⟨m', t1, t2, t3, t4, t5, t6⟩ := mt_spec hp hd.1 hg 9 R mR hR (by have := hR.2.1; omega)
    by_cases c2 : tp_dg R 9 < d
    · rw [rp_small c2]
      exact ⟨mR, hR, by show 0 + mR = mR; omega, fun x hx => by cases hx⟩
    · by_cases ht : (mt p (cand p d n) d 9 R).1 = 0
      · have er : rp p d (m + 1) n R = rp p d m (n + 1) R := by
          conv => lhs; unfold rp
          rw [if_neg c2, if_pos ht]
        rw [er]
        exact ih (n + 1) R mR hR
      · have er : rp p d (m + 1) n R = ((d, (mt p (cand p d n) d 9 R).1, cand p d n) :: (rp p d m (n + 1) (mt p (cand p d n) d 9 R).2).1, (rp p d m (n + 1) (mt p (cand p d n) d 9 R).2).2) := by
          conv => lhs; unfold rp
          rw [if_neg c2, if_neg ht]
        rw [er]
        obtain ⟨m2, q1, q2, q3⟩ := ih (n + 1) (mt p (cand p d n) d 9 R).2 m' t1
        refine ⟨m2, q1, ?_, fun x hx => ?_⟩
        · show d * (mt p (cand p d n) d 9 R).1 + fsm (rp p d m (n + 1) (mt p (cand p d n) d 9 R).2).1 + m2 = mR
          rw [Nat.mul_comm]; omega
        · rcases List.mem_cons.mp hx with rfl | h
          · exact ⟨hd.1, by simp only; omega, hg⟩
          · exact q3 x h
def fz (p : Int) : Nat → Nat → (Int → Int) → List Fent × (Int → Int)
  | 0, _, R => ([], R)
  | n + 1, d, R => if tp_dg R 9 < 2 * d then ([], R) else ((rp p d (p ^ d).toNat 0 R).1 ++ (fz p n (d + 1) (rp p d (p ^ d).toNat 0 R).2).1, (fz p n (d + 1) (rp p d (p ^ d).toNat 0 R).2).2)
def ftl (R : Int → Int) : List Fent := if 0 < tp_dg R 9 then [((tp_dg R 9).toNat, 1, R)] else []
/-- the factors of a row with 1 in front -/
def fzl (p : Int) (R : Int → Int) : List Fent := (fz p 9 1 R).1 ++ ftl (fz p 9 1 R).2
theorem fz_sum {p : Int} (hp : Pm p) : ∀ (n d : Nat) (R : Int → Int) (mR : Nat), 1 ≤ d → Mo p R mR → ∃ m' : Nat, Mo p (fz p n d R).2 m' ∧ fsm (fz p n d R).1 + m' = mR ∧ fok p (fz p n d R).1 := by
  intro n
  induction n with
  | zero => intro d R mR hd hR; exact ⟨mR, hR, by show 0 + mR = mR; omega, fun x hx => by cases hx⟩
  | succ n ih =>
    intro d R mR hd hR
    have e := dg_mo hR
    have h8 := hR.2.1
    unfold fz
    by_cases c : tp_dg R 9 < 2 * d
    · rw [if_pos c]; exact ⟨mR, hR, by show 0 + mR = mR; omega, fun x hx => by cases hx⟩
    · rw [if_neg c]
      obtain ⟨m1, a1, a2, a3⟩ := rp_sum hp (d := d) (by omega) (p ^ d).toNat 0 R mR hR
      obtain ⟨m2, b1, b2, b3⟩ := ih (d + 1) _ m1 (by omega) a1
      exact ⟨m2, b1, by simp only; rw [fsm_app]; omega, fok_app a3 b3⟩
theorem fzl_sum {p : Int} (hp : Pm p) {R : Int → Int} {m : Nat} (hR : Mo p R m) : fsm (fzl p R) = m ∧ fok p (fzl p R) := by
  obtain ⟨m', h1, h2, h3⟩ := fz_sum hp 9 1 R m (by omega) hR
  have e := dg_mo h1
  unfold fzl ftl
  by_cases c : 0 < tp_dg (fz p 9 1 R).2 9
  · rw [if_pos c, fsm_app]
    refine ⟨?_, fok_app h3 (fun x hx => ?_)⟩
    · show fsm (fz p 9 1 R).1 + ((tp_dg (fz p 9 1 R).2 9).toNat * 1 + 0) = m
      omega
    · rcases List.mem_cons.mp hx with rfl | h
      · refine ⟨by simp only; omega, Nat.le_refl _, ?_⟩
        simp only
        rw [e, Int.toNat_natCast]; exact h1
      · cases h
  · rw [if_neg c, List.append_nil]
    exact ⟨by omega, h3⟩
theorem mt_self {p : Int} (hp : Pm p) {R : Int → Int} {m : Nat} (hm : 1 ≤ m) (hR : Mo p R m) : (mt p R m 9 R).1 = 1 := by
  have e := dg_mo hR
  have c : (m : Int) ≤ tp_dg R 9 ∧ dvb p R m R = true := ⟨by omega, (dvb_iff hp hm hR hR.1).mpr (dv_refl p hR)⟩
  have h1 : mt p R m 9 R = if (m : Int) ≤ tp_dg R 9 ∧ dvb p R m R = true then ((mt p R m 8 (qr p R m R)).1 + 1, (mt p R m 8 (qr p R m R)).2) else (0, R) := rfl
  have e2 := dg_mo (qr_mo hp (g := R) (d := m) hR (Nat.le_refl _))
  have h2 : mt p R m 8 (qr p R m R) = if (m : Int) ≤ tp_dg (qr p R m R) 9 ∧ dvb p R m (qr p R m R) = true then ((mt p R m 7 (qr p R m (qr p R m R))).1 + 1, (mt p R m 7 (qr p R m (qr p R m R))).2) else (0, qr p R m R) := rfl
  rw [h1, if_pos c]
  simp only
  rw [h2, if_neg (fun h => by omega)]
def frO (c0 : Int) (M K : tp_M) : Prop := ∀ c k, ¬ (c0 ≤ c ∧ c ≤ c0 + 20) → K c k = M c k
set_option maxHeartbeats 4000000 in
set_option maxRecDepth 100000 in
theorem s_f141 {M : tp_M} {p c0 : Int} {m : Nat} {l : List Fent} (hpm : Pm p) (hF : tgF c0) (hP : M c0 4 = p) (hl : Fl M c0 l) (hR : Mo p (rd (M (c0 + 13))) m) (hlm : l.length + m ≤ 8) : ∃ K, f_X0_find_141 c0 M = some (1, K) ∧ Fl K c0 (l ++ ftl (rd (M (c0 + 13)))) ∧ frO c0 M K := by
  have t13 := hF.2.2.1 13 (by omega) (by omega) (by omega)
  have e := dg_mo hR
  unfold f_X0_find_141 ftl
  rw [s_degreeOf t13.1 t13.2, ← rd_dg, e]
  simp only [Option.bind_some]
  by_cases c : 0 < (m : Int)
  · rw [if_neg (by omega), if_pos c, Int.toNat_natCast]
    obtain ⟨K, k1, k2, k3, k4, k5, k6, k7⟩ := s_keep (M := M) (p := p) (c0 := c0) (a := c0 + 13) (i := l.length) (d := m) hpm hF t13.1 t13.2 hP hl.1 (by omega) (by omega) ⟨by omega, hR.2.1⟩ hR.1 hR.1
    rw [k1]
    rw [mt_self hpm (by omega) hR] at k4
    exact ⟨K, rfl, Fl_app hl (by omega) k2 k3 k4 (fun k k0 k1 => by rw [k5 k k0 k1, rd_in ⟨k0, k1⟩]) k7, fun c k hc => k7 _ _ (by omega) (by omega) (by omega) (by omega) (by omega) (by omega)⟩
  · rw [if_pos (by omega), if_neg c, List.append_nil]
    exact ⟨M, rfl, hl, fun c k _ => rfl⟩
def fB84 (x0 : Int) : (Int × tp_M → Option (Int × tp_M)) → Int × tp_M → Option (Int × tp_M) := fun rec_ u => f_X0_find_84B x0 (fun x3' M0' => rec_ (x3', M0')) u.1 u.2
set_option maxHeartbeats 4000000 in
set_option maxRecDepth 100000 in
theorem s_f84 {p c0 : Int} (hpm : Pm p) (hF : tgF c0) : ∀ (n N d : Nat) (M : tp_M) (l : List Fent) (m : Nat), n < N → n + d = 10 → 1 ≤ d → M c0 4 = p → Fl M c0 l → Mo p (rd (M (c0 + 13))) m → noDv p d (rd (M (c0 + 13))) → Ro p (rd (M (c0 + 14))) → (∀ s, Kr p (rd (M (c0 + 13))) 9 s → ∀ i, p ∣ ac (rd (M (c0 + 14))) 9 s i - s (i + p.toNat ^ (d - 1))) → l.length + m ≤ 8 → ∃ K, tp_lp (fB84 c0) N ((d : Int), M) = some (1, K) ∧ Fl K c0 (l ++ ((fz p n d (rd (M (c0 + 13)))).1 ++ ftl (fz p n d (rd (M (c0 + 13)))).2)) ∧ frO c0 M K := by
  have hp := pm_2 hpm
  have t13 := hF.2.2.1 13 (by omega) (by omega) (by omega)
  have t14 := hF.2.2.1 14 (by omega) (by omega) (by omega)
  intro n
  induction n with
  | zero =>
    intro N d M l m hN hn hd hP hl hR hD hI hq hlm
    obtain ⟨K, k1, k2⟩ := s_f141 hpm hF hP hl hR hlm
    refine ⟨K, ?_, k2⟩
    rw [lp_1 (by omega)]
    simp only [fB84, f_X0_find_84B]
    rw [if_pos (by omega)]
    exact k1
  | succ n ih =>
    intro N d M l m hN hn hd hP hl hR hD hI hq hlm
    have e := dg_mo hR
    have hm8 := hR.2.1
    have w2 := ho_w (x := 2 * (d : Int)) (by omega) (by omega)
    rw [lp_1 (by omega)]
    by_cases c : tp_dg (rd (M (c0 + 13))) 9 < 2 * d
    · have ef : fz p (n + 1) d (rd (M (c0 + 13))) = ([], rd (M (c0 + 13))) := by
        conv => lhs; unfold fz
        rw [if_pos c]
      rw [ef]
      obtain ⟨K, k1, k2⟩ := s_f141 hpm hF hP hl hR hlm
      refine ⟨K, ?_, k2⟩
      simp only [fB84, f_X0_find_84B, w2]
      by_cases c9 : 9 ≤ (d : Int)
      · rw [if_pos c9]; exact k1
      · rw [if_neg c9, s_degreeOf t13.1 t13.2, ← rd_dg]
        simp only [Option.bind_some]
        rw [if_pos c]; exact k1
    · have ef : fz p (n + 1) d (rd (M (c0 + 13))) = ((rp p d (p ^ d).toNat 0 (rd (M (c0 + 13)))).1 ++ (fz p n (d + 1) (rp p d (p ^ d).toNat 0 (rd (M (c0 + 13)))).2).1, (fz p n (d + 1) (rp p d (p ^ d).toNat 0 (rd (M (c0 + 13)))).2).2) := by
        conv => lhs; unfold fz
        rw [if_neg c]
      rw [ef]
      have hd4 : d ≤ 4 := by omega
      obtain ⟨K1, a1, a2, a3, a4⟩ := s_raiseImage (M := M) (p := p) (c0 := c0) (m := m) (q := p.toNat ^ (d - 1)) hpm hF hP hR hI hq
      have r13 : rd (K1 (c0 + 13)) = rd (M (c0 + 13)) := rd_cong (fun k _ _ => a4 _ _ (by omega) (by omega) (by omega))
      have p1 : K1 c0 4 = p := by rw [a4 _ _ (by omega) (by omega) (by omega)]; exact hP
      obtain ⟨K2, mC, b1, b2, b3, b4⟩ := s_takeCommon (M := K1) (p := p) (c0 := c0) (m := m) hpm hF p1 (by rw [r13]; exact hR) a2
      rw [r13] at b3
      have s13 : rd (K2 (c0 + 13)) = rd (M (c0 + 13)) := by rw [← r13]; exact rd_cong (fun k _ _ => b4 _ _ (by omega) (by omega))
      have p2 : K2 c0 4 = p := by rw [b4 _ _ (by omega) (by omega)]; exact p1
      have l2 : Fl K2 c0 l := Fl_fr (by omega) hl (fun c k h => by rw [b4 _ _ (by omega) (by omega), a4 _ _ (by omega) (by omega) (by omega)])
      have epw : p.toNat * p.toNat ^ (d - 1) = p.toNat ^ d := by
        rw [Nat.mul_comm, ← Nat.pow_succ, show (d - 1).succ = d by omega]
      rw [epw] at a3
      have hC : ∀ s, Kr p (rd (K2 (c0 + 16))) 9 s ↔ Kr p (rd (M (c0 + 13))) 9 s ∧ Fp p d s := fun s => by
        rw [b3]
        constructor
        · intro h
          refine ⟨h.1, fun i => ?_⟩
          have := Int.dvd_sub (h.2 i) (a3 s h.1 i)
          exact dvd_of this (by omega)
        · intro h
          refine ⟨h.1, fun i => ?_⟩
          have := Int.dvd_add (a3 s h.1 i) (h.2 i)
          exact dvd_of this (by omega)
      have hmC : mC ≤ m := by
        by_cases c1 : 1 ≤ mC
        · exact dv_deg hpm c1 b2 hR (fun s hs => ((hC s).mp ((kr_mo b2 s).mpr hs)).1)
        · omega
      have b := pw_b hpm (j := d) hd4
      obtain ⟨K3, g1, g2, g3, g4, g5⟩ := s_findOfDegree (M := K2) (p := p) (c0 := c0) (d := d) (mC := mC) (l := l) hpm hF ⟨hd, hd4⟩ p2 l2 b2 (by rw [s13]; exact hR.1) (by omega)
      rw [s13] at g2 g3
      have ph := phase hpm (d := d) ⟨hd, by omega⟩ (p ^ d).toNat 0 (rd (K2 (c0 + 16))) (rd (M (c0 + 13))) mC m (by omega) (by omega) b2 hR hD (fun s hs => ((hC s).mp hs).2) (fun j j0 j1 => by
        constructor
        · intro h s hs
          exact ((hC s).mp (h s hs)).1
        · intro h s hs
          have hir : Ir p (cand p d j) d := fun e m' h1 h2 h3 h4 => hD e m' h1 h2 h3 (fun s hs => h s ((kr_mo (cand_mo hpm (by omega) j) s).mp (h4 s hs)))
          exact (hC s).mpr ⟨h s hs, fermat hpm hd (cand_mo hpm (by omega) j) hir hs⟩) (fun j j0 j1 => by omega)
      rw [ph] at g2 g3
      obtain ⟨m1, u1, u2, u3⟩ := rp_sum hpm (d := d) ⟨hd, by omega⟩ (p ^ d).toNat 0 (rd (M (c0 + 13))) m hR
      obtain ⟨m1', v1, v2, v3, v4⟩ := rp_spec hpm (d := d) ⟨hd, by omega⟩ (p ^ d).toNat 0 (rd (M (c0 + 13))) m (by omega) hR (fun j j0 j1 => by omega)
      have hlen := fsm_len u3
      generalize rp p d (p ^ d).toNat 0 (rd (M (c0 + 13))) = RP at *
      have dm1 := dg_mo u1
      have e3 : tp_dg (K3 (c0 + 13)) 9 = m1 := by rw [← rd_dg, g3]; exact dm1
      have m13 : K3 (c0 + 13) m1 = 1 := by
        have h1 := u1.2.2.1
        rw [← g3, rd_in (by have := u1.2.1; omega)] at h1
        exact h1
      have hm18 := u1.2.1
      have i13 : inP p (K3 (c0 + 13)) 0 9 := rd_inP (by rw [g3]; exact u1.1)
      have i14 : inP p (K3 (c0 + 14)) 0 9 := fun k k0 k1 => by
        rw [g5.1, b4 _ _ (by omega) (by omega)]; exact rd_inP a2 k k0 k1
      have kr := s_keepRem (M := K3) (p := p) (c0 := c0) (a := c0 + 14) (b := c0 + 13) (d := m1) (L := 9) hF.1 t14.1 t13.1 t14.2 (by omega) t13.2 g4 hp (by omega) hm18 i14 (fun k k0 k1 => i13 k k0 (by omega))
      generalize hE : cutz m1 ((9 : Nat) : Int) (dv p (K3 (c0 + 13)) m1 (9 - m1) (K3 (c0 + 14))) = E at kr
      generalize hM2 : tp_row K3 (c0 + 14) E = M2 at kr
      have f2 : ∀ c k, c ≠ c0 + 14 → M2 c k = K3 c k := fun c k h => by rw [← hM2, row_ne h]
      have q13 : rd (M2 (c0 + 13)) = RP.2 := by rw [← g3]; exact rd_cong (fun k _ _ => f2 _ _ (by omega))
      have q14 : M2 (c0 + 14) = E := by funext k; rw [← hM2, row_eq]
      have hEro : Ro p (rd E) := rd_ro (fun k k0 k1 => by
        rw [← hE]; unfold cutz
        by_cases c : (m1 : Int) ≤ k ∧ k < (9 : Nat)
        · rw [if_pos c]; omega
        · rw [if_neg c]; exact dv_r (by omega) (N := 9) _ i14 k k0 (by omega))
      obtain ⟨K, k1, k2, k3⟩ := ih (N - 1) (d + 1) M2 (l ++ RP.1) m1 (by omega) (by omega) (by omega) (by rw [f2 _ _ (by omega)]; exact g4) (Fl_fr (by rw [List.length_append]; omega) g2 (fun c k h => f2 _ _ (by omega))) (by rw [q13]; exact u1) (by
          rw [q13]
          intro e' m' h1 h2 h3 h4
          by_cases cm : m' < d
          · exact hD e' m' h1 cm h3 (fun s hs => v3 s (h4 s hs))
          · have em : m' = d := by omega
            subst em
            obtain ⟨j, j0, j1, ej⟩ := cand_sur hpm h3
            exact v4 j j0 (by omega) (ej ▸ h4)) (by rw [q14]; exact hEro) (by
          rw [q13, q14]
          intro s hs i
          have hs' : Kr p (K3 (c0 + 13)) (m1 + 1) s := by
            have h1 := (kr_mo u1 s).mp hs
            intro i
            rw [ac_cong (b := RP.2) (fun k hk => by rw [← g3, rd_in (by omega)])]
            exact h1 i
          have h1 := rem_ac (p := p) (g := K3 (c0 + 13)) (c := K3 (c0 + 14)) (d := m1) (L := 9) m13 (by omega) hs' i
          rw [hE] at h1
          have h2 := a3 s (v3 s hs) i
          have h3 : ac (K3 (c0 + 14)) 9 s i = ac (rd (K1 (c0 + 14))) 9 s i := by
            rw [ac_rd]; exact ac_cong (fun k hk => by rw [g5.1, b4 _ _ (by omega) (by omega)]) s i
          rw [h3] at h1
          rw [ac_rd, show d + 1 - 1 = d by omega]
          have := Int.dvd_sub h2 h1
          exact dvd_of this (by omega)) (by rw [List.length_append]; omega)
      rw [q13] at k2
      refine ⟨K, ?_, ?_, fun c k hc => by rw [k3 c k hc, f2 _ _ (by omega), g5.2 c k hc, b4 _ _ (by omega) (by omega), a4 _ _ (by omega) (by omega) (by omega)]⟩
      · generalize tp_lp (fB84 c0) (N - 1) = Rc at k1 ⊢
        simp only [fB84, f_X0_find_84B, w2, tp_lt]
        rw [if_neg (by omega), s_degreeOf t13.1 t13.2, ← rd_dg]
        simp only [Option.bind_some]
        rw [if_neg c, a1]
        simp only [Option.bind_some]
        rw [b1]
        simp only [Option.bind_some]
        rw [g1]
        simp only [Option.bind_some]
        rw [s_degreeOf t13.1 t13.2, e3]
        simp only [Option.bind_some]
        rw [kr]
        simp only [Option.bind_some]
        rw [w_succ (show d < 1000000 by omega)]
        exact k1
      · rw [List.append_assoc] at k2
        simp only [List.append_assoc]
        exact k2
def rs (p : Int) (A : Int → Int) : Int → Int := fun k => if 0 ≤ k ∧ k < 9 then A k % p else 0
def mon (p : Int) (r : Int → Int) : Int → Int := rd (mkc p (iv p (r (tp_dg r 9))) (tp_dg r 9 + 1) r)
theorem rs_ro {p : Int} (hp : Pm p) (A : Int → Int) : Ro p (rs p A) := by
  have hp2 := pm_2 hp
  refine ⟨fun k k0 k1 => ?_, fun k hk => ?_⟩
  · unfold rs; rw [if_pos ⟨k0, k1⟩]; exact ⟨Int.emod_nonneg _ (by omega), Int.emod_lt_of_pos _ (by omega)⟩
  · unfold rs; rw [if_neg hk]
theorem rs_cong {p : Int} {A B : Int → Int} (h : ∀ k, 0 ≤ k → k < 9 → A k = B k) : rs p A = rs p B := by
  funext k; unfold rs
  by_cases c : 0 ≤ k ∧ k < 9
  · rw [if_pos c, if_pos c, h k c.1 c.2]
  · rw [if_neg c, if_neg c]
theorem mon_cong {p : Int} {r t : Int → Int} (h : rd r = rd t) : mon p r = mon p t := by
  have hk : ∀ k, 0 ≤ k → k < 9 → r k = t k := fun k k0 k1 => by
    have := congrFun h k
    rw [rd_in ⟨k0, k1⟩, rd_in ⟨k0, k1⟩] at this
    exact this
  have hd : tp_dg r 9 = tp_dg t 9 := tp_dg_cong 9 (fun k k0 k1 => hk k k0 (by omega))
  have hr := tp_dg_r t 9
  unfold mon
  rw [hd]
  refine rd_cong (fun k k0 k1 => ?_)
  unfold mkc
  by_cases c : 0 ≤ k ∧ k < tp_dg t 9 + 1
  · rw [if_pos c, if_pos c, hk k k0 k1, hk (tp_dg t 9) (by omega) (by omega)]
  · rw [if_neg c, if_neg c, hk k k0 k1]
theorem mon_mo {p : Int} (hp : Pm p) {r : Int → Int} {m : Nat} (hm : tp_dg r 9 = m) (hr : Ro p r) : Mo p (mon p r) m := by
  unfold mon
  rw [hm]
  exact (mk_mo hp hm (fun k k0 k1 => hr.1 k k0 k1)).1
set_option maxHeartbeats 4000000 in
set_option maxRecDepth 100000 in
theorem s_find {M : tp_M} {p c0 a : Int} (hpm : Pm p) (hF : tgF c0) (tga : tp_tg a = 21) (ha9 : tp_al a = 9) (ha : ¬ (c0 ≤ a ∧ a ≤ c0 + 20)) : (tp_dg (rs p (M a)) 9 < 0 → ∃ K, f_X0_find c0 a p M = some (0, K) ∧ frO c0 M K) ∧ (0 ≤ tp_dg (rs p (M a)) 9 → ∃ K, f_X0_find c0 a p M = some (1, K) ∧ Fl K c0 (fzl p (mon p (rs p (M a)))) ∧ frO c0 M K) := by
  have hp := pm_2 hpm
  have t13 := hF.2.2.1 13 (by omega) (by omega) (by omega)
  have t14 := hF.2.2.1 14 (by omega) (by omega) (by omega)
  generalize hM4 : tp_up (tp_up M c0 0 0) c0 4 p = M4
  have f4 : ∀ c k, c ≠ c0 → M4 c k = M c k := fun c k h => by rw [← hM4, up_ne (by omega), up_ne (by omega)]
  generalize hM5 : tp_wr M4 (c0 + 13) 0 9 (fun k => M a k % p) = M5
  have r13 : rd (M5 (c0 + 13)) = rs p (M a) := by
    funext k
    unfold rs
    by_cases c : 0 ≤ k ∧ k < 9
    · rw [rd_in c, if_pos c, ← hM5, wr_in (by omega), show k - 0 = k by omega]
    · rw [rd_out c, if_neg c]
  have p5 : M5 c0 4 = p := by rw [← hM5, wr_out (by omega), ← hM4, up_eq ⟨rfl, rfl⟩]
  have z5 : M5 c0 0 = 0 := by rw [← hM5, wr_out (by omega), ← hM4, up_ne (by omega), up_eq ⟨rfl, rfl⟩]
  have f5 : ∀ c k, c ≠ c0 → c ≠ c0 + 13 → M5 c k = M c k := fun c k h1 h2 => by rw [← hM5, wr_out (by omega), f4 c k h1]
  have lp12 : f_X0_find c0 a p M = if 0 ≤ tp_dg (rs p (M a)) 9 then (f_X0_makeMonic c0 (c0 + 13) M5).bind fun r9 => (f_J7_fill_53178 (c0 + 14) 0 r9).bind fun r11 => f_X0_find_84 c0 1 (tp_up r11 (c0 + 14) 1 1) else some (0, M5) := by
    unfold f_X0_find
    rw [if_pos hF.1, if_pos tga]
    simp only [tp_mp]
    rw [hM4]
    unfold f_X0_find_12
    have e0 : ((0 : Int), M4) = (((0 : Nat) : Int), tp_wr M4 (c0 + 13) 0 ((0 : Nat) : Int) (fun k => M a k % p)) := by rw [show ((0 : Nat) : Int) = 0 from rfl, wr_zero]
    rw [e0]
    refine lp_seq (fun j => ((j : Int), tp_wr M4 (c0 + 13) 0 j (fun k => M a k % p))) 9 (fun j hj rc => ?_) (fun rc => ?_) tp_N (by unfold tp_N; omega)
    · have u := wr_succ0 M4 (c0 + 13) j (fun k => M a k % p)
      simp only [f_X0_find_12B, f_X0_find_40, tp_mp, tp_lt, ha9]
      rw [if_neg (by omega), if_neg (by omega), if_pos (by omega), wr_out (x := a) (by omega), f4 a j (by omega), s_residue0 hF.1 (by rw [wr_out (by omega), ← hM4, up_eq ⟨rfl, rfl⟩]) hp]
      simp only [Option.bind_some]
      rw [if_pos (by omega), w_succ (show j < 1000000 by omega), u]
    · have e9 : tp_wr M4 (c0 + 13) 0 ((9 : Nat) : Int) (fun k => M a k % p) = M5 := hM5
      simp only [f_X0_find_12B, tp_mp, e9]
      rw [if_pos (by omega), s_degreeOf t13.1 t13.2, ← rd_dg, r13]
      simp only [Option.bind_some]
      rfl
  constructor
  · intro hd
    rw [lp12, if_neg (by omega)]
    exact ⟨M5, rfl, fun c k hc => f5 c k (by omega) (by omega)⟩
  · intro hd
    rw [lp12, if_pos hd]
    obtain ⟨m, hm⟩ : ∃ m : Nat, tp_dg (M5 (c0 + 13)) 9 = m := ⟨(tp_dg (rs p (M a)) 9).toNat, by rw [← rd_dg, r13]; omega⟩
    have i5 : inP p (M5 (c0 + 13)) 0 9 := rd_inP (by rw [r13]; exact rs_ro hpm _)
    have hmm := s_makeMonic (M := M5) (p := p) (c0 := c0) (a := c0 + 13) (m := m) hpm hF.1 t13.1 t13.2 p5 (by omega) hm i5
    have hmo := (mk_mo hpm hm i5).1
    have emon : rd (mkc p (iv p (M5 (c0 + 13) m)) (m + 1) (M5 (c0 + 13))) = mon p (rs p (M a)) := by
      rw [← mon_cong (p := p) (r := M5 (c0 + 13)) (t := rs p (M a)) (by rw [r13, rd_id (rs_ro hpm (M a))])]
      unfold mon
      rw [hm]
    rw [emon] at hmo
    rw [hmm]
    simp only [Option.bind_some]
    rw [s_fill (n := 9) t14.1 t14.2 (by omega)]
    simp only [Option.bind_some]
    generalize hG : mkc p (iv p (M5 (c0 + 13) m)) (m + 1) (M5 (c0 + 13)) = G at *
    generalize hM6 : tp_up (tp_fl (tp_row M5 (c0 + 13) G) (c0 + 14) 9 0) (c0 + 14) 1 1 = M6
    have q13 : rd (M6 (c0 + 13)) = mon p (rs p (M a)) := by
      rw [← emon]
      exact rd_cong (fun k _ _ => by rw [← hM6, up_ne (by omega), fl_out (by omega), row_eq])
    have q14 : rd (M6 (c0 + 14)) = fun k => if k = 1 then 1 else 0 := by
      funext k
      by_cases c : 0 ≤ k ∧ k < 9
      · rw [rd_in c, ← hM6]
        by_cases c1 : k = 1
        · rw [if_pos c1, up_eq ⟨rfl, c1⟩]
        · rw [if_neg c1, up_ne (by omega), fl_in (by omega)]
      · rw [rd_out c, if_neg (by omega)]
    have f6 : ∀ c k, c ≠ c0 + 13 → c ≠ c0 + 14 → M6 c k = M5 c k := fun c k h1 h2 => by rw [← hM6, up_ne (by omega), fl_out (by omega), row_ne h1]
    have hmo8 := hmo.2.1
    obtain ⟨K, k1, k2, k3⟩ := s_f84 (p := p) (c0 := c0) hpm hF 9 tp_N 1 M6 [] m (by unfold tp_N; omega) (by omega) (by omega) (by rw [f6 _ _ (by omega) (by omega)]; exact p5) ⟨by rw [f6 _ _ (by omega) (by omega)]; exact z5, fun i x hx => by simp at hx⟩ (by rw [q13]; exact hmo) (fun e' m' h1 h2 => by omega) (by
      rw [q14]
      refine ⟨fun k k0 k1 => ?_, fun k hk => ?_⟩
      · simp only
        by_cases c : k = 1
        · rw [if_pos c]; omega
        · rw [if_neg c]; omega
      · simp only; rw [if_neg (by omega)]) (fun s hs i => by
      rw [q14, ac_d1]
      exact ⟨0, by show s (i + 1) - s (i + 1) = p * 0; omega⟩) (by simp only [List.length_nil]; omega)
    rw [q13] at k2
    exact ⟨K, k1, k2, fun c k hc => by rw [k3 c k hc, f6 c k (by omega) (by omega), f5 c k (by omega) (by omega)]⟩
