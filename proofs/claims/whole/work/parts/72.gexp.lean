theorem pas_skip {P : Int} {g : Int → Int} {d lo : Int} (hd : 0 ≤ d) : ∀ (m n : Nat) (c : Int → Int), (∀ k, lo + d + n ≤ k → k < lo + d + n + m → c k = 0) → (∀ k, lo ≤ k → k < lo + d + n + m → 0 ≤ c k ∧ c k < P) → pas P g d lo (n + m) c = pas P g d lo n c := by
  intro m
  induction m with
  | zero => intro n c _ _; rfl
  | succ m ih =>
    intro n c hz hr
    show pas P g d lo (n + m) (e1 P g d (lo + d + ((n + m : Nat) : Int)) c) = _
    rw [e1_z (hz _ (by omega) (by omega)) (fun k k0 k1 => hr k (by omega) (by omega))]
    exact ih n c (fun k k0 k1 => hz k k0 (by omega)) (fun k k0 k1 => hr k k0 (by omega))
theorem oux_end {P : Int} {g : Int → Int} {d e : Int} (n : Nat) {s : Int} (h : e ≤ s + d) (c : Int → Int) : oux P g d e n s c = c := by
  cases n with
  | zero => rfl
  | succ n => unfold oux; rw [if_neg (by omega)]
theorem oux_trim {P : Int} (hP : 0 < P) {g : Int → Int} {d : Int} (hd : 1 ≤ d) : ∀ (n : Nat) (s : Int) (c : Int → Int), 0 ≤ s → inP P c 0 18 → (∀ k, 9 ≤ k → k < 18 → c k = 0) → oux P g d 18 n s c = oux P g d 9 n s c := by
  intro n
  induction n with
  | zero => intro s c _ _ _; rfl
  | succ n ih =>
    intro s c hs hr hz
    by_cases h1 : s + d < 9
    · have e1' : oux P g d 18 (n + 1) s c = oux P g d 18 n (s + d) (pas P g d s (18 - s - d).toNat c) := by
        conv => lhs; unfold oux
        rw [if_pos (by omega)]
      have e2 : oux P g d 9 (n + 1) s c = oux P g d 9 n (s + d) (pas P g d s (9 - s - d).toNat c) := by
        conv => lhs; unfold oux
        rw [if_pos h1]
      have e3 : pas P g d s (18 - s - d).toNat c = pas P g d s (9 - s - d).toNat c := by
        have := pas_skip (P := P) (g := g) (d := d) (lo := s) (by omega) 9 (9 - s - d).toNat c (fun k k0 k1 => hz k (by omega) (by omega)) (fun k k0 k1 => hr k (by omega) (by omega))
        rw [show (9 - s - d).toNat + 9 = (18 - s - d).toNat by omega] at this
        exact this
      rw [e1', e2, e3]
      exact ih (s + d) _ (by omega) (pas_in hP _ hr) (fun k k0 k1 => by rw [pas_out _ (by omega)]; exact hz k k0 k1)
    · rw [oux_end (n + 1) (by omega : (9 : Int) ≤ s + d)]
      by_cases h2 : s + d < 18
      · have e1' : oux P g d 18 (n + 1) s c = oux P g d 18 n (s + d) (pas P g d s (18 - s - d).toNat c) := by
          conv => lhs; unfold oux
          rw [if_pos h2]
        have e3 : pas P g d s (18 - s - d).toNat c = c := by
          have := pas_skip (P := P) (g := g) (d := d) (lo := s) (by omega) (18 - s - d).toNat 0 c (fun k k0 k1 => hz k (by omega) (by omega)) (fun k k0 k1 => hr k (by omega) (by omega))
          rw [show 0 + (18 - s - d).toNat = (18 - s - d).toNat by omega] at this
          exact this
        rw [e1', e3, ih (s + d) c (by omega) hr hz, oux_end n (by omega : (9 : Int) ≤ s + d + d)]
      · rw [oux_end (n + 1) (by omega : (18 : Int) ≤ s + d)]
/-- each block by itself -/
def blk (P : Int) (g : Int → Int) (d sz : Int) (X : Int → Int) : Int → Int := fun j => oux P g d (sz * (j / sz) + sz) 101 (sz * (j / sz)) X j
theorem blk_at {sz A B j : Int} (hs : 1 ≤ sz) (hA : sz ∣ A) (hB : sz ∣ B) (h0 : A ≤ j) (h1 : j < B) : A ≤ sz * (j / sz) ∧ sz * (j / sz) ≤ j ∧ j < sz * (j / sz) + sz ∧ sz * (j / sz) + sz ≤ B := by
  obtain ⟨a, rfl⟩ := hA
  obtain ⟨b, rfl⟩ := hB
  have e := Int.mul_ediv_add_emod j sz
  have m0 := Int.emod_nonneg j (show sz ≠ 0 by omega)
  have m1 := Int.emod_lt_of_pos j (show 0 < sz by omega)
  have l1 : j / sz < b := Int.ediv_lt_of_lt_mul (by omega) (by rw [Int.mul_comm]; exact h1)
  have l0 : a ≤ j / sz := Int.le_ediv_of_mul_le (by omega) (by rw [Int.mul_comm]; exact h0)
  have l2 : sz * (j / sz + 1) ≤ sz * b := Int.mul_le_mul_of_nonneg_left (by omega) (by omega)
  have l3 : sz * a ≤ sz * (j / sz) := Int.mul_le_mul_of_nonneg_left (by omega) (by omega)
  rw [Int.mul_add, Int.mul_one] at l2
  omega
theorem blk_cong {P : Int} {g g' : Int → Int} {d sz A B : Int} {X X' : Int → Int} (hs : 1 ≤ sz) (hd : 0 ≤ d) (hA : sz ∣ A) (hB : sz ∣ B) (hg : ∀ k, 0 ≤ k → k < d → g k = g' k) (hX : ∀ j, A ≤ j → j < B → X j = X' j) : ∀ j, A ≤ j → j < B → blk P g d sz X j = blk P g' d sz X' j := by
  intro j j0 j1
  obtain ⟨b1, b2, b3, b4⟩ := blk_at hs hA hB j0 j1
  unfold blk
  exact oux_cong (a := sz * (j / sz)) hd hg 101 _ (Int.le_refl _) (fun k k0 k1 => hX k (by omega) (by omega)) j b2 b3
theorem blk_in {P : Int} (hP : 0 < P) {g : Int → Int} {d sz a b : Int} {X : Int → Int} (h : inP P X a b) : inP P (blk P g d sz X) a b := fun k k0 k1 => by
  unfold blk; exact oux_in hP 101 _ h k k0 k1
def lvE (P : Int) (q : Int → Int → Int) (D : Int → Int) : Nat → (Int → Int) → (Int → Int)
  | 0, X => X
  | n + 1, X => lvE P q D n (blk P (q ((n : Int) + 1)) (D ((n : Int) + 1)) (D ((n : Int) + 2)) X)
theorem lvE_cong {P : Int} {q : Int → Int → Int} {D : Int → Int} {A B : Int} : ∀ (n : Nat) {X X' : Int → Int}, (∀ k, 1 ≤ k → k ≤ (n : Int) → 1 ≤ D (k + 1) ∧ 0 ≤ D k ∧ D (k + 1) ∣ A ∧ D (k + 1) ∣ B) → (∀ j, A ≤ j → j < B → X j = X' j) → ∀ j, A ≤ j → j < B → lvE P q D n X j = lvE P q D n X' j := by
  intro n
  induction n with
  | zero => intro X X' _ h; exact h
  | succ n ih =>
    intro X X' hD h
    obtain ⟨d1, d2, d3, d4⟩ := hD ((n : Int) + 1) (by omega) (by omega)
    rw [show (n : Int) + 1 + 1 = (n : Int) + 2 by omega] at d1 d3 d4
    exact ih (fun k k0 k1 => hD k k0 (by omega)) (blk_cong d1 d2 d3 d4 (fun _ _ _ => rfl) h)
theorem lvE_in {P : Int} (hP : 0 < P) {q : Int → Int → Int} {D : Int → Int} {a b : Int} : ∀ (n : Nat) {X : Int → Int}, inP P X a b → inP P (lvE P q D n X) a b := by
  intro n
  induction n with
  | zero => intro X h; exact h
  | succ n ih => intro X h; exact ih (blk_in hP h)
/-- the numbers of a knot's parts -/
def rowN (P : Int) (q : Int → Int → Int) (D : Int → Int) (r : Int) (f : Int → Int) : Int → Int := lvE P q D (r - 1).toNat (oux P (q r) (D r) 9 101 0 (rd f))
theorem t304 : tp_tg 304 = 22 ∧ tp_al 304 = 18 := by decide +kernel
def T304 : Prop := tp_tg 304 = 22 ∧ tp_al 304 = 18
set_option maxHeartbeats 4000000 in
set_option maxRecDepth 100000 in
theorem s_ep88 {M : tp_M} {P k d sz : Int} {rec_60 : Int → tp_M → Option tp_M} (hP : M 1 2 = P) (hP2 : 0 < P ∧ P ≤ 400000000) (hk : 1 ≤ k ∧ k ≤ 6) (hd : M 280 k = d) (hd2 : 1 ≤ d ∧ d ≤ 8) (hsz : 1 ≤ sz ∧ sz ≤ 8) (hX : inP P (M 304) 0 18) (hg : inP P (M (294 + k)) 0 9) : f_X1_expandParts_88 rec_60 k sz 0 M = f_X1_expandParts_141 rec_60 k (tp_row M 304 (fun j => if 0 ≤ j ∧ j < sz * (18 / sz) then blk P (M (294 + k)) d sz (M 304) j else M 304 j)) := by
  have tk : L9 (294 + k) := tg_key (by omega)
  have e := Int.mul_ediv_add_emod 18 sz
  have m0 := Int.emod_nonneg 18 (show sz ≠ 0 by omega)
  have m1 := Int.emod_lt_of_pos 18 (show 0 < sz by omega)
  have q0 : 0 ≤ 18 / sz := Int.ediv_nonneg (by omega) (by omega)
  have q1 : 18 / sz ≤ 18 := Int.ediv_le_self sz (by omega)
  obtain ⟨T, hT⟩ : ∃ T : Nat, 18 / sz = T := ⟨(18 / sz).toNat, by omega⟩
  rw [hT] at e q0 q1 ⊢
  clear hT
  unfold f_X1_expandParts_88
  have e0 : ((0 : Int), M) = (sz * ((0 : Nat) : Int), tp_row M 304 (fun j => if 0 ≤ j ∧ j < sz * ((0 : Nat) : Int) then blk P (M (294 + k)) d sz (M 304) j else M 304 j)) := by
    have : (fun j : Int => if 0 ≤ j ∧ j < sz * ((0 : Nat) : Int) then blk P (M (294 + k)) d sz (M 304) j else M 304 j) = M 304 := by
      funext j; rw [if_neg (by rw [show sz * ((0 : Nat) : Int) = 0 from Int.mul_zero sz]; omega)]
    rw [this, row_id, show sz * ((0 : Nat) : Int) = 0 from Int.mul_zero sz]
  rw [e0]
  refine lp_seq (fun t => (sz * (t : Int), tp_row M 304 (fun j => if 0 ≤ j ∧ j < sz * (t : Int) then blk P (M (294 + k)) d sz (M 304) j else M 304 j))) T (fun t ht rc => ?_) (fun rc => ?_) tp_N (by unfold tp_N; omega)
  · have l0 : 0 ≤ sz * (t : Int) := Int.mul_nonneg (by omega) (by omega)
    have l1 : sz * ((t : Int) + 1) ≤ sz * (T : Int) := Int.mul_le_mul_of_nonneg_left (by omega) (by omega)
    rw [Int.mul_add, Int.mul_one] at l1
    have b1 : -2147483648 ≤ sz * (t : Int) + sz ∧ sz * (t : Int) + sz ≤ 2147483647 := by omega
    have g0 : ¬ 18 < sz * (t : Int) + sz := by omega
    have g1 : 0 ≤ k ∧ k < 8 := by omega
    have g2 : sz * (t : Int) + sz ≤ 18 := by omega
    have es : sz * ((t + 1 : Nat) : Int) = sz * (t : Int) + sz := by rw [show ((t + 1 : Nat) : Int) = (t : Int) + 1 by omega, Int.mul_add, Int.mul_one]
    have jd : ∀ j, sz * (t : Int) ≤ j → j < sz * (t : Int) + sz → j / sz = t := fun j j0 j1 => by
      have a := Int.ediv_lt_of_lt_mul (a := j) (b := (t : Int) + 1) (c := sz) (by omega) (by rw [Int.mul_comm, Int.mul_add, Int.mul_one]; exact j1)
      have b := Int.le_ediv_of_mul_le (a := (t : Int)) (b := j) (c := sz) (by omega) (by rw [Int.mul_comm]; exact j0)
      omega
    have n18 : ¬ (304 : Int) = 294 + k := by omega
    have d9 : 1 ≤ d ∧ d < 9 := by omega
    generalize hX0 : M 304 = X at *
    generalize hY0 : (fun j : Int => if 0 ≤ j ∧ j < sz * (t : Int) then blk P (M (294 + k)) d sz X j else X j) = Y
    have Yj : ∀ j, Y j = if 0 ≤ j ∧ j < sz * (t : Int) then blk P (M (294 + k)) d sz X j else X j := fun j => by rw [← hY0]
    have Yin : inP P Y 0 18 := fun j j0 j1 => by
      rw [Yj]
      by_cases c : 0 ≤ j ∧ j < sz * (t : Int)
      · rw [if_pos c]; exact blk_in hP2.1 hX j j0 j1
      · rw [if_neg c]; exact hX j j0 j1
    have fin : oux P (M (294 + k)) d (sz * (t : Int) + sz) 101 (sz * (t : Int)) Y = fun j => if 0 ≤ j ∧ j < sz * (t : Int) + sz then blk P (M (294 + k)) d sz X j else X j := by
      funext j
      by_cases c : sz * (t : Int) ≤ j ∧ j < sz * (t : Int) + sz
      · rw [if_pos (by omega)]
        unfold blk
        rw [jd j c.1 c.2]
        exact oux_cong (a := sz * (t : Int)) (by omega) (fun _ _ _ => rfl) 101 _ (Int.le_refl _) (fun i i0 i1 => by rw [Yj, if_neg (by omega)]) j c.1 c.2
      · rw [oux_out (by omega) 101 _ c, Yj]
        by_cases c2 : 0 ≤ j ∧ j < sz * (t : Int)
        · rw [if_pos c2, if_pos (by omega)]
        · rw [if_neg c2, if_neg (by omega)]
    have rk : ∀ j, tp_row M 304 Y (294 + k) j = M (294 + k) j := fun j => row_ne (fun h => n18 h.symm)
    have rkf : tp_row M 304 Y (294 + k) = M (294 + k) := funext rk
    have r304 : tp_row M 304 Y 304 = Y := by funext j; exact row_eq
    have r280 : tp_row M 304 Y 280 k = d := by rw [row_ne (by decide)]; exact hd
    have r12 : tp_row M 304 Y 1 2 = P := by rw [row_ne (by decide)]; exact hP
    have ex := s_expand (M := tp_row M 304 Y) (P := P) (c := 304) (kc := 294 + k) (d := d) (a := sz * (t : Int)) (n := sz) t304.1 tk.1 r12 hP2 ⟨by decide, n18⟩ (by rw [t304.2]; decide) (by rw [tk.2]; exact d9) (by rw [tk.2]; decide) l0 (by omega) (by rw [t304.2]; exact g2) (by rw [t304.2, r304]; exact Yin) (by rw [rkf]; exact fun i i0 i1 => hg i i0 (by omega))
    rw [r304, rkf, fin] at ex
    have rr : tp_row (tp_row M 304 Y) 304 (fun j => if 0 ≤ j ∧ j < sz * (t : Int) + sz then blk P (M (294 + k)) d sz X j else X j) = tp_row M 304 (fun j => if 0 ≤ j ∧ j < sz * (t : Int) + sz then blk P (M (294 + k)) d sz X j else X j) := by
      funext a b
      unfold tp_row
      by_cases c : a = 304
      · rw [if_pos c, if_pos c]
      · rw [if_neg c, if_neg c, if_neg c]
    rw [rr] at ex
    simp only [f_X1_expandParts_88B, tp_lt]
    rw [ho_w b1.1 b1.2, if_neg g0, if_pos g1, if_pos g1, r280, ex, Option.bind_some, es]
  · have g0 : 18 < sz * (T : Int) + sz := by omega
    have b1 : -2147483648 ≤ sz * (T : Int) + sz ∧ sz * (T : Int) + sz ≤ 2147483647 := by omega
    simp only [f_X1_expandParts_88B]
    rw [ho_w b1.1 b1.2, if_pos g0]
def eB60 : (Int × tp_M → Option tp_M) → Int × tp_M → Option tp_M := fun rec_ u => f_X1_expandParts_60B (fun x2' M0' => rec_ (x2', M0')) u.1 u.2
theorem s_ep60 {P B : Int} {q : Int → Int → Int} {D : Int → Int} (hP2 : 0 < P ∧ P ≤ 400000000) (hB : 0 ≤ B ∧ B ≤ 18) : ∀ (n N : Nat) (M : tp_M) (X : Int → Int), n < N → n ≤ 5 → M 1 2 = P → (∀ k, 1 ≤ k → k ≤ (n : Int) → M 280 k = D k ∧ M 280 (k + 1) = D (k + 1) ∧ rd (M (294 + k)) = q k ∧ Ro P (q k) ∧ 1 ≤ D k ∧ D k ≤ 8 ∧ 1 ≤ D (k + 1) ∧ D (k + 1) ≤ 8 ∧ D (k + 1) ∣ B) → inP P (M 304) 0 18 → (∀ j, 0 ≤ j → j < B → M 304 j = X j) → ∃ K, tp_lp eB60 N ((n : Int), M) = some K ∧ (∀ j, 0 ≤ j → j < B → K 304 j = lvE P q D n X j) ∧ inP P (K 304) 0 18 ∧ ∀ c k, c ≠ 304 → K c k = M c k := by
  intro n
  induction n with
  | zero =>
    intro N M X hN h5 hP hc hi hX
    refine ⟨M, ?_, hX, hi, fun c k _ => rfl⟩
    rw [lp_1 (by omega)]
    simp only [eB60, f_X1_expandParts_60B]
    rw [if_pos (by omega)]
  | succ n ih =>
    intro N M X hN h5 hP hc hi hX
    obtain ⟨c1, c2, c3, c4, c5, c6, c7, c8, c9⟩ := hc ((n : Int) + 1) (by omega) (by omega)
    rw [show (n : Int) + 1 + 1 = (n : Int) + 2 by omega] at c2 c7 c8 c9
    have hg : inP P (M (294 + ((n : Int) + 1))) 0 9 := rd_inP (by rw [c3]; exact c4)
    have h88 := s_ep88 (M := M) (P := P) (k := (n : Int) + 1) (d := D ((n : Int) + 1)) (sz := D ((n : Int) + 2)) (rec_60 := fun x2' M0' => tp_lp eB60 (N - 1) (x2', M0')) hP hP2 (by omega) c1 ⟨c5, c6⟩ ⟨c7, c8⟩ hi hg
    have hBT : B ≤ D ((n : Int) + 2) * (18 / D ((n : Int) + 2)) := by
      obtain ⟨t, ht⟩ := c9
      have : t ≤ 18 / D ((n : Int) + 2) := Int.le_ediv_of_mul_le (by omega) (by rw [Int.mul_comm, ← ht]; exact hB.2)
      have := Int.mul_le_mul_of_nonneg_left this (show 0 ≤ D ((n : Int) + 2) by omega)
      rw [ht]; exact this
    generalize hZ : (fun j : Int => if 0 ≤ j ∧ j < D ((n : Int) + 2) * (18 / D ((n : Int) + 2)) then blk P (M (294 + ((n : Int) + 1))) (D ((n : Int) + 1)) (D ((n : Int) + 2)) (M 304) j else M 304 j) = Z at h88
    have Zj : ∀ j, Z j = if 0 ≤ j ∧ j < D ((n : Int) + 2) * (18 / D ((n : Int) + 2)) then blk P (M (294 + ((n : Int) + 1))) (D ((n : Int) + 1)) (D ((n : Int) + 2)) (M 304) j else M 304 j := fun j => by rw [← hZ]
    have Zin : inP P Z 0 18 := fun j j0 j1 => by
      rw [Zj]
      by_cases c : 0 ≤ j ∧ j < D ((n : Int) + 2) * (18 / D ((n : Int) + 2))
      · rw [if_pos c]; exact blk_in hP2.1 hi j j0 j1
      · rw [if_neg c]; exact hi j j0 j1
    have r304 : tp_row M 304 Z 304 = Z := by funext j; exact row_eq
    have hX2 : ∀ j, 0 ≤ j → j < B → Z j = blk P (q ((n : Int) + 1)) (D ((n : Int) + 1)) (D ((n : Int) + 2)) X j := fun j j0 j1 => by
      rw [Zj, if_pos (by omega)]
      exact blk_cong c7 (by omega) ⟨0, by omega⟩ c9 (fun k k0 k1 => by rw [← c3, rd_in (by omega)]) hX j j0 j1
    obtain ⟨K, k1, k2, k3, k4⟩ := ih (N - 1) (tp_row M 304 Z) (blk P (q ((n : Int) + 1)) (D ((n : Int) + 1)) (D ((n : Int) + 2)) X) (by omega) (by omega) (by rw [row_ne (by decide)]; exact hP) (fun k k0 k1 => by
      obtain ⟨a1, a2, a3, a4⟩ := hc k k0 (by omega)
      exact ⟨by rw [row_ne (by decide)]; exact a1, by rw [row_ne (by decide)]; exact a2, by rw [← a3]; exact rd_cong (fun j _ _ => row_ne (by omega)), a4⟩) (by rw [r304]; exact Zin) (by rw [r304]; exact hX2)
    refine ⟨K, ?_, k2, k3, fun c k hc => by rw [k4 c k hc, row_ne hc]⟩
    rw [lp_1 (by omega)]
    generalize tp_lp eB60 (N - 1) = Rc at k1 h88 ⊢
    have b1 : -2147483648 ≤ ((n + 1 : Nat) : Int) + 1 ∧ ((n + 1 : Nat) : Int) + 1 ≤ 2147483647 := by omega
    have g0 : ¬ ((n + 1 : Nat) : Int) < 1 := by omega
    have g1 : 0 ≤ ((n + 1 : Nat) : Int) + 1 ∧ ((n + 1 : Nat) : Int) + 1 < 8 := by omega
    have ew : ((n + 1 : Nat) : Int) + 1 = (n : Int) + 2 := by omega
    have en : ((n + 1 : Nat) : Int) = (n : Int) + 1 := by omega
    have w3 := ho_w (x := (n : Int) + 1 + -1) (by omega) (by omega)
    have e3 : (n : Int) + 1 + -1 = n := by omega
    simp only [eB60, f_X1_expandParts_60B, tp_lt]
    rw [if_neg g0, ho_w b1.1 b1.2, if_pos g1, ew, c2, if_pos c7, en, h88]
    unfold f_X1_expandParts_141
    simp only [tp_lt]
    rw [w3, e3]
    exact k1
set_option maxHeartbeats 4000000 in
set_option maxRecDepth 100000 in
theorem s_expandParts {M : tp_M} {P i r B : Int} {q : Int → Int → Int} {D : Int → Int} (hP : M 1 2 = P) (hP2 : 0 < P ∧ P ≤ 400000000) (hi : 0 ≤ i ∧ i < 24) (hr : 1 ≤ r ∧ r ≤ 6) (hB : 0 ≤ B ∧ B ≤ 18) (hl : M (46 + 3 * i) 0 = r) (hd : M (46 + 3 * i) 2 = D r) (hk : rd (M (46 + 3 * i + 1)) = q r) (hq : Ro P (q r)) (hDr : 1 ≤ D r ∧ D r ≤ 8) (hf : inP P (M 303) 0 9) (hc : ∀ k, 1 ≤ k → k < r → M 280 k = D k ∧ M 280 (k + 1) = D (k + 1) ∧ rd (M (294 + k)) = q k ∧ Ro P (q k) ∧ 1 ≤ D k ∧ D k ≤ 8 ∧ 1 ≤ D (k + 1) ∧ D (k + 1) ≤ 8 ∧ D (k + 1) ∣ B) : ∃ K, f_X1_expandParts (46 + 3 * i) M = some K ∧ (∀ j, 0 ≤ j → j < B → K 304 j = rowN P q D r (M 303) j) ∧ inP P (K 304) 0 18 ∧ ∀ c k, c ≠ 304 → K c k = M c k := by
  have tk := tg_kn hi
  generalize hkc : 46 + 3 * i = kc at *
  have hkc2 : 46 ≤ kc ∧ kc ≤ 115 := by omega
  clear hkc
  have ik : inP P (M (kc + 1)) 0 9 := rd_inP (by rw [hk]; exact hq)
  generalize hM4 : tp_cp (tp_fl M 304 18 0) 303 0 304 0 9 = M4
  have f4 : ∀ c k, c ≠ 304 → M4 c k = M c k := fun c k hc => by rw [← hM4, cp_out (fun h => hc h.1), fl_out (fun h => hc h.1)]
  have r4 : ∀ j, 0 ≤ j → j < 18 → M4 304 j = rd (M 303) j := fun j j0 j1 => by
    rw [← hM4]
    by_cases c : j < 9
    · rw [cp_in (by omega), fl_out (by omega), rd_in ⟨j0, c⟩, show (0 : Int) + (j - 0) = j by omega]
    · rw [cp_out (by omega), fl_in (by omega), rd_out (by omega)]
  have i4 : inP P (M4 304) 0 18 := fun j j0 j1 => by
    rw [r4 j j0 j1]
    by_cases c : j < 9
    · rw [rd_in ⟨j0, c⟩]; exact hf j j0 c
    · rw [rd_out (by omega)]; omega
  have ek : M4 (kc + 1) = M (kc + 1) := by funext j; exact f4 _ _ (by omega)
  have ex := s_expand (M := M4) (P := P) (c := 304) (kc := kc + 1) (d := D r) (a := 0) (n := 18) t304.1 tk.2.1.1 (by rw [f4 _ _ (by decide)]; exact hP) hP2 ⟨by decide, by omega⟩ (by rw [t304.2]; decide) (by rw [tk.2.1.2]; omega) (by rw [tk.2.1.2]; decide) (by decide) (by decide) (by rw [t304.2]; decide) (by rw [t304.2]; exact i4) (by rw [ek]; exact fun j j0 j1 => ik j j0 (by omega))
  rw [show (0 : Int) + 18 = 18 by omega, ek, oux_trim hP2.1 hDr.1 101 0 (M4 304) (by decide) i4 (fun k k0 k1 => by rw [r4 k (by omega) k1, rd_out (by omega)])] at ex
  have i5 : inP P (oux P (M (kc + 1)) (D r) 9 101 0 (M4 304)) 0 18 := oux_in hP2.1 101 0 i4
  have e5 : ∀ j, 0 ≤ j → j < B → oux P (M (kc + 1)) (D r) 9 101 0 (M4 304) j = oux P (q r) (D r) 9 101 0 (rd (M 303)) j := fun j j0 j1 => by
    by_cases c : j < 9
    · exact oux_cong (a := 0) (by omega) (fun k k0 k1 => by rw [← hk, rd_in (by omega)]) 101 0 (Int.le_refl _) (fun k k0 k1 => r4 k k0 (by omega)) j j0 c
    · rw [oux_out (by omega) 101 0 (by omega), oux_out (by omega) 101 0 (by omega)]; exact r4 j j0 (by omega)
  generalize oux P (M (kc + 1)) (D r) 9 101 0 (M4 304) = Y at ex i5 e5
  generalize hM5 : tp_row M4 304 Y = M5 at ex
  have f5 : ∀ c k, c ≠ 304 → M5 c k = M c k := fun c k hc => by rw [← hM5, row_ne hc, f4 c k hc]
  have r5 : M5 304 = Y := by rw [← hM5]; funext j; exact row_eq
  obtain ⟨K, k1, k2, k3, k4⟩ := s_ep60 (P := P) (B := B) (q := q) (D := D) hP2 hB (r - 1).toNat tp_N M5 (oux P (q r) (D r) 9 101 0 (rd (M 303))) (by unfold tp_N; omega) (by omega) (by rw [f5 _ _ (by decide)]; exact hP) (fun k k0 k1 => by
    obtain ⟨a1, a2, a3, a4⟩ := hc k k0 (by omega)
    exact ⟨by rw [f5 _ _ (by decide)]; exact a1, by rw [f5 _ _ (by decide)]; exact a2, by rw [← a3]; exact rd_cong (fun j _ _ => f5 _ _ (by omega)), a4⟩) (by rw [r5]; exact i5) (by rw [r5]; exact e5)
  refine ⟨K, ?_, k2, k3, fun c k hc => by rw [k4 c k hc, f5 c k hc]⟩
  have l5 : M5 kc 0 = r := by rw [f5 _ _ (by omega)]; exact hl
  have w1 := ho_w (x := min r 6 - 1) (by omega) (by omega)
  have e1 : min r 6 - 1 = (((r - 1).toNat : Nat) : Int) := by omega
  have d4 : M4 kc 2 = D r := by rw [f4 _ _ (by omega)]; exact hd
  unfold f_X1_expandParts
  simp only [tp_lt, tp_mp]
  rw [if_pos (show tp_tg kc = 2 from tk.1), s_filll (n := 18) t304.1 t304.2 (by omega), Option.bind_some, if_pos (by omega), hM4, d4, ex, Option.bind_some, l5, w1, e1]
  exact k1
