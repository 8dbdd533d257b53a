theorem cvs_cong {X X' Y Y' : Int → Int} (hX : ∀ k, 0 ≤ k → k < 9 → X k = X' k) (hY : ∀ k, 0 ≤ k → k < 9 → Y k = Y' k) (k : Int) : ∀ n : Nat, n ≤ 9 → cvs X Y k n = cvs X' Y' k n := by
  intro n
  induction n with
  | zero => intro _; rfl
  | succ n ih =>
    intro hn
    unfold cvs
    rw [ih (by omega)]
    by_cases c : 0 ≤ k - n ∧ k - n < 9
    · rw [if_pos c, if_pos c, hX n (by omega) (by omega), hY _ c.1 c.2]
    · rw [if_neg c, if_neg c]
def mul9 (P : Int) (X Y : Int → Int) : Int → Int := fun k => if 0 ≤ k ∧ k < 9 then cvs X Y k 9 % P else 0
def mulN (P : Int) (X Y : Int → Int) : Nat → (Int → Int)
  | 0 => X
  | n + 1 => mul9 P (mulN P X Y n) Y
def sc (v : Int) : Int → Int := fun k => if k = 0 then v else 0
def fcN (P : Int) (q : Int → Int → Int) (t : Int → Int) (X : Int → Int) : Nat → (Int → Int)
  | 0 => X
  | n + 1 => mulN P (fcN P q t X n) (q (n + 1)) (t (n + 1)).toNat
def kyP (P pw c : Int) (er : Nat) (qr : Int → Int) (q : Int → Int → Int) (t : Int → Int) (n : Nat) : Int → Int := fun k => if 0 ≤ k ∧ k < 9 then (mulN P (sc 1) qr er k - c * fcN P q t (sc pw) n k) % P else 0
theorem mul9_cong {P : Int} {X X' Y Y' : Int → Int} (hX : ∀ k, 0 ≤ k → k < 9 → X k = X' k) (hY : ∀ k, 0 ≤ k → k < 9 → Y k = Y' k) : mul9 P X Y = mul9 P X' Y' := by
  funext k; unfold mul9; rw [cvs_cong hX hY k 9 (Nat.le_refl 9)]
theorem mul9_ro {P : Int} (hP : 0 < P) (X Y : Int → Int) : Ro P (mul9 P X Y) := by
  refine ⟨fun k k0 k1 => ?_, fun k hk => ?_⟩
  · unfold mul9; rw [if_pos ⟨k0, k1⟩]; exact ⟨Int.emod_nonneg _ (by omega), Int.emod_lt_of_pos _ hP⟩
  · unfold mul9; rw [if_neg hk]
theorem mulN_ro {P : Int} (hP : 0 < P) {X : Int → Int} (hX : Ro P X) (Y : Int → Int) : ∀ n, Ro P (mulN P X Y n) := by
  intro n
  cases n with
  | zero => exact hX
  | succ n => exact mul9_ro hP _ _
theorem fcN_ro {P : Int} (hP : 0 < P) {q : Int → Int → Int} {t : Int → Int} {X : Int → Int} (hX : Ro P X) : ∀ n, Ro P (fcN P q t X n) := by
  intro n
  induction n with
  | zero => exact hX
  | succ n ih => exact mulN_ro hP ih _ _
theorem sc_ro {P v : Int} (hP : 0 < P) (hv : 0 ≤ v ∧ v < P) : Ro P (sc v) := by
  refine ⟨fun k k0 k1 => ?_, fun k hk => ?_⟩
  · unfold sc
    by_cases c : k = 0
    · rw [if_pos c]; exact hv
    · rw [if_neg c]; omega
  · unfold sc; rw [if_neg (by omega)]
def pwr (p K n : Int) : Int := if n < K then p ^ n.toNat else 0
theorem pow_mono {p : Int} (hp : 1 ≤ p) : ∀ {a b : Nat}, a ≤ b → 1 ≤ p ^ a ∧ p ^ a ≤ p ^ b := by
  intro a b h
  have h1 : ∀ n : Nat, 1 ≤ p ^ n := by
    intro n
    induction n with
    | zero => rw [Int.pow_zero]; omega
    | succ n ih =>
      rw [Int.pow_succ]
      have := Int.mul_le_mul ih hp (by omega) (by omega)
      omega
  refine ⟨h1 a, ?_⟩
  obtain ⟨c, rfl⟩ : ∃ c, b = a + c := ⟨b - a, by omega⟩
  rw [Int.pow_add]
  have := Int.mul_le_mul_of_nonneg_left (h1 c) (show 0 ≤ p ^ a by have := h1 a; omega)
  omega
/-- the prime, its limit, its power -/
def pKP (p K P : Int) : Prop := Pm p ∧ 10 ≤ K ∧ K ≤ 28 ∧ P = p ^ K.toNat ∧ 0 < P ∧ P ≤ 400000000
theorem iv_pKP {M : tp_M} (h : iv_prime M) : pKP (M 1 0) (M 1 1) (M 1 2) ∧ M 483 0 = M 1 0 ∧ M 483 1 = M 1 1 ∧ M 483 2 = M 1 2 := by
  obtain ⟨⟨h0, h1, h2⟩, h3⟩ := h
  refine ⟨?_, h0, h1, h2⟩
  unfold pKP Pm
  rcases h3 with ⟨a, b, c⟩ | ⟨a, b, c⟩ | ⟨a, b, c⟩ | ⟨a, b, c⟩ <;> rw [a, b, c] <;> refine ⟨by decide, by decide, by decide, by decide, by decide, by decide⟩
theorem pwr_b {p K P n : Int} (h : pKP p K P) : 0 ≤ pwr p K n ∧ pwr p K n < P := by
  obtain ⟨h1, h2, h3, h4, h5, h6⟩ := h
  have hp := pm_2 h1
  unfold pwr
  by_cases c : n < K
  · rw [if_pos c]
    have a := pow_mono (p := p) (by omega) (a := n.toNat + 1) (b := K.toNat) (by omega)
    have b := pow_mono (p := p) (by omega) (a := n.toNat) (b := K.toNat) (by omega)
    rw [Int.pow_succ] at a
    have c2 : p ^ n.toNat * 2 ≤ p ^ n.toNat * p := Int.mul_le_mul_of_nonneg_left (by omega) (by omega)
    omega
  · rw [if_neg c]; omega
set_option maxHeartbeats 4000000 in
set_option maxRecDepth 100000 in
theorem s_power {M : tp_M} {p K P n : Int} (h : pKP p K P) (hp : M 1 0 = p) (hK : M 1 1 = K) : f_X4_power n M = some (pwr p K n) := by
  obtain ⟨h1, h2, h3, h4, h5, h6⟩ := h
  have hp2 := pm_2 h1
  unfold f_X4_power pwr
  rw [hK]
  by_cases c : n < K
  · rw [if_pos c, if_pos c]
    unfold f_X4_power_15
    have e0 : ((1 : Int), (0 : Int)) = (p ^ 0, ((0 : Nat) : Int)) := by rw [Int.pow_zero]; rfl
    rw [e0]
    refine lp_seq (fun j => (p ^ j, (j : Int))) n.toNat (fun j hj rc => ?_) (fun rc => ?_) tp_N (by unfold tp_N; omega)
    · have a := pow_mono (p := p) (by omega) (a := j + 1) (b := K.toNat) (by omega)
      simp only [f_X4_power_15B, tp_lt, hp]
      rw [if_neg (by omega), ← Int.pow_succ, ho_wl (x := p ^ (j + 1)) (by omega) (by omega), w_succ (show j < 1000000 by omega)]
    · simp only [f_X4_power_15B]
      rw [if_pos (by omega)]
  · rw [if_neg c, if_neg c]
def L9 (a : Int) : Prop := tp_tg a = 22 ∧ tp_al a = 9
def I9 (a : Int) : Prop := tp_tg a = 21 ∧ tp_al a = 9
theorem s_mul32b {W : tp_M} {P a b c x y v : Int} {i j : Nat} {rec_22 rc : Int → tp_M → Option tp_M} (ta : L9 a) (tb : L9 b) (tc : L9 c) (hij : i + j < 9) (hP2 : 0 < P ∧ P ≤ 400000000) (hx : 0 ≤ x ∧ x < P) (hy : 0 ≤ y ∧ y < P) (hv : 0 ≤ v ∧ v < P) (eP : W 1 2 = P) (ex : W a i = x) (ey : W b j = y) (ev : W c ((i : Int) + j) = v) : f_X4_multiply_32B rec_22 a b c 9 i rc j W = rc ((j + 1 : Nat) : Int) (tp_up W c ((i : Int) + j) ((v + x * y) % P)) := by
  have q := mulP (x := x) (y := y) (by omega) (by omega)
  have b1 : -2147483648 ≤ (9 : Int) - i ∧ (9 : Int) - i ≤ 2147483647 := by omega
  have b2 : -2147483648 ≤ (i : Int) + j ∧ (i : Int) + j ≤ 2147483647 := by omega
  have b3 : -9223372036854775808 ≤ x * y ∧ x * y ≤ 9223372036854775807 := by omega
  have b4 : -9223372036854775808 ≤ v + x * y ∧ v + x * y ≤ 9223372036854775807 := by omega
  have g0 : ¬ (9 : Int) - i ≤ j := by omega
  have g1 : 0 ≤ (i : Int) + j ∧ (i : Int) + j < 9 := by omega
  have g2 : 0 ≤ (i : Int) ∧ (i : Int) < 9 := by omega
  have g3 : 0 ≤ (j : Int) ∧ (j : Int) < 9 := by omega
  have g4 : j < 1000000 := by omega
  have sr := s_rest (M := W) (a := v + x * y) (by rw [eP]; exact hP2)
  rw [eP] at sr
  unfold f_X4_multiply_32B
  dsimp only [tp_lt, tp_mp]
  rw [ho_w b1.1 b1.2, if_neg g0, ho_w b2.1 b2.2, ta.2, tb.2, tc.2, if_pos g1, if_pos g2, if_pos g3, ev, ex, ey, ho_wl b3.1 b3.2, ho_wl b4.1 b4.2, sr, Option.bind_some, if_pos g1, w_succ g4]
theorem s_mul32 {M : tp_M} {P a b c : Int} {i : Nat} {rec_22 : Int → tp_M → Option tp_M} (hP : M 1 2 = P) (hP2 : 0 < P ∧ P ≤ 400000000) (ta : L9 a) (tb : L9 b) (tc : L9 c) (hc : c ≠ 1 ∧ c ≠ a ∧ c ≠ b) (hi : i < 9) (iX : inP P (M a) 0 9) (iY : inP P (M b) 0 9) : f_X4_multiply_32 rec_22 a b c 9 i 0 (tp_wr M c 0 9 (fun k => cvs (M a) (M b) k i % P)) = rec_22 ((i + 1 : Nat) : Int) (tp_wr M c 0 9 (fun k => cvs (M a) (M b) k (i + 1) % P)) := by
  unfold f_X4_multiply_32
  have e1 : ((0 : Int), tp_wr M c 0 9 (fun k => cvs (M a) (M b) k i % P)) = (((0 : Nat) : Int), tp_wr M c 0 9 (fun k => (cvs (M a) (M b) k i + if 0 ≤ k - i ∧ k - i < ((0 : Nat) : Int) then M a i * M b (k - i) else 0) % P)) := congrArg (fun z => ((0 : Int), z)) (wr_cong (fun k k0 k1 => by rw [if_neg (by omega), Int.add_zero]))
  rw [e1]
  refine lp_seq (fun j => ((j : Int), tp_wr M c 0 9 (fun k => (cvs (M a) (M b) k i + if 0 ≤ k - i ∧ k - i < (j : Int) then M a i * M b (k - i) else 0) % P))) (9 - i) (fun j hj rc2 => ?_) (fun rc2 => ?_) tp_N (by unfold tp_N; omega)
  · have hij : i + j < 9 := by omega
    have gij : 0 ≤ (i : Int) + j ∧ (i : Int) + j < 9 := by omega
    have gin : c = c ∧ 0 ≤ (i : Int) + j ∧ (i : Int) + j < 0 + 9 := by omega
    have gn : ¬ (0 ≤ (i : Int) + j - i ∧ (i : Int) + j - i < j) := by omega
    have gp : 0 ≤ (i : Int) + j - i ∧ (i : Int) + j - i < ((j + 1 : Nat) : Int) := by omega
    have gs : (i : Int) + j - 0 = i + j := by omega
    have gd : (i : Int) + j - i = j := by omega
    have na : ¬ (a = c ∧ 0 ≤ (i : Int) ∧ (i : Int) < 0 + 9) := fun h => hc.2.1 h.1.symm
    have nb : ¬ (b = c ∧ 0 ≤ (j : Int) ∧ (j : Int) < 0 + 9) := fun h => hc.2.2 h.1.symm
    have n1 : ¬ ((1 : Int) = c ∧ (0 : Int) ≤ 2 ∧ (2 : Int) < 0 + 9) := fun h => hc.1 h.1.symm
    have x1 := iX i (by omega) (by omega)
    have y1 := iY j (by omega) (by omega)
    have hb := s_mul32b (W := tp_wr M c 0 9 (fun k => (cvs (M a) (M b) k i + if 0 ≤ k - i ∧ k - i < (j : Int) then M a i * M b (k - i) else 0) % P)) (rec_22 := rec_22) (rc := fun x6' M0' => rc2 (x6', M0')) ta tb tc hij hP2 x1 y1 (md_in (x := cvs (M a) (M b) ((i : Int) + j) i) hP2.1) (by rw [wr_out n1]; exact hP) (wr_out na) (wr_out nb) (by rw [wr_in gin, gs, if_neg gn, Int.add_zero])
    refine Eq.trans hb ?_
    rw [Int.emod_add_emod, wr_up gij]
    refine congrArg (fun z => rc2 (((j + 1 : Nat) : Int), z)) (wr_cong (fun k k0 k1 => ?_))
    by_cases e : k = i + j
    · rw [if_pos e, e, if_pos gp, gd]
    · rw [if_neg e]
      by_cases c : 0 ≤ k - i ∧ k - i < (j : Int)
      · rw [if_pos c, if_pos (by omega)]
      · rw [if_neg c, if_neg (by omega)]
  · have g0 : (9 : Int) - i ≤ ((9 - i : Nat) : Int) := by omega
    have b1 : -2147483648 ≤ (9 : Int) - i ∧ (9 : Int) - i ≤ 2147483647 := by omega
    have g4 : i < 1000000 := by omega
    simp only [f_X4_multiply_32B, tp_lt, w_succ g4]
    rw [ho_w b1.1 b1.2, if_pos g0]
    refine congrArg (fun z => rec_22 ((i + 1 : Nat) : Int) z) (wr_cong (fun k k0 k1 => ?_))
    have ec : cvs (M a) (M b) k (i + 1) = cvs (M a) (M b) k i + if 0 ≤ k - i ∧ k - i < 9 then M a i * M b (k - i) else 0 := rfl
    rw [ec]
    by_cases c : 0 ≤ k - i ∧ k - i < 9
    · rw [if_pos c, if_pos (by omega)]
    · rw [if_neg c, if_neg (by omega)]
set_option maxHeartbeats 4000000 in
set_option maxRecDepth 100000 in
theorem s_multiply {M : tp_M} {P a b : Int} (hP : M 1 2 = P) (hP2 : 0 < P ∧ P ≤ 400000000) (ta : L9 a) (tb : L9 b) (ha : a ≠ 1 ∧ a ≠ 306) (hb : b ≠ 306) (iX : inP P (M a) 0 9) (iY : inP P (M b) 0 9) : ∃ N, f_X4_multiply a b 306 M = some N ∧ rd (N a) = mul9 P (M a) (M b) ∧ ∀ c k, c ≠ a → c ≠ 306 → N c k = M c k := by
  have tc : L9 306 := by unfold L9; decide +kernel
  generalize hN : tp_wr M 306 0 9 (fun k => cvs (M a) (M b) k 9 % P) = N
  have lp22 : f_X4_multiply a b 306 M = f_X4_multiply_85 a 306 9 0 N := by
    unfold f_X4_multiply
    rw [if_pos ta.1, if_pos tb.1, if_pos tc.1, ta.2, tb.2, tc.2, s_filll (n := 9) tc.1 tc.2 (by omega)]
    simp only [tp_lt, Option.bind_some]
    rw [show min (9 : Int) (min 9 9) = 9 by omega]
    unfold f_X4_multiply_22
    have e0 : ((0 : Int), tp_fl M 306 9 0) = (((0 : Nat) : Int), tp_wr M 306 0 9 (fun k => cvs (M a) (M b) k 0 % P)) := by
      rw [fl_wr]
      exact congrArg (fun z => ((0 : Int), z)) (wr_cong (fun k _ _ => by show (0 : Int) = 0 % P; rw [Int.zero_emod]))
    rw [e0]
    refine lp_seq (fun i => ((i : Int), tp_wr M 306 0 9 (fun k => cvs (M a) (M b) k i % P))) 9 (fun i hi rc => ?_) (fun rc => ?_) tp_N (by unfold tp_N; omega)
    · simp only [f_X4_multiply_22B]
      rw [if_neg (by omega)]
      exact s_mul32 (rec_22 := fun x5' M0' => rc (x5', M0')) hP hP2 ta tb tc (by omega) hi iX iY
    · simp only [f_X4_multiply_22B]
      rw [if_pos (by omega), hN]
  have nk : ∀ k, 0 ≤ k → k < 9 → N 306 k = cvs (M a) (M b) k 9 % P := fun k k0 k1 => by
    rw [← hN, wr_in (by omega), show k - 0 = k by omega]
  have nf : ∀ c k, c ≠ 306 → N c k = M c k := fun c k h => by rw [← hN, wr_out (by omega)]
  refine ⟨tp_wr N a 0 9 (N 306), ?_, ?_, fun c k h1 h2 => by rw [wr_out (by omega), nf c k h2]⟩
  · rw [lp22]
    unfold f_X4_multiply_85
    have e0 : ((0 : Int), N) = (((0 : Nat) : Int), tp_wr N a 0 ((0 : Nat) : Int) (N 306)) := by rw [show ((0 : Nat) : Int) = 0 from rfl, wr_zero]
    rw [e0]
    refine lp_seq (fun j => ((j : Int), tp_wr N a 0 j (N 306))) 9 (fun j hj rc => ?_) (fun rc => ?_) tp_N (by unfold tp_N; omega)
    · have u := wr_succ0 N a j (N 306)
      simp only [f_X4_multiply_85B, tp_mp, tp_lt, tc.2, ta.2]
      rw [if_neg (by omega), if_pos (by omega), if_pos (by omega), wr_out (x := 306) (by omega), u, w_succ (show j < 1000000 by omega)]
    · simp only [f_X4_multiply_85B]
      rw [if_pos (by omega)]; rfl
  · funext k
    unfold mul9
    by_cases c : 0 ≤ k ∧ k < 9
    · rw [rd_in c, if_pos c, wr_in (by omega), show k - 0 = k by omega, nk k c.1 c.2]
    · rw [rd_out c, if_neg c]
theorem tg_key {k : Int} (h : 0 ≤ k ∧ k < 8) : L9 (294 + k) := by
  unfold L9
  have h : k = 0 ∨ k = 1 ∨ k = 2 ∨ k = 3 ∨ k = 4 ∨ k = 5 ∨ k = 6 ∨ k = 7 := by omega
  rcases h with rfl | rfl | rfl | rfl | rfl | rfl | rfl | rfl <;> decide +kernel
def mB15 (x1 x2 x3 : Int) : (Int × tp_M → Option tp_M) → Int × tp_M → Option tp_M := fun rec_ u => f_X1_multiplyByKey_15B x1 x2 x3 (fun x4' M0' => rec_ (x4', M0')) u.1 u.2
set_option maxHeartbeats 4000000 in
set_option maxRecDepth 100000 in
theorem s_mk15 {P a lv : Int} {Y : Int → Int} (hP2 : 0 < P ∧ P ≤ 400000000) (ta : L9 a) (hlv : 1 ≤ lv ∧ lv ≤ 6) (ha : a ≠ 1 ∧ a ≠ 306 ∧ a ≠ 294 + lv) (hY : Ro P Y) : ∀ (m N : Nat) (n x4 : Int) (M : tp_M), m < N → (n - x4).toNat = m → 0 ≤ x4 → x4 ≤ 1000 → n ≤ 1000 → M 1 2 = P → rd (M (294 + lv)) = Y → Ro P (rd (M a)) → ∃ K, tp_lp (mB15 a lv n) N (x4, M) = some K ∧ rd (K a) = mulN P (rd (M a)) Y m ∧ ∀ c k, c ≠ a → c ≠ 306 → K c k = M c k := by
  have tb := tg_key (k := lv) (by omega)
  intro m
  induction m with
  | zero =>
    intro N n x4 M hN hm h0 h1 h2 hP hq hR
    refine ⟨M, ?_, rfl, fun c k _ _ => rfl⟩
    rw [lp_1 (by omega)]
    simp only [mB15, f_X1_multiplyByKey_15B]
    rw [if_pos (by omega)]
  | succ m ih =>
    intro N n x4 M hN hm h0 h1 h2 hP hq hR
    obtain ⟨N1, a1, a2, a3⟩ := s_multiply (M := M) (P := P) (a := a) (b := 294 + lv) hP hP2 ta tb (by omega) (by omega) (rd_inP hR) (rd_inP (by rw [hq]; exact hY))
    have e1 : mul9 P (M a) (M (294 + lv)) = mul9 P (rd (M a)) Y := mul9_cong (fun k k0 k1 => (rd_in ⟨k0, k1⟩).symm) (fun k k0 k1 => by rw [← hq, rd_in ⟨k0, k1⟩])
    rw [e1] at a2
    obtain ⟨K, k1, k2, k3⟩ := ih (N - 1) n (x4 + 1) N1 (by omega) (by omega) (by omega) (by omega) h2 (by rw [a3 _ _ (by omega) (by omega)]; exact hP) (by rw [← hq]; exact rd_cong (fun k _ _ => a3 _ _ (by omega) (by omega))) (by rw [a2]; exact mul9_ro hP2.1 _ _)
    rw [a2] at k2
    refine ⟨K, ?_, ?_, fun c k h1 h2 => by rw [k3 c k h1 h2, a3 c k h1 h2]⟩
    · rw [lp_1 (by omega)]
      generalize tp_lp (mB15 a lv n) (N - 1) = Rc at k1 ⊢
      simp only [mB15, f_X1_multiplyByKey_15B, tp_lt]
      rw [if_neg (by omega), if_pos (by omega), a1, Option.bind_some, ho_w (x := x4 + 1) (by omega) (by omega)]
      exact k1
    · rw [k2]
      have : ∀ j, mulN P (mul9 P (rd (M a)) Y) Y j = mulN P (rd (M a)) Y (j + 1) := by
        intro j
        induction j with
        | zero => rfl
        | succ j ih => show mul9 P _ Y = mul9 P _ Y; rw [ih]
      exact this m
theorem s_mulKey {M : tp_M} {P a lv n : Int} (hP2 : 0 < P ∧ P ≤ 400000000) (ta : L9 a) (hlv : 1 ≤ lv ∧ lv ≤ 6) (ha : a ≠ 1 ∧ a ≠ 306 ∧ a ≠ 294 + lv) (hn : n ≤ 1000) (hP : M 1 2 = P) (hY : Ro P (rd (M (294 + lv)))) (hR : Ro P (rd (M a))) : ∃ K, f_X1_multiplyByKey a lv n M = some K ∧ rd (K a) = mulN P (rd (M a)) (rd (M (294 + lv))) n.toNat ∧ ∀ c k, c ≠ a → c ≠ 306 → K c k = M c k := by
  obtain ⟨K, k1, k2⟩ := s_mk15 hP2 ta hlv ha hY n.toNat tp_N n 0 M (by unfold tp_N; omega) (by omega) (by omega) (by omega) hn hP rfl hR
  refine ⟨K, ?_, k2⟩
  unfold f_X1_multiplyByKey
  rw [if_pos ta.1, if_neg (by omega), if_pos (by omega)]
  exact k1
def wB56 (x1 x2 x3 : Int) : (Int × tp_M → Option tp_M) → Int × tp_M → Option tp_M := fun rec_ u => f_X1_writeKey_56B x1 x2 x3 (fun x4' M0' => rec_ (x4', M0')) u.1 u.2
theorem fcN_shift (P : Int) (q : Int → Int → Int) (t : Int → Int) (X : Int → Int) (n : Nat) : fcN P q t X (n + 1) = mulN P (fcN P q t X n) (q ((n : Int) + 1)) (t ((n : Int) + 1)).toNat := rfl
/-- the part of writeKey behind the factor -/
def wkE (kc r : Int) (M : tp_M) : Option tp_M := (f_X1_multiplyByKey (kc + 1) r (tp_up M (kc + 1) 0 1 281 r) (tp_up M (kc + 1) 0 1)).bind fun r16 => f_X1_writeKey_110 kc r 0 r16
set_option maxHeartbeats 4000000 in
set_option maxRecDepth 100000 in
theorem s_wk56 {P kc r : Int} {q : Int → Int → Int} {t : Int → Int} {X : Int → Int} (hP2 : 0 < P ∧ P ≤ 400000000) (hr : 1 ≤ r ∧ r ≤ 6) (hq : ∀ k, 1 ≤ k → k < r → Ro P (q k)) (ht : ∀ k, 1 ≤ k → k < r → t k ≤ 1000) (hX : Ro P X) : ∀ (m N n : Nat) (M : tp_M), m < N → (n : Int) + m + 1 = r → M 1 2 = P → (∀ k, 1 ≤ k → k < r → rd (M (294 + k)) = q k) → (∀ k, 1 ≤ k → k < r → M (285 + r) k = t k) → rd (M 305) = fcN P q t X n → ∃ K, tp_lp (wB56 kc r (285 + r)) N ((n : Int) + 1, M) = wkE kc r K ∧ rd (K 305) = fcN P q t X (n + m) ∧ ∀ c k, c ≠ 305 → c ≠ 306 → K c k = M c k := by
  have t305 : L9 305 := by unfold L9; decide +kernel
  intro m
  induction m with
  | zero =>
    intro N n M hN hn hP hqM htM hF
    refine ⟨M, ?_, hF, fun c k _ _ => rfl⟩
    rw [lp_1 (by omega)]
    simp only [wB56, f_X1_writeKey_56B, tp_mp, wkE]
    rw [if_pos (by omega), if_pos (by omega), if_pos (by omega)]
  | succ m ih =>
    intro N n M hN hn hP hqM htM hF
    obtain ⟨K1, a1, a2, a3⟩ := s_mulKey (M := M) (P := P) (a := 305) (lv := (n : Int) + 1) (n := t ((n : Int) + 1)) hP2 t305 (by omega) (by omega) (ht _ (by omega) (by omega)) hP (by rw [hqM _ (by omega) (by omega)]; exact hq _ (by omega) (by omega)) (by rw [hF]; exact fcN_ro hP2.1 hX n)
    rw [hF, hqM _ (by omega) (by omega)] at a2
    obtain ⟨K, k1, k2, k3⟩ := ih (N - 1) (n + 1) K1 (by omega) (by omega) (by rw [a3 _ _ (by omega) (by omega)]; exact hP) (fun k h1 h2 => by rw [← hqM k h1 h2]; exact rd_cong (fun j _ _ => a3 _ _ (by omega) (by omega))) (fun k h1 h2 => by rw [a3 _ _ (by omega) (by omega)]; exact htM k h1 h2) a2
    refine ⟨K, ?_, by rw [k2, show n + (m + 1) = n + 1 + m by omega], fun c k h1 h2 => by rw [k3 c k h1 h2, a3 c k h1 h2]⟩
    rw [lp_1 (by omega)]
    generalize tp_lp (wB56 kc r (285 + r)) (N - 1) = Rc at k1 ⊢
    simp only [wB56, f_X1_writeKey_56B, tp_lt]
    rw [if_neg (by omega), if_pos (by omega), htM _ (by omega) (by omega), a1, Option.bind_some, ho_w (x := (n : Int) + 1 + 1) (by omega) (by omega)]
    rw [show ((n + 1 : Nat) : Int) + 1 = (n : Int) + 1 + 1 by omega] at k1
    exact k1
def kn_t (kc : Int) : Prop := tp_tg kc = 2
theorem tg_kn {i : Int} (hi : 0 ≤ i ∧ i < 24) : kn_t (46 + 3 * i) ∧ L9 (46 + 3 * i + 1) ∧ I9 (46 + 3 * i + 2) := by
  have h := tg_knot hi
  exact ⟨h.1, ⟨h.2.1, h.2.2.1⟩, h.2.2.2.1, h.2.2.2.2⟩
set_option maxHeartbeats 4000000 in
set_option maxRecDepth 100000 in
theorem s_writeKey {M : tp_M} {p K P i r : Int} (h : pKP p K P) (hp : M 1 0 = p) (hK : M 1 1 = K) (hP : M 1 2 = P) (hi : 0 ≤ i ∧ i < 24) (hr : 1 ≤ r ∧ r ≤ 6) (hl : M (46 + 3 * i) 0 = r + 1) (hz : ∀ k, 0 ≤ k → k < 9 → M (46 + 3 * i + 1) k = 0) (hq : ∀ k, 1 ≤ k → k ≤ r → Ro P (rd (M (294 + k)))) (ht : ∀ k, 1 ≤ k → k < r → M (285 + r) k ≤ 1000) (he : M 281 r ≤ 1000) (hc : 0 ≤ M 283 r ∧ M 283 r < p) : ∃ N, f_X1_writeKey (46 + 3 * i) M = some N ∧ rd (N (46 + 3 * i + 1)) = kyP P (pwr p K (M (285 + r) 0)) (M 283 r) (M 281 r).toNat (rd (M (294 + r))) (fun k => rd (M (294 + k))) (M (285 + r)) (r - 1).toNat ∧ ∀ c k, c ≠ 46 + 3 * i + 1 → c ≠ 305 → c ≠ 306 → N c k = M c k := by
  have h' := h
  obtain ⟨h1, h2, h3, h4, h5, h6⟩ := h
  have hp2 := pm_2 h1
  have tk := tg_kn hi
  have t305 : L9 305 := by unfold L9; decide +kernel
  have pb := pwr_b (n := M (285 + r) 0) h'
  generalize hkc : 46 + 3 * i = kc at *
  have hkc2 : 46 ≤ kc ∧ kc ≤ 115 := by omega
  clear hkc
  generalize hM1 : tp_up (tp_fl M 305 9 0) 305 0 (pwr p K (M (285 + r) 0)) = M1
  have f1 : ∀ c k, c ≠ 305 → M1 c k = M c k := fun c k hc => by rw [← hM1, up_ne (by omega), fl_out (by omega)]
  have r305 : rd (M1 305) = sc (pwr p K (M (285 + r) 0)) := by
    funext k
    unfold sc
    by_cases c : 0 ≤ k ∧ k < 9
    · rw [rd_in c, ← hM1]
      by_cases c2 : k = 0
      · rw [if_pos c2, up_eq ⟨rfl, c2⟩]
      · rw [if_neg c2, up_ne (by omega), fl_in (by omega)]
    · rw [rd_out c, if_neg (by omega)]
  obtain ⟨K1, a1, a2, a3⟩ := s_wk56 (P := P) (kc := kc) (r := r) (q := fun k => rd (M (294 + k))) (t := M (285 + r)) (X := sc (pwr p K (M (285 + r) 0))) ⟨h5, h6⟩ hr (fun k k0 k1 => hq k k0 (by omega)) ht (sc_ro h5 pb) (r - 1).toNat tp_N 0 M1 (by unfold tp_N; omega) (by omega) (by rw [f1 _ _ (by omega)]; exact hP) (fun k _ _ => rd_cong (fun j _ _ => f1 _ _ (by omega))) (fun k _ _ => f1 _ _ (by omega)) r305
  rw [show 0 + (r - 1).toNat = (r - 1).toNat by omega] at a2
  have fK1 : ∀ c k, c ≠ 305 → c ≠ 306 → K1 c k = M c k := fun c k g1 g2 => by rw [a3 c k g1 g2, f1 c k g1]
  generalize hM2 : tp_up K1 (kc + 1) 0 1 = M2
  have f2 : ∀ c k, c ≠ kc + 1 → c ≠ 305 → c ≠ 306 → M2 c k = M c k := fun c k g0 g1 g2 => by rw [← hM2, up_ne (by omega), fK1 c k g1 g2]
  have rk : rd (M2 (kc + 1)) = sc 1 := by
    funext k
    unfold sc
    by_cases c : 0 ≤ k ∧ k < 9
    · rw [rd_in c, ← hM2]
      by_cases c2 : k = 0
      · rw [if_pos c2, up_eq ⟨rfl, c2⟩]
      · rw [if_neg c2, up_ne (by omega), fK1 _ _ (by omega) (by omega), hz k c.1 c.2]
    · rw [rd_out c, if_neg (by omega)]
  have r305' : rd (M2 305) = fcN P (fun k => rd (M (294 + k))) (M (285 + r)) (sc (pwr p K (M (285 + r) 0))) (r - 1).toNat := by
    rw [← a2]; exact rd_cong (fun k _ _ => by rw [← hM2, up_ne (by omega)])
  have q2 : rd (M2 (294 + r)) = rd (M (294 + r)) := rd_cong (fun k _ _ => f2 _ _ (by omega) (by omega) (by omega))
  have hP1 : 1 < P := by
    have := pow_mono (p := p) (by omega) (a := 1) (b := K.toNat) (by omega)
    rw [show p ^ 1 = p from by rw [Int.pow_succ, Int.pow_zero, Int.one_mul]] at this
    omega
  obtain ⟨K2, b1, b2, b3⟩ := s_mulKey (M := M2) (P := P) (a := kc + 1) (lv := r) (n := M2 281 r) ⟨h5, h6⟩ tk.2.1 hr (by omega) (by rw [f2 _ _ (by omega) (by omega) (by omega)]; exact he) (by rw [f2 _ _ (by omega) (by omega) (by omega)]; exact hP) (by rw [q2]; exact hq r (by omega) (by omega)) (by rw [rk]; exact sc_ro h5 (by omega))
  rw [rk, q2, f2 281 _ (by omega) (by omega) (by omega)] at b2
  have s305 : rd (K2 305) = fcN P (fun k => rd (M (294 + k))) (M (285 + r)) (sc (pwr p K (M (285 + r) 0))) (r - 1).toNat := by
    rw [← r305']; exact rd_cong (fun k _ _ => b3 _ _ (by omega) (by omega))
  have fK2 : ∀ c k, c ≠ kc + 1 → c ≠ 305 → c ≠ 306 → K2 c k = M c k := fun c k g0 g1 g2 => by rw [b3 c k g0 g2, f2 c k g0 g1 g2]
  have oF : Ro P (rd (K2 305)) := by rw [s305]; exact fcN_ro h5 (sc_ro h5 pb) _
  have oK : Ro P (rd (K2 (kc + 1))) := by rw [b2]; exact mulN_ro h5 (sc_ro h5 (by omega)) _ _
  have iF := rd_inP oF
  have iK := rd_inP oK
  refine ⟨tp_wr K2 (kc + 1) 0 9 (fun k => (K2 (kc + 1) k - M 283 r * K2 305 k) % P), ?_, ?_, fun c k g0 g1 g2 => by rw [wr_out (by omega), fK2 c k g0 g1 g2]⟩
  · unfold f_X1_writeKey
    rw [if_pos (show tp_tg kc = 2 from tk.1), hl]
    simp only [tp_lt, tp_mp]
    rw [ho_w (x := r + 1 - 1) (by omega) (by omega), show r + 1 - 1 = r by omega, if_neg (by omega), if_pos (by omega), if_pos (by omega), s_filll (n := 9) t305.1 t305.2 (by omega), Option.bind_some, if_pos (by omega), fl_out (by omega), s_power (P := P) h' (by rw [fl_out (by omega)]; exact hp) (by rw [fl_out (by omega)]; exact hK), Option.bind_some, if_pos (by omega), hM1]
    refine Eq.trans a1 ?_
    unfold wkE
    rw [hM2, b1, Option.bind_some]
    unfold f_X1_writeKey_110
    have e0 : ((0 : Int), K2) = (((0 : Nat) : Int), tp_wr K2 (kc + 1) 0 ((0 : Nat) : Int) (fun k => (K2 (kc + 1) k - M 283 r * K2 305 k) % P)) := by rw [show ((0 : Nat) : Int) = 0 from rfl, wr_zero]
    rw [e0]
    refine lp_seq (fun j => ((j : Int), tp_wr K2 (kc + 1) 0 j (fun k => (K2 (kc + 1) k - M 283 r * K2 305 k) % P))) 9 (fun j hj rc => ?_) (fun rc => ?_) tp_N (by unfold tp_N; omega)
    · have u := wr_succ0 K2 (kc + 1) j (fun k => (K2 (kc + 1) k - M 283 r * K2 305 k) % P)
      generalize hW : tp_wr K2 (kc + 1) 0 j (fun k => (K2 (kc + 1) k - M 283 r * K2 305 k) % P) = W at *
      have w1 : W (kc + 1) j = K2 (kc + 1) j := by rw [← hW, wr_out (by omega)]
      have w2 : W 283 r = M 283 r := by rw [← hW, wr_out (by omega), fK2 _ _ (by omega) (by omega) (by omega)]
      have w3 : W 305 j = K2 305 j := by rw [← hW, wr_out (by omega)]
      have w4 : W 1 2 = P := by rw [← hW, wr_out (by omega), fK2 _ _ (by omega) (by omega) (by omega)]; exact hP
      have z1 := iF j (by omega) (by omega)
      have z2 := iK j (by omega) (by omega)
      have z3 := mulP (x := M 283 r) (y := K2 305 j) (by omega) (by omega)
      have sr := s_rest (M := W) (a := K2 (kc + 1) j - M 283 r * K2 305 j) (by rw [w4]; exact ⟨h5, h6⟩)
      rw [w4] at sr
      simp only [f_X1_writeKey_110B, tp_mp, tp_lt]
      rw [if_neg (by omega), if_pos (by omega), if_pos (by omega), if_pos (by omega), w1, w2, w3, ho_wl (x := M 283 r * K2 305 j) (by omega) (by omega), ho_wl (x := K2 (kc + 1) j - M 283 r * K2 305 j) (by omega) (by omega), sr, Option.bind_some, if_pos (by omega), u, w_succ (show j < 1000000 by omega)]
    · simp only [f_X1_writeKey_110B]
      rw [if_pos (by omega)]; rfl
  · funext k
    unfold kyP
    by_cases c : 0 ≤ k ∧ k < 9
    · rw [rd_in c, if_pos c, wr_in (by omega), show k - 0 = k by omega, ← b2, ← s305, rd_in c, rd_in c]
    · rw [rd_out c, if_neg c]
set_option maxHeartbeats 4000000 in
set_option maxRecDepth 100000 in
theorem s_writeFirstKey {M : tp_M} {p K P i : Int} (h : pKP p K P) (hP : M 1 2 = P) (hi : 0 ≤ i ∧ i < 24) (hc : 0 ≤ M 283 0 ∧ M 283 0 < p) : f_X1_writeFirstKey (46 + 3 * i) M = some (tp_up (tp_up M (46 + 3 * i + 1) 0 ((- M 283 0) % P)) (46 + 3 * i + 1) 1 1) := by
  obtain ⟨h1, h2, h3, h4, h5, h6⟩ := h
  have hp2 := pm_2 h1
  have tk := tg_kn hi
  have sr := s_rest (M := M) (a := - M 283 0) (by rw [hP]; exact ⟨h5, h6⟩)
  rw [hP] at sr
  unfold f_X1_writeFirstKey
  simp only [tp_mp]
  rw [if_pos (show tp_tg (46 + 3 * i) = 2 from tk.1), if_pos (by omega), ho_w (x := - M 283 0) (by omega) (by omega), sr, Option.bind_some, if_pos (by omega), if_pos (by omega)]
