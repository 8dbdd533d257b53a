def sgG (w : Int → Int) (a b : Int) : Int := gcf 64 (b - a) (w a - w b)
def sgE (w : Int → Int) (a b : Int) : Int := (b - a) / sgG w a b
def sgH (w : Int → Int) (a b : Int) : Int := (w a - w b) / sgG w a b
def sgS (w : Int → Int) (lf a b : Int) : Int := lf * sgE w a b + sgH w a b
/-- the fields of a side -/
def sdF (w : Int → Int) (lf : Int) (ab : Int × Int) : Int → Int := fun f => if f = 0 then ab.1 else if f = 1 then ab.2 else if f = 2 then w ab.1 - w ab.2 else if f = 3 then sgE w ab.1 ab.2 else if f = 4 then sgG w ab.1 ab.2 else sgS w lf ab.1 ab.2
theorem sg_spec {w : Int → Int} {a b : Int} (h : 0 ≤ a ∧ a < b ∧ b ≤ 8) (hf : 0 ≤ w a - w b) : 1 ≤ sgG w a b ∧ sgG w a b ≤ b - a ∧ sgG w a b * sgE w a b = b - a ∧ sgG w a b * sgH w a b = w a - w b ∧ (1 ≤ sgE w a b ∧ sgE w a b ≤ 8) ∧ 0 ≤ sgH w a b ∧ cop1 (sgE w a b) (sgH w a b) := by
  obtain ⟨g1, g2, g3, g4, u, v, g5⟩ := gcf_main (a := b - a) (b := w a - w b) (by omega) hf
  have e1 : sgG w a b * sgE w a b = b - a := Int.mul_ediv_cancel_of_dvd g3
  have e2 : sgG w a b * sgH w a b = w a - w b := Int.mul_ediv_cancel_of_dvd g4
  have g1' : 1 ≤ sgG w a b := g1
  have g0 : 0 ≤ sgG w a b := by omega
  have p1 : 0 ≤ sgE w a b := Int.ediv_nonneg (show 0 ≤ b - a by omega) g0
  have p2 : 0 ≤ sgH w a b := Int.ediv_nonneg hf g0
  have p3 : sgE w a b ≤ b - a := Int.ediv_le_self _ (by omega)
  have p4 : sgE w a b ≠ 0 := fun h => by rw [h, Int.mul_zero] at e1; omega
  refine ⟨g1, g2, e1, e2, by omega, p2, v, ?_⟩
  have g5' : sgG w a b = u * (b - a) + v * (w a - w b) := g5
  generalize sgG w a b = g at *
  generalize sgE w a b = E at *
  generalize sgH w a b = H at *
  rw [← e1, ← e2] at g5'
  have : g * (u * E + v * H - 1) = 0 := by
    rw [Int.mul_sub, Int.mul_add, Int.mul_one, Int.mul_left_comm g u E, Int.mul_left_comm g v H]; omega
  rcases Int.mul_eq_zero.mp this with h1 | h1
  · omega
  · exact ⟨-u, by rw [Int.mul_neg, Int.mul_comm E u]; omega⟩
theorem s_addSide {M : tp_M} {kc n : Int} (tk : kn_t kc) (hkc : 46 ≤ kc ∧ kc ≤ 115) (hn : M 41 6 = n) (hn2 : 0 ≤ n ∧ n < 48) (h7 : 0 ≤ M kc 7 ∧ M kc 7 ≤ 100) : f_X9_addSide kc M = some (118 + 3 * n, tp_up (tp_up M 41 6 (n + 1)) kc 7 (M kc 7 + 1)) := by
  have q1 : tp_up M 41 6 (n + 1) kc 7 = M kc 7 := up_ne (fun h => by omega)
  have b1 : -2147483648 ≤ n + 1 ∧ n + 1 ≤ 2147483647 := by omega
  have b2 : -2147483648 ≤ M kc 7 + 1 ∧ M kc 7 + 1 ≤ 2147483647 := by omega
  unfold f_X9_addSide
  simp only [tp_mp, tp_lt]
  rw [if_pos (show tp_tg kc = 2 from tk), if_neg (by omega), hn, if_neg (by omega), if_pos hn2.2, if_pos hn2, ho_w b1.1 b1.2, q1, ho_w b2.1 b2.2]
set_option maxHeartbeats 4000000 in
set_option maxRecDepth 100000 in
theorem s_measureSide {M : tp_M} {r kc n a b : Int} {D e s w : Int → Int} (hb : cxb r D e s) (hc : copr r e s) (hC : CxC M r D e s) (hr : 1 ≤ r ∧ r ≤ 6) (tk : kn_t kc) (hkc : 46 ≤ kc ∧ kc ≤ 115) (hn : 0 ≤ n ∧ n < 48) (hl : M kc 0 = r) (hab : 0 ≤ a ∧ a < b ∧ b ≤ 8) (hw : M (kc + 2) a = w a ∧ M (kc + 2) b = w b) (hwa : 0 ≤ w a ∧ w a ≤ 20000) (hwb : 0 ≤ w b ∧ w b ≤ w a) (hS : 0 ≤ sgS w (lft r e s) a b ∧ sgS w (lft r e s) a b ≤ 2000) : ∃ N, f_X1_measureSide kc (118 + 3 * n) a b M = some N ∧ (∀ f, 0 ≤ f → f < 6 → N (118 + 3 * n) f = sdF w (lft r e s) (a, b) f) ∧ (∀ k, 0 ≤ k → k < 8 → N (118 + 3 * n + 1) k = mnl e s (r - 1).toNat (sgS w (lft r e s) a b) k) ∧ ∀ c k, c ≠ 118 + 3 * n → c ≠ 118 + 3 * n + 1 → N c k = M c k := by
  have ts := tg_side hn
  have sg := sg_spec (w := w) hab (by omega)
  have hlf := lft_b hb hr.1
  have hsc2 : 118 ≤ 118 + 3 * n ∧ 118 + 3 * n ≤ 259 := by omega
  generalize 118 + 3 * n = sc at *
  have eS : sgS w (lft r e s) a b = lft r e s * sgE w a b + sgH w a b := rfl
  have mE := mulB (x := lft r e s) (y := sgE w a b) (a := 16000) (b := 8) hlf (by omega)
  have bl : -2147483648 ≤ b - a ∧ b - a ≤ 2147483647 := by omega
  have bf : -2147483648 ≤ w a - w b ∧ w a - w b ≤ 2147483647 := by omega
  have bE : -2147483648 ≤ sgE w a b ∧ sgE w a b ≤ 2147483647 := by omega
  have H1 : sgH w a b ≤ w a - w b := Int.ediv_le_self _ (by omega)
  have bH : -2147483648 ≤ sgH w a b ∧ sgH w a b ≤ 2147483647 := by omega
  have bm : -2147483648 ≤ lft r e s * sgE w a b ∧ lft r e s * sgE w a b ≤ 2147483647 := by omega
  have bS : -2147483648 ≤ lft r e s * sgE w a b + sgH w a b ∧ lft r e s * sgE w a b + sgH w a b ≤ 2147483647 := by omega
  have ga : 0 ≤ a ∧ a < 9 := by omega
  have gb : 0 ≤ b ∧ b < 9 := by omega
  have gG : ¬ sgG w a b = 0 := by omega
  have n1 : ¬ kc + 2 = sc ∧ ¬ kc = sc := by omega
  have td1 := Int.tdiv_eq_ediv_of_nonneg (a := b - a) (b := sgG w a b) (by omega)
  have td2 := Int.tdiv_eq_ediv_of_nonneg (a := w a - w b) (b := sgG w a b) (by omega)
  have qt1 : ∀ N : tp_M, f_X10_quotient (b - a) (sgG w a b) N = some (sgE w a b) := fun N => by
    unfold f_X10_quotient
    rw [if_pos gG, if_neg gG, td1]
    show some (tp_w (sgE w a b)) = _
    rw [ho_w bE.1 bE.2]
  have qt2 : ∀ N : tp_M, f_X10_quotient (w a - w b) (sgG w a b) N = some (sgH w a b) := fun N => by
    unfold f_X10_quotient
    rw [if_pos gG, if_neg gG, td2]
    show some (tp_w (sgH w a b)) = _
    rw [ho_w bH.1 bH.2]
  have gd : ∀ N : tp_M, f_X10_greatestDivisor (b - a) (w a - w b) N = some (sgG w a b) := fun N => s_gdiv
  have sl : ∀ N : tp_M, CxC N r D e s → f_X5_lift r N = some (lft r e s) := fun N hN => s_lift hb hN hr
  generalize hM10 : tp_up (tp_up M sc 0 a) sc 1 b = M10
  have f10 : ∀ c k, c ≠ sc → M10 c k = M c k := fun c k h => by rw [← hM10, up_ne (fun hh => h hh.1), up_ne (fun hh => h hh.1)]
  generalize hM11 : tp_up M10 sc 2 (w a - w b) = M11
  have f11 : ∀ c k, c ≠ sc → M11 c k = M c k := fun c k h => by rw [← hM11, up_ne (fun hh => h hh.1), f10 c k h]
  have v11 : M11 sc 2 = w a - w b := by rw [← hM11, up_eq ⟨rfl, rfl⟩]
  generalize hM14 : tp_up M11 sc 4 (sgG w a b) = M14
  have f14 : ∀ c k, c ≠ sc → M14 c k = M c k := fun c k h => by rw [← hM14, up_ne (fun hh => h hh.1), f11 c k h]
  have v14 : M14 sc 4 = sgG w a b := by rw [← hM14, up_eq ⟨rfl, rfl⟩]
  generalize hM17 : tp_up M14 sc 3 (sgE w a b) = M17
  have f17 : ∀ c k, c ≠ sc → M17 c k = M c k := fun c k h => by rw [← hM17, up_ne (fun hh => h hh.1), f14 c k h]
  have v17a : M17 sc 2 = w a - w b := by rw [← hM17, up_ne (fun h => absurd h.2 (by decide)), ← hM14, up_ne (fun h => absurd h.2 (by decide))]; exact v11
  have v17b : M17 sc 4 = sgG w a b := by rw [← hM17, up_ne (fun h => absurd h.2 (by decide))]; exact v14
  have v17c : M17 sc 3 = sgE w a b := by rw [← hM17, up_eq ⟨rfl, rfl⟩]
  generalize hM22 : tp_up M17 sc 5 (lft r e s * sgE w a b + sgH w a b) = M22
  have f22 : ∀ c k, c ≠ sc → M22 c k = M c k := fun c k h => by rw [← hM22, up_ne (fun hh => h hh.1), f17 c k h]
  have v22 : M22 sc 5 = sgS w (lft r e s) a b := by rw [← hM22, up_eq ⟨rfl, rfl⟩]; rfl
  have cxs : ∀ N : tp_M, (∀ c k, c ≠ sc → N c k = M c k) → CxC N r D e s := fun N hN => ⟨fun k k0 k1 => by rw [hN _ _ (by omega)]; exact hC.1 k k0 k1, fun k k0 k1 => ⟨by rw [hN _ _ (by omega)]; exact (hC.2 k k0 k1).1, by rw [hN _ _ (by omega)]; exact (hC.2 k k0 k1).2⟩⟩
  obtain ⟨N, n3, n4, n5⟩ := s_writeMonomial (M := M22) (r := r) (c := sc + 1) (v := sgS w (lft r e s) a b) hb hc (cxs _ f22) hr ts.2.1 ts.2.2.1 (by omega) (by omega)
  refine ⟨N, ?_, fun f f0 f1 => ?_, n4, fun c k h1 h2 => by rw [n5 c k h2, f22 c k h1]⟩
  · have i1 : ∀ N : tp_M, f_X10_isPower a N = some 1 := fun N => by unfold f_X10_isPower; rw [if_neg (by omega), if_neg (by omega)]
    have i2 : ∀ N : tp_M, f_X10_isPower b N = some 1 := fun N => by unfold f_X10_isPower; rw [if_neg (by omega), if_neg (by omega)]
    have p1 : M10 (kc + 2) a = w a := by rw [f10 _ _ n1.1]; exact hw.1
    have p2 : M10 (kc + 2) b = w b := by rw [f10 _ _ n1.1]; exact hw.2
    have l17 : M17 kc 0 = r := by rw [f17 _ _ n1.2]; exact hl
    have l22 : M22 kc 0 = r := by rw [f22 _ _ n1.2]; exact hl
    have sl17 := sl M17 (cxs _ f17)
    unfold f_X1_measureSide
    simp only [tp_mp]
    rw [if_pos (show tp_tg kc = 2 from tk), if_pos ts.1, i1, Option.bind_some, if_neg (by decide), i2, Option.bind_some, if_pos (by decide), if_pos ga, if_pos gb, hM10, p1, p2, ho_w bf.1 bf.2, hM11, v11, ho_w bl.1 bl.2, gd, Option.bind_some, hM14, v14, qt1, Option.bind_some, hM17, l17, sl17, Option.bind_some, v17a, v17b, qt2, Option.bind_some, v17c, ho_w bm.1 bm.2, ho_w bS.1 bS.2, hM22, v22, l22, n3, Option.bind_some]
  · rw [n5 _ _ (by omega)]
    have c : f = 0 ∨ f = 1 ∨ f = 2 ∨ f = 3 ∨ f = 4 ∨ f = 5 := by omega
    unfold sdF
    rcases c with rfl | rfl | rfl | rfl | rfl | rfl
    · rw [← hM22, up_ne (fun h => absurd h.2 (by decide)), ← hM17, up_ne (fun h => absurd h.2 (by decide)), ← hM14, up_ne (fun h => absurd h.2 (by decide)), ← hM11, up_ne (fun h => absurd h.2 (by decide)), ← hM10, up_ne (fun h => absurd h.2 (by decide)), up_eq ⟨rfl, rfl⟩]; rfl
    · rw [← hM22, up_ne (fun h => absurd h.2 (by decide)), ← hM17, up_ne (fun h => absurd h.2 (by decide)), ← hM14, up_ne (fun h => absurd h.2 (by decide)), ← hM11, up_ne (fun h => absurd h.2 (by decide)), ← hM10, up_eq ⟨rfl, rfl⟩]; rfl
    · rw [← hM22, up_ne (fun h => absurd h.2 (by decide)), v17a]; rfl
    · rw [← hM22, up_ne (fun h => absurd h.2 (by decide)), v17c]; rfl
    · rw [← hM22, up_ne (fun h => absurd h.2 (by decide)), v17b]; rfl
    · rw [v22]; rfl
/-- points below a side -/
def pbS (wa fl ln bt a i0 : Int) : Nat → Int
  | 0 => 0
  | n + 1 => pbS wa fl ln bt a i0 n + (wa - (fl * (i0 + n - a) + ln - 1) / ln - bt)
theorem pb_t {wa fl ln bt x : Int} (hl : 1 ≤ ln ∧ ln ≤ 8) (hx : 0 ≤ x ∧ x < ln) (hf : 0 ≤ fl ∧ fl ≤ 20000) (hw : bt ≤ wa - fl) (hb : 0 ≤ bt) (hwa : wa ≤ 20000) : (0 ≤ fl * x ∧ fl * x ≤ 160000) ∧ (0 ≤ (fl * x + ln - 1) / ln ∧ (fl * x + ln - 1) / ln ≤ fl) ∧ 0 ≤ wa - (fl * x + ln - 1) / ln - bt ∧ wa - (fl * x + ln - 1) / ln - bt ≤ 20000 := by
  have m := mulB (x := fl) (y := x) (a := 20000) (b := 8) hf (by omega)
  have q0 : 0 ≤ (fl * x + ln - 1) / ln := Int.ediv_nonneg (by omega) (by omega)
  have q1 : (fl * x + ln - 1) / ln < fl + 1 := by
    refine Int.ediv_lt_of_lt_mul (by omega) ?_
    have : fl * x ≤ fl * (ln - 1) := Int.mul_le_mul_of_nonneg_left (by omega) hf.1
    rw [Int.mul_sub, Int.mul_one] at this
    rw [Int.add_mul, Int.one_mul]
    omega
  refine ⟨by omega, by omega, by omega, by omega⟩
theorem pbS_b {wa fl ln bt a i0 : Int} (hl : 1 ≤ ln ∧ ln ≤ 8) (hi : a ≤ i0) (hf : 0 ≤ fl ∧ fl ≤ 20000) (hw : bt ≤ wa - fl) (hb : 0 ≤ bt) (hwa : wa ≤ 20000) : ∀ n : Nat, i0 + n ≤ a + ln → 0 ≤ pbS wa fl ln bt a i0 n ∧ pbS wa fl ln bt a i0 n ≤ 20000 * n := by
  intro n
  induction n with
  | zero => intro _; exact ⟨Int.le_refl _, Int.le_refl _⟩
  | succ n ih =>
    intro h
    have a1 := ih (by omega)
    have a2 := pb_t (wa := wa) (fl := fl) (ln := ln) (bt := bt) (x := i0 + n - a) hl (by omega) hf hw hb hwa
    unfold pbS
    omega
set_option maxHeartbeats 4000000 in
set_option maxRecDepth 100000 in
theorem s_pointsBelow {M : tp_M} {kc n a b bt : Int} {w : Int → Int} (tk : kn_t kc) (hn : 0 ≤ n ∧ n < 48) (hab : 0 ≤ a ∧ a < b ∧ b ≤ 8) (h0 : M (118 + 3 * n) 0 = a) (h1 : M (118 + 3 * n) 1 = b) (h2 : M (118 + 3 * n) 2 = w a - w b) (hw : M (kc + 2) a = w a) (hwa : w a ≤ 20000) (hwb : 0 ≤ w b ∧ w b ≤ w a) (hbt : 0 ≤ bt ∧ bt ≤ w b) : f_X1_pointsBelow kc (118 + 3 * n) bt M = some (pbS (w a) (w a - w b) (b - a) bt a (max 1 a) (b - max 1 a).toNat) := by
  have ts := tg_side hn
  generalize 118 + 3 * n = sc at *
  have ip : f_X10_isPower a M = some 1 := by unfold f_X10_isPower; rw [if_neg (by omega), if_neg (by omega)]
  unfold f_X1_pointsBelow
  simp only [tp_lt]
  rw [if_pos (show tp_tg kc = 2 from tk), if_pos ts.1, h0, ip, Option.bind_some, if_neg (by decide), h1, if_pos hab.2.1]
  unfold f_X1_pointsBelow_35
  have e0 : ((0 : Int), max 1 a) = (pbS (w a) (w a - w b) (b - a) bt a (max 1 a) 0, max 1 a + ((0 : Nat) : Int)) := by show _ = ((0 : Int), _); rw [show max 1 a + ((0 : Nat) : Int) = max 1 a by omega]
  rw [e0]
  refine lp_seq (fun j => (pbS (w a) (w a - w b) (b - a) bt a (max 1 a) j, max 1 a + (j : Int))) (b - max 1 a).toNat (fun j hj rc => ?_) (fun rc => ?_) tp_N (by unfold tp_N; omega)
  · have hx : 0 ≤ max 1 a + (j : Int) - a ∧ max 1 a + (j : Int) - a < b - a := by omega
    have pt := pb_t (wa := w a) (fl := w a - w b) (ln := b - a) (bt := bt) (x := max 1 a + (j : Int) - a) (by omega) hx (by omega) (by omega) hbt.1 hwa
    have pb := pbS_b (wa := w a) (fl := w a - w b) (ln := b - a) (bt := bt) (a := a) (i0 := max 1 a) (by omega) (by omega) (by omega) (by omega) hbt.1 hwa j (by omega)
    have g0 : ¬ b ≤ max 1 a + (j : Int) := by omega
    have ga : 0 ≤ a ∧ a < 9 := by omega
    have j8 : j ≤ 8 := by omega
    have b1 : -2147483648 ≤ b - a ∧ b - a ≤ 2147483647 := by omega
    have b2 : -2147483648 ≤ max 1 a + (j : Int) - a ∧ max 1 a + (j : Int) - a ≤ 2147483647 := by omega
    have b9 : -2147483648 ≤ max 1 a + (j : Int) + 1 ∧ max 1 a + (j : Int) + 1 ≤ 2147483647 := by omega
    have gl : ¬ b - a = 0 := by omega
    have ej : max 1 a + (j : Int) + 1 = max 1 a + ((j + 1 : Nat) : Int) := by omega
    have es : pbS (w a) (w a - w b) (b - a) bt a (max 1 a) (j + 1) = pbS (w a) (w a - w b) (b - a) bt a (max 1 a) j + (w a - ((w a - w b) * (max 1 a + j - a) + (b - a) - 1) / (b - a) - bt) := rfl
    generalize hxe : max 1 a + (j : Int) - a = x at *
    generalize pbS (w a) (w a - w b) (b - a) bt a (max 1 a) j = S at *
    have b3 : -2147483648 ≤ (w a - w b) * x ∧ (w a - w b) * x ≤ 2147483647 := by omega
    have b4 : -2147483648 ≤ (w a - w b) * x + (b - a) ∧ (w a - w b) * x + (b - a) ≤ 2147483647 := by omega
    have b5 : -2147483648 ≤ (w a - w b) * x + (b - a) - 1 ∧ (w a - w b) * x + (b - a) - 1 ≤ 2147483647 := by omega
    have td := Int.tdiv_eq_ediv_of_nonneg (a := (w a - w b) * x + (b - a) - 1) (b := b - a) (by omega)
    generalize hQ : ((w a - w b) * x + (b - a) - 1) / (b - a) = Q at *
    have b6 : -2147483648 ≤ Q ∧ Q ≤ 2147483647 := by omega
    have b7 : -2147483648 ≤ w a - Q ∧ w a - Q ≤ 2147483647 := by omega
    have b8 : -2147483648 ≤ w a - Q - bt ∧ w a - Q - bt ≤ 2147483647 := by omega
    have b10 : -2147483648 ≤ S + (w a - Q - bt) ∧ S + (w a - Q - bt) ≤ 2147483647 := by omega
    have qt : f_X10_quotient ((w a - w b) * x + (b - a) - 1) (b - a) M = some Q := by
      unfold f_X10_quotient
      rw [if_pos gl, if_neg gl, td, ho_w b6.1 b6.2]
    simp only [f_X1_pointsBelow_35B, tp_lt, h0, h1, h2]
    rw [if_neg g0, ho_w b1.1 b1.2, hxe, ho_w b2.1 b2.2, ho_w b3.1 b3.2, ho_w b4.1 b4.2, ho_w b5.1 b5.2, qt, Option.bind_some, if_pos ga, hw, ho_w b7.1 b7.2, ho_w b8.1 b8.2, ho_w b10.1 b10.2, ho_w b9.1 b9.2, ej, es]
  · simp only [f_X1_pointsBelow_35B, h1]
    rw [if_pos (by omega)]
def lsp (w : Int → Int) (t : Int) : Prop := (0 ≤ t ∧ t ≤ 8) ∧ 0 ≤ w t ∧ ∀ i, 0 ≤ i → i ≤ 8 → 0 ≤ w i → w t ≤ w i ∧ (i < t → w t < w i)
theorem lsp_un {w : Int → Int} {t u : Int} (h1 : lsp w t) (h2 : lsp w u) : t = u := by
  have a := h1.2.2 u h2.1.1 h2.1.2 h2.2.1
  have b := h2.2.2 t h1.1.1 h1.1.2 h1.2.1
  by_cases c : t < u
  · have := b.2 c; omega
  · by_cases d : u < t
    · have := a.2 d; omega
    · omega
def lsS (w : Int → Int) : Nat → Int
  | 0 => -1
  | n + 1 => if 0 ≤ w n ∧ (lsS w n < 0 ∨ w n < w (lsS w n)) then (n : Int) else lsS w n
theorem lsS_spec (w : Int → Int) : ∀ n : Nat, (lsS w n = -1 ∧ ∀ i, 0 ≤ i → i < (n : Int) → w i < 0) ∨ ((0 ≤ lsS w n ∧ lsS w n < n) ∧ 0 ≤ w (lsS w n) ∧ ∀ i, 0 ≤ i → i < (n : Int) → 0 ≤ w i → w (lsS w n) ≤ w i ∧ (i < lsS w n → w (lsS w n) < w i)) := by
  intro n
  induction n with
  | zero => exact Or.inl ⟨rfl, fun i i0 i1 => by omega⟩
  | succ n ih =>
    unfold lsS
    by_cases c : 0 ≤ w n ∧ (lsS w n < 0 ∨ w n < w (lsS w n))
    · rw [if_pos c]
      refine Or.inr ⟨by omega, c.1, fun i i0 i1 i2 => ?_⟩
      by_cases e : i = n
      · rw [e]; exact ⟨Int.le_refl _, fun h => by omega⟩
      · rcases ih with ⟨h1, h2⟩ | ⟨h1, h2, h3⟩
        · have := h2 i i0 (by omega); omega
        · have := h3 i i0 (by omega) i2
          have hc := c.2.resolve_left (by omega)
          exact ⟨by omega, fun _ => by omega⟩
    · rw [if_neg c]
      rcases ih with ⟨h1, h2⟩ | ⟨h1, h2, h3⟩
      · refine Or.inl ⟨h1, fun i i0 i1 => ?_⟩
        by_cases e : i = n
        · rw [e]; exact Classical.byContradiction fun hn => c ⟨by omega, Or.inl (by omega)⟩
        · exact h2 i i0 (by omega)
      · refine Or.inr ⟨by omega, h2, fun i i0 i1 i2 => ?_⟩
        by_cases e : i = n
        · rw [e] at i2 ⊢
          have : ¬ w n < w (lsS w n) := fun hh => c ⟨i2, Or.inr hh⟩
          exact ⟨by omega, fun h => by omega⟩
        · exact h3 i i0 (by omega) i2
set_option maxHeartbeats 4000000 in
set_option maxRecDepth 100000 in
theorem s_leastPoint {M : tp_M} {kc : Int} {w : Int → Int} (tk : kn_t kc) (hw : ∀ i, 0 ≤ i → i < 9 → M (kc + 2) i = w i) : f_X1_leastPoint kc M = some (lsS w 9) := by
  unfold f_X1_leastPoint
  rw [if_pos (show tp_tg kc = 2 from tk)]
  unfold f_X1_leastPoint_4
  have e0 : ((-1 : Int), (0 : Int)) = (lsS w 0, ((0 : Nat) : Int)) := rfl
  rw [e0]
  refine lp_seq (fun n => (lsS w n, (n : Int))) 9 (fun n hn rc => ?_) (fun rc => ?_) tp_N (by unfold tp_N; omega)
  · have g0 : ¬ 9 ≤ (n : Int) := by omega
    have g1 : 0 ≤ (n : Int) ∧ (n : Int) < 9 := by omega
    have g4 : n < 1000000 := by omega
    have wn := hw n g1.1 g1.2
    have es : lsS w (n + 1) = if 0 ≤ w n ∧ (lsS w n < 0 ∨ w n < w (lsS w n)) then (n : Int) else lsS w n := rfl
    have sp := lsS_spec w n
    generalize lsS w n = b at *
    simp only [f_X1_leastPoint_4B, f_X1_leastPoint_40, f_X1_leastPoint_38, tp_lt]
    rw [if_neg g0, if_pos g1, w_succ g4, es]
    by_cases c0 : w n < 0
    · rw [if_pos (show M (kc + 2) n < 0 by rw [wn]; exact c0), if_neg (fun h => by omega)]
    · rw [if_neg (show ¬ M (kc + 2) n < 0 by rw [wn]; exact c0)]
      by_cases c1 : b < 0
      · rw [if_pos c1, if_pos ⟨by omega, Or.inl c1⟩]
      · have b9 : 0 ≤ b ∧ b < 9 := by
          rcases sp with ⟨h, _⟩ | ⟨h, _⟩ <;> omega
        have wb := hw b b9.1 b9.2
        rw [if_neg c1, if_pos g1, if_pos b9]
        by_cases c2 : w n < w b
        · rw [if_neg (show ¬ M (kc + 2) b ≤ M (kc + 2) n by rw [wn, wb]; omega), if_pos ⟨by omega, Or.inr c2⟩]
        · rw [if_pos (show M (kc + 2) b ≤ M (kc + 2) n by rw [wn, wb]; omega), if_neg (fun h => h.2.elim c1 c2)]
  · simp only [f_X1_leastPoint_4B]
    rw [if_pos (by decide)]
