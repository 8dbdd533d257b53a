theorem rowN_in {P r : Int} {q : Int → Int → Int} {D f : Int → Int} (hP : 0 < P) (hf : inP P f 0 9) : inP P (rowN P q D r f) 0 18 := by
  unfold rowN
  refine lvE_in hP _ (oux_in hP _ _ (fun k k0 k1 => ?_))
  by_cases c : k < 9
  · rw [rd_in ⟨k0, c⟩]; exact hf k k0 c
  · rw [rd_out (by omega)]; omega
theorem dsq {d : Int} (h : 1 ≤ d ∧ d ≤ 4) : 1 ≤ d * d ∧ d * d ≤ 16 := by
  have := mulB (x := d) (y := d) (a := 4) (b := 4) (by omega) (by omega)
  have a := Int.mul_pos (a := d) (b := d) (by omega) (by omega)
  omega
theorem pts_g {p K P r m : Int} {D e s rt Y : Int → Int} {mo q : Int → Int → Int} (hp : pKP p K P) (h : cxg p P r D e s rt mo q) (hr : 1 ≤ r ∧ r ≤ 6) (hm : m ≤ 8) (i : Int) : (-1 ≤ pts p K.toNat r m D e s Y i ∧ pts p K.toNat r m D e s Y i ≤ 20000) ∧ (0 ≤ pts p K.toNat r m D e s Y i → (0 ≤ i ∧ i ≤ m) ∧ 0 ≤ (Hd p K.toNat r D e s Y i).1 ∧ pts p K.toNat r m D e s Y i = (Hd p K.toNat r D e s Y i).1 + i * lft r e s) := by
  have a := Hd_g (Y := Y) hp h hr i
  have b := lft_g h hr
  have d := dsq (d := D r) ⟨(cxg_D h r hr.1 (Int.le_refl _)).1, h.2.1⟩
  unfold pts
  by_cases c : 0 ≤ i ∧ i ≤ m ∧ 0 ≤ (Hd p K.toNat r D e s Y i).1
  · rw [if_pos c]
    have := mulB (x := i) (y := lft r e s) (a := 8) (b := 448) (by omega) (by omega)
    exact ⟨by omega, fun _ => ⟨⟨c.1, c.2.1⟩, c.2.2, rfl⟩⟩
  · rw [if_neg c]; exact ⟨by omega, fun hh => by omega⟩
theorem pts_hdW {p K P r m : Int} {D e s rt Y : Int → Int} {mo q : Int → Int → Int} (hp : pKP p K P) (h : cxg p P r D e s rt mo q) (hr : 1 ≤ r ∧ r ≤ 6) (hm : m ≤ 8) : hdW p K.toNat r m D e s Y (pts p K.toNat r m D e s Y) := fun i _ _ h0 => by
  have := (pts_g hp h hr hm i).2 h0
  exact ⟨this.1.2, this.2.1⟩
theorem zrD_spec (w : Int → Int) (m : Int) : ∀ n : Nat, (zrD w m n = m ∧ ∀ i, m - n < i → i ≤ m → w i < 0) ∨ ((m - n < zrD w m n ∧ zrD w m n ≤ m) ∧ 0 ≤ w (zrD w m n) ∧ ∀ i, m - n < i → i < zrD w m n → w i < 0) := by
  intro n
  induction n with
  | zero => exact Or.inl ⟨rfl, fun i h1 h2 => by omega⟩
  | succ n ih =>
    unfold zrD
    by_cases c : 0 ≤ w (m - n)
    · rw [if_pos c]
      exact Or.inr ⟨by omega, c, fun i h1 h2 => by omega⟩
    · rw [if_neg c]
      rcases ih with ⟨h1, h2⟩ | ⟨h1, h2, h3⟩
      · refine Or.inl ⟨h1, fun i i0 i1 => ?_⟩
        by_cases e : i = m - n
        · rw [e]; omega
        · exact h2 i (by omega) i1
      · refine Or.inr ⟨by omega, h2, fun i i0 i1 => ?_⟩
        by_cases e : i = m - n
        · rw [e]; omega
        · exact h3 i (by omega) i1
theorem zok_zrD {w : Int → Int} {m : Int} (hm : 0 ≤ m ∧ m ≤ 8) (hw : ∀ i, m < i → w i < 0) : zok w m (zrD w m (m + 1).toNat) := by
  rcases zrD_spec w m (m + 1).toNat with ⟨h1, h2⟩ | ⟨h1, h2, h3⟩
  · refine ⟨by omega, fun i i0 i1 => h2 i (by omega) (by omega), fun i i0 _ => hw i i0, Or.inr ⟨h1, fun i i0 i1 => ?_⟩⟩
    by_cases c : m < i
    · exact hw i c
    · exact h2 i (by omega) (by omega)
  · exact ⟨by omega, fun i i0 i1 => h3 i (by omega) i1, fun i i0 _ => hw i i0, Or.inl h2⟩
def lnS : List (Int × Int) → Int
  | [] => 0
  | x :: l => (x.2 - x.1) + lnS l
theorem sdL_ok {w : Int → Int} {t : Int} (ht : lsp w t) : ∀ (n : Nat) (a : Int), 0 ≤ a → a ≤ t → 0 ≤ w a → (∀ ab, ab ∈ sdL w t n a → (a ≤ ab.1 ∧ ab.1 < ab.2 ∧ ab.2 ≤ t) ∧ (0 ≤ w ab.2 ∧ w ab.2 ≤ w ab.1) ∧ w t ≤ w ab.2) ∧ lnS (sdL w t n a) ≤ t - a ∧ ((sdL w t n a).length : Int) ≤ lnS (sdL w t n a) := by
  intro n
  induction n with
  | zero => intro a _ _ _; exact ⟨fun ab h => by simp [sdL] at h, by show (0 : Int) ≤ _; omega, by show ((0 : Nat) : Int) ≤ 0; omega⟩
  | succ n ih =>
    intro a a0 a1 wa
    unfold sdL
    by_cases c : a < t
    · rw [if_pos c]
      have nxp := nxF_nx a0 c ht.2.1
      generalize nxF w a t = b at *
      obtain ⟨x1, x2, x3, x4⟩ := nxp
      have wt := ht.2.2 a a0 (by have := ht.1; omega) wa
      have wb := ht.2.2 b (by omega) (by have := ht.1; omega) x3
      have k := (x4 t c (by omega) ht.2.1).1
      have wlt := wt.2 c
      have hab : w b ≤ w a := by
        apply Classical.byContradiction
        intro hn
        have p1 := Int.mul_pos (a := w b - w a) (b := t - a) (by omega) (by omega)
        have p2 := Int.mul_pos (a := w a - w t) (b := b - a) (by omega) (by omega)
        have p3 : (w t - w a) * (b - a) = -((w a - w t) * (b - a)) := by rw [← Int.neg_mul]; congr 1; omega
        omega
      obtain ⟨r1, r2, r3⟩ := ih b (by omega) (by omega) x3
      refine ⟨fun ab h => ?_, ?_, ?_⟩
      · rcases List.mem_cons.mp h with h | h
        · subst h; exact ⟨⟨Int.le_refl _, x1, by show b ≤ t; omega⟩, ⟨x3, hab⟩, wb.1⟩
        · have := r1 ab h; exact ⟨by omega, this.2⟩
      · show b - a + lnS _ ≤ _; omega
      · rw [List.length_cons]; show _ ≤ b - a + lnS _; omega
    · rw [if_neg c]
      exact ⟨fun ab h => by simp at h, by show (0 : Int) ≤ _; omega, by show ((0 : Nat) : Int) ≤ 0; omega⟩
theorem sides_ok {w : Int → Int} {m z : Int} (hm : m ≤ 8) (hz : zok w m z) : (∀ ab, ab ∈ sidesOf w z → (0 ≤ ab.1 ∧ ab.1 < ab.2 ∧ ab.2 ≤ m) ∧ (0 ≤ w ab.2 ∧ w ab.2 ≤ w ab.1) ∧ (0 ≤ w (lsS w 9) ∧ w (lsS w 9) ≤ w ab.2)) ∧ lnS (sidesOf w z) ≤ m - z ∧ ((sidesOf w z).length : Int) ≤ lnS (sidesOf w z) ∧ (0 ≤ lsS w 9 → z ≤ lsS w 9) := by
  have zz := hz.1
  unfold sidesOf
  by_cases c : lsS w 9 < 0
  · rw [if_pos c]
    exact ⟨fun ab h => by simp at h, by show (0 : Int) ≤ _; omega, by show ((0 : Nat) : Int) ≤ 0; omega, fun h => by omega⟩
  · rw [if_neg c]
    rcases lsS_spec w 9 with ⟨l1, _⟩ | ⟨l1, l2, l3⟩
    · omega
    · have lt : lsp w (lsS w 9) := ⟨by omega, l2, fun i i0 i1 i2 => l3 i i0 (by omega) i2⟩
      have tm : lsS w 9 ≤ m := Classical.byContradiction fun hc => by have := hz.2.2.1 (lsS w 9) (by omega) (by omega); omega
      have zt : z ≤ lsS w 9 := Classical.byContradiction fun hc => by have := hz.2.1 (lsS w 9) (by omega) (by omega); omega
      have wz : 0 ≤ w z := by
        rcases hz.2.2.2 with h | ⟨_, h⟩
        · exact h
        · have := h (lsS w 9) (by omega) (by omega); omega
      obtain ⟨r1, r2, r3⟩ := sdL_ok lt 9 z (by omega) zt wz
      exact ⟨fun ab h => by have := r1 ab h; exact ⟨by omega, this.2.1, l2, this.2.2⟩, by omega, r3, fun _ => zt⟩
/-- what is known of a side -/
def sdG (r : Int) (D e s w : Int → Int) (ab : Int × Int) : Prop := (1 ≤ sgE w ab.1 ab.2 ∧ sgG w ab.1 ab.2 * sgE w ab.1 ab.2 = ab.2 - ab.1 ∧ 1 ≤ sgG w ab.1 ab.2) ∧ (0 ≤ sgS w (lft r e s) ab.1 ab.2 ∧ sgS w (lft r e s) ab.1 ab.2 ≤ 28 * D r * (D r * sgE w ab.1 ab.2) ∧ sgS w (lft r e s) ab.1 ab.2 ≤ 448) ∧ cop1 (sgE w ab.1 ab.2) (sgS w (lft r e s) ab.1 ab.2) ∧ (∀ j, 1 ≤ j → j < r → 0 ≤ mnl e s (r - 1).toNat (sgS w (lft r e s) ab.1 ab.2) j ∧ mnl e s (r - 1).toNat (sgS w (lft r e s) ab.1 ab.2) j < e j) ∧ (∀ j, r ≤ j → mnl e s (r - 1).toNat (sgS w (lft r e s) ab.1 ab.2) j = 0) ∧ mnl e s (r - 1).toNat (sgS w (lft r e s) ab.1 ab.2) 0 ≤ 448
set_option maxHeartbeats 4000000 in
set_option maxRecDepth 100000 in
theorem side_g {p K P r m : Int} {D e s rt Y w : Int → Int} {mo q : Int → Int → Int} {ab : Int × Int} (hp : pKP p K P) (h : cxg p P r D e s rt mo q) (hr : 1 ≤ r ∧ r ≤ 6) (hm : m ≤ 8) (hw : w = pts p K.toNat r m D e s Y) (hab : (0 ≤ ab.1 ∧ ab.1 < ab.2 ∧ ab.2 ≤ m) ∧ (0 ≤ w ab.2 ∧ w ab.2 ≤ w ab.1) ∧ (0 ≤ w (lsS w 9) ∧ w (lsS w 9) ≤ w ab.2)) : SOk w (lft r e s) (w (lsS w 9)) ab ∧ sdG r D e s w ab := by
  obtain ⟨a1, a2, a3⟩ := hab
  have wa := pts_g (Y := Y) hp h hr hm ab.1
  have wb := pts_g (Y := Y) hp h hr hm ab.2
  rw [← hw] at wa wb
  have ea := (wa.2 (by omega)).2
  have eb := (wb.2 (by omega)).2
  have gs := sg_spec (w := w) (a := ab.1) (b := ab.2) (by omega) (by omega)
  have ha := Hd_g (Y := Y) hp h hr ab.1
  have hl := lft_g h hr
  have dd := dsq (d := D r) ⟨(cxg_D h r hr.1 (Int.le_refl _)).1, h.2.1⟩
  have d1 := (cxg_D h r hr.1 (Int.le_refl _)).1
  obtain ⟨g1, g2, g3, g4, g5, g6, u, g7⟩ := gs
  have cb := cxg_b h hr.1
  have S0 : 0 ≤ sgS w (lft r e s) ab.1 ab.2 := by
    unfold sgS
    have := Int.mul_nonneg (a := lft r e s) (b := sgE w ab.1 ab.2) hl.1 (by omega)
    omega
  have GS : sgG w ab.1 ab.2 * sgS w (lft r e s) ab.1 ab.2 = (Hd p K.toNat r D e s Y ab.1).1 - (Hd p K.toNat r D e s Y ab.2).1 := by
    unfold sgS
    rw [Int.mul_add, g4, show sgG w ab.1 ab.2 * (lft r e s * sgE w ab.1 ab.2) = lft r e s * (sgG w ab.1 ab.2 * sgE w ab.1 ab.2) by ac_rfl, g3, ea.2, eb.2, Int.mul_sub, Int.mul_comm ab.1, Int.mul_comm ab.2]
    omega
  have Sle : sgS w (lft r e s) ab.1 ab.2 ≤ 28 * (D r * D r) := by
    have := Int.mul_le_mul_of_nonneg_right g1 S0
    have e2 := eb.1
    omega
  have SE : 28 * (D r * D r) ≤ 28 * D r * (D r * sgE w ab.1 ab.2) := by
    have e1 : 28 * D r * (D r * sgE w ab.1 ab.2) = 28 * (D r * D r) * sgE w ab.1 ab.2 := by ac_rfl
    rw [e1]
    have := Int.mul_le_mul_of_nonneg_left g5.1 (show 0 ≤ 28 * (D r * D r) by omega)
    omega
  refine ⟨⟨by omega, a2, wa.1.2, a3, S0, by omega⟩, ⟨g5.1, g3, g1⟩, ⟨S0, by omega, by omega⟩, ⟨u, ?_⟩, fun j j0 j1 => mnl_b cb.1 cb.2.1 _ _ j (by omega) j0 (by omega), fun j j0 => mnl_hi e s _ _ j (by omega), ?_⟩
  · obtain ⟨v, hv⟩ := g7
    refine ⟨u * lft r e s + v, ?_⟩
    unfold sgS
    rw [Int.mul_add, Int.mul_add, ← hv]
    have : sgE w ab.1 ab.2 * (u * lft r e s) = u * (lft r e s * sgE w ab.1 ab.2) := by ac_rfl
    omega
  · have := mnl_0 cb.1 cb.2.1 (r - 1).toNat (sgS w (lft r e s) ab.1 ab.2) (by omega)
    omega
theorem rdN_small {p : Int} {e rt : Int → Int} {mo : Int → Int → Int} : ∀ (n : Nat) (x : Int → Int) (c : Int), (∀ j, 1 ≤ j → j ≤ (n : Int) → 0 ≤ x j ∧ x j < e j) → rdN p e rt mo n x c = c := by
  intro n
  induction n with
  | zero => intro x c _; rfl
  | succ n ih =>
    intro x c hx
    unfold rdN
    have a := hx ((n : Int) + 1) (by omega) (by omega)
    have e0 : x ((n : Int) + 1) / e ((n : Int) + 1) = 0 := Int.ediv_eq_zero_of_lt a.1 a.2
    rw [e0]
    show rdN p e rt mo n _ c = c
    exact ih _ _ (fun j j0 j1 => by rw [Int.zero_mul, Int.add_zero]; exact hx j j0 (by omega))
set_option maxHeartbeats 4000000 in
set_option maxRecDepth 100000 in
theorem res_g {p K P r m : Int} {D e s rt Y w f : Int → Int} {mo q : Int → Int → Int} {ab : Int × Int} (hp : pKP p K P) (h : cxg p P r D e s rt mo q) (hr : 1 ≤ r ∧ r ≤ 6) (hm : m ≤ 8) (hmD : m * D r ≤ 8) (hf : inP P f 0 9) (hY : Y = rowN P q D r f) (hw : w = pts p K.toNat r m D e s Y) (hab : (0 ≤ ab.1 ∧ ab.1 < ab.2 ∧ ab.2 ≤ m) ∧ (0 ≤ w ab.2 ∧ w ab.2 ≤ w ab.1) ∧ (0 ≤ w (lsS w 9) ∧ w (lsS w 9) ≤ w ab.2)) : Ro p (rsR p K.toNat r D e s rt mo Y w (lft r e s) ab) ∧ 0 ≤ tp_dg (rsR p K.toNat r D e s rt mo Y w (lft r e s) ab) 9 ∧ tp_dg (rsR p K.toNat r D e s rt mo Y w (lft r e s) ab) 9 ≤ sgG w ab.1 ab.2 := by
  have hp2 := pm_2 hp.1
  obtain ⟨a1, a2, a3⟩ := hab
  have gs := sg_spec (w := w) (a := ab.1) (b := ab.2) (by omega) (by omega)
  have wa := pts_g (Y := Y) hp h hr hm ab.1
  rw [← hw] at wa
  have ea := (wa.2 (by omega)).2.1
  have cb := cxg_b h hr.1
  have dr := (cxg_D h r hr.1 (Int.le_refl _)).1
  have hs := (hdS_b (val := kval p K.toNat (D r) (fun j => vpl D e s (D r) j (r - 1).toNat) (seg Y (D r) ab.1)) (Y := seg Y (D r) ab.1) (fun j => (kval_b hp cb.1 hr j).1) (D r).toNat).1 ea
  have ro : Ro p (rsR p K.toNat r D e s rt mo Y w (lft r e s) ab) := by
    refine ⟨fun k k0 k1 => ?_, fun k hk => ?_⟩
    · unfold rsR
      split
      · exact ⟨Int.emod_nonneg _ (by omega), Int.emod_lt_of_pos _ (by omega)⟩
      · omega
    · unfold rsR
      rw [if_neg (by omega)]
  have z0 : rsR p K.toNat r D e s rt mo Y w (lft r e s) ab 0 ≠ 0 := by
    have hj : 0 ≤ ab.1 * D r ∧ ab.1 * D r + D r ≤ 18 := by
      have m1 := Int.mul_le_mul_of_nonneg_right (show ab.1 ≤ m by omega) (show 0 ≤ D r by omega)
      have m2 := Int.mul_nonneg (a := ab.1) (b := D r) a1.1 (by omega)
      have := h.2.1
      omega
    have e2 : (Hd p K.toNat r D e s Y ab.1).2 = (hdS (kval p K.toNat (D r) (fun j => vpl D e s (D r) j (r - 1).toNat) (seg Y (D r) ab.1)) (seg Y (D r) ab.1) (D r).toNat).2 := rfl
    rw [← e2] at hs
    unfold rsR
    rw [if_pos ⟨Int.le_refl _, by omega, by rw [Int.zero_mul, Int.zero_mul, Int.add_zero, Int.sub_zero]⟩, Int.zero_mul, Int.add_zero]
    rw [rdN_small (r - 1).toNat _ 1 (fun j j0 j1 => by
      have := xpt_b cb.1 (j := (Hd p K.toNat r D e s Y ab.1).2) (k := j) j0 (by omega)
      rw [Int.zero_mul, Int.add_zero]
      omega), Int.mul_one]
    generalize (Hd p K.toNat r D e s Y ab.1).2 = jj at *
    have yb := (rowN_in (P := P) (r := r) (q := q) (D := D) (f := f) (by have := hp.2.2.2.2.1; omega) hf) (ab.1 * D r + jj) (by omega) (by omega)
    rw [← hY] at yb
    have ne : Y (ab.1 * D r + jj) ≠ 0 := hs.2.2.1
    have hP := hp.2.2.2.1
    rw [hP] at yb
    have := rsv_ne (p := p) (by omega) K.toNat (Y (ab.1 * D r + jj)) (by omega) yb.2
    have e3 : rsv p K.toNat (seg Y (D r) ab.1 jj) % p = rsv p K.toNat (Y (ab.1 * D r + jj)) := by
      unfold rsv seg
      rw [Int.emod_emod]
    rw [e3]; exact this
  refine ⟨ro, Classical.byContradiction fun hc => ?_, ?_⟩
  · exact z0 (tp_dg_top _ 9 0 (by omega) (by omega))
  · by_cases c : 0 ≤ tp_dg (rsR p K.toNat r D e s rt mo Y w (lft r e s) ab) 9
    · have ne := tp_dg_at _ 9 c
      apply Classical.byContradiction
      intro hc
      apply ne
      generalize tp_dg (rsR p K.toNat r D e s rt mo Y w (lft r e s) ab) 9 = x at *
      unfold rsR
      rw [if_neg (by omega)]
    · omega
