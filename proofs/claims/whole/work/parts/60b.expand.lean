def tp_row (M : tp_M) (c : Int) (f : Int → Int) : tp_M := fun a b => if a = c then f b else M a b
theorem row_eq {M : tp_M} {c k : Int} {f : Int → Int} : tp_row M c f c k = f k := by unfold tp_row; rw [if_pos rfl]
theorem row_ne {M : tp_M} {c a k : Int} {f : Int → Int} (h : ¬ a = c) : tp_row M c f a k = M a k := by unfold tp_row; rw [if_neg h]
theorem row_up {M : tp_M} {c k v : Int} {f : Int → Int} : tp_up (tp_row M c f) c k v = tp_row M c (udS f k v) := by
  funext a b
  unfold tp_row udS
  rw [up_at]
  by_cases h : a = c
  · by_cases h2 : b = k
    · rw [if_pos ⟨h, h2⟩, if_pos h, if_pos h2]
    · rw [if_neg (by omega), if_pos h, if_pos h, if_neg h2]
  · rw [if_neg (by omega), if_neg h, if_neg h]
theorem row_id (M : tp_M) (c : Int) : tp_row M c (M c) = M := by
  funext a b
  unfold tp_row
  by_cases h : a = c
  · rw [if_pos h, h]
  · rw [if_neg h]
theorem emod_uni {a r P q : Int} (h0 : 0 ≤ r) (h1 : r < P) (h : a = r + P * q) : a % P = r := by
  rw [h, Int.add_mul_emod_self_left, Int.emod_eq_of_lt h0 h1]
theorem tm_em {a P : Int} (hP : 0 < P) : (0 ≤ Int.tmod a P → Int.tmod a P = a % P) ∧ (¬ 0 ≤ Int.tmod a P → Int.tmod a P + P = a % P) ∧ -P < Int.tmod a P ∧ Int.tmod a P < P := by
  have e := Int.tmod_add_mul_tdiv a P
  have l1 := Int.tmod_lt_of_pos a hP
  have l2 := Int.lt_tmod_of_pos a hP
  refine ⟨fun h => (emod_uni (q := Int.tdiv a P) h l1 e.symm).symm, fun h => (emod_uni (q := Int.tdiv a P - 1) (by omega) (by omega) ?_).symm, l2, l1⟩
  rw [Int.mul_sub, Int.mul_one]; omega
theorem s_rest {M : tp_M} {a : Int} (hP : 0 < M 1 2 ∧ M 1 2 ≤ 400000000) : f_X4_rest a M = some (a % M 1 2) := by
  obtain ⟨t1, t2, t3, t4⟩ := tm_em (a := a) hP.1
  unfold f_X4_rest
  simp only [tp_lt]
  rw [if_pos hP.1, if_neg (by omega)]
  by_cases c : 0 ≤ Int.tmod a (M 1 2)
  · rw [if_pos c, t1 c]
  · rw [if_neg c, ho_wl (by omega) (by omega), t2 c]
theorem s_number {M : tp_M} {a : Int} (hP : 0 < M 483 2 ∧ M 483 2 ≤ 400000000) : f_X11_number a M = some (a % M 483 2) := by
  obtain ⟨t1, t2, t3, t4⟩ := tm_em (a := a) hP.1
  unfold f_X11_number
  simp only [tp_lt]
  rw [if_neg (by omega)]
  by_cases c : 0 ≤ Int.tmod a (M 483 2)
  · rw [if_pos c, t1 c]
  · rw [if_neg c, ho_wl (by omega) (by omega), t2 c]
theorem mulP {x y : Int} (hx : 0 ≤ x ∧ x ≤ 400000000) (hy : 0 ≤ y ∧ y ≤ 400000000) : 0 ≤ x * y ∧ x * y ≤ 160000000000000000 := by
  refine ⟨Int.mul_nonneg hx.1 hy.1, ?_⟩
  have h1 : (x * y).natAbs ≤ 400000000 * 400000000 := by
    rw [Int.natAbs_mul]
    exact Nat.mul_le_mul (by omega) (by omega)
  omega
def pas (P : Int) (g : Int → Int) (d lo : Int) : Nat → (Int → Int) → (Int → Int)
  | 0, c => c
  | n + 1, c => pas P g d lo n (e1 P g d (lo + d + n) c)
def oux (P : Int) (g : Int → Int) (d e : Int) : Nat → Int → (Int → Int) → (Int → Int)
  | 0, _, c => c
  | n + 1, s, c => if s + d < e then oux P g d e n (s + d) (pas P g d s (e - s - d).toNat c) else c
/-- numbers below P, between two places -/
def inP (P : Int) (f : Int → Int) (a b : Int) : Prop := ∀ k, a ≤ k → k < b → 0 ≤ f k ∧ f k < P
theorem e1_in {P : Int} (hP : 0 < P) {g : Int → Int} {d top : Int} {c : Int → Int} {a b : Int} (h : inP P c a b) : inP P (e1 P g d top c) a b := by
  intro k k0 k1
  unfold e1
  by_cases hc : top - d ≤ k ∧ k < top
  · rw [if_pos hc]; exact ⟨Int.emod_nonneg _ (by omega), Int.emod_lt_of_pos _ hP⟩
  · rw [if_neg hc]; exact h k k0 k1
theorem pas_in {P : Int} (hP : 0 < P) {g : Int → Int} {d lo : Int} {a b : Int} : ∀ (n : Nat) {c : Int → Int}, inP P c a b → inP P (pas P g d lo n c) a b := by
  intro n
  induction n with
  | zero => intro c h; exact h
  | succ n ih => intro c h; exact ih (e1_in hP h)
theorem oux_in {P : Int} (hP : 0 < P) {g : Int → Int} {d e : Int} {a b : Int} : ∀ (n : Nat) (s : Int) {c : Int → Int}, inP P c a b → inP P (oux P g d e n s c) a b := by
  intro n
  induction n with
  | zero => intro s c h; exact h
  | succ n ih =>
    intro s c h
    unfold oux
    by_cases hs : s + d < e
    · rw [if_pos hs]; exact ih _ (pas_in hP _ h)
    · rw [if_neg hs]; exact h
theorem e1_cong {P : Int} {g g' : Int → Int} {d top : Int} {c c' : Int → Int} {a b : Int} (hg : ∀ k, 0 ≤ k → k < d → g k = g' k) (hc : ∀ k, a ≤ k → k < b → c k = c' k) (h1 : a ≤ top) (h2 : top < b) : ∀ k, a ≤ k → k < b → e1 P g d top c k = e1 P g' d top c' k := by
  intro k k0 k1
  unfold e1
  by_cases h : top - d ≤ k ∧ k < top
  · rw [if_pos h, if_pos h, hc k k0 k1, hc top h1 h2, hg _ (by omega) (by omega)]
  · rw [if_neg h, if_neg h, hc k k0 k1]
theorem pas_cong {P : Int} {g g' : Int → Int} {d lo : Int} {a b : Int} (hd : 0 ≤ d) (hg : ∀ k, 0 ≤ k → k < d → g k = g' k) (h1 : a ≤ lo) : ∀ (n : Nat) {c c' : Int → Int}, lo + d + n ≤ b → (∀ k, a ≤ k → k < b → c k = c' k) → ∀ k, a ≤ k → k < b → pas P g d lo n c k = pas P g' d lo n c' k := by
  intro n
  induction n with
  | zero => intro c c' _ h; exact h
  | succ n ih => intro c c' hb h; exact ih (by omega) (e1_cong hg h (by omega) (by omega))
theorem oux_cong {P : Int} {g g' : Int → Int} {d e : Int} {a : Int} (hd : 0 ≤ d) (hg : ∀ k, 0 ≤ k → k < d → g k = g' k) : ∀ (n : Nat) (s : Int) {c c' : Int → Int}, a ≤ s → (∀ k, a ≤ k → k < e → c k = c' k) → ∀ k, a ≤ k → k < e → oux P g d e n s c k = oux P g' d e n s c' k := by
  intro n
  induction n with
  | zero => intro s c c' _ h; exact h
  | succ n ih =>
    intro s c c' hs h
    unfold oux
    by_cases hse : s + d < e
    · rw [if_pos hse, if_pos hse]
      exact ih _ (by omega) (pas_cong hd hg hs _ (by omega) h)
    · rw [if_neg hse, if_neg hse]; exact h
theorem e1_out {P : Int} {g : Int → Int} {d top : Int} {c : Int → Int} {k : Int} (h : ¬ (top - d ≤ k ∧ k < top)) : e1 P g d top c k = c k := by unfold e1; rw [if_neg h]
theorem pas_out {P : Int} {g : Int → Int} {d lo : Int} {k : Int} : ∀ (n : Nat) {c : Int → Int}, ¬ (lo ≤ k ∧ k < lo + d + n) → pas P g d lo n c k = c k := by
  intro n
  induction n with
  | zero => intro c h; rfl
  | succ n ih =>
    intro c h
    show pas P g d lo n (e1 P g d (lo + d + n) c) k = _
    rw [ih (by omega), e1_out (by omega)]
theorem oux_out {P : Int} {g : Int → Int} {d e : Int} {k : Int} (hd : 0 ≤ d) : ∀ (n : Nat) (s : Int) {c : Int → Int}, ¬ (s ≤ k ∧ k < e) → oux P g d e n s c k = c k := by
  intro n
  induction n with
  | zero => intro s c h; rfl
  | succ n ih =>
    intro s c h
    unfold oux
    by_cases hs : s + d < e
    · rw [if_pos hs, ih _ (by omega), pas_out _ (by omega)]
    · rw [if_neg hs]
theorem e1_z {P : Int} {g : Int → Int} {d top : Int} {f : Int → Int} (hz : f top = 0) (hr : ∀ k, top - d ≤ k → k < top → 0 ≤ f k ∧ f k < P) : e1 P g d top f = f := by
  funext k
  unfold e1
  by_cases h : top - d ≤ k ∧ k < top
  · rw [if_pos h, hz, Int.zero_mul, Int.sub_zero]
    have := hr k h.1 h.2
    exact Int.emod_eq_of_lt this.1 this.2
  · rw [if_neg h]
/-- a part of e1 -/
def e1p (P : Int) (g : Int → Int) (d top : Int) (n : Int) (c : Int → Int) : Int → Int := fun k => if top - d ≤ k ∧ k < top - d + n then (c k - c top * g (k - (top - d))) % P else c k
theorem e1p_s {P : Int} {g : Int → Int} {d top : Int} {n : Nat} {c : Int → Int} : udS (e1p P g d top n c) (top - d + n) ((c (top - d + n) - c top * g n) % P) = e1p P g d top ((n + 1 : Nat) : Int) c := by
  funext k
  unfold udS e1p
  by_cases h : k = top - d + n
  · rw [if_pos h, if_pos (by omega), h, show top - d + (n : Int) - (top - d) = n by omega]
  · rw [if_neg h]
    by_cases h2 : top - d ≤ k ∧ k < top - d + n
    · rw [if_pos h2, if_pos (by omega)]
    · rw [if_neg h2, if_neg (by omega)]
theorem e1p_0 {P : Int} {g : Int → Int} {d top : Int} {c : Int → Int} : e1p P g d top ((0 : Nat) : Int) c = c := by
  funext k; unfold e1p; rw [if_neg (by omega)]
theorem e1p_d {P : Int} {g : Int → Int} {d top : Int} {n : Nat} {c : Int → Int} (h : d = n) : e1p P g d top n c = e1 P g d top c := by
  funext k; unfold e1p e1; rw [show top - d + (n : Int) = top by omega]
set_option maxHeartbeats 4000000 in
set_option maxRecDepth 100000 in
theorem s_e90 {M : tp_M} {P : Int} {c kc d e st top : Int} {f : Int → Int} {rec_38 rec_54 : Int → tp_M → Option tp_M} (hP : M 1 2 = P) (hP2 : 0 < P ∧ P ≤ 400000000) (hc : c ≠ 1 ∧ c ≠ kc) (hal : tp_al c ≤ 100) (hd : 1 ≤ d ∧ d < tp_al kc) (hal2 : tp_al kc ≤ 100) (ht : d ≤ top ∧ top < tp_al c) (hf : inP P f 0 (tp_al c)) (hg : inP P (M kc) 0 d) : f_X4_expand_90 rec_38 rec_54 c kc d e st top (f top) (top - d) 0 (tp_row M c f) = rec_54 (top - 1) (tp_row M c (e1 P (M kc) d top f)) := by
  unfold f_X4_expand_90
  obtain ⟨n, en⟩ : ∃ n : Nat, d = n := ⟨d.toNat, by omega⟩
  have e0 : ((0 : Int), tp_row M c f) = (((0 : Nat) : Int), tp_row M c (e1p P (M kc) d top ((0 : Nat) : Int) f)) := by rw [e1p_0]; rfl
  rw [e0]
  refine lp_seq (fun j => ((j : Int), tp_row M c (e1p P (M kc) d top j f))) n (fun j hj rc => ?_) (fun rc => ?_) tp_N (by unfold tp_N; omega)
  · have w := ho_w (x := top - d + j) (by omega) (by omega)
    have r1 : tp_row M c (e1p P (M kc) d top j f) c (top - d + j) = f (top - d + j) := by
      rw [row_eq]; unfold e1p; rw [if_neg (by omega)]
    have r2 : tp_row M c (e1p P (M kc) d top j f) kc j = M kc j := row_ne (by omega)
    have r3 : tp_row M c (e1p P (M kc) d top j f) 1 2 = P := by rw [row_ne (by omega)]; exact hP
    have q1 := hf (top - d + j) (by omega) (by omega)
    have q2 := hf top (by omega) (by omega)
    have q3 := hg j (by omega) (by omega)
    have q4 := mulP (x := f top) (y := M kc j) (by omega) (by omega)
    simp only [f_X4_expand_90B, tp_lt, tp_mp, w, w_succ (show j < 1000000 by omega), r1, r2, s_rest (M := tp_row M c (e1p P (M kc) d top j f)) (by rw [r3]; exact hP2), Option.bind_some, r3, row_up]
    rw [ho_wl (x := f top * M kc j) (by omega) (by omega), ho_wl (x := f (top - d + j) - f top * M kc j) (by omega) (by omega), e1p_s]
    repeat (first | rw [if_pos (by omega)] | rw [if_neg (by omega)] | simp only [Option.bind_some, not_true_eq_false, not_false_eq_true, if_true, if_false])
  · simp only [f_X4_expand_90B, f_X4_expand_130, tp_lt]
    rw [if_pos (by omega), ho_w (by omega) (by omega), e1p_d en]
    rfl
def xB54 (rec_38 : Int → tp_M → Option tp_M) (x1 x4 x5 x6 x7 : Int) : (Int × tp_M → Option tp_M) → Int × tp_M → Option tp_M := fun rec_ u => f_X4_expand_54B rec_38 x1 x4 x5 x6 x7 (fun x8' M0' => rec_ (x8', M0')) u.1 u.2
set_option maxHeartbeats 4000000 in
set_option maxRecDepth 100000 in
theorem s_e54 {M : tp_M} {P : Int} {c kc d e st : Int} {rec_38 : Int → tp_M → Option tp_M} (hP : M 1 2 = P) (hP2 : 0 < P ∧ P ≤ 400000000) (hc : c ≠ 1 ∧ c ≠ kc) (hal : tp_al c ≤ 100) (hd : 1 ≤ d ∧ d < tp_al kc) (hal2 : tp_al kc ≤ 100) (hst : 0 ≤ st) (hg : inP P (M kc) 0 d) : ∀ (n N : Nat) (f : Int → Int), n < N → st + d + n ≤ tp_al c → inP P f 0 (tp_al c) → tp_lp (xB54 rec_38 c kc d e st) N (st + d + n - 1, tp_row M c f) = rec_38 (st + d) (tp_row M c (pas P (M kc) d st n f)) := by
  intro n
  induction n with
  | zero =>
    intro N f hN hn hf
    rw [lp_1 (by omega)]
    simp only [xB54, f_X4_expand_54B, tp_lt]
    rw [ho_w (x := st + d) (by omega) (by omega), if_pos (by omega)]
    rfl
  | succ n ih =>
    intro N f hN hn hf
    have key := ih (N - 1) (e1 P (M kc) d (st + d + n) f) (by omega) (by omega) (e1_in hP2.1 hf)
    rw [lp_1 (by omega)]
    generalize tp_lp (xB54 rec_38 c kc d e st) (N - 1) = R at key ⊢
    have et : st + d + ((n + 1 : Nat) : Int) - 1 = st + d + n := by omega
    rw [et]
    have w1 := ho_w (x := st + d) (by omega) (by omega)
    have w2 := ho_w (x := st + d + n - d) (by omega) (by omega)
    have e90 := s_e90 (M := M) (P := P) (c := c) (kc := kc) (d := d) (e := e) (st := st) (top := st + d + n) (f := f) (rec_38 := rec_38) (rec_54 := fun x8' M0' => R (x8', M0')) hP hP2 hc hal hd hal2 (by omega) hf hg
    simp only [xB54, f_X4_expand_54B, tp_lt, w1, w2, row_eq]
    rw [if_neg (by omega), if_pos (by omega)]
    by_cases cz : f (st + d + n) = 0
    · rw [if_neg (by omega)]
      unfold f_X4_expand_130
      simp only [tp_lt]
      rw [ho_w (x := st + d + n + -1) (by omega) (by omega), show st + d + (n : Int) + -1 = st + d + n - 1 by omega]
      rw [e1_z cz (fun k k0 k1 => hf k (by omega) (by omega))] at key
      refine Eq.trans key ?_
      show _ = rec_38 _ (tp_row M c (pas P (M kc) d st n (e1 P (M kc) d (st + d + n) f)))
      rw [e1_z cz (fun k k0 k1 => hf k (by omega) (by omega))]
    · rw [if_pos cz, e90]
      exact key
def xB38 (x1 x4 x5 x6 : Int) : (Int × tp_M → Option tp_M) → Int × tp_M → Option tp_M := fun rec_ u => f_X4_expand_38B x1 x4 x5 x6 (fun x7' M0' => rec_ (x7', M0')) u.1 u.2
set_option maxHeartbeats 4000000 in
set_option maxRecDepth 100000 in
theorem s_e38 {M : tp_M} {P : Int} {c kc d e : Int} (hP : M 1 2 = P) (hP2 : 0 < P ∧ P ≤ 400000000) (hc : c ≠ 1 ∧ c ≠ kc) (hal : tp_al c ≤ 100) (hd : 1 ≤ d ∧ d < tp_al kc) (hal2 : tp_al kc ≤ 100) (he : e ≤ tp_al c) (hg : inP P (M kc) 0 d) : ∀ (n N : Nat) (st : Int) (f : Int → Int), n < N → e - st < n → 0 ≤ st → st ≤ 100 → inP P f 0 (tp_al c) → tp_lp (xB38 c kc d e) N (st, tp_row M c f) = some (tp_row M c (oux P (M kc) d e n st f)) := by
  intro n
  induction n with
  | zero =>
    intro N st f hN hn h0 h100 hf
    rw [lp_1 (by omega)]
    simp only [xB38, f_X4_expand_38B]
    rw [ho_w (x := st + d) (by omega) (by omega), if_pos (by omega)]
    rfl
  | succ n ih =>
    intro N st f hN hn h0 h100 hf
    rw [lp_1 (by omega)]
    have key := ih (N - 1) (st + d) (pas P (M kc) d st (e - st - d).toNat f) (by omega) (by omega) (by omega)
    generalize tp_lp (xB38 c kc d e) (N - 1) = R at key ⊢
    simp only [xB38, f_X4_expand_38B, tp_lt]
    rw [ho_w (x := st + d) (by omega) (by omega)]
    unfold oux
    by_cases hs : st + d < e
    · rw [if_neg (by omega), if_pos hs, ho_w (x := e - 1) (by omega) (by omega)]
      unfold f_X4_expand_54
      have e54 := s_e54 (M := M) (P := P) (c := c) (kc := kc) (d := d) (e := e) (st := st) (rec_38 := fun x7' M0' => R (x7', M0')) hP hP2 hc hal hd hal2 h0 hg (e - st - d).toNat tp_N f (by unfold tp_N; omega) (by omega) hf
      rw [show st + d + ((e - st - d).toNat : Int) - 1 = e - 1 by omega] at e54
      refine Eq.trans e54 ?_
      exact key (by omega) (pas_in hP2.1 _ hf)
    · rw [if_pos (by omega), if_neg hs]
/-- what expand does -/
theorem s_expand {M : tp_M} {P : Int} {c kc d a n : Int} (tg : tp_tg c = 22) (tgk : tp_tg kc = 22) (hP : M 1 2 = P) (hP2 : 0 < P ∧ P ≤ 400000000) (hc : c ≠ 1 ∧ c ≠ kc) (hal : tp_al c ≤ 100) (hd : 1 ≤ d ∧ d < tp_al kc) (hal2 : tp_al kc ≤ 100) (ha : 0 ≤ a) (hn : 0 ≤ n) (he : a + n ≤ tp_al c) (hf : inP P (M c) 0 (tp_al c)) (hg : inP P (M kc) 0 d) : f_X4_expand c a n kc d M = some (tp_row M c (oux P (M kc) d (a + n) 101 a (M c))) := by
  unfold f_X4_expand f_X4_expand_38
  simp only [tp_lt]
  rw [if_pos tg, if_pos tgk, ho_w (x := a + n) (by omega) (by omega), if_neg (by omega), if_neg (by omega), if_neg (by omega), if_neg (by omega), if_pos (by omega)]
  have := s_e38 (M := M) (P := P) (c := c) (kc := kc) (d := d) (e := a + n) hP hP2 hc hal hd hal2 he hg 101 tp_N a (M c) (by unfold tp_N; omega) (by omega) ha (by omega) hf
  rw [row_id] at this
  exact this
