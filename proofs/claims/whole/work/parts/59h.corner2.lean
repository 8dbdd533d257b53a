theorem s_item0 {M : tp_M} {s i : Int} (hs : 0 ≤ s ∧ s < 4) (hi : 0 ≤ i ∧ i < 40) : f_X11_item0 s i M = some (M 534 (40 * s + i)) := by
  unfold f_X11_item0
  rw [ho_w (x := 40 * s) (by omega) (by omega), ho_w (x := 40 * s + i) (by omega) (by omega), if_pos (by omega)]
/-- best of the places between h and x -/
def mst (r : Int → Int) (h x b : Int) : Prop := (b = -1 ∧ ∀ j, h < j → j < x → r j < 0) ∨ (h < b ∧ b < x ∧ 0 ≤ r b ∧ ∀ j, h < j → j < x → 0 ≤ r j → (r b - r h) * (j - h) ≤ (r j - r h) * (b - h) ∧ (b < j → (r b - r h) * (j - h) < (r j - r h) * (b - h)))
def gB7 (x1 x2 : Int) (M0 : tp_M) : (Int × Int → Option Int) → Int × Int → Option Int := fun rec_ u => f_X11_goesOn_7B x1 x2 M0 (fun x3' x4' => rec_ (x3', x4')) u.1 u.2
set_option maxHeartbeats 4000000 in
set_option maxRecDepth 100000 in
theorem s_goes {M : tp_M} {r : Int → Int} {s h n : Int} (hs : 0 ≤ s ∧ s < 4) (hn : M 533 s = n) (hn2 : n ≤ 40) (he : ∀ i, 0 ≤ i → i < 40 → M 534 (40 * s + i) = r i) (hr : ∀ i, 0 ≤ i → i < 40 → -2147483648 ≤ r i ∧ r i ≤ 2147483647) (h0 : 0 ≤ h) (h1 : h < n) : ∀ (m N : Nat) (b x : Int), m < N → x + m = n → h < x → mst r h x b → ∃ b', mst r h n b' ∧ tp_lp (gB7 s h M) N (b, x) = some b' := by
  intro m
  induction m with
  | zero =>
    intro N b x hN hx hx1 hb
    rw [lp_1 (by omega)]
    refine ⟨b, by rw [← hx, show x + ((0 : Nat) : Int) = x by omega]; exact hb, ?_⟩
    simp only [gB7, f_X11_goesOn_7B]
    rw [if_pos hs, if_pos (by omega)]
  | succ m ih =>
    intro N b x hN hx hx1 hb
    have key := fun b x => ih (N - 1) b x (by omega)
    rw [lp_1 (by omega)]
    generalize tp_lp (gB7 s h M) (N - 1) = R at key ⊢
    have w : tp_w (x + 1) = x + 1 := ho_w (by omega) (by omega)
    have i1 := s_item0 (M := M) (i := x) hs (by omega)
    have i2 := s_item0 (M := M) (i := h) hs (by omega)
    rw [he x (by omega) (by omega)] at i1
    rw [he h (by omega) (by omega)] at i2
    have r1 := hr x (by omega) (by omega)
    have r2 := hr h (by omega) (by omega)
    have w1 := ho_wl (x := r x - r h) (by omega) (by omega)
    simp only [gB7, f_X11_goesOn_7B, f_X11_goesOn_80, f_X11_goesOn_85, f_X11_goesOn_98, f_X11_goesOn_99, tp_lt, w, i1, i2, Option.bind_some, w1]
    rw [if_pos hs, if_neg (by omega)]
    by_cases c1 : r x < 0
    · rw [if_pos c1]
      refine key b (x + 1) (by omega) (by omega) ?_
      rcases hb with ⟨hb1, hb2⟩ | ⟨hb1, hb2, hb3, hb4⟩
      · refine Or.inl ⟨hb1, fun j j0 j1 => ?_⟩
        by_cases e : j = x
        · subst e; exact c1
        · exact hb2 j j0 (by omega)
      · refine Or.inr ⟨hb1, by omega, hb3, fun j j0 j1 j2 => ?_⟩
        by_cases e : j = x
        · subst e; omega
        · exact hb4 j j0 (by omega) j2
    · rw [if_neg c1]
      rcases hb with ⟨hb1, hb2⟩ | ⟨hb1, hb2, hb3, hb4⟩
      · rw [if_pos (by omega)]
        repeat (first | rw [if_pos (by omega)] | rw [if_neg (by omega)] | simp only [Option.bind_some, not_true_eq_false, not_false_eq_true, if_true, if_false])
        refine key x (x + 1) (by omega) (by omega) (Or.inr ⟨by omega, by omega, by omega, fun j j0 j1 j2 => ?_⟩)
        by_cases e : j = x
        · subst e; exact ⟨Int.le_refl _, fun hlt => by omega⟩
        · have := hb2 j j0 (by omega); omega
      · have i3 := s_item0 (M := M) (i := b) hs (by omega)
        rw [he b (by omega) (by omega)] at i3
        have r3 := hr b (by omega) (by omega)
        have m1 := mulb40 (x := r b - r h) (y := x - h) (by omega) (by omega)
        have m2 := mulb40 (x := r x - r h) (y := b - h) (by omega) (by omega)
        rw [if_neg (by omega), i3]
        simp only [Option.bind_some]
        rw [ho_wl (x := r b - r h) (by omega) (by omega), ho_w (x := x - h) (by omega) (by omega), ho_w (x := b - h) (by omega) (by omega), ho_wl (x := (r b - r h) * (x - h)) (by omega) (by omega), ho_wl (x := (r x - r h) * (b - h)) (by omega) (by omega)]
        by_cases c2 : (r b - r h) * (x - h) < (r x - r h) * (b - h)
        · rw [if_pos c2]
          repeat (first | rw [if_pos (by omega)] | rw [if_neg (by omega)] | simp only [Option.bind_some, not_true_eq_false, not_false_eq_true, if_true, if_false])
          refine key b (x + 1) (by omega) (by omega) (Or.inr ⟨by omega, by omega, hb3, fun j j0 j1 j2 => ?_⟩)
          by_cases e : j = x
          · subst e; exact ⟨by omega, fun _ => c2⟩
          · exact hb4 j j0 (by omega) j2
        · rw [if_neg c2]
          repeat (first | rw [if_pos (by omega)] | rw [if_neg (by omega)] | simp only [Option.bind_some, not_true_eq_false, not_false_eq_true, if_true, if_false])
          refine key x (x + 1) (by omega) (by omega) (Or.inr ⟨by omega, by omega, by omega, fun j j0 j1 j2 => ?_⟩)
          by_cases e : j = x
          · subst e; exact ⟨Int.le_refl _, fun hlt => by omega⟩
          · have := hb4 j j0 (by omega) j2
            exact ⟨sl_le (xj := r x - r h) (xb := r b - r h) (xk := r j - r h) (J := x - h) (B := b - h) (K := j - h) (by omega) (by omega) (by omega) (by omega) this.1, fun hlt => by omega⟩
theorem s_goesOn {M : tp_M} {r : Int → Int} {s h n : Int} (hs : 0 ≤ s ∧ s < 4) (hn : M 533 s = n) (hn2 : n ≤ 40) (he : ∀ i, 0 ≤ i → i < 40 → M 534 (40 * s + i) = r i) (hr : ∀ i, 0 ≤ i → i < 40 → -2147483648 ≤ r i ∧ r i ≤ 2147483647) (h0 : 0 ≤ h) (h1 : h < n) : ∃ b', mst r h n b' ∧ f_X11_goesOn s h M = some b' := by
  unfold f_X11_goesOn f_X11_goesOn_7
  simp only [tp_lt]
  rw [ho_w (x := h + 1) (by omega) (by omega)]
  exact s_goes hs hn hn2 he hr h0 h1 (n - (h + 1)).toNat tp_N (-1) (h + 1) (by unfold tp_N; omega) (by omega) (by omega) (Or.inl ⟨rfl, fun j j0 j1 => by omega⟩)
/-- the first point from a place on -/
def lpt (r : Int → Int) (n m x : Int) : Prop := (x = -1 ∧ ∀ j, m ≤ j → j < n → r j < 0) ∨ (m ≤ x ∧ x < n ∧ 0 ≤ r x ∧ ∀ j, m ≤ j → j < x → r j < 0)
theorem lpt_un {r : Int → Int} {n m x y : Int} (h1 : lpt r n m x) (h2 : lpt r n m y) : x = y := by
  rcases h1 with ⟨a1, a2⟩ | ⟨a1, a2, a3, a4⟩
  · rcases h2 with ⟨b1, b2⟩ | ⟨b1, b2, b3, b4⟩
    · omega
    · have := a2 y b1 b2; omega
  · rcases h2 with ⟨b1, b2⟩ | ⟨b1, b2, b3, b4⟩
    · have := b2 x a1 a2; omega
    · by_cases e : x < y
      · have := b4 x a1 e; omega
      · by_cases e2 : y < x
        · have := a4 y b1 e2; omega
        · omega
def cB33 (x1 x2 : Int) (M0 : tp_M) : (Int × Int → Option Int) → Int × Int → Option Int := fun rec_ u => f_X11_corner_33B x1 x2 M0 (fun x3' x4' => rec_ (x3', x4')) u.1 u.2
set_option maxHeartbeats 4000000 in
set_option maxRecDepth 100000 in
theorem s_cor33 {M : tp_M} {r : Int → Int} {s a n : Int} (hs : 0 ≤ s ∧ s < 4) (hn2 : n ≤ 40) (he : ∀ i, 0 ≤ i → i < 40 → M 534 (40 * s + i) = r i) : ∀ (m N : Nat) (x : Int), m < N → (m : Int) ≤ n → lpt r n m x → ∃ x', lpt r n 0 x' ∧ tp_lp (cB33 s a M) N (x, (m : Int) - 1) = f_X11_corner_66 s a x' 0 M := by
  intro m
  induction m with
  | zero =>
    intro N x hN hm hx
    rw [lp_1 (by omega)]
    refine ⟨x, hx, ?_⟩
    simp only [cB33, f_X11_corner_33B]
    rw [if_pos (by omega)]
  | succ m ih =>
    intro N x hN hm hx
    have key := fun x => ih (N - 1) x (by omega) (by omega)
    rw [lp_1 (by omega)]
    generalize tp_lp (cB33 s a M) (N - 1) = R at key ⊢
    rw [show (((m + 1 : Nat) : Int) - 1) = m by omega]
    have w : tp_w ((m : Int) + -1) = (m : Int) - 1 := ho_w (by omega) (by omega)
    have i1 := s_item0 (M := M) (i := m) hs (by omega)
    rw [he m (by omega) (by omega)] at i1
    simp only [cB33, f_X11_corner_33B, f_X11_corner_56, tp_lt, w, i1, Option.bind_some]
    rw [if_neg (by omega)]
    by_cases c : r m < 0
    · rw [if_pos c]
      refine key x ?_
      rcases hx with ⟨h1, h2⟩ | ⟨h1, h2, h3, h4⟩
      · refine Or.inl ⟨h1, fun j j0 j1 => ?_⟩
        by_cases e : j = m
        · subst e; exact c
        · exact h2 j (by omega) j1
      · refine Or.inr ⟨by omega, h2, h3, fun j j0 j1 => ?_⟩
        by_cases e : j = m
        · subst e; exact c
        · exact h4 j (by omega) j1
    · rw [if_neg c]
      exact key m (Or.inr ⟨by omega, by omega, by omega, fun j j0 j1 => by omega⟩)
def fB2 (x0 : Int) (M0 : tp_M) : (Int → Option Int) → Int → Option Int := fun rec_ u => f_X6_firstPoint_2B x0 M0 (fun x1' => rec_ x1') u
set_option maxHeartbeats 4000000 in
set_option maxRecDepth 100000 in
theorem s_first {M : tp_M} {c n : Int} (hn : M c 1 = n) (hn2 : n ≤ 40) : ∀ (m N : Nat) (x : Int), m < N → x + m = n → 0 ≤ x → (∀ j, 0 ≤ j → j < x → M (c + 1) j < 0) → ∃ f, lpt (M (c + 1)) n 0 f ∧ tp_lp (fB2 c M) N x = some f := by
  intro m
  induction m with
  | zero =>
    intro N x hN hx x0 hb
    rw [lp_1 (by omega)]
    refine ⟨-1, Or.inl ⟨rfl, fun j j0 j1 => hb j j0 (by omega)⟩, ?_⟩
    simp only [fB2, f_X6_firstPoint_2B]
    rw [if_pos (by omega)]
  | succ m ih =>
    intro N x hN hx x0 hb
    have key := fun x => ih (N - 1) x (by omega)
    rw [lp_1 (by omega)]
    generalize tp_lp (fB2 c M) (N - 1) = R at key ⊢
    simp only [fB2, f_X6_firstPoint_2B, tp_lt]
    rw [if_neg (by omega), if_neg (by omega), if_pos (by omega), ho_w (x := x + 1) (by omega) (by omega)]
    by_cases cc : M (c + 1) x < 0
    · rw [if_pos cc]
      exact key (x + 1) (by omega) (by omega) (fun j j0 j1 => by
        by_cases e : j = x
        · subst e; exact cc
        · exact hb j j0 (by omega))
    · rw [if_neg cc]
      exact ⟨x, Or.inr ⟨x0, by omega, by omega, hb⟩, rfl⟩
def fB15 (x0 : Int) (M0 : tp_M) : (Int → Option Int) → Int → Option Int := fun rec_ u => f_X6_lastPoint_15B x0 M0 (fun x1' => rec_ x1') u
set_option maxHeartbeats 4000000 in
set_option maxRecDepth 100000 in
theorem s_last {M : tp_M} {c n f : Int} (hn2 : n ≤ 40) (hf : 0 ≤ f ∧ 0 ≤ M (c + 1) f) : ∀ (m N : Nat), m < N → (m : Int) ≤ n → f < m → (∀ j, (m : Int) ≤ j → j < n → M (c + 1) j < 0) → ∃ t, f ≤ t ∧ t < n ∧ 0 ≤ M (c + 1) t ∧ (∀ j, t < j → j < n → M (c + 1) j < 0) ∧ tp_lp (fB15 c M) N ((m : Int) - 1) = some t := by
  intro m
  induction m with
  | zero => intro N hN hm hfm; omega
  | succ m ih =>
    intro N hN hm hfm hb
    have key := ih (N - 1)
    rw [lp_1 (by omega)]
    generalize tp_lp (fB15 c M) (N - 1) = R at key ⊢
    rw [show (((m + 1 : Nat) : Int) - 1) = m by omega]
    have w : tp_w ((m : Int) + -1) = (m : Int) - 1 := ho_w (by omega) (by omega)
    simp only [fB15, f_X6_lastPoint_15B, tp_lt, w]
    rw [if_neg (by omega), if_pos (by omega)]
    by_cases cc : M (c + 1) m < 0
    · have ne : ¬ f = m := fun e => by rw [e] at hf; omega
      rw [if_pos cc]
      exact key (by omega) (by omega) (by omega) (fun j j0 j1 => by
        by_cases e : j = m
        · subst e; exact cc
        · exact hb j (by omega) j1)
    · rw [if_neg cc]
      exact ⟨m, by omega, by omega, by omega, fun j j0 j1 => hb j (by omega) j1, rfl⟩
theorem nx_ext {r : Int → Int} {h t n b : Int} (h1 : nx r h (t + 1) b) (ht : t < n) (hz : ∀ j, t < j → j < n → r j < 0) : nx r h n b := by
  obtain ⟨a1, a2, a3, a4⟩ := h1
  refine ⟨a1, by omega, a3, fun j j0 j1 j2 => ?_⟩
  by_cases e : t < j
  · have := hz j e j1; omega
  · exact a4 j j0 (by omega) j2
theorem mst_nx {r : Int → Int} {h n b c : Int} (h1 : mst r h n b) (h2 : nx r h n c) : b = c := by
  rcases h1 with ⟨a1, a2⟩ | ⟨a1, a2, a3, a4⟩
  · obtain ⟨b1, b2, b3, b4⟩ := h2
    have := a2 c b1 b2; omega
  · exact nx_un (n := n) ⟨a1, a2, a3, a4⟩ h2
set_option maxHeartbeats 4000000 in
set_option maxRecDepth 100000 in
theorem s_cor66 {M : tp_M} {r : Int → Int} {s a n t f : Int} {m : Nat} {q : Nat → Int} (hs : 0 ≤ s ∧ s < 4) (hn : M 533 s = n) (hn2 : n ≤ 40) (he : ∀ i, 0 ≤ i → i < 40 → M 534 (40 * s + i) = r i) (hr : ∀ i, 0 ≤ i → i < 40 → -2147483648 ≤ r i ∧ r i ≤ 2147483647) (hq : crn r t f m q) (hf : 0 ≤ f) (ht : t < n) (hz : ∀ j, t < j → j < n → r j < 0) (ha : 0 ≤ a) : f_X11_corner_66 s a f 0 M = some (if a ≤ m then q a.toNat else -2) := by
  have mo := crn_mono hq
  have qm := hq.2.1
  unfold f_X11_corner_66
  have st : ∀ j : Nat, j < m → f_X11_goesOn s (q j) M = some (q (j + 1)) := fun j hj => by
    have m1 := mo j (by omega)
    obtain ⟨b, b1, b2⟩ := s_goesOn (h := q j) hs hn hn2 he hr (by omega) (by omega)
    rw [b2, mst_nx b1 (nx_ext (hq.2.2 j hj) ht hz)]
  have mm := mo m (by omega)
  by_cases c : a ≤ m
  · rw [if_pos c]
    have e0 : (f, (0 : Int)) = (q 0, ((0 : Nat) : Int)) := by rw [hq.1]; rfl
    rw [e0]
    refine lp_seq (fun j => (q j, (j : Int))) a.toNat (fun j hj rc => ?_) (fun rc => ?_) tp_N (by unfold tp_N; omega)
    · have m1 := mo j (by omega)
      simp only [f_X11_corner_66B, tp_lt, st j (by omega), Option.bind_some, w_succ (show j < 1000000 by omega)]
      rw [if_neg (by omega), if_neg (by omega)]
    · have m1 := mo a.toNat (by omega)
      simp only [f_X11_corner_66B, f_X11_corner_89]
      rw [if_pos (by omega), if_neg (by omega), if_pos (by omega)]
  · rw [if_neg c]
    obtain ⟨b, b1, b2⟩ := s_goesOn (h := q m) hs hn hn2 he hr (by omega) (by omega)
    have eb : b = -1 := by
      rcases b1 with ⟨h1, h2⟩ | ⟨h1, h2, h3, h4⟩
      · exact h1
      · have := hz b (by omega) h2; omega
    have e0 : (f, (0 : Int)) = ((fun j : Nat => if j ≤ m then (q j, (j : Int)) else (-1, (m : Int) + 1)) 0) := by
      simp only
      rw [if_pos (by omega), hq.1]; rfl
    rw [e0]
    refine lp_seq (fun j : Nat => if j ≤ m then (q j, (j : Int)) else (-1, (m : Int) + 1)) (m + 1) (fun j hj rc => ?_) (fun rc => ?_) tp_N (by unfold tp_N; omega)
    · rw [if_pos (show j ≤ m by omega)]
      have m1 := mo j (by omega)
      by_cases cj : j = m
      · subst cj
        simp only [f_X11_corner_66B, tp_lt, b2, Option.bind_some, w_succ (show j < 1000000 by omega), eb]
        rw [if_neg (by omega), if_neg (by omega), if_neg (by omega), show ((j + 1 : Nat) : Int) = (j : Int) + 1 by omega]
      · simp only [f_X11_corner_66B, tp_lt, st j (by omega), Option.bind_some, w_succ (show j < 1000000 by omega)]
        rw [if_neg (by omega), if_neg (by omega), if_pos (by omega)]
    · rw [if_neg (by omega)]
      simp only [f_X11_corner_66B, f_X11_corner_89, f_X11_corner_97]
      by_cases c2 : a ≤ (m : Int) + 1
      · repeat (first | rw [if_pos (by omega)] | rw [if_neg (by omega)] | simp only [Option.bind_some, not_true_eq_false, not_false_eq_true, if_true, if_false])
      · repeat (first | rw [if_pos (by omega)] | rw [if_neg (by omega)] | simp only [Option.bind_some, not_true_eq_false, not_false_eq_true, if_true, if_false])
theorem tg482 : tp_tg 482 = 21 ∧ tp_al 482 = 40 := by decide +kernel
set_option maxHeartbeats 4000000 in
set_option maxRecDepth 100000 in
theorem ok_corner : op_corner Inv := by
  intro M hI a0 a1 r0 r1
  have hI' := hI
  obtain ⟨h1, h2, h3, h4, h5⟩ := hI
  unfold f_X10_corner f_X11_corner
  by_cases hs : 0 ≤ a0 ∧ a0 < 4
  · have tg := tg_sheet hs
    have hS := h4 a0 (by omega) (by omega)
    unfold iv_sheet at hS
    rw [(sh_yes hs M).1]
    simp only [Option.bind_some]
    have em : f_X6_isMissing (10 + 2 * a0) M = some (if 0 ≤ M (10 + 2 * a0) 0 then 0 else 1) := by
      unfold f_X6_isMissing
      rw [if_pos tg.1]
      by_cases c : 0 ≤ M (10 + 2 * a0) 0
      · rw [if_pos c, if_pos c]
      · rw [if_neg c, if_neg c]
    rw [em]
    by_cases cm : 0 ≤ M (10 + 2 * a0) 0
    · rw [if_pos cm]
      obtain ⟨n, en⟩ : ∃ n, M (10 + 2 * a0) 1 = n := ⟨_, rfl⟩
      have he := fun i (i0 : 0 ≤ i) (i1 : i < 40) => (hS.2.2.2.2.2.2.2 i i0 i1).1
      have hr := fun i (i0 : 0 ≤ i) (i1 : i < 40) => (hS.2.2.2.2.2.2.2 i i0 i1).2
      obtain ⟨f, f1, f2⟩ := s_first (M := M) (c := 10 + 2 * a0) en (by omega) n.toNat tp_N 0 (by unfold tp_N; omega) (by omega) (by omega) (fun j j0 j1 => by omega)
      have ef : f_X6_firstPoint (10 + 2 * a0) M = some f := by
        unfold f_X6_firstPoint f_X6_firstPoint_2
        rw [if_pos tg.1]; exact f2
      -- the model's way, from any memory that is like this one
      have mod : ∀ N : tp_M, (∀ c k, 532 ≤ c → N c k = M c k) → f_X11_corner_33 a0 a1 (-1) (tp_w (N 533 a0 - 1)) N = f_X11_corner_66 a0 a1 f 0 N := fun N hN => by
        have e3 : N 533 a0 = n := by rw [hN _ _ (by omega), hS.2.2.2.1, en]
        obtain ⟨x', x1, x2⟩ := s_cor33 (M := N) (r := M (10 + 2 * a0 + 1)) (s := a0) (a := a1) (n := n) hs (by omega) (fun i i0 i1 => by rw [hN _ _ (by omega)]; exact he i i0 i1) n.toNat tp_N (-1) (by unfold tp_N; omega) (by omega) (Or.inl ⟨rfl, fun j j0 j1 => by omega⟩)
        rw [lpt_un x1 f1] at x2
        rw [e3, ho_w (x := n - 1) (by omega) (by omega), ← x2, show ((n.toNat : Nat) : Int) - 1 = n - 1 by omega]
        rfl
      by_cases cf : 0 ≤ f
      · have ff : 0 ≤ f ∧ f < n ∧ 0 ≤ M (10 + 2 * a0 + 1) f := by
          rcases f1 with h | h
          · omega
          · exact ⟨cf, h.2.1, h.2.2.1⟩
        obtain ⟨t, t1, t2, t3, t4, t5⟩ := s_last (M := M) (c := 10 + 2 * a0) (n := n) (f := f) (by omega) ⟨ff.1, ff.2.2⟩ n.toNat tp_N (by unfold tp_N; omega) (by omega) (by omega) (fun j j0 j1 => by omega)
        have el : f_X6_lastPoint (10 + 2 * a0) M = some t := by
          unfold f_X6_lastPoint f_X6_lastPoint_15
          simp only [tp_lt]
          rw [if_pos tg.1, en, show min n 40 = n by omega, ho_w (x := n - 1) (by omega) (by omega), show n - 1 = ((n.toNat : Nat) : Int) - 1 by omega]
          exact t5
        obtain ⟨m, q, M', c1, c2, c3, c4⟩ := s_findCorners (M := M) (c := 10 + 2 * a0 + 1) (d := 482) (f := f) (t := t) tg.2.1 tg482.1 (by omega) (by omega) (by rw [tg482.2]; omega) (by omega) (by omega) t3 (fun k k0 k1 => hr k k0 (by omega))
        have mo := crn_mono c1
        have hN : ∀ c k, c ≠ 482 → M' c k = M c k := fun c k hc => c3 c k (by omega)
        have fI : Inv M' := fr_inv (fun c k hc => hN c k (by unfold iset tset at hc; omega)) hI'
        rw [ef]
        simp only [Option.bind_some]
        rw [el]
        simp only [Option.bind_some]
        rw [c2]
        simp only [Option.bind_some, tp_lt]
        have mm := mo m (by omega)
        have e532 : M' 532 a0 = M (10 + 2 * a0) 0 := by rw [hN _ _ (by omega), hS.1]
        by_cases ca : 0 ≤ a1
        · have e66 := s_cor66 (M := M') (r := M (10 + 2 * a0 + 1)) (s := a0) (a := a1) (n := n) hs (by rw [hN _ _ (by omega), hS.2.2.2.1, en]) (by omega) (fun i i0 i1 => by rw [hN _ _ (by omega)]; exact he i i0 i1) hr c1 (by omega) t2 t4 ca
          by_cases cq : a1 ≤ m
          · rw [if_pos cq] at e66
            have c4' := c4 a1.toNat (by omega)
            rw [show ((a1.toNat : Nat) : Int) = a1 by omega] at c4'
            refine ⟨q a1.toNat, M', ?_, ?_, fI⟩
            · rw [c4']
              repeat (first | rw [if_pos (by omega)] | rw [if_neg (by omega)] | simp only [Option.bind_some, not_true_eq_false, not_false_eq_true, if_true, if_false])
            · rw [(sh_yes hs M').2, mod M' (fun c k hc => hN c k (by omega)), e66, e532]
              repeat (first | rw [if_pos (by omega)] | rw [if_neg (by omega)] | simp only [Option.bind_some, not_true_eq_false, not_false_eq_true, if_true, if_false])
          · rw [if_neg cq] at e66
            refine ⟨-2, M', ?_, ?_, fI⟩
            · repeat (first | rw [if_pos (by omega)] | rw [if_neg (by omega)] | simp only [Option.bind_some, not_true_eq_false, not_false_eq_true, if_true, if_false])
            · rw [(sh_yes hs M').2, mod M' (fun c k hc => hN c k (by omega)), e66, e532]
              repeat (first | rw [if_pos (by omega)] | rw [if_neg (by omega)] | simp only [Option.bind_some, not_true_eq_false, not_false_eq_true, if_true, if_false])
        · refine ⟨-2, M', ?_, ?_, fI⟩
          · repeat (first | rw [if_pos (by omega)] | rw [if_neg (by omega)] | simp only [Option.bind_some, not_true_eq_false, not_false_eq_true, if_true, if_false])
          · rw [(sh_yes hs M').2, mod M' (fun c k hc => hN c k (by omega)), e532]
            have e66 : f_X11_corner_66 a0 a1 f 0 M' = some (-2) := by
              unfold f_X11_corner_66
              rw [lp_1 (by unfold tp_N; omega)]
              simp only [f_X11_corner_66B, f_X11_corner_89, f_X11_corner_97]
              repeat (first | rw [if_pos (by omega)] | rw [if_neg (by omega)] | simp only [Option.bind_some, not_true_eq_false, not_false_eq_true, if_true, if_false])
            rw [e66]
            repeat (first | rw [if_pos (by omega)] | rw [if_neg (by omega)] | simp only [Option.bind_some, not_true_eq_false, not_false_eq_true, if_true, if_false])
      · rw [ef]
        refine ⟨-2, M, ?_, ?_, hI'⟩
        · repeat (first | rw [if_pos (by omega)] | rw [if_neg (by omega)] | simp only [Option.bind_some, not_true_eq_false, not_false_eq_true, if_true, if_false])
        · have e66 : f_X11_corner_66 a0 a1 f 0 M = some (-2) := by
            unfold f_X11_corner_66
            rw [lp_1 (by unfold tp_N; omega)]
            simp only [f_X11_corner_66B, f_X11_corner_89, f_X11_corner_97]
            by_cases c : a1 ≤ 0
            · by_cases c2 : a1 < 0
              · repeat (first | rw [if_pos (by omega)] | rw [if_neg (by omega)] | simp only [Option.bind_some, not_true_eq_false, not_false_eq_true, if_true, if_false])
              · repeat (first | rw [if_pos (by omega)] | rw [if_neg (by omega)] | simp only [Option.bind_some, not_true_eq_false, not_false_eq_true, if_true, if_false])
            · by_cases c2 : a1 < 0
              · repeat (first | rw [if_pos (by omega)] | rw [if_neg (by omega)] | simp only [Option.bind_some, not_true_eq_false, not_false_eq_true, if_true, if_false])
              · repeat (first | rw [if_pos (by omega)] | rw [if_neg (by omega)] | simp only [Option.bind_some, not_true_eq_false, not_false_eq_true, if_true, if_false])
          simp only [tp_lt]
          rw [(sh_yes hs M).2, mod M (fun _ _ _ => rfl), e66, hS.1]
          repeat (first | rw [if_pos (by omega)] | rw [if_neg (by omega)] | simp only [Option.bind_some, not_true_eq_false, not_false_eq_true, if_true, if_false])
    · rw [if_neg cm]
      refine ⟨-11, M, by repeat (first | rw [if_pos (by omega)] | rw [if_neg (by omega)] | simp only [Option.bind_some, not_true_eq_false, not_false_eq_true, if_true, if_false]), ?_, hI'⟩
      rw [(sh_yes hs M).2, hS.1]
      simp only [tp_lt]
      repeat (first | rw [if_pos (by omega)] | rw [if_neg (by omega)] | simp only [Option.bind_some, not_true_eq_false, not_false_eq_true, if_true, if_false])
  · rw [(sh_no hs M).1]
    refine ⟨-1, M, by repeat (first | rw [if_pos (by omega)] | rw [if_neg (by omega)] | simp only [Option.bind_some, not_true_eq_false, not_false_eq_true, if_true, if_false]), ?_, hI'⟩
    rw [(sh_no hs M).2]
    repeat (first | rw [if_pos (by omega)] | rw [if_neg (by omega)] | simp only [Option.bind_some, not_true_eq_false, not_false_eq_true, if_true, if_false])
