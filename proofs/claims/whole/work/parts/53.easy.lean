theorem ho_bind' {ρ τ : Type} {o : Option ρ} {f : ρ → Option τ} {Q : τ → Prop} (h : ho o (fun r => ho (f r) Q)) : ho (o.bind f) Q := by
  obtain ⟨r, rfl, hr⟩ := h
  exact hr
theorem ho_eq {ρ : Type} {o : Option ρ} {v : ρ} (h : ho o (fun r => r = v)) : o = some v := by
  obtain ⟨r, e, rfl⟩ := h
  exact e
def tp_dg (a : Int → Int) : Nat → Int
  | 0 => -1
  | n + 1 => if a n = 0 then tp_dg a n else n
theorem tp_dg_r (a : Int → Int) (n : Nat) : -1 ≤ tp_dg a n ∧ tp_dg a n < n := by
  induction n with
  | zero => exact ⟨by unfold tp_dg; omega, by unfold tp_dg; omega⟩
  | succ n ih =>
    unfold tp_dg
    by_cases h : a n = 0
    · rw [if_pos h]; omega
    · rw [if_neg h]; omega
theorem tp_dg_top (a : Int → Int) (n : Nat) : ∀ k : Int, tp_dg a n < k → k < n → a k = 0 := by
  induction n with
  | zero => intro k h1 h2; unfold tp_dg at h1; omega
  | succ n ih =>
    intro k h1 h2
    unfold tp_dg at h1
    by_cases h : a n = 0
    · rw [if_pos h] at h1
      by_cases hk : k = n
      · rw [hk]; exact h
      · exact ih k h1 (by omega)
    · rw [if_neg h] at h1; omega
theorem tp_dg_at (a : Int → Int) (n : Nat) (h : 0 ≤ tp_dg a n) : a (tp_dg a n) ≠ 0 := by
  induction n with
  | zero => unfold tp_dg at h; omega
  | succ n ih =>
    unfold tp_dg at h ⊢
    by_cases h0 : a n = 0
    · rw [if_pos h0] at h ⊢; exact ih h
    · rw [if_neg h0]; exact h0
theorem tp_dg_cong {a b : Int → Int} (n : Nat) (h : ∀ k : Int, 0 ≤ k → k < n → a k = b k) : tp_dg a n = tp_dg b n := by
  induction n with
  | zero => rfl
  | succ n ih =>
    unfold tp_dg
    rw [h n (by omega) (by omega), ih (fun k k0 k1 => h k k0 (by omega))]
set_option maxHeartbeats 4000000 in
set_option maxRecDepth 100000 in
theorem s_degreeOf {c : Int} {M : tp_M} (h : tp_tg c = 21) (h9 : tp_al c = 9) : f_X10_degreeOf c M = some (tp_dg (M c) 9) := by
  have key : ∀ (j n : Nat), j ≤ 9 → j < n → tp_lp (σ := Int) (fun rec_ u => f_X10_degreeOf_5B c M (fun x1' => rec_ x1') u) n (j - 1 : Int) = some (tp_dg (M c) j) := by
    intro j
    induction j with
    | zero =>
      intro n _ hn
      obtain ⟨n, rfl⟩ : ∃ k, n = k + 1 := ⟨n - 1, by omega⟩
      show f_X10_degreeOf_5B c M _ _ = _
      unfold f_X10_degreeOf_5B
      rw [if_pos (by omega)]; rfl
    | succ j ih =>
      intro n hj hn
      obtain ⟨n, rfl⟩ : ∃ k, n = k + 1 := ⟨n - 1, by omega⟩
      show f_X10_degreeOf_5B c M _ _ = _
      have e : (((j + 1 : Nat) : Int) - 1) = j := by omega
      rw [e]
      unfold f_X10_degreeOf_5B
      rw [if_neg (by omega), if_pos (by omega)]
      unfold tp_dg tp_lt
      by_cases hz : M c j = 0
      · rw [if_neg (by omega), if_pos hz]
        have e2 : tp_w ((j : Int) + -1) = (j : Int) - 1 := ho_w (by omega) (by omega)
        rw [e2]
        exact ih n (by omega) (by omega)
      · rw [if_pos hz, if_neg hz]
  unfold f_X10_degreeOf
  rw [if_pos h, h9]
  unfold tp_lt f_X10_degreeOf_5
  have e2 : tp_w ((9 : Int) - 1) = ((9 : Nat) : Int) - 1 := ho_w (by omega) (by omega)
  rw [e2]
  exact key 9 tp_N (by omega) (by unfold tp_N; omega)
theorem s_coefficient {s k : Int} {M : tp_M} (hs : 0 ≤ s ∧ s < 5) (hk : 0 ≤ k ∧ k < 9) : f_X11_coefficient s k M = some (M 484 (9 * s + k)) := by
  unfold f_X11_coefficient
  rw [ho_w (x := 9 * s) (by omega) (by omega), ho_w (x := 9 * s + k) (by omega) (by omega), if_pos (by omega)]
set_option maxHeartbeats 4000000 in
set_option maxRecDepth 100000 in
theorem s_degreeOf2 {s : Int} {M : tp_M} (hs : 0 ≤ s ∧ s < 5) : f_X11_degreeOf s M = some (tp_dg (fun k => M 484 (9 * s + k)) 9) := by
  apply ho_eq
  unfold f_X11_degreeOf f_X11_degreeOf_4
  refine ho_lp (fun q : Int × Int => ∃ k : Nat, k ≤ 9 ∧ q.1 = tp_dg (fun k => M 484 (9 * s + k)) k ∧ q.2 = k) (fun q => (9 - q.2).toNat) ?_ tp_N _ ⟨0, by omega, rfl, rfl⟩ (by unfold tp_N; omega)
  rintro ⟨q1, q2⟩ ⟨k, hk, h1, h2⟩ rc hr
  simp only at h1 h2 ⊢
  subst h1 h2
  unfold f_X11_degreeOf_4B
  refine ho_ite (fun h => ho_some ?_) (fun h => ?_)
  · have : k = 9 := by omega
    rw [this]
  · rw [s_coefficient hs (by omega)]
    unfold f_X11_degreeOf_24
    have e : tp_w ((k : Int) + 1) = ((k + 1 : Nat) : Int) := by rw [ho_w (by omega) (by omega)]; rfl
    simp only [Option.bind_some, tp_lt, e]
    refine ho_ite (fun h0 => hr _ ⟨k + 1, by omega, ?_, rfl⟩ (by simp only; omega)) (fun h0 => hr _ ⟨k + 1, by omega, ?_, rfl⟩ (by simp only; omega))
    · conv => rhs; unfold tp_dg
      simp only [if_pos h0]
    · conv => rhs; unfold tp_dg
      simp only [if_neg h0]
theorem s_deg_same {M : tp_M} (hI : iv_slots M) {s : Int} (hs : 0 ≤ s ∧ s < 5) : tp_dg (fun k => M 484 (9 * s + k)) 9 = tp_dg (M (4 + s)) 9 := tp_dg_cong 9 (fun k k0 k1 => (hI s k hs.1 hs.2 k0 (by omega)).1)
theorem tg_slot {s : Int} (hs : 0 ≤ s ∧ s < 5) : tp_tg (4 + s) = 21 ∧ tp_al (4 + s) = 9 := by
  have h : s = 0 ∨ s = 1 ∨ s = 2 ∨ s = 3 ∨ s = 4 := by omega
  rcases h with rfl | rfl | rfl | rfl | rfl <;> decide +kernel
theorem tg_sheet {s : Int} (hs : 0 ≤ s ∧ s < 4) : tp_tg (10 + 2 * s) = 6 ∧ tp_tg (10 + 2 * s + 1) = 21 ∧ tp_al (10 + 2 * s + 1) = 40 := by
  have h : s = 0 ∨ s = 1 ∨ s = 2 ∨ s = 3 := by omega
  rcases h with rfl | rfl | rfl | rfl <;> decide +kernel
theorem ok_wipe : op_wipe Inv := by
  intro M hI
  apply tw_out (f := f_X10_wipe) (g := f_X11_wipe)
  obtain ⟨h1, h2, h3, h4, h5⟩ := hI
  have t := h2
  unfold iv_tape at t
  unfold tw f_X10_wipe f_X11_wipe
  simp only [tp_lt, tp_mp]
  repeat' (first
      | with_reducible refine ho_some ?_
      | with_reducible refine ho_bind' ?_
      | with_reducible refine ho_chk (by omega) ?_
      | with_reducible refine ho_nchk (by omega) ?_
      | simp (disch := omega) only [up_eq, up_ne, ho_w, ho_wl, ho_b]
      | with_reducible refine ho_ite (fun _ => ?_) (fun _ => ?_))
  refine ⟨t.2.2.1.symm, fr_prime ?_ ?_ h1, ?_, fr_slots ?_ ?_ h3, fun s s0 s1 => fr_sheet ?_ ?_ ?_ ?_ ?_ (h4 s s0 s1), fr_tree ?_ h5⟩
  case refine_3 =>
    unfold iv_tape
    simp (disch := omega) only [up_eq, up_ne, ho_w, ho_wl, ho_b]
    exact ⟨by omega, by omega, by trivial, fun i i0 i1 => absurd i1 (by omega)⟩
  all_goals (first
    | (intros; simp (disch := omega) only [up_eq, up_ne, ho_w, ho_wl, ho_b]; done)
    | (intros; rename_i hc; unfold tset at hc; simp (disch := omega) only [up_eq, up_ne, ho_w, ho_wl, ho_b]; done)
    | (intros; rename_i hc; unfold iset tset at hc; simp (disch := omega) only [up_eq, up_ne, ho_w, ho_wl, ho_b]; done))
theorem ok_feed : op_feed Inv := by
  intro M hI a0 hr
  apply tw_out (f := f_X10_feed a0) (g := f_X11_feed a0)
  have hI' := hI
  obtain ⟨h1, h2, h3, h4, h5⟩ := hI
  have t := h2
  unfold iv_tape at t
  obtain ⟨t1, t2, t3, t4⟩ := t
  unfold tw f_X10_feed f_X11_feed
  simp only [tp_lt, tp_mp, f_X11_in]
  repeat' (first
      | with_reducible refine ho_some ?_
      | with_reducible refine ho_bind' ?_
      | with_reducible refine ho_chk (by omega) ?_
      | with_reducible refine ho_nchk (by omega) ?_
      | simp (disch := omega) only [up_eq, up_ne, ho_w, ho_wl, ho_b]
      | with_reducible refine ho_ite (fun _ => ?_) (fun _ => ?_))
  all_goals first
    | exact ⟨trivial, hI'⟩
    | exact ⟨rfl, hI'⟩
    | skip
  refine ⟨by omega, fr_prime ?_ ?_ h1, ?_, fr_slots ?_ ?_ h3, fun s s0 s1 => fr_sheet ?_ ?_ ?_ ?_ ?_ (h4 s s0 s1), fr_tree ?_ h5⟩
  case refine_3 =>
    unfold iv_tape
    simp (disch := omega) only [up_eq, up_ne, ho_w, ho_wl, ho_b]
    refine ⟨by omega, by omega, by omega, fun i i0 i1 => ?_⟩
    by_cases hi : i = M 0 2
    · subst hi; simp (disch := omega) only [up_eq, up_ne, ho_w, ho_wl, ho_b]; exact ⟨by first | trivial | omega, by omega, by omega⟩
    · simp (disch := omega) only [up_eq, up_ne, ho_w, ho_wl, ho_b]; exact t4 i i0 (by omega)
  all_goals (first
    | (intros; simp (disch := omega) only [up_eq, up_ne, ho_w, ho_wl, ho_b]; done)
    | (intros; rename_i hc; unfold tset at hc; simp (disch := omega) only [up_eq, up_ne, ho_w, ho_wl, ho_b]; done)
    | (intros; rename_i hc; unfold iset tset at hc; simp (disch := omega) only [up_eq, up_ne, ho_w, ho_wl, ho_b]; done))
theorem ok_set : op_set Inv := by
  intro M hI a0 a1 a2 hr0 hr1 hr2
  apply tw_out (f := f_X10_set a0 a1 a2) (g := f_X11_set a0 a1 a2)
  have hI' := hI
  obtain ⟨h1, h2, h3, h4, h5⟩ := hI
  unfold tw f_X10_set f_X11_set
  simp only [tp_lt, tp_mp, f_X11_in, f_X10_isSlot, f_X10_isPower, f_X10_isCoefficient, f_X11_isSlot, f_X11_isPower, f_X11_coefficient]
  repeat' (first
      | with_reducible refine ho_some ?_
      | with_reducible refine ho_bind' ?_
      | with_reducible refine ho_chk (by omega) ?_
      | with_reducible refine ho_nchk (by omega) ?_
      | simp (disch := omega) only [up_eq, up_ne, ho_w, ho_wl, ho_b]
      | with_reducible refine ho_ite (fun _ => ?_) (fun _ => ?_))
  all_goals first
    | exact ⟨trivial, hI'⟩
    | exact ⟨rfl, hI'⟩
    | skip
  have hs := h3 a0 a1 (by omega) (by omega) (by omega) (by omega)
  refine ⟨by omega, fr_prime ?_ ?_ h1, fr_tape ?_ ?_ ?_ ?_ h2, ?_, fun s s0 s1 => fr_sheet ?_ ?_ ?_ ?_ ?_ (h4 s s0 s1), fr_tree ?_ h5⟩
  case refine_7 =>
    intro s k s0 s1 k0 k1
    by_cases hi : s = a0 ∧ k = a1
    · obtain ⟨rfl, rfl⟩ := hi
      simp (disch := omega) only [up_eq, up_ne, ho_w, ho_wl, ho_b]; exact ⟨by first | trivial | omega, by omega, by omega⟩
    · simp (disch := omega) only [up_eq, up_ne, ho_w, ho_wl, ho_b]; exact h3 s k s0 s1 k0 k1
  all_goals (first
    | (intros; simp (disch := omega) only [up_eq, up_ne, ho_w, ho_wl, ho_b]; done)
    | (intros; rename_i hc; unfold tset at hc; simp (disch := omega) only [up_eq, up_ne, ho_w, ho_wl, ho_b]; done)
    | (intros; rename_i hc; unfold iset tset at hc; simp (disch := omega) only [up_eq, up_ne, ho_w, ho_wl, ho_b]; done))
theorem ok_at : op_at Inv := by
  intro M hI a0 a1 hr0 hr1
  apply tr_out (f := f_X10_at a0 a1) (g := f_X11_at a0 a1) hI
  obtain ⟨h1, h2, h3, h4, h5⟩ := hI
  unfold tr_ f_X10_at f_X11_at
  simp only [tp_lt, tp_mp, f_X11_in, f_X10_isSlot, f_X10_isPower, f_X10_isCoefficient, f_X11_isSlot, f_X11_isPower, f_X11_coefficient]
  repeat' (first
      | with_reducible refine ho_some ?_
      | with_reducible refine ho_bind' ?_
      | with_reducible refine ho_chk (by omega) ?_
      | with_reducible refine ho_nchk (by omega) ?_
      | simp (disch := omega) only [up_eq, up_ne, ho_w, ho_wl, ho_b]
      | with_reducible refine ho_ite (fun _ => ?_) (fun _ => ?_))
  all_goals first
    | rfl
    | trivial
    | skip
  have hs := h3 a0 a1 (by omega) (by omega) (by omega) (by omega)
  omega
theorem ok_told : op_told Inv := by
  intro M hI a0 a1 hr0 hr1
  apply tr_out (f := f_X10_told a0 a1) (g := f_X11_told a0 a1) hI
  obtain ⟨h1, h2, h3, h4, h5⟩ := hI
  by_cases hs : 0 ≤ a0 ∧ a0 < 5
  · have e1 : f_X10_degreeOf (4 + a0) M = some (tp_dg (M (4 + a0)) 9) := s_degreeOf (tg_slot hs).1 (tg_slot hs).2
    have e2 : f_X11_degreeOf a0 M = some (tp_dg (M (4 + a0)) 9) := by rw [s_degreeOf2 hs, s_deg_same h3 hs]
    have hd := tp_dg_r (M (4 + a0)) 9
    generalize tp_dg (M (4 + a0)) 9 = dd at e1 e2 hd
    unfold tr_ f_X10_told f_X11_told
    simp only [tp_lt, tp_mp, f_X11_in, f_X10_isSlot, f_X11_isSlot, f_X10_isMonic, f_X11_isMonic, f_X10_toldDegree, f_X11_toldDegree, e1, e2, Option.bind_some, f_X11_coefficient]
    by_cases hd2 : 0 ≤ dd ∧ dd < 9
    · have hk := h3 a0 dd (by omega) (by omega) (by omega) (by omega)
      repeat' (first
          | with_reducible refine ho_some ?_
          | with_reducible refine ho_bind' ?_
          | with_reducible refine ho_chk (by omega) ?_
          | with_reducible refine ho_nchk (by omega) ?_
          | simp (disch := omega) only [up_eq, up_ne, ho_w, ho_wl, ho_b]
          | with_reducible refine ho_ite (fun _ => ?_) (fun _ => ?_))
      all_goals first
        | rfl
        | trivial
        | skip
    · repeat' (first
          | with_reducible refine ho_some ?_
          | with_reducible refine ho_bind' ?_
          | with_reducible refine ho_chk (by omega) ?_
          | with_reducible refine ho_nchk (by omega) ?_
          | simp (disch := omega) only [up_eq, up_ne, ho_w, ho_wl, ho_b]
          | with_reducible refine ho_ite (fun _ => ?_) (fun _ => ?_))
      all_goals first
        | rfl
        | trivial
        | skip
  · unfold tr_ f_X10_told f_X11_told
    simp only [tp_lt, tp_mp, f_X11_in, f_X10_isSlot, f_X11_isSlot]
    repeat' (first
        | with_reducible refine ho_some ?_
        | with_reducible refine ho_bind' ?_
        | with_reducible refine ho_chk (by omega) ?_
        | with_reducible refine ho_nchk (by omega) ?_
        | simp (disch := omega) only [up_eq, up_ne, ho_w, ho_wl, ho_b]
        | with_reducible refine ho_ite (fun _ => ?_) (fun _ => ?_))
    all_goals first
      | rfl
      | trivial
      | skip
