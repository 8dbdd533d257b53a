def tp_fl (M : tp_M) (c n v : Int) : tp_M := fun a b => if a = c ∧ 0 ≤ b ∧ b < n then v else M a b
theorem fl_in {M : tp_M} {c n v a b : Int} (h : a = c ∧ 0 ≤ b ∧ b < n) : tp_fl M c n v a b = v := by unfold tp_fl; rw [if_pos h]
theorem fl_out {M : tp_M} {c n v a b : Int} (h : ¬ (a = c ∧ 0 ≤ b ∧ b < n)) : tp_fl M c n v a b = M a b := by unfold tp_fl; rw [if_neg h]
theorem fl_succ (M : tp_M) (c n v : Int) (h : 0 ≤ n) : tp_up (tp_fl M c n v) c n v = tp_fl M c (n + 1) v := by
  funext a b
  unfold tp_up tp_fl
  by_cases h1 : a = c ∧ b = n
  · rw [if_pos h1, if_pos (by omega)]
  · rw [if_neg h1]
    by_cases h2 : a = c ∧ 0 ≤ b ∧ b < n
    · rw [if_pos h2, if_pos (by omega)]
    · rw [if_neg h2, if_neg (by omega)]
theorem fl_zero (M : tp_M) (c v : Int) : tp_fl M c 0 v = M := by
  funext a b; unfold tp_fl; rw [if_neg (by omega)]
set_option maxHeartbeats 4000000 in
set_option maxRecDepth 100000 in
theorem s_fill {c v : Int} {M : tp_M} (h : tp_tg c = 21) {n : Int} (hn : tp_al c = n) (h0 : 0 ≤ n ∧ n ≤ 1000) : f_J7_fill_53178 c v M = some (tp_fl M c n v) := by
  apply ho_eq
  unfold f_J7_fill_53178 f_J7_fill_53178_5
  rw [if_pos h, hn]
  unfold tp_lt
  refine ho_lp (fun q : Int × tp_M => 0 ≤ q.1 ∧ q.1 ≤ n ∧ q.2 = tp_fl M c q.1 v) (fun q => (n - q.1).toNat) ?_ tp_N (0, M) ⟨by simp only; omega, by simp only; omega, (fl_zero M c v).symm⟩ (by unfold tp_N; simp only; omega)
  rintro ⟨q1, q2⟩ ⟨h1, h2, h3⟩ rc hr
  simp only at h1 h2 h3 ⊢
  subst h3
  unfold f_J7_fill_53178_5B
  rw [hn]
  refine ho_ite (fun h => ho_some ?_) (fun h => ho_chk (by omega) ?_)
  · have : q1 = n := by omega
    rw [this]
  · unfold tp_mp tp_lt
    rw [fl_succ _ _ _ _ h1, ho_w (x := q1 + 1) (by omega) (by omega)]
    exact hr _ ⟨by simp only; omega, by simp only; omega, rfl⟩ (by simp only; omega)
set_option maxHeartbeats 4000000 in
set_option maxRecDepth 100000 in
theorem s_filll {c v : Int} {M : tp_M} (h : tp_tg c = 22) {n : Int} (hn : tp_al c = n) (h0 : 0 ≤ n ∧ n ≤ 1000) : f_J7_fill_d0a16 c v M = some (tp_fl M c n v) := by
  apply ho_eq
  unfold f_J7_fill_d0a16 f_J7_fill_d0a16_6
  rw [if_pos h, hn]
  unfold tp_lt
  refine ho_lp (fun q : Int × tp_M => 0 ≤ q.1 ∧ q.1 ≤ n ∧ q.2 = tp_fl M c q.1 v) (fun q => (n - q.1).toNat) ?_ tp_N (0, M) ⟨by simp only; omega, by simp only; omega, (fl_zero M c v).symm⟩ (by unfold tp_N; simp only; omega)
  rintro ⟨q1, q2⟩ ⟨h1, h2, h3⟩ rc hr
  simp only at h1 h2 h3 ⊢
  subst h3
  unfold f_J7_fill_d0a16_6B
  rw [hn]
  refine ho_ite (fun h => ho_some ?_) (fun h => ho_chk (by omega) ?_)
  · have : q1 = n := by omega
    rw [this]
  · unfold tp_mp tp_lt
    rw [fl_succ _ _ _ _ h1, ho_w (x := q1 + 1) (by omega) (by omega)]
    exact hr _ ⟨by simp only; omega, by simp only; omega, rfl⟩ (by simp only; omega)
set_option maxHeartbeats 4000000 in
set_option maxRecDepth 100000 in
theorem ok_item : op_item Inv := by
  intro M hI a0 a1 hr0 hr1
  apply tr_out (f := f_X10_item a0 a1) (g := f_X11_item a0 a1) hI
  obtain ⟨h1, h2, h3, h4, h5⟩ := hI
  unfold tr_ f_X10_item f_X11_item
  simp only [tp_lt, tp_mp, f_X11_in, f_X10_sheetAt, f_X11_isSheet, f_X6_has, f_X11_item0]
  by_cases hs : 0 ≤ a0 ∧ a0 < 4
  · have tg := tg_sheet hs
    have s := h4 a0 hs.1 hs.2
    unfold iv_sheet at s
    obtain ⟨s1, s2, s3, s4, s5, s6, s7, s8⟩ := s
    by_cases hi : 0 ≤ a1 ∧ a1 < 40
    · have s9 := s8 a1 hi.1 hi.2
      repeat' (first
          | with_reducible refine ho_some ?_
          | with_reducible refine ho_bind' ?_
          | with_reducible refine ho_chk (by omega) ?_
          | with_reducible refine ho_nchk (by omega) ?_
          | with_reducible refine ho_chk (by simp (disch := omega) only [up_eq, up_ne, ho_w, ho_wl, ho_b]; first | done | omega) ?_
          | with_reducible refine ho_nchk (by simp (disch := omega) only [up_eq, up_ne, ho_w, ho_wl, ho_b]; first | done | omega) ?_
          | (with_reducible refine ho_ite (fun hq => ?_) (fun hq => ?_) <;> try (simp (disch := omega) only [up_eq, up_ne, ho_w, ho_wl, ho_b] at hq)))
      all_goals first
        | rfl
        | trivial
        | omega
        | (simp (disch := omega) only [up_eq, up_ne, ho_w, ho_wl, ho_b]; first | done | rfl | omega)
    · repeat' (first
          | with_reducible refine ho_some ?_
          | with_reducible refine ho_bind' ?_
          | with_reducible refine ho_chk (by omega) ?_
          | with_reducible refine ho_nchk (by omega) ?_
          | with_reducible refine ho_chk (by simp (disch := omega) only [up_eq, up_ne, ho_w, ho_wl, ho_b]; first | done | omega) ?_
          | with_reducible refine ho_nchk (by simp (disch := omega) only [up_eq, up_ne, ho_w, ho_wl, ho_b]; first | done | omega) ?_
          | (with_reducible refine ho_ite (fun hq => ?_) (fun hq => ?_) <;> try (simp (disch := omega) only [up_eq, up_ne, ho_w, ho_wl, ho_b] at hq)))
      all_goals first
        | rfl
        | trivial
        | omega
        | (simp (disch := omega) only [up_eq, up_ne, ho_w, ho_wl, ho_b]; first | done | rfl | omega)
  · repeat' (first
        | with_reducible refine ho_some ?_
        | with_reducible refine ho_bind' ?_
        | with_reducible refine ho_chk (by omega) ?_
        | with_reducible refine ho_nchk (by omega) ?_
        | with_reducible refine ho_chk (by simp (disch := omega) only [up_eq, up_ne, ho_w, ho_wl, ho_b]; first | done | omega) ?_
        | with_reducible refine ho_nchk (by simp (disch := omega) only [up_eq, up_ne, ho_w, ho_wl, ho_b]; first | done | omega) ?_
        | (with_reducible refine ho_ite (fun hq => ?_) (fun hq => ?_) <;> try (simp (disch := omega) only [up_eq, up_ne, ho_w, ho_wl, ho_b] at hq)))
    all_goals first
      | rfl
      | trivial
      | omega
      | (simp (disch := omega) only [up_eq, up_ne, ho_w, ho_wl, ho_b]; first | done | rfl | omega)
set_option maxHeartbeats 4000000 in
set_option maxRecDepth 100000 in
theorem ok_whyNot : op_whyNot Inv := by
  intro M hI a0 a1 a2 hr0 hr1 hr2
  apply tr_out (f := f_X10_whyNot a0 a1 a2) (g := f_X11_whyNot a0 a1 a2) hI
  obtain ⟨h1, h2, h3, h4, h5⟩ := hI
  unfold tr_ f_X10_whyNot f_X11_whyNot
  simp only [tp_lt, tp_mp, f_X11_in, f_X10_sheetAt, f_X11_isSheet, f_X6_has, f_X6_isMissing, f_X11_item0, f_X11_unasked, f_X11_unasked_61, f_X11_unasked_62]
  by_cases hs : 0 ≤ a0 ∧ a0 < 4
  · have tg := tg_sheet hs
    have s := h4 a0 hs.1 hs.2
    unfold iv_sheet at s
    obtain ⟨s1, s2, s3, s4, s5, s6, s7, s8⟩ := s
    repeat' (first
        | with_reducible refine ho_some ?_
        | with_reducible refine ho_bind' ?_
        | with_reducible refine ho_chk (by omega) ?_
        | with_reducible refine ho_nchk (by omega) ?_
        | with_reducible refine ho_chk (by simp (disch := omega) only [up_eq, up_ne, ho_w, ho_wl, ho_b]; first | done | omega) ?_
        | with_reducible refine ho_nchk (by simp (disch := omega) only [up_eq, up_ne, ho_w, ho_wl, ho_b]; first | done | omega) ?_
        | (with_reducible refine ho_ite (fun hq => ?_) (fun hq => ?_) <;> try (simp (disch := omega) only [up_eq, up_ne, ho_w, ho_wl, ho_b] at hq)))
    all_goals first
      | rfl
      | trivial
      | omega
      | (simp (disch := omega) only [up_eq, up_ne, ho_w, ho_wl, ho_b]; first | done | rfl | omega)
  · repeat' (first
        | with_reducible refine ho_some ?_
        | with_reducible refine ho_bind' ?_
        | with_reducible refine ho_chk (by omega) ?_
        | with_reducible refine ho_nchk (by omega) ?_
        | with_reducible refine ho_chk (by simp (disch := omega) only [up_eq, up_ne, ho_w, ho_wl, ho_b]; first | done | omega) ?_
        | with_reducible refine ho_nchk (by simp (disch := omega) only [up_eq, up_ne, ho_w, ho_wl, ho_b]; first | done | omega) ?_
        | (with_reducible refine ho_ite (fun hq => ?_) (fun hq => ?_) <;> try (simp (disch := omega) only [up_eq, up_ne, ho_w, ho_wl, ho_b] at hq)))
    all_goals first
      | rfl
      | trivial
      | omega
      | (simp (disch := omega) only [up_eq, up_ne, ho_w, ho_wl, ho_b]; first | done | rfl | omega)
set_option maxHeartbeats 4000000 in
set_option maxRecDepth 100000 in
theorem ok_slope : op_slope Inv := by
  intro M hI a0 a1 a2 a3 hr0 hr1 hr2 hr3
  apply tr_out (f := f_X10_slope a0 a1 a2 a3) (g := f_X11_slope a0 a1 a2 a3) hI
  obtain ⟨h1, h2, h3, h4, h5⟩ := hI
  unfold tr_ f_X10_slope f_X11_slope
  simp only [tp_lt, tp_mp, f_X11_in, f_X10_sheetAt, f_X11_isSheet, f_X6_has, f_X6_isMissing, f_X11_item0, f_X11_unasked, f_X11_unasked_61, f_X11_unasked_62, f_X10_whyNot]
  unfold tp_r at hr0 hr1 hr2 hr3
  by_cases hs : 0 ≤ a0 ∧ a0 < 4
  · have tg := tg_sheet hs
    have s := h4 a0 hs.1 hs.2
    unfold iv_sheet at s
    obtain ⟨s1, s2, s3, s4, s5, s6, s7, s8⟩ := s
    by_cases hi : (0 ≤ a1 ∧ a1 < 40) ∧ (0 ≤ a2 ∧ a2 < 40)
    · have s9 := s8 a1 hi.1.1 hi.1.2
      have s10 := s8 a2 hi.2.1 hi.2.2
      repeat' (first
          | with_reducible refine ho_some ?_
          | with_reducible refine ho_bind' ?_
          | with_reducible refine ho_chk (by omega) ?_
          | with_reducible refine ho_nchk (by omega) ?_
          | with_reducible refine ho_chk (by simp (disch := omega) only [up_eq, up_ne, ho_w, ho_wl, ho_b]; first | done | omega) ?_
          | with_reducible refine ho_nchk (by simp (disch := omega) only [up_eq, up_ne, ho_w, ho_wl, ho_b]; first | done | omega) ?_
          | (with_reducible refine ho_ite (fun hq => ?_) (fun hq => ?_) <;> try (simp (disch := omega) only [up_eq, up_ne, ho_w, ho_wl, ho_b] at hq)))
      all_goals first
        | rfl
        | trivial
        | (simp (disch := omega) only [up_eq, up_ne, ho_w, ho_wl, ho_b]; rw [s9.1, s10.1])
    · repeat' (first
          | with_reducible refine ho_some ?_
          | with_reducible refine ho_bind' ?_
          | with_reducible refine ho_chk (by omega) ?_
          | with_reducible refine ho_nchk (by omega) ?_
          | with_reducible refine ho_chk (by simp (disch := omega) only [up_eq, up_ne, ho_w, ho_wl, ho_b]; first | done | omega) ?_
          | with_reducible refine ho_nchk (by simp (disch := omega) only [up_eq, up_ne, ho_w, ho_wl, ho_b]; first | done | omega) ?_
          | (with_reducible refine ho_ite (fun hq => ?_) (fun hq => ?_) <;> try (simp (disch := omega) only [up_eq, up_ne, ho_w, ho_wl, ho_b] at hq)))
      all_goals first
        | rfl
        | trivial
        | omega
        | (simp (disch := omega) only [up_eq, up_ne, ho_w, ho_wl, ho_b]; first | done | rfl | omega)
  · repeat' (first
        | with_reducible refine ho_some ?_
        | with_reducible refine ho_bind' ?_
        | with_reducible refine ho_chk (by omega) ?_
        | with_reducible refine ho_nchk (by omega) ?_
        | with_reducible refine ho_chk (by simp (disch := omega) only [up_eq, up_ne, ho_w, ho_wl, ho_b]; first | done | omega) ?_
        | with_reducible refine ho_nchk (by simp (disch := omega) only [up_eq, up_ne, ho_w, ho_wl, ho_b]; first | done | omega) ?_
        | (with_reducible refine ho_ite (fun hq => ?_) (fun hq => ?_) <;> try (simp (disch := omega) only [up_eq, up_ne, ho_w, ho_wl, ho_b] at hq)))
    all_goals first
      | rfl
      | trivial
      | omega
      | (simp (disch := omega) only [up_eq, up_ne, ho_w, ho_wl, ho_b]; first | done | rfl | omega)
theorem tb_r (x : Int) : -128 ≤ tp_b x ∧ tp_b x ≤ 127 := by unfold tp_b; omega
set_option maxHeartbeats 4000000 in
set_option maxRecDepth 100000 in
theorem ok_cell : op_cell Inv := by
  intro M hI a0 a1 a2 hr0 hr1 hr2
  apply tw_out (f := f_X10_cell a0 a1 a2) (g := f_X11_cell a0 a1 a2)
  have hI' := hI
  obtain ⟨h1, h2, h3, h4, h5⟩ := hI
  unfold tw f_X10_cell f_X11_cell
  simp only [tp_lt, tp_mp, f_X11_in, f_X10_sheetAt, f_X11_isSheet, f_X6_has, f_X6_isMissing, f_X6_put, f_X11_lowest]
  unfold tp_r at hr0 hr1 hr2
  have hb := tb_r a2
  by_cases hs : 0 ≤ a0 ∧ a0 < 4
  · have tg := tg_sheet hs
    have s := h4 a0 hs.1 hs.2
    unfold iv_sheet at s
    obtain ⟨s1, s2, s3, s4, s5, s6, s7, s8⟩ := s
    repeat' (first
        | with_reducible refine ho_some ?_
        | with_reducible refine ho_bind' ?_
        | with_reducible refine ho_chk (by omega) ?_
        | with_reducible refine ho_nchk (by omega) ?_
        | with_reducible refine ho_chk (by simp (disch := omega) only [up_eq, up_ne, ho_w, ho_wl, ho_b]; first | done | omega) ?_
        | with_reducible refine ho_nchk (by simp (disch := omega) only [up_eq, up_ne, ho_w, ho_wl, ho_b]; first | done | omega) ?_
        | (with_reducible refine ho_ite (fun hq => ?_) (fun hq => ?_) <;> try (simp (disch := omega) only [up_eq, up_ne, ho_w, ho_wl, ho_b] at hq)))
    all_goals first
      | exact ⟨trivial, hI'⟩
      | exact ⟨rfl, hI'⟩
      | skip
    all_goals
      refine ⟨by first | rfl | trivial, fr_prime ?_ ?_ h1, fr_tape ?_ ?_ ?_ ?_ h2, fr_slots ?_ ?_ h3, fun s s0 s1 => ?_, fr_tree ?_ h5⟩
      case refine_9 =>
        by_cases e : s = a0
        · subst e
          unfold iv_sheet
          simp (disch := omega) only [up_eq, up_ne, ho_w, ho_wl, ho_b]
          refine ⟨by omega, by omega, by omega, by omega, by omega, by omega, by omega, fun i i0 i1 => ?_⟩
          by_cases hi : i = a1
          · subst hi; simp (disch := omega) only [up_eq, up_ne, ho_w, ho_wl, ho_b]; exact ⟨by first | trivial | omega, by omega, by omega⟩
          · simp (disch := omega) only [up_eq, up_ne, ho_w, ho_wl, ho_b]; exact s8 i i0 i1
        · refine fr_sheet ?_ ?_ ?_ ?_ ?_ (h4 s s0 s1)
          all_goals (first
            | (intros; simp (disch := omega) only [up_eq, up_ne, ho_w, ho_wl, ho_b]; done)
            | (intros; rename_i hc; unfold tset at hc; simp (disch := omega) only [up_eq, up_ne, ho_w, ho_wl, ho_b]; done)
            | (intros; rename_i hc; unfold iset tset at hc; simp (disch := omega) only [up_eq, up_ne, ho_w, ho_wl, ho_b]; done))
      all_goals (first
        | (intros; simp (disch := omega) only [up_eq, up_ne, ho_w, ho_wl, ho_b]; done)
        | (intros; rename_i hc; unfold tset at hc; simp (disch := omega) only [up_eq, up_ne, ho_w, ho_wl, ho_b]; done)
        | (intros; rename_i hc; unfold iset tset at hc; simp (disch := omega) only [up_eq, up_ne, ho_w, ho_wl, ho_b]; done))
  · repeat' (first
        | with_reducible refine ho_some ?_
        | with_reducible refine ho_bind' ?_
        | with_reducible refine ho_chk (by omega) ?_
        | with_reducible refine ho_nchk (by omega) ?_
        | with_reducible refine ho_chk (by simp (disch := omega) only [up_eq, up_ne, ho_w, ho_wl, ho_b]; first | done | omega) ?_
        | with_reducible refine ho_nchk (by simp (disch := omega) only [up_eq, up_ne, ho_w, ho_wl, ho_b]; first | done | omega) ?_
        | (with_reducible refine ho_ite (fun hq => ?_) (fun hq => ?_) <;> try (simp (disch := omega) only [up_eq, up_ne, ho_w, ho_wl, ho_b] at hq)))
    all_goals first
      | exact ⟨trivial, hI'⟩
      | exact ⟨rfl, hI'⟩
