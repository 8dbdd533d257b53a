theorem tg_knotf : ∀ i : Fin 24, tp_tg (46 + 3 * (i.val : Int)) = 2 ∧ tp_tg (46 + 3 * (i.val : Int) + 1) = 22 ∧ tp_al (46 + 3 * (i.val : Int) + 1) = 9 ∧ tp_tg (46 + 3 * (i.val : Int) + 2) = 21 ∧ tp_al (46 + 3 * (i.val : Int) + 2) = 9 := by decide +kernel
theorem tg_knot {i : Int} (h : 0 ≤ i ∧ i < 24) : tp_tg (46 + 3 * i) = 2 ∧ tp_tg (46 + 3 * i + 1) = 22 ∧ tp_al (46 + 3 * i + 1) = 9 ∧ tp_tg (46 + 3 * i + 2) = 21 ∧ tp_al (46 + 3 * i + 2) = 9 := by
  have := tg_knotf ⟨i.toNat, by omega⟩
  simp only [Int.toNat_of_nonneg h.1] at this
  exact this
theorem tg_sidef : ∀ i : Fin 48, tp_tg (118 + 3 * (i.val : Int)) = 7 ∧ tp_tg (118 + 3 * (i.val : Int) + 1) = 21 ∧ tp_al (118 + 3 * (i.val : Int) + 1) = 8 ∧ tp_tg (118 + 3 * (i.val : Int) + 2) = 21 ∧ tp_al (118 + 3 * (i.val : Int) + 2) = 9 := by decide +kernel
theorem tg_side {i : Int} (h : 0 ≤ i ∧ i < 48) : tp_tg (118 + 3 * i) = 7 ∧ tp_tg (118 + 3 * i + 1) = 21 ∧ tp_al (118 + 3 * i + 1) = 8 ∧ tp_tg (118 + 3 * i + 2) = 21 ∧ tp_al (118 + 3 * i + 2) = 9 := by
  have := tg_sidef ⟨i.toNat, by omega⟩
  simp only [Int.toNat_of_nonneg h.1] at this
  exact this
theorem tg_leaff : ∀ i : Fin 16, tp_tg (262 + (i.val : Int)) = 3 := by decide +kernel
theorem tg_leaf {i : Int} (h : 0 ≤ i ∧ i < 16) : tp_tg (262 + i) = 3 := by
  have := tg_leaff ⟨i.toNat, by omega⟩
  simp only [Int.toNat_of_nonneg h.1] at this
  exact this
set_option maxHeartbeats 4000000 in
set_option maxRecDepth 100000 in
theorem ok_key : op_key Inv := by
  intro M hI a0 a1 hr0 hr1
  apply tr_out (f := f_X10_key a0 a1) (g := f_X11_key a0 a1) hI
  obtain ⟨-, -, -, -, h1, h2, h3, h4⟩ := hI
  unfold tp_r at hr0 hr1
  unfold tr_ f_X10_key f_X11_key
  simp only [tp_lt, tp_mp, f_X11_in, f_X10_isPower, f_X11_isPower, f_X9_knotAt, f_X11_isKnot]
  rcases h2 with h2 | h2
  · have h3 := h3 h2
    clear h4
    try simp only [f_X9_sideAt, f_X9_knotAt]
    repeat' (first
        | with_reducible refine ho_some ?_
        | with_reducible refine ho_bind' ?_
        | with_reducible refine ho_chk (by omega) ?_
        | with_reducible refine ho_nchk (by omega) ?_
        | with_reducible refine ho_chk (by simp (disch := omega) only [up_eq, up_ne, ho_w, ho_wl, ho_b, fl_in, fl_out, wr_in, wr_out, cp_in, cp_out]; first | done | omega) ?_
        | with_reducible refine ho_nchk (by simp (disch := omega) only [up_eq, up_ne, ho_w, ho_wl, ho_b, fl_in, fl_out, wr_in, wr_out, cp_in, cp_out]; first | done | omega) ?_
        | (with_reducible refine ho_ite (fun hq => ?_) (fun hq => ?_) <;> try (simp (disch := omega) only [up_eq, up_ne, ho_w, ho_wl, ho_b, fl_in, fl_out, wr_in, wr_out, cp_in, cp_out] at hq)))
    all_goals first
      | rfl
      | trivial
      | omega
      | (simp (disch := omega) only [up_eq, up_ne, ho_w, ho_wl, ho_b, fl_in, fl_out, wr_in, wr_out, cp_in, cp_out]; first | done | rfl | omega)
  · obtain ⟨⟨hn, hk, -, -⟩, -⟩ := h4 h2
    unfold tr_n at hn
    by_cases hi : 0 ≤ a0 ∧ a0 < M 41 2
    · have tg := tg_knot (i := a0) (by omega)
      by_cases hj : 0 ≤ a1 ∧ a1 < 9
      · have hk := hk a0 hi.1 hi.2
        unfold tr_knot at hk
        have hk := hk.2.2.2.2.2.2.2.2.2.2.2.2.2.2 a1 hj.1 hj.2
        clear h3 h4
        repeat' (first
            | with_reducible refine ho_some ?_
            | with_reducible refine ho_bind' ?_
            | with_reducible refine ho_chk (by omega) ?_
            | with_reducible refine ho_nchk (by omega) ?_
            | with_reducible refine ho_chk (by simp (disch := omega) only [up_eq, up_ne, ho_w, ho_wl, ho_b, fl_in, fl_out, wr_in, wr_out, cp_in, cp_out]; first | done | omega) ?_
            | with_reducible refine ho_nchk (by simp (disch := omega) only [up_eq, up_ne, ho_w, ho_wl, ho_b, fl_in, fl_out, wr_in, wr_out, cp_in, cp_out]; first | done | omega) ?_
            | (with_reducible refine ho_ite (fun hq => ?_) (fun hq => ?_) <;> try (simp (disch := omega) only [up_eq, up_ne, ho_w, ho_wl, ho_b, fl_in, fl_out, wr_in, wr_out, cp_in, cp_out] at hq)))
        all_goals first
          | rfl
          | trivial
          | omega
          | (simp (disch := omega) only [up_eq, up_ne, ho_w, ho_wl, ho_b, fl_in, fl_out, wr_in, wr_out, cp_in, cp_out]; first | done | rfl | omega)
      · clear h3 h4 hk
        repeat' (first
            | with_reducible refine ho_some ?_
            | with_reducible refine ho_bind' ?_
            | with_reducible refine ho_chk (by omega) ?_
            | with_reducible refine ho_nchk (by omega) ?_
            | with_reducible refine ho_chk (by simp (disch := omega) only [up_eq, up_ne, ho_w, ho_wl, ho_b, fl_in, fl_out, wr_in, wr_out, cp_in, cp_out]; first | done | omega) ?_
            | with_reducible refine ho_nchk (by simp (disch := omega) only [up_eq, up_ne, ho_w, ho_wl, ho_b, fl_in, fl_out, wr_in, wr_out, cp_in, cp_out]; first | done | omega) ?_
            | (with_reducible refine ho_ite (fun hq => ?_) (fun hq => ?_) <;> try (simp (disch := omega) only [up_eq, up_ne, ho_w, ho_wl, ho_b, fl_in, fl_out, wr_in, wr_out, cp_in, cp_out] at hq)))
        all_goals first
          | rfl
          | trivial
          | omega
          | (simp (disch := omega) only [up_eq, up_ne, ho_w, ho_wl, ho_b, fl_in, fl_out, wr_in, wr_out, cp_in, cp_out]; first | done | rfl | omega)
    · clear h3 h4 hk
      repeat' (first
          | with_reducible refine ho_some ?_
          | with_reducible refine ho_bind' ?_
          | with_reducible refine ho_chk (by omega) ?_
          | with_reducible refine ho_nchk (by omega) ?_
          | with_reducible refine ho_chk (by simp (disch := omega) only [up_eq, up_ne, ho_w, ho_wl, ho_b, fl_in, fl_out, wr_in, wr_out, cp_in, cp_out]; first | done | omega) ?_
          | with_reducible refine ho_nchk (by simp (disch := omega) only [up_eq, up_ne, ho_w, ho_wl, ho_b, fl_in, fl_out, wr_in, wr_out, cp_in, cp_out]; first | done | omega) ?_
          | (with_reducible refine ho_ite (fun hq => ?_) (fun hq => ?_) <;> try (simp (disch := omega) only [up_eq, up_ne, ho_w, ho_wl, ho_b, fl_in, fl_out, wr_in, wr_out, cp_in, cp_out] at hq)))
      all_goals first
        | rfl
        | trivial
        | omega
        | (simp (disch := omega) only [up_eq, up_ne, ho_w, ho_wl, ho_b, fl_in, fl_out, wr_in, wr_out, cp_in, cp_out]; first | done | rfl | omega)
set_option maxHeartbeats 4000000 in
set_option maxRecDepth 100000 in
theorem ok_point : op_point Inv := by
  intro M hI a0 a1 hr0 hr1
  apply tr_out (f := f_X10_point a0 a1) (g := f_X11_point a0 a1) hI
  obtain ⟨-, -, -, -, h1, h2, h3, h4⟩ := hI
  unfold tp_r at hr0 hr1
  unfold tr_ f_X10_point f_X11_point
  simp only [tp_lt, tp_mp, f_X11_in, f_X10_isPower, f_X11_isPower, f_X9_knotAt, f_X11_isKnot, f_X11_point0, f_X11_point_26]
  rcases h2 with h2 | h2
  · have h3 := h3 h2
    clear h4
    try simp only [f_X9_sideAt, f_X9_knotAt]
    repeat' (first
        | with_reducible refine ho_some ?_
        | with_reducible refine ho_bind' ?_
        | with_reducible refine ho_chk (by omega) ?_
        | with_reducible refine ho_nchk (by omega) ?_
        | with_reducible refine ho_chk (by simp (disch := omega) only [up_eq, up_ne, ho_w, ho_wl, ho_b, fl_in, fl_out, wr_in, wr_out, cp_in, cp_out]; first | done | omega) ?_
        | with_reducible refine ho_nchk (by simp (disch := omega) only [up_eq, up_ne, ho_w, ho_wl, ho_b, fl_in, fl_out, wr_in, wr_out, cp_in, cp_out]; first | done | omega) ?_
        | (with_reducible refine ho_ite (fun hq => ?_) (fun hq => ?_) <;> try (simp (disch := omega) only [up_eq, up_ne, ho_w, ho_wl, ho_b, fl_in, fl_out, wr_in, wr_out, cp_in, cp_out] at hq)))
    all_goals first
      | rfl
      | trivial
      | omega
      | (simp (disch := omega) only [up_eq, up_ne, ho_w, ho_wl, ho_b, fl_in, fl_out, wr_in, wr_out, cp_in, cp_out]; first | done | rfl | omega)
  · obtain ⟨⟨hn, hk, -, -⟩, -⟩ := h4 h2
    unfold tr_n at hn
    by_cases hi : 0 ≤ a0 ∧ a0 < M 41 2
    · have tg := tg_knot (i := a0) (by omega)
      by_cases hj : 0 ≤ a1 ∧ a1 < 9
      · have hk := hk a0 hi.1 hi.2
        unfold tr_knot at hk
        have hk := hk.2.2.2.2.2.2.2.2.2.2.2.2.2.2 a1 hj.1 hj.2
        clear h3 h4
        repeat' (first
            | with_reducible refine ho_some ?_
            | with_reducible refine ho_bind' ?_
            | with_reducible refine ho_chk (by omega) ?_
            | with_reducible refine ho_nchk (by omega) ?_
            | with_reducible refine ho_chk (by simp (disch := omega) only [up_eq, up_ne, ho_w, ho_wl, ho_b, fl_in, fl_out, wr_in, wr_out, cp_in, cp_out]; first | done | omega) ?_
            | with_reducible refine ho_nchk (by simp (disch := omega) only [up_eq, up_ne, ho_w, ho_wl, ho_b, fl_in, fl_out, wr_in, wr_out, cp_in, cp_out]; first | done | omega) ?_
            | (with_reducible refine ho_ite (fun hq => ?_) (fun hq => ?_) <;> try (simp (disch := omega) only [up_eq, up_ne, ho_w, ho_wl, ho_b, fl_in, fl_out, wr_in, wr_out, cp_in, cp_out] at hq)))
        all_goals first
          | rfl
          | trivial
          | omega
          | (simp (disch := omega) only [up_eq, up_ne, ho_w, ho_wl, ho_b, fl_in, fl_out, wr_in, wr_out, cp_in, cp_out]; first | done | rfl | omega)
      · clear h3 h4 hk
        repeat' (first
            | with_reducible refine ho_some ?_
            | with_reducible refine ho_bind' ?_
            | with_reducible refine ho_chk (by omega) ?_
            | with_reducible refine ho_nchk (by omega) ?_
            | with_reducible refine ho_chk (by simp (disch := omega) only [up_eq, up_ne, ho_w, ho_wl, ho_b, fl_in, fl_out, wr_in, wr_out, cp_in, cp_out]; first | done | omega) ?_
            | with_reducible refine ho_nchk (by simp (disch := omega) only [up_eq, up_ne, ho_w, ho_wl, ho_b, fl_in, fl_out, wr_in, wr_out, cp_in, cp_out]; first | done | omega) ?_
            | (with_reducible refine ho_ite (fun hq => ?_) (fun hq => ?_) <;> try (simp (disch := omega) only [up_eq, up_ne, ho_w, ho_wl, ho_b, fl_in, fl_out, wr_in, wr_out, cp_in, cp_out] at hq)))
        all_goals first
          | rfl
          | trivial
          | omega
          | (simp (disch := omega) only [up_eq, up_ne, ho_w, ho_wl, ho_b, fl_in, fl_out, wr_in, wr_out, cp_in, cp_out]; first | done | rfl | omega)
    · clear h3 h4 hk
      repeat' (first
          | with_reducible refine ho_some ?_
          | with_reducible refine ho_bind' ?_
          | with_reducible refine ho_chk (by omega) ?_
          | with_reducible refine ho_nchk (by omega) ?_
          | with_reducible refine ho_chk (by simp (disch := omega) only [up_eq, up_ne, ho_w, ho_wl, ho_b, fl_in, fl_out, wr_in, wr_out, cp_in, cp_out]; first | done | omega) ?_
          | with_reducible refine ho_nchk (by simp (disch := omega) only [up_eq, up_ne, ho_w, ho_wl, ho_b, fl_in, fl_out, wr_in, wr_out, cp_in, cp_out]; first | done | omega) ?_
          | (with_reducible refine ho_ite (fun hq => ?_) (fun hq => ?_) <;> try (simp (disch := omega) only [up_eq, up_ne, ho_w, ho_wl, ho_b, fl_in, fl_out, wr_in, wr_out, cp_in, cp_out] at hq)))
      all_goals first
        | rfl
        | trivial
        | omega
        | (simp (disch := omega) only [up_eq, up_ne, ho_w, ho_wl, ho_b, fl_in, fl_out, wr_in, wr_out, cp_in, cp_out]; first | done | rfl | omega)
set_option maxHeartbeats 4000000 in
set_option maxRecDepth 100000 in
theorem ok_leaf : op_leaf Inv := by
  intro M hI a0 a1 hr0 hr1
  apply tr_out (f := f_X10_leaf a0 a1) (g := f_X11_leaf a0 a1) hI
  obtain ⟨-, -, -, -, h1, h2, h3, h4⟩ := hI
  unfold tp_r at hr0 hr1
  unfold tr_ f_X10_leaf f_X11_leaf
  simp only [tp_lt, tp_mp, f_X11_in, f_X9_leafAt]
  rcases h2 with h2 | h2
  · have h3 := h3 h2
    clear h4
    try simp only [f_X9_sideAt, f_X9_knotAt]
    repeat' (first
        | with_reducible refine ho_some ?_
        | with_reducible refine ho_bind' ?_
        | with_reducible refine ho_chk (by omega) ?_
        | with_reducible refine ho_nchk (by omega) ?_
        | with_reducible refine ho_chk (by simp (disch := omega) only [up_eq, up_ne, ho_w, ho_wl, ho_b, fl_in, fl_out, wr_in, wr_out, cp_in, cp_out]; first | done | omega) ?_
        | with_reducible refine ho_nchk (by simp (disch := omega) only [up_eq, up_ne, ho_w, ho_wl, ho_b, fl_in, fl_out, wr_in, wr_out, cp_in, cp_out]; first | done | omega) ?_
        | (with_reducible refine ho_ite (fun hq => ?_) (fun hq => ?_) <;> try (simp (disch := omega) only [up_eq, up_ne, ho_w, ho_wl, ho_b, fl_in, fl_out, wr_in, wr_out, cp_in, cp_out] at hq)))
    all_goals first
      | rfl
      | trivial
      | omega
      | (simp (disch := omega) only [up_eq, up_ne, ho_w, ho_wl, ho_b, fl_in, fl_out, wr_in, wr_out, cp_in, cp_out]; first | done | rfl | omega)
  · obtain ⟨⟨hn, -, -, hk⟩, -⟩ := h4 h2
    unfold tr_n at hn
    by_cases hi : 0 ≤ a0 ∧ a0 < M 41 3
    · have tg := tg_leaf (i := a0) (by omega)
      have hk := hk a0 hi.1 hi.2
      unfold tr_leaf at hk
      clear h3 h4
      repeat' (first
          | with_reducible refine ho_some ?_
          | with_reducible refine ho_bind' ?_
          | with_reducible refine ho_chk (by omega) ?_
          | with_reducible refine ho_nchk (by omega) ?_
          | with_reducible refine ho_chk (by simp (disch := omega) only [up_eq, up_ne, ho_w, ho_wl, ho_b, fl_in, fl_out, wr_in, wr_out, cp_in, cp_out]; first | done | omega) ?_
          | with_reducible refine ho_nchk (by simp (disch := omega) only [up_eq, up_ne, ho_w, ho_wl, ho_b, fl_in, fl_out, wr_in, wr_out, cp_in, cp_out]; first | done | omega) ?_
          | (with_reducible refine ho_ite (fun hq => ?_) (fun hq => ?_) <;> try (simp (disch := omega) only [up_eq, up_ne, ho_w, ho_wl, ho_b, fl_in, fl_out, wr_in, wr_out, cp_in, cp_out] at hq)))
      all_goals first
        | rfl
        | trivial
        | omega
        | (simp (disch := omega) only [up_eq, up_ne, ho_w, ho_wl, ho_b, fl_in, fl_out, wr_in, wr_out, cp_in, cp_out]; first | done | rfl | omega)
    · clear h3 h4 hk
      repeat' (first
          | with_reducible refine ho_some ?_
          | with_reducible refine ho_bind' ?_
          | with_reducible refine ho_chk (by omega) ?_
          | with_reducible refine ho_nchk (by omega) ?_
          | with_reducible refine ho_chk (by simp (disch := omega) only [up_eq, up_ne, ho_w, ho_wl, ho_b, fl_in, fl_out, wr_in, wr_out, cp_in, cp_out]; first | done | omega) ?_
          | with_reducible refine ho_nchk (by simp (disch := omega) only [up_eq, up_ne, ho_w, ho_wl, ho_b, fl_in, fl_out, wr_in, wr_out, cp_in, cp_out]; first | done | omega) ?_
          | (with_reducible refine ho_ite (fun hq => ?_) (fun hq => ?_) <;> try (simp (disch := omega) only [up_eq, up_ne, ho_w, ho_wl, ho_b, fl_in, fl_out, wr_in, wr_out, cp_in, cp_out] at hq)))
      all_goals first
        | rfl
        | trivial
        | omega
        | (simp (disch := omega) only [up_eq, up_ne, ho_w, ho_wl, ho_b, fl_in, fl_out, wr_in, wr_out, cp_in, cp_out]; first | done | rfl | omega)
set_option maxHeartbeats 4000000 in
set_option maxRecDepth 100000 in
theorem ok_spelling : op_spelling Inv := by
  intro M hI a0 hr0
  apply tr_out (f := f_X10_spelling a0) (g := f_X11_spelling a0) hI
  obtain ⟨-, -, -, -, h1, h2, h3, h4⟩ := hI
  unfold tp_r at hr0
  unfold tr_ f_X10_spelling f_X11_spelling
  simp only [tp_lt, tp_mp, f_X11_in]
  rcases h2 with h2 | h2
  · have h3 := h3 h2
    clear h4
    try simp only [f_X9_sideAt, f_X9_knotAt]
    repeat' (first
        | with_reducible refine ho_some ?_
        | with_reducible refine ho_bind' ?_
        | with_reducible refine ho_chk (by omega) ?_
        | with_reducible refine ho_nchk (by omega) ?_
        | with_reducible refine ho_chk (by simp (disch := omega) only [up_eq, up_ne, ho_w, ho_wl, ho_b, fl_in, fl_out, wr_in, wr_out, cp_in, cp_out]; first | done | omega) ?_
        | with_reducible refine ho_nchk (by simp (disch := omega) only [up_eq, up_ne, ho_w, ho_wl, ho_b, fl_in, fl_out, wr_in, wr_out, cp_in, cp_out]; first | done | omega) ?_
        | (with_reducible refine ho_ite (fun hq => ?_) (fun hq => ?_) <;> try (simp (disch := omega) only [up_eq, up_ne, ho_w, ho_wl, ho_b, fl_in, fl_out, wr_in, wr_out, cp_in, cp_out] at hq)))
    all_goals first
      | rfl
      | trivial
      | omega
      | (simp (disch := omega) only [up_eq, up_ne, ho_w, ho_wl, ho_b, fl_in, fl_out, wr_in, wr_out, cp_in, cp_out]; first | done | rfl | omega)
  · obtain ⟨-, he⟩ := h4 h2
    unfold tr_end at he
    obtain ⟨he1, he2, he3, he4, he5⟩ := he
    by_cases hi : 0 ≤ a0 ∧ a0 < M 41 4
    · have hk := he5 a0 hi.1 hi.2
      clear h3 h4
      repeat' (first
          | with_reducible refine ho_some ?_
          | with_reducible refine ho_bind' ?_
          | with_reducible refine ho_chk (by omega) ?_
          | with_reducible refine ho_nchk (by omega) ?_
          | with_reducible refine ho_chk (by simp (disch := omega) only [up_eq, up_ne, ho_w, ho_wl, ho_b, fl_in, fl_out, wr_in, wr_out, cp_in, cp_out]; first | done | omega) ?_
          | with_reducible refine ho_nchk (by simp (disch := omega) only [up_eq, up_ne, ho_w, ho_wl, ho_b, fl_in, fl_out, wr_in, wr_out, cp_in, cp_out]; first | done | omega) ?_
          | (with_reducible refine ho_ite (fun hq => ?_) (fun hq => ?_) <;> try (simp (disch := omega) only [up_eq, up_ne, ho_w, ho_wl, ho_b, fl_in, fl_out, wr_in, wr_out, cp_in, cp_out] at hq)))
      all_goals first
        | rfl
        | trivial
        | omega
        | (simp (disch := omega) only [up_eq, up_ne, ho_w, ho_wl, ho_b, fl_in, fl_out, wr_in, wr_out, cp_in, cp_out]; first | done | rfl | omega)
    · clear h3 h4
      repeat' (first
          | with_reducible refine ho_some ?_
          | with_reducible refine ho_bind' ?_
          | with_reducible refine ho_chk (by omega) ?_
          | with_reducible refine ho_nchk (by omega) ?_
          | with_reducible refine ho_chk (by simp (disch := omega) only [up_eq, up_ne, ho_w, ho_wl, ho_b, fl_in, fl_out, wr_in, wr_out, cp_in, cp_out]; first | done | omega) ?_
          | with_reducible refine ho_nchk (by simp (disch := omega) only [up_eq, up_ne, ho_w, ho_wl, ho_b, fl_in, fl_out, wr_in, wr_out, cp_in, cp_out]; first | done | omega) ?_
          | (with_reducible refine ho_ite (fun hq => ?_) (fun hq => ?_) <;> try (simp (disch := omega) only [up_eq, up_ne, ho_w, ho_wl, ho_b, fl_in, fl_out, wr_in, wr_out, cp_in, cp_out] at hq)))
      all_goals first
        | rfl
        | trivial
        | omega
        | (simp (disch := omega) only [up_eq, up_ne, ho_w, ho_wl, ho_b, fl_in, fl_out, wr_in, wr_out, cp_in, cp_out]; first | done | rfl | omega)
theorem s_sideAt {M : tp_M} {i j : Int} (hi : 0 ≤ i ∧ i < M 41 2 ∧ M 41 2 ≤ 24) (hj : 0 ≤ j ∧ j < M (46 + 3 * i) 7) (h6 : 0 ≤ M (46 + 3 * i) 6 ∧ M (46 + 3 * i) 6 + M (46 + 3 * i) 7 ≤ 48) : f_X9_sideAt i j M = some (118 + 3 * (M (46 + 3 * i) 6 + j)) := by
  have tg := tg_knot (i := i) (by omega)
  have e : tp_w (M (46 + 3 * i) 6 + j) = M (46 + 3 * i) 6 + j := ho_w (by omega) (by omega)
  unfold f_X9_sideAt f_X9_knotAt
  rw [if_neg (by omega), if_neg (by omega), if_neg (by omega), if_pos (by omega)]
  simp only [Option.bind_some, tp_lt, e]
  rw [if_neg (by omega), if_neg (by omega), if_pos tg.1, if_pos (by omega), if_neg (by omega), if_neg (by omega), if_pos (by omega)]
set_option maxHeartbeats 4000000 in
set_option maxRecDepth 100000 in
theorem ok_side : op_side Inv := by
  intro M hI a0 a1 a2 hr0 hr1 hr2
  apply tr_out (f := f_X10_side a0 a1 a2) (g := f_X11_side a0 a1 a2) hI
  obtain ⟨-, -, -, -, h1, h2, h3, h4⟩ := hI
  unfold tp_r at hr0 hr1 hr2
  unfold tr_ f_X10_side f_X11_side
  simp only [tp_lt, tp_mp, f_X11_in, f_X9_knotAt, f_X11_isKnot, f_X11_isSide]
  rcases h2 with h2 | h2
  · have h3 := h3 h2
    clear h4
    try simp only [f_X9_sideAt, f_X9_knotAt]
    repeat' (first
        | with_reducible refine ho_some ?_
        | with_reducible refine ho_bind' ?_
        | with_reducible refine ho_chk (by omega) ?_
        | with_reducible refine ho_nchk (by omega) ?_
        | with_reducible refine ho_chk (by simp (disch := omega) only [up_eq, up_ne, ho_w, ho_wl, ho_b, fl_in, fl_out, wr_in, wr_out, cp_in, cp_out]; first | done | omega) ?_
        | with_reducible refine ho_nchk (by simp (disch := omega) only [up_eq, up_ne, ho_w, ho_wl, ho_b, fl_in, fl_out, wr_in, wr_out, cp_in, cp_out]; first | done | omega) ?_
        | (with_reducible refine ho_ite (fun hq => ?_) (fun hq => ?_) <;> try (simp (disch := omega) only [up_eq, up_ne, ho_w, ho_wl, ho_b, fl_in, fl_out, wr_in, wr_out, cp_in, cp_out] at hq)))
    all_goals first
      | rfl
      | trivial
      | omega
      | (simp (disch := omega) only [up_eq, up_ne, ho_w, ho_wl, ho_b, fl_in, fl_out, wr_in, wr_out, cp_in, cp_out]; first | done | rfl | omega)
  · obtain ⟨⟨hn, hk, hs, -⟩, -⟩ := h4 h2
    unfold tr_n at hn
    clear h3 h4
    by_cases hi : 0 ≤ a0 ∧ a0 < M 41 2
    · have tg := tg_knot (i := a0) (by omega)
      have hk := hk a0 hi.1 hi.2
      unfold tr_knot at hk
      obtain ⟨-, -, -, -, -, -, -, -, k9, k10, k11, -⟩ := hk
      by_cases hj : 0 ≤ a1 ∧ a1 < M (46 + 3 * a0) 7
      · have tq := tg_side (i := M (46 + 3 * a0) 6 + a1) (by omega)
        have hs := hs (M (46 + 3 * a0) 6 + a1) (by omega) (by omega)
        unfold tr_side at hs
        obtain ⟨s1, s2, s3, s4, s5, s6, -, -⟩ := hs
        have e := s_sideAt (M := M) (i := a0) (j := a1) (by omega) (by omega) (by omega)
        have ew : tp_w (M (46 + 3 * a0) 6 + a1) = M (46 + 3 * a0) 6 + a1 := ho_w (by omega) (by omega)
        simp only [e, k9, ew, Option.bind_some]
        repeat' (first
            | with_reducible refine ho_some ?_
            | with_reducible refine ho_bind' ?_
            | with_reducible refine ho_chk (by omega) ?_
            | with_reducible refine ho_nchk (by omega) ?_
            | with_reducible refine ho_chk (by simp (disch := omega) only [up_eq, up_ne, ho_w, ho_wl, ho_b, fl_in, fl_out, wr_in, wr_out, cp_in, cp_out]; first | done | omega) ?_
            | with_reducible refine ho_nchk (by simp (disch := omega) only [up_eq, up_ne, ho_w, ho_wl, ho_b, fl_in, fl_out, wr_in, wr_out, cp_in, cp_out]; first | done | omega) ?_
            | (with_reducible refine ho_ite (fun hq => ?_) (fun hq => ?_) <;> try (simp (disch := omega) only [up_eq, up_ne, ho_w, ho_wl, ho_b, fl_in, fl_out, wr_in, wr_out, cp_in, cp_out] at hq)))
        all_goals first
          | rfl
          | trivial
          | omega
          | (simp (disch := omega) only [up_eq, up_ne, ho_w, ho_wl, ho_b, fl_in, fl_out, wr_in, wr_out, cp_in, cp_out]; first | done | rfl | omega)
      · clear hs
        simp only [f_X9_sideAt, f_X9_knotAt]
        repeat' (first
            | with_reducible refine ho_some ?_
            | with_reducible refine ho_bind' ?_
            | with_reducible refine ho_chk (by omega) ?_
            | with_reducible refine ho_nchk (by omega) ?_
            | with_reducible refine ho_chk (by simp (disch := omega) only [up_eq, up_ne, ho_w, ho_wl, ho_b, fl_in, fl_out, wr_in, wr_out, cp_in, cp_out]; first | done | omega) ?_
            | with_reducible refine ho_nchk (by simp (disch := omega) only [up_eq, up_ne, ho_w, ho_wl, ho_b, fl_in, fl_out, wr_in, wr_out, cp_in, cp_out]; first | done | omega) ?_
            | (with_reducible refine ho_ite (fun hq => ?_) (fun hq => ?_) <;> try (simp (disch := omega) only [up_eq, up_ne, ho_w, ho_wl, ho_b, fl_in, fl_out, wr_in, wr_out, cp_in, cp_out] at hq)))
        all_goals first
          | rfl
          | trivial
          | omega
          | (simp (disch := omega) only [up_eq, up_ne, ho_w, ho_wl, ho_b, fl_in, fl_out, wr_in, wr_out, cp_in, cp_out]; first | done | rfl | omega)
    · clear hk hs
      simp only [f_X9_sideAt, f_X9_knotAt]
      repeat' (first
          | with_reducible refine ho_some ?_
          | with_reducible refine ho_bind' ?_
          | with_reducible refine ho_chk (by omega) ?_
          | with_reducible refine ho_nchk (by omega) ?_
          | with_reducible refine ho_chk (by simp (disch := omega) only [up_eq, up_ne, ho_w, ho_wl, ho_b, fl_in, fl_out, wr_in, wr_out, cp_in, cp_out]; first | done | omega) ?_
          | with_reducible refine ho_nchk (by simp (disch := omega) only [up_eq, up_ne, ho_w, ho_wl, ho_b, fl_in, fl_out, wr_in, wr_out, cp_in, cp_out]; first | done | omega) ?_
          | (with_reducible refine ho_ite (fun hq => ?_) (fun hq => ?_) <;> try (simp (disch := omega) only [up_eq, up_ne, ho_w, ho_wl, ho_b, fl_in, fl_out, wr_in, wr_out, cp_in, cp_out] at hq)))
      all_goals first
        | rfl
        | trivial
        | omega
        | (simp (disch := omega) only [up_eq, up_ne, ho_w, ho_wl, ho_b, fl_in, fl_out, wr_in, wr_out, cp_in, cp_out]; first | done | rfl | omega)
set_option maxHeartbeats 4000000 in
set_option maxRecDepth 100000 in
theorem ok_residual : op_residual Inv := by
  intro M hI a0 a1 a2 hr0 hr1 hr2
  apply tr_out (f := f_X10_residual a0 a1 a2) (g := f_X11_residual a0 a1 a2) hI
  obtain ⟨-, -, -, -, h1, h2, h3, h4⟩ := hI
  unfold tp_r at hr0 hr1 hr2
  unfold tr_ f_X10_residual f_X11_residual
  simp only [tp_lt, tp_mp, f_X11_in, f_X9_knotAt, f_X11_isKnot, f_X11_isSide, f_X10_isPower, f_X11_isPower]
  rcases h2 with h2 | h2
  · have h3 := h3 h2
    clear h4
    try simp only [f_X9_sideAt, f_X9_knotAt]
    repeat' (first
        | with_reducible refine ho_some ?_
        | with_reducible refine ho_bind' ?_
        | with_reducible refine ho_chk (by omega) ?_
        | with_reducible refine ho_nchk (by omega) ?_
        | with_reducible refine ho_chk (by simp (disch := omega) only [up_eq, up_ne, ho_w, ho_wl, ho_b, fl_in, fl_out, wr_in, wr_out, cp_in, cp_out]; first | done | omega) ?_
        | with_reducible refine ho_nchk (by simp (disch := omega) only [up_eq, up_ne, ho_w, ho_wl, ho_b, fl_in, fl_out, wr_in, wr_out, cp_in, cp_out]; first | done | omega) ?_
        | (with_reducible refine ho_ite (fun hq => ?_) (fun hq => ?_) <;> try (simp (disch := omega) only [up_eq, up_ne, ho_w, ho_wl, ho_b, fl_in, fl_out, wr_in, wr_out, cp_in, cp_out] at hq)))
    all_goals first
      | rfl
      | trivial
      | omega
      | (simp (disch := omega) only [up_eq, up_ne, ho_w, ho_wl, ho_b, fl_in, fl_out, wr_in, wr_out, cp_in, cp_out]; first | done | rfl | omega)
  · obtain ⟨⟨hn, hk, hs, -⟩, -⟩ := h4 h2
    unfold tr_n at hn
    clear h3 h4
    by_cases hi : 0 ≤ a0 ∧ a0 < M 41 2
    · have tg := tg_knot (i := a0) (by omega)
      have hk := hk a0 hi.1 hi.2
      unfold tr_knot at hk
      obtain ⟨-, -, -, -, -, -, -, -, k9, k10, k11, -⟩ := hk
      by_cases hj : (0 ≤ a1 ∧ a1 < M (46 + 3 * a0) 7) ∧ 0 ≤ a2 ∧ a2 < 9
      · have tq := tg_side (i := M (46 + 3 * a0) 6 + a1) (by omega)
        have hs := hs (M (46 + 3 * a0) 6 + a1) (by omega) (by omega)
        unfold tr_side at hs
        have hs := hs.2.2.2.2.2.2.2 a2 hj.2.1 hj.2.2
        have e := s_sideAt (M := M) (i := a0) (j := a1) (by omega) (by omega) (by omega)
        have ew : tp_w (M (46 + 3 * a0) 6 + a1) = M (46 + 3 * a0) 6 + a1 := ho_w (by omega) (by omega)
        simp only [e, k9, ew, Option.bind_some]
        repeat' (first
            | with_reducible refine ho_some ?_
            | with_reducible refine ho_bind' ?_
            | with_reducible refine ho_chk (by omega) ?_
            | with_reducible refine ho_nchk (by omega) ?_
            | with_reducible refine ho_chk (by simp (disch := omega) only [up_eq, up_ne, ho_w, ho_wl, ho_b, fl_in, fl_out, wr_in, wr_out, cp_in, cp_out]; first | done | omega) ?_
            | with_reducible refine ho_nchk (by simp (disch := omega) only [up_eq, up_ne, ho_w, ho_wl, ho_b, fl_in, fl_out, wr_in, wr_out, cp_in, cp_out]; first | done | omega) ?_
            | (with_reducible refine ho_ite (fun hq => ?_) (fun hq => ?_) <;> try (simp (disch := omega) only [up_eq, up_ne, ho_w, ho_wl, ho_b, fl_in, fl_out, wr_in, wr_out, cp_in, cp_out] at hq)))
        all_goals first
          | rfl
          | trivial
          | omega
          | (simp (disch := omega) only [up_eq, up_ne, ho_w, ho_wl, ho_b, fl_in, fl_out, wr_in, wr_out, cp_in, cp_out]; first | done | rfl | omega)
      · clear hs
        by_cases hj : (0 ≤ a1 ∧ a1 < M (46 + 3 * a0) 7)
        · have tq := tg_side (i := M (46 + 3 * a0) 6 + a1) (by omega)
          have e := s_sideAt (M := M) (i := a0) (j := a1) (by omega) (by omega) (by omega)
          simp only [e, Option.bind_some]
          repeat' (first
              | with_reducible refine ho_some ?_
              | with_reducible refine ho_bind' ?_
              | with_reducible refine ho_chk (by omega) ?_
              | with_reducible refine ho_nchk (by omega) ?_
              | with_reducible refine ho_chk (by simp (disch := omega) only [up_eq, up_ne, ho_w, ho_wl, ho_b, fl_in, fl_out, wr_in, wr_out, cp_in, cp_out]; first | done | omega) ?_
              | with_reducible refine ho_nchk (by simp (disch := omega) only [up_eq, up_ne, ho_w, ho_wl, ho_b, fl_in, fl_out, wr_in, wr_out, cp_in, cp_out]; first | done | omega) ?_
              | (with_reducible refine ho_ite (fun hq => ?_) (fun hq => ?_) <;> try (simp (disch := omega) only [up_eq, up_ne, ho_w, ho_wl, ho_b, fl_in, fl_out, wr_in, wr_out, cp_in, cp_out] at hq)))
          all_goals first
            | rfl
            | trivial
            | omega
            | (simp (disch := omega) only [up_eq, up_ne, ho_w, ho_wl, ho_b, fl_in, fl_out, wr_in, wr_out, cp_in, cp_out]; first | done | rfl | omega)
        · simp only [f_X9_sideAt, f_X9_knotAt]
          repeat' (first
              | with_reducible refine ho_some ?_
              | with_reducible refine ho_bind' ?_
              | with_reducible refine ho_chk (by omega) ?_
              | with_reducible refine ho_nchk (by omega) ?_
              | with_reducible refine ho_chk (by simp (disch := omega) only [up_eq, up_ne, ho_w, ho_wl, ho_b, fl_in, fl_out, wr_in, wr_out, cp_in, cp_out]; first | done | omega) ?_
              | with_reducible refine ho_nchk (by simp (disch := omega) only [up_eq, up_ne, ho_w, ho_wl, ho_b, fl_in, fl_out, wr_in, wr_out, cp_in, cp_out]; first | done | omega) ?_
              | (with_reducible refine ho_ite (fun hq => ?_) (fun hq => ?_) <;> try (simp (disch := omega) only [up_eq, up_ne, ho_w, ho_wl, ho_b, fl_in, fl_out, wr_in, wr_out, cp_in, cp_out] at hq)))
          all_goals first
            | rfl
            | trivial
            | omega
            | (simp (disch := omega) only [up_eq, up_ne, ho_w, ho_wl, ho_b, fl_in, fl_out, wr_in, wr_out, cp_in, cp_out]; first | done | rfl | omega)
    · clear hk hs
      simp only [f_X9_sideAt, f_X9_knotAt]
      repeat' (first
          | with_reducible refine ho_some ?_
          | with_reducible refine ho_bind' ?_
          | with_reducible refine ho_chk (by omega) ?_
          | with_reducible refine ho_nchk (by omega) ?_
          | with_reducible refine ho_chk (by simp (disch := omega) only [up_eq, up_ne, ho_w, ho_wl, ho_b, fl_in, fl_out, wr_in, wr_out, cp_in, cp_out]; first | done | omega) ?_
          | with_reducible refine ho_nchk (by simp (disch := omega) only [up_eq, up_ne, ho_w, ho_wl, ho_b, fl_in, fl_out, wr_in, wr_out, cp_in, cp_out]; first | done | omega) ?_
          | (with_reducible refine ho_ite (fun hq => ?_) (fun hq => ?_) <;> try (simp (disch := omega) only [up_eq, up_ne, ho_w, ho_wl, ho_b, fl_in, fl_out, wr_in, wr_out, cp_in, cp_out] at hq)))
      all_goals first
        | rfl
        | trivial
        | omega
        | (simp (disch := omega) only [up_eq, up_ne, ho_w, ho_wl, ho_b, fl_in, fl_out, wr_in, wr_out, cp_in, cp_out]; first | done | rfl | omega)
set_option maxHeartbeats 4000000 in
set_option maxRecDepth 100000 in
theorem ok_monomial : op_monomial Inv := by
  intro M hI a0 a1 a2 hr0 hr1 hr2
  apply tr_out (f := f_X10_monomial a0 a1 a2) (g := f_X11_monomial a0 a1 a2) hI
  obtain ⟨-, -, -, -, h1, h2, h3, h4⟩ := hI
  unfold tp_r at hr0 hr1 hr2
  unfold tr_ f_X10_monomial f_X11_monomial
  simp only [tp_lt, tp_mp, f_X11_in, f_X9_knotAt, f_X11_isKnot, f_X11_isSide]
  rcases h2 with h2 | h2
  · have h3 := h3 h2
    clear h4
    try simp only [f_X9_sideAt, f_X9_knotAt]
    repeat' (first
        | with_reducible refine ho_some ?_
        | with_reducible refine ho_bind' ?_
        | with_reducible refine ho_chk (by omega) ?_
        | with_reducible refine ho_nchk (by omega) ?_
        | with_reducible refine ho_chk (by simp (disch := omega) only [up_eq, up_ne, ho_w, ho_wl, ho_b, fl_in, fl_out, wr_in, wr_out, cp_in, cp_out]; first | done | omega) ?_
        | with_reducible refine ho_nchk (by simp (disch := omega) only [up_eq, up_ne, ho_w, ho_wl, ho_b, fl_in, fl_out, wr_in, wr_out, cp_in, cp_out]; first | done | omega) ?_
        | (with_reducible refine ho_ite (fun hq => ?_) (fun hq => ?_) <;> try (simp (disch := omega) only [up_eq, up_ne, ho_w, ho_wl, ho_b, fl_in, fl_out, wr_in, wr_out, cp_in, cp_out] at hq)))
    all_goals first
      | rfl
      | trivial
      | omega
      | (simp (disch := omega) only [up_eq, up_ne, ho_w, ho_wl, ho_b, fl_in, fl_out, wr_in, wr_out, cp_in, cp_out]; first | done | rfl | omega)
  · obtain ⟨⟨hn, hk, hs, -⟩, -⟩ := h4 h2
    unfold tr_n at hn
    clear h3 h4
    by_cases hi : 0 ≤ a0 ∧ a0 < M 41 2
    · have tg := tg_knot (i := a0) (by omega)
      have hk := hk a0 hi.1 hi.2
      unfold tr_knot at hk
      obtain ⟨-, -, -, -, -, -, -, -, k9, k10, k11, -⟩ := hk
      by_cases hj : (0 ≤ a1 ∧ a1 < M (46 + 3 * a0) 7) ∧ 0 ≤ a2 ∧ a2 < 7
      · have tq := tg_side (i := M (46 + 3 * a0) 6 + a1) (by omega)
        have hs := hs (M (46 + 3 * a0) 6 + a1) (by omega) (by omega)
        unfold tr_side at hs
        have hs := hs.2.2.2.2.2.2.1 a2 hj.2.1 hj.2.2
        have e := s_sideAt (M := M) (i := a0) (j := a1) (by omega) (by omega) (by omega)
        have ew : tp_w (M (46 + 3 * a0) 6 + a1) = M (46 + 3 * a0) 6 + a1 := ho_w (by omega) (by omega)
        simp only [e, k9, ew, Option.bind_some]
        repeat' (first
            | with_reducible refine ho_some ?_
            | with_reducible refine ho_bind' ?_
            | with_reducible refine ho_chk (by omega) ?_
            | with_reducible refine ho_nchk (by omega) ?_
            | with_reducible refine ho_chk (by simp (disch := omega) only [up_eq, up_ne, ho_w, ho_wl, ho_b, fl_in, fl_out, wr_in, wr_out, cp_in, cp_out]; first | done | omega) ?_
            | with_reducible refine ho_nchk (by simp (disch := omega) only [up_eq, up_ne, ho_w, ho_wl, ho_b, fl_in, fl_out, wr_in, wr_out, cp_in, cp_out]; first | done | omega) ?_
            | (with_reducible refine ho_ite (fun hq => ?_) (fun hq => ?_) <;> try (simp (disch := omega) only [up_eq, up_ne, ho_w, ho_wl, ho_b, fl_in, fl_out, wr_in, wr_out, cp_in, cp_out] at hq)))
        all_goals first
          | rfl
          | trivial
          | omega
          | (simp (disch := omega) only [up_eq, up_ne, ho_w, ho_wl, ho_b, fl_in, fl_out, wr_in, wr_out, cp_in, cp_out]; first | done | rfl | omega)
      · clear hs
        by_cases hj : (0 ≤ a1 ∧ a1 < M (46 + 3 * a0) 7)
        · have tq := tg_side (i := M (46 + 3 * a0) 6 + a1) (by omega)
          have e := s_sideAt (M := M) (i := a0) (j := a1) (by omega) (by omega) (by omega)
          simp only [e, Option.bind_some]
          repeat' (first
              | with_reducible refine ho_some ?_
              | with_reducible refine ho_bind' ?_
              | with_reducible refine ho_chk (by omega) ?_
              | with_reducible refine ho_nchk (by omega) ?_
              | with_reducible refine ho_chk (by simp (disch := omega) only [up_eq, up_ne, ho_w, ho_wl, ho_b, fl_in, fl_out, wr_in, wr_out, cp_in, cp_out]; first | done | omega) ?_
              | with_reducible refine ho_nchk (by simp (disch := omega) only [up_eq, up_ne, ho_w, ho_wl, ho_b, fl_in, fl_out, wr_in, wr_out, cp_in, cp_out]; first | done | omega) ?_
              | (with_reducible refine ho_ite (fun hq => ?_) (fun hq => ?_) <;> try (simp (disch := omega) only [up_eq, up_ne, ho_w, ho_wl, ho_b, fl_in, fl_out, wr_in, wr_out, cp_in, cp_out] at hq)))
          all_goals first
            | rfl
            | trivial
            | omega
            | (simp (disch := omega) only [up_eq, up_ne, ho_w, ho_wl, ho_b, fl_in, fl_out, wr_in, wr_out, cp_in, cp_out]; first | done | rfl | omega)
        · simp only [f_X9_sideAt, f_X9_knotAt]
          repeat' (first
              | with_reducible refine ho_some ?_
              | with_reducible refine ho_bind' ?_
              | with_reducible refine ho_chk (by omega) ?_
              | with_reducible refine ho_nchk (by omega) ?_
              | with_reducible refine ho_chk (by simp (disch := omega) only [up_eq, up_ne, ho_w, ho_wl, ho_b, fl_in, fl_out, wr_in, wr_out, cp_in, cp_out]; first | done | omega) ?_
              | with_reducible refine ho_nchk (by simp (disch := omega) only [up_eq, up_ne, ho_w, ho_wl, ho_b, fl_in, fl_out, wr_in, wr_out, cp_in, cp_out]; first | done | omega) ?_
              | (with_reducible refine ho_ite (fun hq => ?_) (fun hq => ?_) <;> try (simp (disch := omega) only [up_eq, up_ne, ho_w, ho_wl, ho_b, fl_in, fl_out, wr_in, wr_out, cp_in, cp_out] at hq)))
          all_goals first
            | rfl
            | trivial
            | omega
            | (simp (disch := omega) only [up_eq, up_ne, ho_w, ho_wl, ho_b, fl_in, fl_out, wr_in, wr_out, cp_in, cp_out]; first | done | rfl | omega)
    · clear hk hs
      simp only [f_X9_sideAt, f_X9_knotAt]
      repeat' (first
          | with_reducible refine ho_some ?_
          | with_reducible refine ho_bind' ?_
          | with_reducible refine ho_chk (by omega) ?_
          | with_reducible refine ho_nchk (by omega) ?_
          | with_reducible refine ho_chk (by simp (disch := omega) only [up_eq, up_ne, ho_w, ho_wl, ho_b, fl_in, fl_out, wr_in, wr_out, cp_in, cp_out]; first | done | omega) ?_
          | with_reducible refine ho_nchk (by simp (disch := omega) only [up_eq, up_ne, ho_w, ho_wl, ho_b, fl_in, fl_out, wr_in, wr_out, cp_in, cp_out]; first | done | omega) ?_
          | (with_reducible refine ho_ite (fun hq => ?_) (fun hq => ?_) <;> try (simp (disch := omega) only [up_eq, up_ne, ho_w, ho_wl, ho_b, fl_in, fl_out, wr_in, wr_out, cp_in, cp_out] at hq)))
      all_goals first
        | rfl
        | trivial
        | omega
        | (simp (disch := omega) only [up_eq, up_ne, ho_w, ho_wl, ho_b, fl_in, fl_out, wr_in, wr_out, cp_in, cp_out]; first | done | rfl | omega)
