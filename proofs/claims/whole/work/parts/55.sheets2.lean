def tp_wr (M : tp_M) (c p n : Int) (g : Int → Int) : tp_M := fun x y => if x = c ∧ p ≤ y ∧ y < p + n then g (y - p) else M x y
theorem wr_in {M : tp_M} {c p n x y : Int} {g : Int → Int} (h : x = c ∧ p ≤ y ∧ y < p + n) : tp_wr M c p n g x y = g (y - p) := by unfold tp_wr; rw [if_pos h]
theorem wr_out {M : tp_M} {c p n x y : Int} {g : Int → Int} (h : ¬ (x = c ∧ p ≤ y ∧ y < p + n)) : tp_wr M c p n g x y = M x y := by unfold tp_wr; rw [if_neg h]
theorem wr_zero (M : tp_M) (c p : Int) (g : Int → Int) : tp_wr M c p 0 g = M := by
  funext x y; exact wr_out (by omega)
theorem wr_succ (M : tp_M) (c p n : Int) (g : Int → Int) (h : 0 ≤ n) : tp_up (tp_wr M c p n g) c (p + n) (g n) = tp_wr M c p (n + 1) g := by
  funext x y
  by_cases h1 : x = c ∧ y = p + n
  · rw [up_eq h1, wr_in (by omega)]
    have : y - p = n := by omega
    rw [this]
  · rw [up_ne h1]
    by_cases h2 : x = c ∧ p ≤ y ∧ y < p + n
    · rw [wr_in h2, wr_in (by omega)]
    · rw [wr_out h2, wr_out (by omega)]
theorem wr_cong {M : tp_M} {c p n : Int} {g h : Int → Int} (e : ∀ k, 0 ≤ k → k < n → g k = h k) : tp_wr M c p n g = tp_wr M c p n h := by
  funext x y
  by_cases h2 : x = c ∧ p ≤ y ∧ y < p + n
  · rw [wr_in h2, wr_in h2, e _ (by omega) (by omega)]
  · rw [wr_out h2, wr_out h2]
set_option maxHeartbeats 4000000 in
set_option maxRecDepth 100000 in
theorem s_sheet67 {s : Int} {M : tp_M} (hs : 0 ≤ s ∧ s < 4) : f_X11_sheet_67 s 0 M = some (1, tp_wr M 534 (40 * s) 40 (fun _ => 0)) := by
  apply ho_eq
  unfold f_X11_sheet_67
  refine ho_lp (fun q : Int × tp_M => 0 ≤ q.1 ∧ q.1 ≤ 40 ∧ q.2 = tp_wr M 534 (40 * s) q.1 (fun _ => 0)) (fun q => (40 - q.1).toNat) ?_ tp_N (0, M) ⟨by simp only; omega, by simp only; omega, (wr_zero _ _ _ _).symm⟩ (by unfold tp_N; simp only; omega)
  rintro ⟨q1, q2⟩ ⟨h1, h2, h3⟩ rc hr
  simp only at h1 h2 h3 ⊢
  subst h3
  unfold f_X11_sheet_67B
  refine ho_ite (fun h => ho_some ?_) (fun h => ?_)
  · have : q1 = 40 := by omega
    rw [this]
  · rw [ho_w (x := 40 * s) (by omega) (by omega), ho_w (x := 40 * s + q1) (by omega) (by omega)]
    refine ho_chk (by omega) ?_
    unfold tp_mp tp_lt
    rw [wr_succ _ _ _ _ (fun _ => 0) h1, ho_w (x := q1 + 1) (by omega) (by omega)]
    exact hr _ ⟨by simp only; omega, by simp only; omega, rfl⟩ (by simp only; omega)
set_option maxHeartbeats 4000000 in
set_option maxRecDepth 100000 in
theorem ok_sheet : op_sheet Inv := by
  intro M hI a0 a1 a2 hr0 hr1 hr2
  apply tw_out (f := f_X10_sheet a0 a1 a2) (g := f_X11_sheet a0 a1 a2)
  have hI' := hI
  obtain ⟨h1, h2, h3, h4, h5⟩ := hI
  unfold tw f_X10_sheet f_X11_sheet
  unfold tp_r at hr0 hr1 hr2
  by_cases hs : 0 ≤ a0 ∧ a0 < 4
  · have tg := tg_sheet hs
    have e1 : ∀ N, f_J7_fill_53178 (10 + 2 * a0 + 1) 0 N = some (tp_fl N (10 + 2 * a0 + 1) 40 0) := fun N => s_fill tg.2.1 tg.2.2 (by omega)
    have e2 : ∀ N, f_X11_sheet_67 a0 0 N = some (1, tp_wr N 534 (40 * a0) 40 (fun _ => 0)) := fun N => s_sheet67 hs
    have e3 : f_X10_sheetAt a0 M = some (10 + 2 * a0) := by
      unfold f_X10_sheetAt
      rw [if_neg (by omega), if_neg (by omega), if_pos hs]
    simp only [tp_lt, tp_mp, f_X11_in, e3, f_X11_isSheet, f_X6_become, f_X6_become_15, f_X11_sheet_31, f_X11_sheet_42, f_X11_sheet_63, f_X10_sheet_36, f_X10_sheet_47, e1, e2, Option.bind_some]
    repeat' (first
        | with_reducible refine ho_some ?_
        | with_reducible refine ho_bind' ?_
        | with_reducible refine ho_chk (by omega) ?_
        | with_reducible refine ho_nchk (by omega) ?_
        | with_reducible refine ho_chk (by simp (disch := omega) only [up_eq, up_ne, ho_w, ho_wl, ho_b]; first | done | omega) ?_
        | with_reducible refine ho_nchk (by simp (disch := omega) only [up_eq, up_ne, ho_w, ho_wl, ho_b]; first | done | omega) ?_
        | (with_reducible refine ho_ite (fun hq => ?_) (fun hq => ?_) <;> try (simp (disch := omega) only [up_eq, up_ne, ho_w, ho_wl, ho_b] at hq)))
    all_goals first
      | exact ⟨trivial, hI'⟩
      | exact ⟨rfl, hI'⟩
      | skip
    all_goals
      refine ⟨by first | rfl | trivial, fr_prime ?_ ?_ h1, fr_tape ?_ ?_ ?_ ?_ h2, fr_slots ?_ ?_ h3, fun s s0 s1 => ?_, fr_tree ?_ h5⟩
      case refine_9 =>
        by_cases e : s = a0
        · subst e
          unfold iv_sheet
          simp (disch := omega) only [up_eq, up_ne, ho_w, ho_wl, ho_b, fl_in, fl_out, wr_in, wr_out, cp_in, cp_out]
          refine ⟨by first | trivial | omega, by omega, by omega, by first | trivial | omega, by omega, by omega, by intros; first | trivial | omega, fun i i0 i1 => ?_⟩
          simp (disch := omega) only [up_eq, up_ne, ho_w, ho_wl, ho_b, fl_in, fl_out, wr_in, wr_out, cp_in, cp_out]
          exact ⟨by first | trivial | omega, by omega, by omega⟩
        · refine fr_sheet ?_ ?_ ?_ ?_ ?_ (h4 s s0 s1)
          all_goals (first
            | (intros; simp (disch := omega) only [up_eq, up_ne, ho_w, ho_wl, ho_b, fl_in, fl_out, wr_in, wr_out, cp_in, cp_out]; done)
            | (intros; rename_i hc; unfold tset at hc; simp (disch := omega) only [up_eq, up_ne, ho_w, ho_wl, ho_b, fl_in, fl_out, wr_in, wr_out, cp_in, cp_out]; done)
            | (intros; rename_i hc; unfold iset tset at hc; simp (disch := omega) only [up_eq, up_ne, ho_w, ho_wl, ho_b, fl_in, fl_out, wr_in, wr_out, cp_in, cp_out]; done))
      all_goals (first
        | (intros; simp (disch := omega) only [up_eq, up_ne, ho_w, ho_wl, ho_b, fl_in, fl_out, wr_in, wr_out, cp_in, cp_out]; done)
        | (intros; rename_i hc; unfold tset at hc; simp (disch := omega) only [up_eq, up_ne, ho_w, ho_wl, ho_b, fl_in, fl_out, wr_in, wr_out, cp_in, cp_out]; done)
        | (intros; rename_i hc; unfold iset tset at hc; simp (disch := omega) only [up_eq, up_ne, ho_w, ho_wl, ho_b, fl_in, fl_out, wr_in, wr_out, cp_in, cp_out]; done))
  · simp only [tp_lt, tp_mp, f_X11_in, f_X10_sheetAt, f_X11_isSheet]
    repeat' (first
        | with_reducible refine ho_some ?_
        | with_reducible refine ho_bind' ?_
        | with_reducible refine ho_chk (by omega) ?_
        | with_reducible refine ho_nchk (by omega) ?_
        | with_reducible refine ho_chk (by simp (disch := omega) only [up_eq, up_ne, ho_w, ho_wl, ho_b]; first | done | omega) ?_
        | with_reducible refine ho_nchk (by simp (disch := omega) only [up_eq, up_ne, ho_w, ho_wl, ho_b]; first | done | omega) ?_
        | (with_reducible refine ho_ite (fun hq => ?_) (fun hq => ?_) <;> try (simp (disch := omega) only [up_eq, up_ne, ho_w, ho_wl, ho_b] at hq)))
    all_goals first
      | exact ⟨trivial, hI'⟩
      | exact ⟨rfl, hI'⟩
def cnt3 (M : tp_M) : Nat → Int
  | 0 => 0
  | k + 1 => if tp_dg (M (4 + k)) 9 < 0 then cnt3 M k else tp_or (cnt3 M k) (tp_shl 1 k)
theorem tp_or_r (x y : Int) : tp_r (tp_or x y) := ⟨Int32.le_toInt _, by have := Int32.toInt_lt (Int32.ofInt x ||| Int32.ofInt y); unfold tp_or; omega⟩
theorem tp_or_0 {x : Int} (h : tp_r x) : tp_or x 0 = x := by
  unfold tp_or
  rw [show Int32.ofInt 0 = 0 from rfl, Int32.or_zero, tp_i_rt h]
theorem cnt3_r (M : tp_M) (k : Nat) : tp_r (cnt3 M k) := by
  induction k with
  | zero => unfold cnt3 tp_r; omega
  | succ k ih =>
    unfold cnt3
    by_cases h : tp_dg (M (4 + k)) 9 < 0
    · rw [if_pos h]; exact ih
    · rw [if_neg h]; exact tp_or_r _ _
set_option maxHeartbeats 4000000 in
set_option maxRecDepth 100000 in
theorem s_cnt3a {M : tp_M} : f_X10_slotsInUse M = some (cnt3 M 5) := by
  apply ho_eq
  unfold f_X10_slotsInUse f_X10_slotsInUse_4
  refine ho_lp (fun q : Int × Int => ∃ k : Nat, k ≤ 5 ∧ q.1 = cnt3 M k ∧ q.2 = k) (fun q => (5 - q.2).toNat) ?_ tp_N (0, 0) ⟨0, by omega, rfl, rfl⟩ (by unfold tp_N; simp only; omega)
  rintro ⟨q1, q2⟩ ⟨k, hk, h1, h2⟩ rc hr
  simp only at h1 h2 ⊢
  subst h1 h2
  unfold f_X10_slotsInUse_4B
  refine ho_ite (fun h => ho_some ?_) (fun h => ho_chk (by omega) ?_)
  · have : k = 5 := by omega
    rw [this]
  · have ts := tg_slot (s := k) (by omega)
    rw [s_degreeOf ts.1 ts.2]
    unfold f_X10_slotsInUse_27
    have e : tp_w ((k : Int) + 1) = ((k + 1 : Nat) : Int) := by rw [ho_w (by omega) (by omega)]; rfl
    simp only [Option.bind_some, tp_lt, e]
    refine ho_ite (fun h0 => hr _ ⟨k + 1, by omega, ?_, rfl⟩ (by simp only; omega)) (fun h0 => hr _ ⟨k + 1, by omega, ?_, rfl⟩ (by simp only; omega))
    · conv => rhs; unfold cnt3
      simp only [if_pos h0]
    · conv => rhs; unfold cnt3
      simp only [if_neg h0]
set_option maxHeartbeats 4000000 in
set_option maxRecDepth 100000 in
theorem s_cnt3b {M : tp_M} (hI : iv_slots M) : f_X11_count_57 0 0 M = some (cnt3 M 5) := by
  apply ho_eq
  unfold f_X11_count_57
  refine ho_lp (fun q : Int × Int => ∃ k : Nat, k ≤ 5 ∧ q.1 = cnt3 M k ∧ q.2 = k) (fun q => (5 - q.2).toNat) ?_ tp_N (0, 0) ⟨0, by omega, rfl, rfl⟩ (by unfold tp_N; simp only; omega)
  rintro ⟨q1, q2⟩ ⟨k, hk, h1, h2⟩ rc hr
  simp only at h1 h2 ⊢
  subst h1 h2
  unfold f_X11_count_57B
  refine ho_ite (fun h => ho_some ?_) (fun h => ?_)
  · have : k = 5 := by omega
    rw [this]
  · rw [s_degreeOf2 (s := k) (by omega), s_deg_same hI (s := k) (by omega)]
    unfold f_X11_count_78
    have e : tp_w ((k : Int) + 1) = ((k + 1 : Nat) : Int) := by rw [ho_w (by omega) (by omega)]; rfl
    simp only [Option.bind_some, tp_lt, e]
    refine ho_ite (fun h0 => hr _ ⟨k + 1, by omega, ?_, rfl⟩ (by simp only; omega)) (fun h0 => hr _ ⟨k + 1, by omega, ?_, rfl⟩ (by simp only; omega))
    · conv => rhs; unfold cnt3
      simp only [if_pos h0]
      exact tp_or_0 (cnt3_r M k)
    · conv => rhs; unfold cnt3
      simp only [if_neg h0]
def cnt4 (M : tp_M) : Nat → Int
  | 0 => 0
  | k + 1 => if M (10 + 2 * k) 0 < 0 then cnt4 M k else cnt4 M k + 1
theorem cnt4_r (M : tp_M) (k : Nat) : 0 ≤ cnt4 M k ∧ cnt4 M k ≤ k := by
  induction k with
  | zero => unfold cnt4; omega
  | succ k ih =>
    unfold cnt4
    by_cases h : M (10 + 2 * k) 0 < 0
    · rw [if_pos h]; omega
    · rw [if_neg h]; omega
set_option maxHeartbeats 4000000 in
set_option maxRecDepth 100000 in
theorem s_cnt4a {M : tp_M} : f_X10_sheetsInUse M = some (cnt4 M 4) := by
  apply ho_eq
  unfold f_X10_sheetsInUse f_X10_sheetsInUse_4
  refine ho_lp (fun q : Int × Int => ∃ k : Nat, k ≤ 4 ∧ q.1 = cnt4 M k ∧ q.2 = k) (fun q => (4 - q.2).toNat) ?_ tp_N (0, 0) ⟨0, by omega, rfl, rfl⟩ (by unfold tp_N; simp only; omega)
  rintro ⟨q1, q2⟩ ⟨k, hk, h1, h2⟩ rc hr
  simp only at h1 h2 ⊢
  subst h1 h2
  unfold f_X10_sheetsInUse_4B f_X10_sheetAt f_X6_isMissing f_X10_sheetsInUse_29
  have e : tp_w ((k : Int) + 1) = ((k + 1 : Nat) : Int) := by rw [ho_w (by omega) (by omega)]; rfl
  have hc := cnt4_r M k
  refine ho_ite (fun h => ho_some ?_) (fun h => ?_)
  · have : k = 4 := by omega
    rw [this]
  · have ts := tg_sheet (s := k) (by omega)
    rw [if_neg (by omega), if_neg (by omega), if_pos (by omega)]
    simp only [Option.bind_some, tp_lt, e]
    rw [if_neg (by omega), if_pos ts.1, if_pos ts.1]
    have e4 : tp_w (cnt4 M k + 1) = cnt4 M k + 1 := ho_w (by omega) (by omega)
    by_cases h0 : M (10 + 2 * k) 0 < 0
    · rw [if_neg (show ¬ 0 ≤ M (10 + 2 * (k : Int)) 0 by omega)]
      simp only [Option.bind_some]
      rw [if_pos (by omega)]
      refine hr _ ⟨k + 1, by omega, ?_, rfl⟩ (by simp only; omega)
      conv => rhs; unfold cnt4
      simp only [if_pos h0]
    · rw [if_pos (show 0 ≤ M (10 + 2 * (k : Int)) 0 by omega)]
      simp only [Option.bind_some]
      try rw [if_neg (by omega)]
      rw [e4]
      refine hr _ ⟨k + 1, by omega, ?_, rfl⟩ (by simp only; omega)
      conv => rhs; unfold cnt4
      simp only [if_neg h0]
set_option maxHeartbeats 4000000 in
set_option maxRecDepth 100000 in
theorem s_cnt4b {M : tp_M} (hI : iv_sheets M) : f_X11_count_90 0 0 M = some (cnt4 M 4) := by
  apply ho_eq
  unfold f_X11_count_90
  refine ho_lp (fun q : Int × Int => ∃ k : Nat, k ≤ 4 ∧ q.1 = cnt4 M k ∧ q.2 = k) (fun q => (4 - q.2).toNat) ?_ tp_N (0, 0) ⟨0, by omega, rfl, rfl⟩ (by unfold tp_N; simp only; omega)
  rintro ⟨q1, q2⟩ ⟨k, hk, h1, h2⟩ rc hr
  simp only at h1 h2 ⊢
  subst h1 h2
  unfold f_X11_count_90B f_X11_count_110
  have e : tp_w ((k : Int) + 1) = ((k + 1 : Nat) : Int) := by rw [ho_w (by omega) (by omega)]; rfl
  have hc := cnt4_r M k
  refine ho_ite (fun h => ho_some ?_) (fun h => ho_chk (by omega) ?_)
  · have : k = 4 := by omega
    rw [this]
  · have s1 := (hI k (by omega) (by omega)).1
    have e4 : tp_w (cnt4 M k + 1) = cnt4 M k + 1 := ho_w (by omega) (by omega)
    have e5 : tp_w (cnt4 M k + 0) = cnt4 M k := by rw [Int.add_zero]; exact ho_w (by omega) (by omega)
    simp only [tp_lt, e, e4, e5]
    refine ho_ite (fun h0 => hr _ ⟨k + 1, by omega, ?_, rfl⟩ (by simp only; omega)) (fun h0 => hr _ ⟨k + 1, by omega, ?_, rfl⟩ (by simp only; omega))
    · conv => rhs; unfold cnt4
      rw [if_pos (by omega)]
    · conv => rhs; unfold cnt4
      rw [if_neg (by omega)]
theorem ok_count : op_count Inv := by
  intro M hI a0 hr0
  apply tr_out (f := f_X10_count a0) (g := f_X11_count a0) hI
  obtain ⟨h1, h2, h3, h4, h5⟩ := hI
  unfold tr_ f_X10_count f_X11_count
  unfold iv_prime at h1
  unfold iv_tape at h2
  unfold iv_tree at h5
  rw [s_cnt3a, s_cnt3b h3, s_cnt4a, s_cnt4b h4]
  simp only [Option.bind_some]
  repeat' (first
      | with_reducible refine ho_some ?_
      | with_reducible refine ho_bind' ?_
      | with_reducible refine ho_chk (by omega) ?_
      | with_reducible refine ho_nchk (by omega) ?_
      | with_reducible refine ho_chk (by simp (disch := omega) only [up_eq, up_ne, ho_w, ho_wl, ho_b]; first | done | omega) ?_
      | with_reducible refine ho_nchk (by simp (disch := omega) only [up_eq, up_ne, ho_w, ho_wl, ho_b]; first | done | omega) ?_
      | (with_reducible refine ho_ite (fun hq => ?_) (fun hq => ?_) <;> try (simp (disch := omega) only [up_eq, up_ne, ho_w, ho_wl, ho_b] at hq)))
  all_goals first
    | rfl
    | trivial
    | omega
    | (simp (disch := omega) only [up_eq, up_ne, ho_w, ho_wl, ho_b]; first | done | rfl | omega)
set_option maxHeartbeats 4000000 in
set_option maxRecDepth 100000 in
theorem s_shift {s i o j n : Int} {M : tp_M} (hs : 0 ≤ s ∧ s < 4) (ho_ : 0 ≤ o ∧ o < 4) (hi : 0 ≤ i ∧ 0 ≤ j ∧ 0 ≤ n ∧ i + n ≤ 40 ∧ j + n ≤ 40) (u : Int) (hu : u = if 40 * o + j ≤ 40 * s + i then 0 else 1) : f_X11_shift_125 s i o j n u 0 M = some (n, tp_wr M 534 (40 * o + j) n (fun k => M 534 (40 * s + i + k))) := by
  apply ho_eq
  unfold f_X11_shift_125
  by_cases hc : 40 * o + j ≤ 40 * s + i
  · rw [if_pos hc] at hu
    subst hu
    refine ho_lp (fun q : Int × tp_M => 0 ≤ q.1 ∧ q.1 ≤ n ∧ q.2 = tp_wr M 534 (40 * o + j) q.1 (fun k => M 534 (40 * s + i + k))) (fun q => (n - q.1).toNat) ?_ tp_N (0, M) ⟨by simp only; omega, by simp only; omega, (wr_zero _ _ _ _).symm⟩ (by unfold tp_N; simp only; omega)
    rintro ⟨q1, q2⟩ ⟨h1, h2, h3⟩ rc hr
    simp only at h1 h2 h3 ⊢
    subst h3
    unfold f_X11_shift_125B f_X11_shift_149
    refine ho_ite (fun h => ho_some ?_) (fun h => ?_)
    · have : q1 = n := by omega
      rw [this]
    · rw [if_pos (by omega)]
      rw [ho_w (x := 40 * s) (by omega) (by omega), ho_w (x := 40 * o) (by omega) (by omega), ho_w (x := 40 * s + i) (by omega) (by omega), ho_w (x := 40 * o + j) (by omega) (by omega), ho_w (x := 40 * s + i + q1) (by omega) (by omega), ho_w (x := 40 * o + j + q1) (by omega) (by omega)]
      refine ho_chk (by omega) (ho_chk (by omega) ?_)
      unfold tp_mp tp_lt
      rw [wr_out (x := 534) (y := 40 * s + i + q1) (by omega), wr_succ _ _ _ _ (fun k => M 534 (40 * s + i + k)) h1, ho_w (x := q1 + 1) (by omega) (by omega)]
      exact hr _ ⟨by simp only; omega, by simp only; omega, rfl⟩ (by simp only; omega)
  · rw [if_neg hc] at hu
    subst hu
    refine ho_lp (fun q : Int × tp_M => 0 ≤ q.1 ∧ q.1 ≤ n ∧ q.2 = tp_wr M 534 (40 * o + j + n - q.1) q.1 (fun k => M 534 (40 * s + i + n - q.1 + k))) (fun q => (n - q.1).toNat) ?_ tp_N (0, M) ⟨by simp only; omega, by simp only; omega, (wr_zero _ _ _ _).symm⟩ (by unfold tp_N; simp only; omega)
    rintro ⟨q1, q2⟩ ⟨h1, h2, h3⟩ rc hr
    simp only at h1 h2 h3 ⊢
    subst h3
    unfold f_X11_shift_125B f_X11_shift_149
    refine ho_ite (fun h => ho_some ?_) (fun h => ?_)
    · have : q1 = n := by omega
      subst this
      rw [show 40 * o + j + q1 - q1 = 40 * o + j by omega, show 40 * s + i + q1 - q1 = 40 * s + i by omega]
    · rw [if_neg (by omega)]
      rw [ho_w (x := 40 * s) (by omega) (by omega), ho_w (x := 40 * o) (by omega) (by omega), ho_w (x := 40 * s + i) (by omega) (by omega), ho_w (x := 40 * o + j) (by omega) (by omega), ho_w (x := n - 1) (by omega) (by omega), ho_w (x := n - 1 - q1) (by omega) (by omega), ho_w (x := 40 * s + i + (n - 1 - q1)) (by omega) (by omega), ho_w (x := 40 * o + j + (n - 1 - q1)) (by omega) (by omega)]
      refine ho_chk (by omega) (ho_chk (by omega) ?_)
      unfold tp_mp tp_lt
      rw [wr_out (x := 534) (y := 40 * s + i + (n - 1 - q1)) (by omega), ho_w (x := q1 + 1) (by omega) (by omega)]
      refine hr _ ⟨by simp only; omega, by simp only; omega, ?_⟩ (by simp only; omega)
      simp only
      funext x y
      by_cases hx : x = 534 ∧ y = 40 * o + j + (n - 1 - q1)
      · rw [up_eq hx, wr_in (by omega)]
        congr 1; omega
      · rw [up_ne hx]
        by_cases hx2 : x = 534 ∧ 40 * o + j + n - q1 ≤ y ∧ y < 40 * o + j + n - q1 + q1
        · rw [wr_in hx2, wr_in (by omega)]
          congr 1; omega
        · rw [wr_out hx2, wr_out (by omega)]
set_option maxHeartbeats 4000000 in
set_option maxRecDepth 100000 in
theorem ok_shift : op_shift Inv := by
  intro M hI a0 a1 a2 a3 a4 hr0 hr1 hr2 hr3 hr4
  apply tw_out (f := f_X10_shift a0 a1 a2 a3 a4) (g := f_X11_shift a0 a1 a2 a3 a4)
  have hI' := hI
  obtain ⟨h1, h2, h3, h4, h5⟩ := hI
  unfold tp_r at hr0 hr1 hr2 hr3 hr4
  by_cases hs : (0 ≤ a0 ∧ a0 < 4) ∧ (0 ≤ a2 ∧ a2 < 4)
  · have tg := tg_sheet hs.1
    have tg' := tg_sheet hs.2
    have e3 : f_X10_sheetAt a0 M = some (10 + 2 * a0) := by
      unfold f_X10_sheetAt
      rw [if_neg (by omega), if_neg (by omega), if_pos hs.1]
    have e4 : f_X10_sheetAt a2 M = some (10 + 2 * a2) := by
      unfold f_X10_sheetAt
      rw [if_neg (by omega), if_neg (by omega), if_pos hs.2]
    have s := h4 a0 hs.1.1 hs.1.2
    unfold iv_sheet at s
    obtain ⟨s1, s2, s3, s4, s5, s6, s7, s8⟩ := s
    have s := h4 a2 hs.2.1 hs.2.2
    unfold iv_sheet at s
    obtain ⟨r1, r2, r3, r4, r5, r6, r7, r8⟩ := s
    by_cases hg : 0 ≤ a1 ∧ 0 ≤ a3 ∧ 0 ≤ a4 ∧ a1 + a4 ≤ M (10 + 2 * a0) 1 ∧ a3 + a4 ≤ M (10 + 2 * a2) 1
    · have e5 : ∀ N u, u = (if 40 * a2 + a3 ≤ 40 * a0 + a1 then 0 else 1) → f_X11_shift_125 a0 a1 a2 a3 a4 u 0 N = some (a4, tp_wr N 534 (40 * a2 + a3) a4 (fun k => N 534 (40 * a0 + a1 + k))) := fun N u hu => s_shift hs.1 hs.2 (by omega) u hu
      unfold tw f_X10_shift f_X11_shift
      simp only [e3, e4, Option.bind_some, tp_lt, tp_mp, f_X11_isSheet, f_X6_isMissing, f_X6_hasRun, f_X11_shift_120]
      repeat' (first
          | with_reducible refine ho_some ?_
          | with_reducible refine ho_bind' ?_
          | with_reducible refine ho_chk (by omega) ?_
          | with_reducible refine ho_nchk (by omega) ?_
          | with_reducible refine ho_chk (by simp (disch := omega) only [up_eq, up_ne, ho_w, ho_wl, ho_b, fl_in, fl_out, wr_in, wr_out, cp_in, cp_out]; first | done | omega) ?_
          | with_reducible refine ho_nchk (by simp (disch := omega) only [up_eq, up_ne, ho_w, ho_wl, ho_b, fl_in, fl_out, wr_in, wr_out, cp_in, cp_out]; first | done | omega) ?_
          | (with_reducible refine ho_ite (fun hq => ?_) (fun hq => ?_) <;> try (simp (disch := omega) only [up_eq, up_ne, ho_w, ho_wl, ho_b, fl_in, fl_out, wr_in, wr_out, cp_in, cp_out] at hq)))
      all_goals first
        | exact ⟨trivial, hI'⟩
        | exact ⟨rfl, hI'⟩
        | skip
      all_goals
        rw [e5 _ _ (by first | rw [if_pos (by omega)] | rw [if_neg (by omega)])]
        refine ho_some ⟨rfl, fr_prime ?_ ?_ h1, fr_tape ?_ ?_ ?_ ?_ h2, fr_slots ?_ ?_ h3, fun s s0 s1 => ?_, fr_tree ?_ h5⟩
        case refine_9 =>
          by_cases e : s = a2
          · subst e
            unfold iv_sheet
            simp (disch := omega) only [up_eq, up_ne, ho_w, ho_wl, ho_b, fl_in, fl_out, wr_in, wr_out, cp_in, cp_out]
            refine ⟨by omega, by omega, by omega, by omega, by omega, by omega, by omega, fun i i0 i1 => ?_⟩
            by_cases hi : a3 ≤ i ∧ i < a3 + a4
            · simp (disch := omega) only [up_eq, up_ne, ho_w, ho_wl, ho_b, fl_in, fl_out, wr_in, wr_out, cp_in, cp_out]
              have := s8 (a1 + (i - a3)) (by omega) (by omega)
              rw [show 40 * a0 + a1 + (40 * s + i - (40 * s + a3)) = 40 * a0 + (a1 + (i - a3)) by omega]
              exact this
            · simp (disch := omega) only [up_eq, up_ne, ho_w, ho_wl, ho_b, fl_in, fl_out, wr_in, wr_out, cp_in, cp_out]; exact r8 i i0 i1
          · refine fr_sheet ?_ ?_ ?_ ?_ ?_ (h4 s s0 s1)
            all_goals (first
              | (intros; simp (disch := omega) only [up_eq, up_ne, ho_w, ho_wl, ho_b, fl_in, fl_out, wr_in, wr_out, cp_in, cp_out]; done)
              | (intros; rename_i hc; unfold tset at hc; simp (disch := omega) only [up_eq, up_ne, ho_w, ho_wl, ho_b, fl_in, fl_out, wr_in, wr_out, cp_in, cp_out]; done)
              | (intros; rename_i hc; unfold iset tset at hc; simp (disch := omega) only [up_eq, up_ne, ho_w, ho_wl, ho_b, fl_in, fl_out, wr_in, wr_out, cp_in, cp_out]; done))
        all_goals (first
          | (intros; simp (disch := omega) only [up_eq, up_ne, ho_w, ho_wl, ho_b, fl_in, fl_out, wr_in, wr_out, cp_in, cp_out]; done)
          | (intros; rename_i hc; unfold tset at hc; simp (disch := omega) only [up_eq, up_ne, ho_w, ho_wl, ho_b, fl_in, fl_out, wr_in, wr_out, cp_in, cp_out]; done)
          | (intros; rename_i hc; unfold iset tset at hc; simp (disch := omega) only [up_eq, up_ne, ho_w, ho_wl, ho_b, fl_in, fl_out, wr_in, wr_out, cp_in, cp_out]; done))
    · unfold tw f_X10_shift f_X11_shift
      simp only [e3, e4, Option.bind_some, tp_lt, tp_mp, f_X11_isSheet, f_X6_isMissing, f_X6_hasRun, f_X11_shift_120]
      repeat' (first
          | with_reducible refine ho_some ?_
          | with_reducible refine ho_bind' ?_
          | with_reducible refine ho_chk (by omega) ?_
          | with_reducible refine ho_nchk (by omega) ?_
          | with_reducible refine ho_chk (by simp (disch := omega) only [up_eq, up_ne, ho_w, ho_wl, ho_b, fl_in, fl_out, wr_in, wr_out, cp_in, cp_out]; first | done | omega) ?_
          | with_reducible refine ho_nchk (by simp (disch := omega) only [up_eq, up_ne, ho_w, ho_wl, ho_b, fl_in, fl_out, wr_in, wr_out, cp_in, cp_out]; first | done | omega) ?_
          | (with_reducible refine ho_ite (fun hq => ?_) (fun hq => ?_) <;> try (simp (disch := omega) only [up_eq, up_ne, ho_w, ho_wl, ho_b, fl_in, fl_out, wr_in, wr_out, cp_in, cp_out] at hq)))
      all_goals first
        | exact ⟨trivial, hI'⟩
        | exact ⟨rfl, hI'⟩
        | skip
  · unfold tw f_X10_shift f_X11_shift
    simp only [f_X10_sheetAt, tp_lt, tp_mp, f_X11_isSheet]
    repeat' (first
        | with_reducible refine ho_some ?_
        | with_reducible refine ho_bind' ?_
        | with_reducible refine ho_chk (by omega) ?_
        | with_reducible refine ho_nchk (by omega) ?_
        | with_reducible refine ho_chk (by simp (disch := omega) only [up_eq, up_ne, ho_w, ho_wl, ho_b, fl_in, fl_out, wr_in, wr_out, cp_in, cp_out]; first | done | omega) ?_
        | with_reducible refine ho_nchk (by simp (disch := omega) only [up_eq, up_ne, ho_w, ho_wl, ho_b, fl_in, fl_out, wr_in, wr_out, cp_in, cp_out]; first | done | omega) ?_
        | (with_reducible refine ho_ite (fun hq => ?_) (fun hq => ?_) <;> try (simp (disch := omega) only [up_eq, up_ne, ho_w, ho_wl, ho_b, fl_in, fl_out, wr_in, wr_out, cp_in, cp_out] at hq)))
    all_goals first
      | exact ⟨trivial, hI'⟩
      | exact ⟨rfl, hI'⟩
      | skip
