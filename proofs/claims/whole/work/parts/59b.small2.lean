def anc (M : tp_M) (i : Int) : Nat → Int
  | 0 => i
  | n + 1 => M 498 (anc M i n)
/-- where the model lays a knot's way -/
def kset (c k : Int) : Prop := (c = 483 ∧ k = 49) ∨ (521 ≤ c ∧ c ≤ 525)
set_option maxHeartbeats 4000000 in
set_option maxRecDepth 100000 in
theorem s_takesKnot2 {M : tp_M} {L : Nat} (hL : 1 ≤ L ∧ L ≤ 6) (h49 : M 483 49 = L) (h5 : ∀ k, 0 ≤ k → k < (L : Int) → 0 ≤ M 525 k ∧ M 525 k < 40) (h1 : M 522 1 = 1) :
    ho (f_X11_takesKnot_60 1 M) (fun N => (∀ c k, ¬ (521 ≤ c ∧ c ≤ 523) → N c k = M c k) ∧ N 522 1 = 1 ∧ ∀ k, 1 ≤ k → k < (L : Int) → N 521 k = M 504 (M 525 k) ∧ N 523 k = M 505 (M 525 k) ∧ N 522 (k + 1) = tp_w (N 522 k * N 521 k)) := by
  unfold f_X11_takesKnot_60
  refine ho_lp (fun q : Int × tp_M => 1 ≤ q.1 ∧ q.1 ≤ L ∧ (∀ c k, ¬ (521 ≤ c ∧ c ≤ 523) → q.2 c k = M c k) ∧ q.2 522 1 = 1 ∧ ∀ k, 1 ≤ k → k < q.1 → q.2 521 k = M 504 (M 525 k) ∧ q.2 523 k = M 505 (M 525 k) ∧ q.2 522 (k + 1) = tp_w (q.2 522 k * q.2 521 k)) (fun q => ((L : Int) - q.1).toNat) ?_ tp_N (1, M) ⟨by simp only; omega, by simp only; omega, fun _ _ _ => rfl, h1, fun k k0 k1 => by simp only at k1; omega⟩ (by unfold tp_N; simp only; omega)
  rintro ⟨x, N⟩ ⟨q1, q2, q3, q4, q5⟩ rc hr
  simp only at q1 q2 q3 q4 q5 ⊢
  unfold f_X11_takesKnot_60B
  rw [q3 483 49 (by omega), h49]
  refine ho_ite (fun hc => ho_some ⟨q3, q4, fun k k0 k1 => q5 k k0 (by omega)⟩) (fun hc => ?_)
  have g := h5 x (by omega) (by omega)
  have e525 := q3 525 x (by omega)
  simp only [tp_mp, tp_lt]
  rw [if_pos (by omega), e525, if_pos (by omega), if_pos (by omega), if_pos (by omega), up_ne (c' := 525) (by omega), e525, if_pos (by omega), if_pos (by omega), if_pos (by omega), if_pos (by omega), ho_w (x := x + 1) (by omega) (by omega), if_pos (by omega)]
  refine hr _ ⟨by simp only; omega, by simp only; omega, fun c k hc => ?_, ?_, fun k k0 k1 => ?_⟩ (by simp only; omega)
  · simp only
    rw [up_ne (by omega), up_ne (by omega), up_ne (by omega)]; exact q3 c k hc
  · simp only
    rw [up_ne (by omega), up_ne (by omega), up_ne (by omega)]; exact q4
  · simp only at k1 ⊢
    by_cases e : k = x
    · subst e
      refine ⟨?_, ?_, ?_⟩
      · rw [up_ne (by omega), up_ne (by omega), up_eq ⟨rfl, rfl⟩, q3 504 _ (by omega)]
      · rw [up_ne (by omega), up_eq ⟨rfl, rfl⟩, up_ne (by omega), q3 505 _ (by omega)]
      · rw [up_eq ⟨rfl, rfl⟩]
        simp (disch := omega) only [up_eq, up_ne, ho_w, ho_wl, ho_b]
    · have := q5 k k0 (by omega)
      rw [up_ne (c' := 521) (by omega), up_ne (c' := 521) (by omega), up_ne (c' := 521) (by omega), up_ne (c' := 523) (by omega), up_ne (c' := 523) (by omega), up_ne (c' := 523) (by omega), up_ne (c' := 522) (k' := k + 1) (by omega), up_ne (c' := 522) (k' := k + 1) (by omega), up_ne (c' := 522) (k' := k + 1) (by omega), up_ne (c' := 522) (k' := k) (by omega), up_ne (c' := 522) (k' := k) (by omega), up_ne (c' := 522) (k' := k) (by omega)]
      exact this
/-- a knot's way in the model -/
def kway (M : tp_M) (i : Int) (L : Nat) (N : tp_M) : Prop := (∀ c k, ¬ kset c k → N c k = M c k) ∧ N 483 49 = L ∧ (∀ n : Nat, n < L → N 524 ((L : Int) - n) = anc M i n ∧ N 525 ((L : Int) - n - 1) = anc M i n) ∧ N 522 1 = 1 ∧ ∀ k, 1 ≤ k → k < (L : Int) → N 521 k = M 504 (N 525 k) ∧ N 523 k = M 505 (N 525 k) ∧ N 522 (k + 1) = tp_w (N 522 k * N 521 k)
set_option maxHeartbeats 4000000 in
set_option maxRecDepth 100000 in
theorem s_takesKnot {M : tp_M} {i : Int} {L : Nat} (hi : 0 ≤ i ∧ i < 40) (hL : 1 ≤ L ∧ L ≤ 6) (h : M 496 i = L) (ha : ∀ n : Nat, n < L → 0 ≤ anc M i n ∧ anc M i n < 40) : ho (f_X11_takesKnot i M) (kway M i L) := by
  unfold f_X11_takesKnot f_X11_takesKnot_17
  simp only [tp_mp, tp_lt]
  rw [if_pos hi, up_eq ⟨rfl, rfl⟩, h]
  refine ho_lp (fun q : Int × Int × tp_M => ∃ m : Nat, m ≤ L ∧ q.2.1 = (L : Int) - m ∧ (m < L → q.1 = anc M i m) ∧ (∀ c k, ¬ kset c k → q.2.2 c k = M c k) ∧ q.2.2 483 49 = L ∧ ∀ n : Nat, n < m → q.2.2 524 ((L : Int) - n) = anc M i n ∧ q.2.2 525 ((L : Int) - n - 1) = anc M i n) (fun q => q.2.1.toNat) ?_ tp_N (i, ((L : Int), tp_up M 483 49 L)) ⟨0, by omega, by simp only; omega, fun _ => rfl, fun c k hc => up_ne (by unfold kset at hc; omega), by simp only; exact up_eq ⟨rfl, rfl⟩, fun n hn => by omega⟩ (by unfold tp_N; simp only; omega)
  rintro ⟨x2, x3, N⟩ ⟨m, q0, q1, q2, q3, q4, q5⟩ rc hr
  simp only at q0 q1 q2 q3 q4 q5 ⊢
  unfold f_X11_takesKnot_17B
  simp only [tp_mp, tp_lt]
  refine ho_ite (fun hc => ?_) (fun hc => ?_)
  · have em : m = L := by omega
    subst em
    rw [if_pos (by omega)]
    have h25 : ∀ k, 0 ≤ k → k < (m : Int) → N 525 k = anc M i (m - 1 - k.toNat) := fun k k0 k1 => by
      have := (q5 (m - 1 - k.toNat) (by omega)).2
      rw [show (m : Int) - ((m - 1 - k.toNat : Nat) : Int) - 1 = k by omega] at this
      exact this
    have := s_takesKnot2 (M := tp_up N 522 1 1) hL (by rw [up_ne (by omega)]; exact q4) (fun k k0 k1 => by rw [up_ne (by omega), h25 k k0 k1]; exact ha _ (by omega)) (up_eq ⟨rfl, rfl⟩)
    refine ho_mono this (fun K hK => ?_)
    obtain ⟨r1, r2, r3⟩ := hK
    have r1' : ∀ c k, ¬ (521 ≤ c ∧ c ≤ 523) → K c k = N c k := fun c k hc => by rw [r1 c k hc, up_ne (by omega)]
    refine ⟨fun c k hc => by rw [r1' c k (by unfold kset at hc; omega)]; exact q3 c k hc, by rw [r1' _ _ (by omega)]; exact q4, fun n hn => by rw [r1' _ _ (by omega), r1' _ _ (by omega)]; exact q5 n hn, r2, fun k k0 k1 => ?_⟩
    have := r3 k k0 k1
    rw [up_ne (c' := 525) (by omega), up_ne (c' := 504) (by omega), up_ne (c' := 505) (by omega), q3 504 _ (by unfold kset; omega), q3 505 _ (by unfold kset; omega)] at this
    rw [r1' 525 k (by omega)]
    exact this
  · have e2 := q2 (by omega)
    have a2 := ha m (by omega)
    rw [if_pos (by omega), ho_w (x := x3 - 1) (by omega) (by omega), if_pos (by omega), if_pos (by omega), ho_w (x := x3 + -1) (by omega) (by omega)]
    refine hr _ ⟨m + 1, by omega, by simp only; omega, fun hm => ?_, fun c k hc => ?_, ?_, fun n hn => ?_⟩ (by simp only; omega)
    · simp only
      rw [up_ne (by omega), up_ne (by omega), q3 498 _ (by unfold kset; omega), e2]; rfl
    · simp only
      rw [up_ne (by unfold kset at hc; omega), up_ne (by unfold kset at hc; omega)]; exact q3 c k hc
    · simp only
      rw [up_ne (by omega), up_ne (by omega)]; exact q4
    · simp only
      by_cases e : n = m
      · subst e
        rw [up_ne (by omega), up_eq (by omega), up_eq (by omega)]
        exact ⟨e2, e2⟩
      · rw [up_ne (c' := 524) (by omega), up_ne (c' := 524) (by omega), up_ne (c' := 525) (by omega), up_ne (c' := 525) (by omega)]
        exact q5 n (by omega)
/-- the knots above one -/
theorem anc_lv {M : tp_M} {K : Int} (hK : K ≤ 24) (h : ∀ i, 0 ≤ i → i < K → tr_knot M i) {i : Int} (hi : 0 ≤ i ∧ i < K) : ∀ n : Nat, (n : Int) < M (46 + 3 * i) 0 → 0 ≤ anc M i n ∧ anc M i n ≤ i ∧ M (46 + 3 * anc M i n) 0 = M (46 + 3 * i) 0 - n := by
  intro n
  induction n with
  | zero => intro _; exact ⟨hi.1, by show i ≤ i; omega, by show M (46 + 3 * i) 0 = _; omega⟩
  | succ n ih =>
    intro hn
    obtain ⟨a, b, c⟩ := ih (by omega)
    have := h (anc M i n) a (by omega)
    unfold tr_knot at this
    have hh := this.2.2.2.2.2.2.2.2.2.2.2.2.1 (by omega)
    show 0 ≤ M 498 (anc M i n) ∧ M 498 (anc M i n) ≤ i ∧ M (46 + 3 * M 498 (anc M i n)) 0 = _
    omega
theorem kway_deg {M N : tp_M} {K : Int} (hK : K ≤ 24) (h : ∀ i, 0 ≤ i → i < K → tr_knot M i) {i : Int} {L : Nat} (hi : 0 ≤ i ∧ i < K) (hL : M (46 + 3 * i) 0 = L) (hw : kway M i L N) : ∀ n : Nat, n < L → N 522 ((n : Int) + 1) = M (46 + 3 * anc M i (L - n - 1)) 2 := by
  obtain ⟨w1, w2, w3, w4, w5⟩ := hw
  intro n
  induction n with
  | zero =>
    intro hn
    obtain ⟨a, b, c⟩ := anc_lv hK h hi (L - 0 - 1) (by omega)
    have := h _ a (by omega)
    unfold tr_knot at this
    have hh := this.2.2.2.2.2.2.2.2.2.2.2.1 (by omega)
    rw [show ((0 : Nat) : Int) + 1 = 1 by omega, w4]; omega
  | succ n ih =>
    intro hn
    have e := ih (by omega)
    obtain ⟨a, b, c⟩ := anc_lv hK h hi (L - (n + 1) - 1) (by omega)
    have t := h _ a (by omega)
    unfold tr_knot at t
    have hh := t.2.2.2.2.2.2.2.2.2.2.2.2.1 (by omega)
    have hd := t.2.2.2.2.2.2.2.2.2.2.2.2.2.1
    have w := w5 ((n : Int) + 1) (by omega) (by omega)
    have w' := (w3 (L - (n + 1) - 1) (by omega)).2
    rw [show (L : Int) - ((L - (n + 1) - 1 : Nat) : Int) - 1 = (n : Int) + 1 by omega] at w'
    have ea : M 498 (anc M i (L - (n + 1) - 1)) = anc M i (L - n - 1) := by
      rw [show L - n - 1 = (L - (n + 1) - 1) + 1 by omega]; rfl
    rw [show ((n + 1 : Nat) : Int) + 1 = (n : Int) + 1 + 1 by omega, w.2.2, w.1, w', e]
    rw [ea] at hh
    rw [← hh.2.2.2.2, ho_w (by omega) (by omega)]
set_option maxHeartbeats 4000000 in
set_option maxRecDepth 100000 in
theorem ok_knot : op_knot Inv := by
  intro M hI a0 a1 r0 r1
  have hI' := hI
  obtain ⟨h1, h2, h3, h4, h5⟩ := hI
  unfold iv_tree at h5
  by_cases hb : 0 ≤ a1 ∧ a1 ≤ 6
  · by_cases hz : M 41 0 = 1 ∧ 0 ≤ a0 ∧ a0 < M 41 2
    · have ht := (h5.2.2.2 hz.1).1
      have hn := ht.1
      unfold tr_n at hn
      have hk := ht.2.1 a0 (by omega) (by omega)
      unfold tr_knot at hk
      have tg := (tg_knot (i := a0) (by omega)).1
      have e1 : f_X9_knotAt a0 M = some (46 + 3 * a0) := by
        unfold f_X9_knotAt
        repeat (first | rw [if_pos (by omega)] | rw [if_neg (by omega)] | simp only [Option.bind_some, not_true_eq_false, not_false_eq_true, if_true, if_false])
      obtain ⟨L, eL⟩ : ∃ L : Nat, M (46 + 3 * a0) 0 = L := ⟨(M (46 + 3 * a0) 0).toNat, by omega⟩
      obtain ⟨N, eN, hw⟩ := s_takesKnot (M := M) (i := a0) (L := L) (by omega) (by omega) (by omega) (fun n hn' => by have := anc_lv (by omega) ht.2.1 (i := a0) (by omega) n (by omega); omega)
      have hd := kway_deg (by omega) ht.2.1 (i := a0) (by omega) eL hw (L - 1) (by omega)
      rw [show L - (L - 1) - 1 = 0 by omega, show ((L - 1 : Nat) : Int) + 1 = L by omega] at hd
      have hd : N 522 L = M (46 + 3 * a0) 2 := hd
      have fI : Inv N := fr_inv (fun c k hc => hw.1 c k (by unfold iset tset at hc; unfold kset; omega)) hI'
      have w := ho_w (x := M 483 21 - 1) (by omega) (by omega)
      have w2 := hw.2.1
      have e2 : f_X11_isKnot a0 M = some 1 := by
        unfold f_X11_isKnot f_X11_in
        rw [w]
        repeat (first | rw [if_pos (by omega)] | rw [if_neg (by omega)] | simp only [Option.bind_some, not_true_eq_false, not_false_eq_true, if_true, if_false])
      have e3 : ∀ x, f_X11_in a1 0 6 x = some 1 := fun x => by
        unfold f_X11_in
        repeat (first | rw [if_pos (by omega)] | rw [if_neg (by omega)] | simp only [Option.bind_some, not_true_eq_false, not_false_eq_true, if_true, if_false])
      unfold f_X10_knot f_X11_knot
      rw [e1, e2, e3, eN]
      simp only [Option.bind_some]
      rw [w2, hd]
      have k1 := hk.2.2.2.2.2.2.2.2.2.2.2.1
      have k2 := hk.2.2.2.2.2.2.2.2.2.2.2.2.1
      have : a1 = 0 ∨ a1 = 1 ∨ a1 = 2 ∨ a1 = 3 ∨ a1 = 4 ∨ a1 = 5 ∨ a1 = 6 := by omega
      rcases this with rfl | rfl | rfl | rfl | rfl | rfl | rfl
      · exact ⟨M (46 + 3 * a0) 0, M, by repeat (first | rw [if_pos (by omega)] | rw [if_neg (by omega)] | simp only [Option.bind_some, not_true_eq_false, not_false_eq_true, if_true, if_false]), by rw [hk.1]; repeat (first | rw [if_pos (by omega)] | rw [if_neg (by omega)] | simp only [Option.bind_some, not_true_eq_false, not_false_eq_true, if_true, if_false]), hI'⟩
      · exact ⟨M (46 + 3 * a0) 1, M, by repeat (first | rw [if_pos (by omega)] | rw [if_neg (by omega)] | simp only [Option.bind_some, not_true_eq_false, not_false_eq_true, if_true, if_false]), by rw [hk.2.2.2.1]; repeat (first | rw [if_pos (by omega)] | rw [if_neg (by omega)] | simp only [Option.bind_some, not_true_eq_false, not_false_eq_true, if_true, if_false]), hI'⟩
      · exact ⟨M (46 + 3 * a0) 2, N, by repeat (first | rw [if_pos (by omega)] | rw [if_neg (by omega)] | simp only [Option.bind_some, not_true_eq_false, not_false_eq_true, if_true, if_false]), by repeat (first | rw [if_pos (by omega)] | rw [if_neg (by omega)] | simp only [Option.bind_some, not_true_eq_false, not_false_eq_true, if_true, if_false]), fI⟩
      · exact ⟨M (46 + 3 * a0) 7, M, by repeat (first | rw [if_pos (by omega)] | rw [if_neg (by omega)] | simp only [Option.bind_some, not_true_eq_false, not_false_eq_true, if_true, if_false]), by rw [hk.2.2.2.2.2.2.2.2.2.1]; repeat (first | rw [if_pos (by omega)] | rw [if_neg (by omega)] | simp only [Option.bind_some, not_true_eq_false, not_false_eq_true, if_true, if_false]), hI'⟩
      · exact ⟨M (46 + 3 * a0) 5, M, by repeat (first | rw [if_pos (by omega)] | rw [if_neg (by omega)] | simp only [Option.bind_some, not_true_eq_false, not_false_eq_true, if_true, if_false]), by rw [hk.2.2.2.2.2.2.2.1]; repeat (first | rw [if_pos (by omega)] | rw [if_neg (by omega)] | simp only [Option.bind_some, not_true_eq_false, not_false_eq_true, if_true, if_false]), hI'⟩
      · refine ⟨M (46 + 3 * a0) 3, M, by repeat (first | rw [if_pos (by omega)] | rw [if_neg (by omega)] | simp only [Option.bind_some, not_true_eq_false, not_false_eq_true, if_true, if_false]), ?_, hI'⟩
        by_cases cl : L = 1
        · have k1 := k1 (by omega)
          rw [k1.2.1]
          repeat (first | rw [if_pos (by omega)] | rw [if_neg (by omega)] | simp only [Option.bind_some, not_true_eq_false, not_false_eq_true, if_true, if_false])
        · have k2 := k2 (by omega)
          rw [k2.2.2.1]
          repeat (first | rw [if_pos (by omega)] | rw [if_neg (by omega)] | simp only [Option.bind_some, not_true_eq_false, not_false_eq_true, if_true, if_false])
      · exact ⟨M (46 + 3 * a0) 4, M, by repeat (first | rw [if_pos (by omega)] | rw [if_neg (by omega)] | simp only [Option.bind_some, not_true_eq_false, not_false_eq_true, if_true, if_false]), by rw [hk.2.2.2.2.2.2.1]; repeat (first | rw [if_pos (by omega)] | rw [if_neg (by omega)] | simp only [Option.bind_some, not_true_eq_false, not_false_eq_true, if_true, if_false]), hI'⟩
    · have e1 : f_X9_knotAt a0 M = some (-1) := by
        unfold f_X9_knotAt
        by_cases c : a0 < 0
        · rw [if_pos c]
        · rw [if_neg c]
          by_cases c2 : M 41 0 = 0
          · rw [if_pos (by have := h5.2.2.1 c2; omega)]
          · rw [if_pos (by omega)]
      have e2 : f_X11_isKnot a0 M = some 0 := by
        unfold f_X11_isKnot f_X11_in
        by_cases c2 : M 41 0 = 0
        · rw [if_pos (by omega)]
        · have ht := (h5.2.2.2 (by omega)).1
          have hn := ht.1
          unfold tr_n at hn
          rw [ho_w (x := M 483 21 - 1) (by omega) (by omega)]
          by_cases c : a0 < 0
          · repeat (first | rw [if_pos (by omega)] | rw [if_neg (by omega)] | simp only [Option.bind_some, not_true_eq_false, not_false_eq_true, if_true, if_false])
          · repeat (first | rw [if_pos (by omega)] | rw [if_neg (by omega)] | simp only [Option.bind_some, not_true_eq_false, not_false_eq_true, if_true, if_false])
      have e3 : ∀ x, f_X11_in a1 0 6 x = some 1 := fun x => by
        unfold f_X11_in
        repeat (first | rw [if_pos (by omega)] | rw [if_neg (by omega)] | simp only [Option.bind_some, not_true_eq_false, not_false_eq_true, if_true, if_false])
      refine ⟨-2, M, ?_, ?_, hI'⟩
      · unfold f_X10_knot
        rw [e1]
        repeat (first | rw [if_pos (by omega)] | rw [if_neg (by omega)] | simp only [Option.bind_some, not_true_eq_false, not_false_eq_true, if_true, if_false])
      · unfold f_X11_knot
        rw [e2, e3]
        repeat (first | rw [if_pos (by omega)] | rw [if_neg (by omega)] | simp only [Option.bind_some, not_true_eq_false, not_false_eq_true, if_true, if_false])
  · unfold f_X10_knot f_X11_knot f_X11_in
    refine ⟨-1, M, ?_, ?_, hI'⟩
    · by_cases c : a1 < 0
      · repeat (first | rw [if_pos (by omega)] | rw [if_neg (by omega)] | simp only [Option.bind_some, not_true_eq_false, not_false_eq_true, if_true, if_false])
      · repeat (first | rw [if_pos (by omega)] | rw [if_neg (by omega)] | simp only [Option.bind_some, not_true_eq_false, not_false_eq_true, if_true, if_false])
    · by_cases c : a1 < 0
      · repeat (first | rw [if_pos (by omega)] | rw [if_neg (by omega)] | simp only [Option.bind_some, not_true_eq_false, not_false_eq_true, if_true, if_false])
      · repeat (first | rw [if_pos (by omega)] | rw [if_neg (by omega)] | simp only [Option.bind_some, not_true_eq_false, not_false_eq_true, if_true, if_false])
