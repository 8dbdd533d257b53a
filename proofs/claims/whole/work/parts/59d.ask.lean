/-- letters as digits by 27 -/
def nu (t : Nat → Int) : Nat → Int
  | 0 => 0
  | n + 1 => 27 * nu t n + t n - 96
def lets (t : Nat → Int) (n : Nat) : Prop := ∀ i, i < n → 97 ≤ t i ∧ t i ≤ 122
theorem nu_r {t : Nat → Int} : ∀ n : Nat, lets t n → 0 ≤ nu t n ∧ nu t n + 1 ≤ 27 ^ n ∧ (1 ≤ n → 1 ≤ nu t n) := by
  intro n
  induction n with
  | zero => intro _; unfold nu; rw [Int.pow_zero]; omega
  | succ n ih =>
    intro h
    have a := ih (fun i hi => h i (by omega))
    have b := h n (by omega)
    rw [Int.pow_succ]
    unfold nu
    omega
theorem nu_inj {t s : Nat → Int} : ∀ n m : Nat, lets t n → lets s m → nu t n = nu s m → n = m ∧ ∀ i, i < n → t i = s i := by
  intro n
  induction n with
  | zero =>
    intro m h1 h2 e
    have h3 := (nu_r m h2).2.2
    rw [show nu t 0 = 0 from rfl] at e
    exact ⟨by
      by_cases c : 1 ≤ m
      · have := h3 c; omega
      · omega, fun i hi => by omega⟩
  | succ n ih =>
    intro m h1 h2 e
    cases m with
    | zero =>
      have := (nu_r (n + 1) h1).2.2 (by omega)
      rw [e, show nu s 0 = 0 from rfl] at this
      omega
    | succ m =>
      have a := h1 n (by omega)
      have b := h2 m (by omega)
      unfold nu at e
      obtain ⟨q1, q2⟩ := ih m (fun i hi => h1 i (by omega)) (fun i hi => h2 i (by omega)) (by omega)
      subst q1
      refine ⟨rfl, fun i hi => ?_⟩
      by_cases c : i = n
      · subst c; omega
      · exact q2 i (by omega)
def vl (t : Nat → Int) : Nat → Int
  | 0 => 0
  | j + 1 => if j < 8 ∧ 97 ≤ t j ∧ t j ≤ 122 ∧ 0 ≤ vl t j then 27 * vl t j + t j - 96 else -1
theorem vl_or {t : Nat → Int} : ∀ n : Nat, (vl t n = -1 ∧ ¬ (n ≤ 8 ∧ lets t n)) ∨ (vl t n = nu t n ∧ n ≤ 8 ∧ lets t n) := by
  intro n
  induction n with
  | zero => exact Or.inr ⟨rfl, by omega, fun i hi => by omega⟩
  | succ n ih =>
    unfold vl
    rcases ih with ⟨h1, h2⟩ | ⟨h1, h2, h3⟩
    · rw [if_neg (by omega)]
      exact Or.inl ⟨rfl, fun h => h2 ⟨by omega, fun i hi => h.2 i (by omega)⟩⟩
    · have := nu_r n h3
      by_cases c : n < 8 ∧ 97 ≤ t n ∧ t n ≤ 122
      · rw [if_pos (by omega), h1]
        refine Or.inr ⟨rfl, by omega, fun i hi => ?_⟩
        by_cases e : i = n
        · subst e; omega
        · exact h3 i (by omega)
      · rw [if_neg (by omega)]
        exact Or.inl ⟨rfl, fun h => c ⟨by omega, h.2 n (by omega)⟩⟩
theorem pw27 : ∀ j : Nat, j < 9 → (27 : Int) ^ j ≤ 282429536481 := by decide +kernel
def whr (x : Int) : Int := if ¬ x = 6132907 then if ¬ x = 174879964 then if ¬ x = 5061606 then if ¬ x = 307058 then if ¬ x = 459598 then if ¬ x = 175281103 then if ¬ x = 381245 then if ¬ x = 60203876 then if ¬ x = 8864267 then -1 else 8 else 7 else 6 else 5 else 4 else 3 else 2 else 1 else 0
set_option maxHeartbeats 4000000 in
set_option maxRecDepth 100000 in
theorem s_wordHere {M : tp_M} {n : Nat} (h : M 483 5 = n) (hn : n ≤ 80) : f_X11_wordHere M = some (whr (vl (fun i => M 485 i) n)) := by
  unfold f_X11_wordHere f_X11_wordHere_4
  refine lp_seq (fun j => (vl (fun i => M 485 i) j, (j : Int))) n (fun j hj rc => ?_) (fun rc => ?_) tp_N (by unfold tp_N; omega)
  · simp only [f_X11_wordHere_4B, f_X11_wordHere_63, f_X11_wordHere_66, f_X11_in, tp_lt, w_succ (show j < 1000000 by omega)]
    rw [if_neg (by omega)]
    have ev : vl (fun i => M 485 i) (j + 1) = if j < 8 ∧ 97 ≤ M 485 j ∧ M 485 j ≤ 122 ∧ 0 ≤ vl (fun i => M 485 i) j then 27 * vl (fun i => M 485 i) j + M 485 j - 96 else -1 := rfl
    rw [ev]
    have hr : -1 ≤ vl (fun i => M 485 i) j ∧ (j ≤ 8 → vl (fun i => M 485 i) j ≤ 282429536481) := by
      rcases vl_or (t := fun i => M 485 i) j with h1 | ⟨h1, h2, h3⟩
      · omega
      · have := nu_r j h3
        rw [h1]
        exact ⟨by omega, fun h => by have := pw27 j (by omega); omega⟩
    clear ev
    generalize vl (fun i => M 485 i) j = v at *
    by_cases c8 : (8 : Int) ≤ j
    · repeat (first | rw [if_pos (by omega)] | rw [if_neg (by omega)] | simp only [Option.bind_some, not_true_eq_false, not_false_eq_true, if_true, if_false])
    · by_cases c1 : M 485 j < 97
      · repeat (first | rw [if_pos (by omega)] | rw [if_neg (by omega)] | simp only [Option.bind_some, not_true_eq_false, not_false_eq_true, if_true, if_false])
      · by_cases c2 : 122 < M 485 j
        · repeat (first | rw [if_pos (by omega)] | rw [if_neg (by omega)] | simp only [Option.bind_some, not_true_eq_false, not_false_eq_true, if_true, if_false])
        · by_cases c3 : v < 0
          · repeat (first | rw [if_pos (by omega)] | rw [if_neg (by omega)] | simp only [Option.bind_some, not_true_eq_false, not_false_eq_true, if_true, if_false])
          · have := hr.2 (by omega)
            rw [ho_wl (x := 27 * v) (by omega) (by omega), ho_wl (x := 27 * v + M 485 j) (by omega) (by omega), ho_wl (x := 27 * v + M 485 j - 96) (by omega) (by omega)]
            repeat (first | rw [if_pos (by omega)] | rw [if_neg (by omega)] | simp only [Option.bind_some, not_true_eq_false, not_false_eq_true, if_true, if_false])
  · simp only [f_X11_wordHere_4B]
    rw [if_pos (by omega)]
    unfold whr
    generalize vl (fun i => M 485 i) n = x
    repeat' split
    all_goals rfl
def says (M : tp_M) (w : Nat) (n : Nat) : Prop := tp_txl.getD w 0 = n ∧ ∀ j : Nat, j < n → (tp_txi.getD w []).getD j 0 = M 2 j
set_option maxHeartbeats 4000000 in
set_option maxRecDepth 100000 in
theorem s_says {M : tp_M} {w n : Nat} (hw : w < 9) (h : M 0 2 = n) (hn : n ≤ 80) : (says M w n → f_X10_tapeSays (-4 - (w : Int)) M = some 1) ∧ (¬ says M w n → f_X10_tapeSays (-4 - (w : Int)) M = some 0) := by
  have e1 : (-4 - (-4 - (w : Int))).toNat = w := by omega
  have e2 : f_strlen (-4 - (w : Int)) = some ((tp_txl.getD w 0 : Nat) : Int) := by
    unfold f_strlen
    rw [if_pos (by omega), e1]
  have e3 : ∀ j : Nat, j < tp_txl.getD w 0 → f_charAt (-4 - (w : Int)) j = some ((tp_txi.getD w []).getD j 0) := fun j hj => by
    unfold f_charAt
    rw [e1, if_pos (by omega), Int.toNat_natCast]
  unfold f_X10_tapeSays f_X10_tapeSays_27
  rw [e2]
  simp only [Option.bind_some]
  by_cases c : tp_txl.getD w 0 = n
  · rw [if_neg (by omega), if_pos (by omega)]
    by_cases ca : ∀ j : Nat, j < n → (tp_txi.getD w []).getD j 0 = M 2 j
    · refine ⟨fun _ => ?_, fun hh => absurd ⟨c, ca⟩ hh⟩
      refine lp_seq (fun j => (j : Int)) n (fun j hj rc => ?_) (fun rc => ?_) tp_N (by unfold tp_N; omega)
      · simp only [f_X10_tapeSays_27B, tp_lt, w_succ (show j < 1000000 by omega)]
        rw [if_neg (by omega), e3 j (by omega)]
        simp only [Option.bind_some]
        rw [if_pos (by omega), if_pos (ca j hj)]
      · simp only [f_X10_tapeSays_27B]
        rw [if_pos (by omega)]
    · refine ⟨fun hh => absurd hh.2 ca, fun _ => ?_⟩
      have key : ∀ m : Nat, m ≤ n → (∀ j : Nat, j < m → (tp_txi.getD w []).getD j 0 = M 2 j) ∨ ∃ k : Nat, k < m ∧ (∀ j : Nat, j < k → (tp_txi.getD w []).getD j 0 = M 2 j) ∧ ¬ (tp_txi.getD w []).getD k 0 = M 2 k := by
        intro m
        induction m with
        | zero => intro _; exact Or.inl (fun j hj => by omega)
        | succ m ih =>
          intro hm
          rcases ih (by omega) with h1 | ⟨k, k1, k2, k3⟩
          · by_cases c : (tp_txi.getD w []).getD m 0 = M 2 m
            · refine Or.inl (fun j hj => ?_)
              by_cases e : j = m
              · subst e; exact c
              · exact h1 j (by omega)
            · exact Or.inr ⟨m, by omega, h1, c⟩
          · exact Or.inr ⟨k, by omega, k2, k3⟩
      rcases key n (by omega) with h1 | ⟨k, k1, k2, k3⟩
      · exact absurd h1 ca
      · refine lp_seq (fun j => (j : Int)) k (fun j hj rc => ?_) (fun rc => ?_) tp_N (by unfold tp_N; omega)
        · simp only [f_X10_tapeSays_27B, tp_lt, w_succ (show j < 1000000 by omega)]
          rw [if_neg (by omega), e3 j (by omega)]
          simp only [Option.bind_some]
          rw [if_pos (by omega), if_pos (k2 j hj)]
        · simp only [f_X10_tapeSays_27B, tp_lt]
          rw [if_neg (by omega), e3 k (by omega)]
          simp only [Option.bind_some]
          rw [if_pos (by omega), if_neg k3]
  · rw [if_pos (by omega)]
    exact ⟨fun hh => absurd hh.1 c, fun _ => rfl⟩
/-- the words' numbers -/
def wn (w : Nat) : Int := [6132907, 174879964, 5061606, 307058, 459598, 175281103, 381245, 60203876, 8864267].getD w 0
theorem wn_all : ∀ w : Nat, w < 9 → tp_txl.getD w 0 ≤ 8 ∧ (∀ j : Nat, j < 8 → j < tp_txl.getD w 0 → 97 ≤ (tp_txi.getD w []).getD j 0 ∧ (tp_txi.getD w []).getD j 0 ≤ 122) ∧ nu (fun j => (tp_txi.getD w []).getD j 0) (tp_txl.getD w 0) = wn w := by decide +kernel
theorem says_iff {M : tp_M} {w n : Nat} (hw : w < 9) : says M w n ↔ vl (fun i => M 2 i) n = wn w := by
  obtain ⟨a1, a2, a3⟩ := wn_all w hw
  have hl : lets (fun j => (tp_txi.getD w []).getD j 0) (tp_txl.getD w 0) := fun j hj => a2 j (by omega) hj
  have a4 := (nu_r _ hl).1
  constructor
  · rintro ⟨h1, h2⟩
    have hl' : lets (fun i => M 2 i) n := fun j hj => by show 97 ≤ M 2 j ∧ M 2 j ≤ 122; rw [← h2 j hj]; exact hl j (by omega)
    rcases vl_or (t := fun i => M 2 i) n with ⟨b1, b2⟩ | ⟨b1, b2, b3⟩
    · exact absurd ⟨by omega, hl'⟩ b2
    · rw [b1, ← a3, h1]
      have : ∀ m : Nat, m ≤ n → nu (fun i => M 2 i) m = nu (fun j => (tp_txi.getD w []).getD j 0) m := by
        intro m
        induction m with
        | zero => intro _; rfl
        | succ m ih =>
          intro hm
          unfold nu
          rw [ih (by omega), h2 m (by omega)]
      exact this n (by omega)
  · intro e
    rcases vl_or (t := fun i => M 2 i) n with ⟨b1, b2⟩ | ⟨b1, b2, b3⟩
    · omega
    · obtain ⟨q1, q2⟩ := nu_inj n (tp_txl.getD w 0) b3 hl (by rw [← b1, e, a3])
      exact ⟨q1.symm, fun j hj => (q2 j hj).symm⟩
theorem vl_cong {t s : Nat → Int} : ∀ n : Nat, (∀ i, i < n → t i = s i) → vl t n = vl s n := by
  intro n
  induction n with
  | zero => intro _; rfl
  | succ n ih =>
    intro h
    unfold vl
    rw [ih (fun i hi => h i (by omega)), h n (by omega)]
set_option maxHeartbeats 4000000 in
set_option maxRecDepth 100000 in
theorem whr_n (x : Int) : ∃ f : Nat, f ≤ 9 ∧ (∀ j : Nat, j < f → ¬ x = wn j) ∧ (f < 9 → x = wn f ∧ whr x = f) ∧ (f = 9 → whr x = -1) := by
  unfold whr
  by_cases c0 : x = 6132907
  · exact ⟨0, by omega, fun j hj => by omega, fun _ => ⟨c0, by rw [if_neg (by omega)]; rfl⟩, fun h => by omega⟩
  rw [if_pos c0]
  by_cases c1 : x = 174879964
  · refine ⟨1, by omega, fun j hj => ?_, fun _ => ⟨c1, by rw [if_neg (by omega)]; rfl⟩, fun h => by omega⟩
    rw [show j = 0 by omega]; exact c0
  rw [if_pos c1]
  by_cases c2 : x = 5061606
  · refine ⟨2, by omega, fun j hj => ?_, fun _ => ⟨c2, by rw [if_neg (by omega)]; rfl⟩, fun h => by omega⟩
    have : j = 0 ∨ j = 1 := by omega
    rcases this with rfl | rfl
    · exact c0
    · exact c1
  rw [if_pos c2]
  by_cases c3 : x = 307058
  · refine ⟨3, by omega, fun j hj => ?_, fun _ => ⟨c3, by rw [if_neg (by omega)]; rfl⟩, fun h => by omega⟩
    have : j = 0 ∨ j = 1 ∨ j = 2 := by omega
    rcases this with rfl | rfl | rfl
    · exact c0
    · exact c1
    · exact c2
  rw [if_pos c3]
  by_cases c4 : x = 459598
  · refine ⟨4, by omega, fun j hj => ?_, fun _ => ⟨c4, by rw [if_neg (by omega)]; rfl⟩, fun h => by omega⟩
    have : j = 0 ∨ j = 1 ∨ j = 2 ∨ j = 3 := by omega
    rcases this with rfl | rfl | rfl | rfl
    · exact c0
    · exact c1
    · exact c2
    · exact c3
  rw [if_pos c4]
  by_cases c5 : x = 175281103
  · refine ⟨5, by omega, fun j hj => ?_, fun _ => ⟨c5, by rw [if_neg (by omega)]; rfl⟩, fun h => by omega⟩
    have : j = 0 ∨ j = 1 ∨ j = 2 ∨ j = 3 ∨ j = 4 := by omega
    rcases this with rfl | rfl | rfl | rfl | rfl
    · exact c0
    · exact c1
    · exact c2
    · exact c3
    · exact c4
  rw [if_pos c5]
  by_cases c6 : x = 381245
  · refine ⟨6, by omega, fun j hj => ?_, fun _ => ⟨c6, by rw [if_neg (by omega)]; rfl⟩, fun h => by omega⟩
    have : j = 0 ∨ j = 1 ∨ j = 2 ∨ j = 3 ∨ j = 4 ∨ j = 5 := by omega
    rcases this with rfl | rfl | rfl | rfl | rfl | rfl
    · exact c0
    · exact c1
    · exact c2
    · exact c3
    · exact c4
    · exact c5
  rw [if_pos c6]
  by_cases c7 : x = 60203876
  · refine ⟨7, by omega, fun j hj => ?_, fun _ => ⟨c7, by rw [if_neg (by omega)]; rfl⟩, fun h => by omega⟩
    have : j = 0 ∨ j = 1 ∨ j = 2 ∨ j = 3 ∨ j = 4 ∨ j = 5 ∨ j = 6 := by omega
    rcases this with rfl | rfl | rfl | rfl | rfl | rfl | rfl
    · exact c0
    · exact c1
    · exact c2
    · exact c3
    · exact c4
    · exact c5
    · exact c6
  rw [if_pos c7]
  by_cases c8 : x = 8864267
  · refine ⟨8, by omega, fun j hj => ?_, fun _ => ⟨c8, by rw [if_neg (by omega)]; rfl⟩, fun h => by omega⟩
    have : j = 0 ∨ j = 1 ∨ j = 2 ∨ j = 3 ∨ j = 4 ∨ j = 5 ∨ j = 6 ∨ j = 7 := by omega
    rcases this with rfl | rfl | rfl | rfl | rfl | rfl | rfl | rfl
    · exact c0
    · exact c1
    · exact c2
    · exact c3
    · exact c4
    · exact c5
    · exact c6
    · exact c7
  rw [if_pos c8]
  refine ⟨9, by omega, fun j hj => ?_, fun h => by omega, fun _ => rfl⟩
  have : j = 0 ∨ j = 1 ∨ j = 2 ∨ j = 3 ∨ j = 4 ∨ j = 5 ∨ j = 6 ∨ j = 7 ∨ j = 8 := by omega
  rcases this with rfl | rfl | rfl | rfl | rfl | rfl | rfl | rfl | rfl
  · exact c0
  · exact c1
  · exact c2
  · exact c3
  · exact c4
  · exact c5
  · exact c6
  · exact c7
  · exact c8
theorem s_word (w : Nat) (hw : w < 9) (M : tp_M) : f_X10_word w M = some (-4 - (w : Int)) := by
  unfold f_X10_word
  have : w = 0 ∨ w = 1 ∨ w = 2 ∨ w = 3 ∨ w = 4 ∨ w = 5 ∨ w = 6 ∨ w = 7 ∨ w = 8 := by omega
  rcases this with rfl | rfl | rfl | rfl | rfl | rfl | rfl | rfl | rfl <;> rfl
theorem treev_cong {M N : tp_M} (h : ∀ c k, 41 ≤ c → c ≤ 277 → N c k = M c k) {a : Int} {n l : Nat} (hn : n ≤ 24) (hl : l ≤ 16) : treev N a n l = treev M a n l := by
  unfold treev
  rw [h 41 _ (by omega) (by omega), h 41 _ (by omega) (by omega), h 41 _ (by omega) (by omega), h 41 _ (by omega) (by omega)]
  rw [(fo_cong (f := hIx N) (g := hIx M) (fun _ => True) n trivial (fun j v hj _ => ⟨by unfold hIx; rw [h _ _ (by omega) (by omega)], trivial⟩)).1]
  rw [(fo_cong (f := hLv N) (g := hLv M) (fun _ => True) n trivial (fun j v hj _ => ⟨by unfold hLv; rw [h _ _ (by omega) (by omega)], trivial⟩)).1]
  rw [(fo_cong (f := hOp N) (g := hOp M) (fun _ => True) l trivial (fun j v hj _ => ⟨by unfold hOp; rw [h _ _ (by omega) (by omega), h _ _ (by omega) (by omega)], trivial⟩)).1]
  rw [(fo_cong (f := hRa N) (g := hRa M) (fun _ => True) l trivial (fun j v hj _ => ⟨by unfold hRa; rw [h _ _ (by omega) (by omega), h _ _ (by omega) (by omega)], trivial⟩)).1]
set_option maxHeartbeats 4000000 in
set_option maxRecDepth 100000 in
theorem ok_ask : op_ask Inv := by
  intro M hI
  have hI' := hI
  obtain ⟨h1, h2, h3, h4, h5⟩ := hI
  have h2' := h2
  unfold iv_tape at h2
  obtain ⟨n, en⟩ : ∃ n : Nat, M 0 2 = n := ⟨(M 0 2).toNat, by omega⟩
  have ev : vl (fun i => M 485 i) n = vl (fun i => M 2 i) n := vl_cong n (fun i hi => (h2.2.2.2 i (by omega) (by omega)).1)
  obtain ⟨f, f1, f2, f3, f4⟩ := whr_n (vl (fun i => M 2 i) n)
  have e1 : f_X10_ask M = f_X10_ask_25 f M := by
    unfold f_X10_ask f_X10_ask_2
    refine lp_seq (fun j => (j : Int)) f (fun j hj rc => ?_) (fun rc => ?_) tp_N (by unfold tp_N; omega)
    · simp only [f_X10_ask_2B, tp_lt, w_succ (show j < 1000000 by omega)]
      rw [if_neg (by omega), s_word j (by omega)]
      simp only [Option.bind_some]
      rw [(s_says (w := j) (by omega) en (by omega)).2 (fun h => f2 j hj ((says_iff (by omega)).mp h))]
      repeat (first | rw [if_pos (by omega)] | rw [if_neg (by omega)] | simp only [Option.bind_some, not_true_eq_false, not_false_eq_true, if_true, if_false])
    · simp only [f_X10_ask_2B]
      by_cases c : f = 9
      · rw [if_pos (by omega)]
      · rw [if_neg (by omega), s_word f (by omega)]
        simp only [Option.bind_some]
        rw [(s_says (w := f) (by omega) en (by omega)).1 ((says_iff (by omega)).mpr (f3 (by omega)).1)]
        simp only [Option.bind_some]
        rw [if_pos (by omega)]
  have e2 : f_X11_wordHere (tp_up M 0 2 0) = some (whr (vl (fun i => M 2 i) n)) := by
    have := s_wordHere (M := tp_up M 0 2 0) (n := n) (by rw [up_ne (by omega)]; omega) (by omega)
    rw [this, ← ev]
    have e : (fun i : Nat => tp_up M 0 2 0 485 i) = fun i : Nat => M 485 i := by funext i; exact up_ne (by omega)
    rw [e]
  have fI : Inv (tp_up (tp_up M 0 2 0) 483 5 0) := by
    refine ⟨fr_prime (fun k k0 k1 => by simp (disch := omega) only [up_eq, up_ne, ho_w, ho_wl, ho_b]) (fun k k0 k1 => by simp (disch := omega) only [up_eq, up_ne, ho_w, ho_wl, ho_b]) h1, ?_, fr_slots (fun c k c0 c1 => by simp (disch := omega) only [up_eq, up_ne, ho_w, ho_wl, ho_b]) (fun i => by simp (disch := omega) only [up_eq, up_ne, ho_w, ho_wl, ho_b]) h3, fun s s0 s1 => fr_sheet (fun k => by simp (disch := omega) only [up_eq, up_ne, ho_w, ho_wl, ho_b]) (fun k => by simp (disch := omega) only [up_eq, up_ne, ho_w, ho_wl, ho_b]) (by simp (disch := omega) only [up_eq, up_ne, ho_w, ho_wl, ho_b]) (by simp (disch := omega) only [up_eq, up_ne, ho_w, ho_wl, ho_b]) (fun i i0 i1 => by simp (disch := omega) only [up_eq, up_ne, ho_w, ho_wl, ho_b]) (h4 s s0 s1), fr_tree (fun c k hc => by unfold tset at hc; simp (disch := omega) only [up_eq, up_ne, ho_w, ho_wl, ho_b]) h5⟩
    unfold iv_tape
    simp (disch := omega) only [up_eq, up_ne, ho_w, ho_wl, ho_b]
    exact ⟨by omega, by omega, trivial, fun i i0 i1 => by omega⟩
  rw [e1]
  unfold f_X10_ask_25 f_X11_ask
  simp only [tp_mp]
  by_cases c : f = 9
  · refine ⟨-3, tp_up M 0 2 0, tp_up (tp_up M 0 2 0) 483 5 0, by rw [if_neg (by omega)], ?_, fI⟩
    rw [e2, f4 c]
    rfl
  · have f3 := f3 (by omega)
    by_cases c8 : f = 8
    · refine ⟨M 1 0, tp_up M 0 2 0, tp_up (tp_up M 0 2 0) 483 5 0, by rw [if_pos (by omega), if_neg (by omega), up_ne (by omega)], ?_, fI⟩
      rw [e2, f3.2]
      simp only [Option.bind_some]
      rw [if_pos (by omega), if_neg (by omega)]
      unfold iv_prime at h1
      simp (disch := omega) only [up_eq, up_ne, ho_w, ho_wl, ho_b]
      rw [h1.1.1]
    · have ht : iv_tree (tp_up (tp_up M 0 2 0) 483 5 0) := fI.2.2.2.2
      unfold iv_tree at ht
      have q : ∀ c k, 41 ≤ c → c ≤ 277 → tp_up (tp_up M 0 2 0) 483 5 0 c k = tp_up M 0 2 0 c k := fun c k c0 c1 => up_ne (by omega)
      generalize hN : tp_up (tp_up M 0 2 0) 483 5 0 = N at *
      have hc1 : ¬ (f : Int) = 9 := by omega
      have hc2 : ¬ (f : Int) = 8 := by omega
      by_cases cz : N 41 0 = 0
      · refine ⟨-2, tp_up M 0 2 0, N, ?_, ?_, fI⟩
        · have : f_X10_tree f (tp_up M 0 2 0) = some (-2) := by
            unfold f_X10_tree
            rw [if_neg (by omega), if_pos (by omega), if_neg (by rw [← q 41 0 (by omega) (by omega)]; omega)]
          rw [this]
          repeat (first | rw [if_pos (by omega)] | rw [if_neg (by omega)] | simp only [Option.bind_some, not_true_eq_false, not_false_eq_true, if_true, if_false])
        · rw [e2, f3.2, hN]
          repeat (first | rw [if_pos (by omega)] | rw [if_neg (by omega)] | simp only [Option.bind_some, not_true_eq_false, not_false_eq_true, if_true, if_false])
      · have ht' := ht.2.2.2 (by omega)
        have hn := ht'.1.1
        unfold tr_n at hn
        obtain ⟨m, em⟩ : ∃ n : Nat, N 41 2 = n := ⟨(N 41 2).toNat, by omega⟩
        obtain ⟨l, el⟩ : ∃ n : Nat, N 41 3 = n := ⟨(N 41 3).toNat, by omega⟩
        refine ⟨treev N f m l, tp_up M 0 2 0, N, ?_, ?_, fI⟩
        · rw [s_tree (a := f) (n := m) (l := l) (by omega) (by rw [← q 41 0 (by omega) (by omega)]; omega) (by rw [← q 41 2 (by omega) (by omega)]; omega) (by omega) (by rw [← q 41 3 (by omega) (by omega)]; omega) (by omega), treev_cong q (by omega) (by omega)]
          repeat (first | rw [if_pos (by omega)] | rw [if_neg (by omega)] | simp only [Option.bind_some, not_true_eq_false, not_false_eq_true, if_true, if_false])
        · rw [e2, f3.2, hN]
          simp only [Option.bind_some]
          rw [s_asked (n := m) (l := l) (by omega) (by omega) (by omega) (by omega), tree_ask (by omega) ht'.1 ht'.2 em el]
          repeat (first | rw [if_pos (by omega)] | rw [if_neg (by omega)] | simp only [Option.bind_some, not_true_eq_false, not_false_eq_true, if_true, if_false])
