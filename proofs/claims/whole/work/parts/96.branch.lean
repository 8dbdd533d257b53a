set_option maxHeartbeats 4000000 in
set_option maxRecDepth 100000 in
theorem s_brLeaf {gk : Int → Int → Int → Int → tp_M → Option tp_M} {rc : Int → tp_M → Option tp_M} {M : tp_M} {r E kn c0 nl : Int} {i : Nat} {l : List Fent} {fe : Fent} {a : Int × Int × Int × Int × Int} (hl : Fl M c0 l) (hi : l[i]? = some fe) (hi9 : i < 9) (hfe : (1 ≤ fe.1 ∧ fe.1 ≤ 8) ∧ (1 ≤ fe.2.1 ∧ fe.2.1 ≤ 8)) (hE : 1 ≤ E ∧ E ≤ 8) (ha : lfO r E kn fe.1 fe.2.1 = some a) (h3 : M 41 3 = nl) (hnl : 0 ≤ nl ∧ nl < 16) : ∃ M', fo_X1_branch_47B gk r E kn c0 rc i M = rc ((i + 1 : Nat) : Int) M' ∧ M' 41 3 = nl + 1 ∧ LfC M' nl a.1 a.2.1 a.2.2.1 a.2.2.2.1 a.2.2.2.2 ∧ ∀ c k, ¬ (c = 41 ∧ k = 3) → c ≠ 262 + nl → M' c k = M c k := by
  obtain ⟨N, n1, n2, n3, n4⟩ := s_addLeaf (M := M) (n := nl) a.1 a.2.1 a.2.2.1 a.2.2.2.1 a.2.2.2.2 h3 hnl
  have il : i < l.length := by obtain ⟨q1, _⟩ := List.getElem?_eq_some_iff.mp hi; exact q1
  obtain ⟨l1, l2, l3⟩ := hl.2 i fe hi
  have g0 : ¬ M c0 0 ≤ (i : Int) := by rw [hl.1]; omega
  have g1 : ¬ (9 : Int) ≤ (i : Int) := by omega
  have i9 : 0 ≤ (i : Int) ∧ (i : Int) < 9 := by omega
  have m1 := mulB (x := (fe.1 : Int)) (y := (fe.2.1 : Int)) (a := 8) (b := 8) (by omega) (by omega)
  have m2 := mulB (x := E) (y := (fe.1 : Int)) (a := 8) (b := 8) (by omega) (by omega)
  have m3 := mulB (x := (fe.2.1 : Int)) (y := E) (a := 8) (b := 8) (by omega) (by omega)
  have m4 := mulB (x := (fe.1 : Int) * (fe.2.1 : Int)) (y := E) (a := 64) (b := 8) (by omega) (by omega)
  have w1 : tp_w ((i : Int) + 1) = ((i + 1 : Nat) : Int) := w_succ (show i < 1000000 by omega)
  refine ⟨N, ?_, n2, n3, n4⟩
  simp only [fo_X1_branch_47B, fo_X1_branch_212, tp_lt, tp_mp, l1, l2, w1]
  rw [if_neg g0, if_neg g1, if_pos i9, if_pos i9]
  unfold lfO at ha
  by_cases c1 : (fe.2.1 : Int) = 1
  · rw [if_pos c1] at ha
    have ea := Option.some.inj ha
    rw [← ea] at n1
    rw [if_neg (fun hh => hh c1), ho_w (by omega) (by omega), n1]; rfl
  · rw [if_neg c1] at ha
    rw [if_pos c1]
    by_cases c2 : 2 ≤ (fe.1 : Int)
    · rw [if_pos c2] at ha
      have ea := Option.some.inj ha
      rw [← ea] at n1
      rw [if_neg (by omega), ho_w (x := (fe.1 : Int) * fe.2.1) (by omega) (by omega), ho_w (by omega) (by omega), n1]; rfl
    · rw [if_neg c2] at ha
      by_cases c3 : r = 6
      · rw [if_pos c3] at ha
        have ea := Option.some.inj ha
        rw [← ea] at n1
        rw [if_pos (by omega), if_neg (fun hh => hh c3), ho_w (by omega) (by omega), n1]; rfl
      · rw [if_neg c3] at ha
        exact absurd ha (by simp)
theorem lfO_none {r E kn deg tm : Int} (h : lfO r E kn deg tm = none) : tm ≠ 1 ∧ deg < 2 ∧ r ≠ 6 := by
  unfold lfO at h
  by_cases c1 : tm = 1
  · rw [if_pos c1] at h; exact absurd h (by simp)
  · rw [if_neg c1] at h
    by_cases c2 : 2 ≤ deg
    · rw [if_pos c2] at h; exact absurd h (by simp)
    · rw [if_neg c2] at h
      by_cases c3 : r = 6
      · rw [if_pos c3] at h; exact absurd h (by simp)
      · exact ⟨c1, by omega, c3⟩
set_option maxHeartbeats 4000000 in
set_option maxRecDepth 100000 in
theorem s_brKnot {gk : Int → Int → Int → Int → tp_M → Option tp_M} {rc : Int → tp_M → Option tp_M} {M : tp_M} {p r E kn c0 : Int} {i : Nat} {l : List Fent} {fe : Fent} (hp : 2 ≤ p ∧ p ≤ 7) (hp0 : M 1 0 = p) (hr : 0 ≤ r ∧ r ≤ 6) (hl : Fl M c0 l) (hi : l[i]? = some fe) (hi9 : i < 9) (hv : 0 ≤ fe.2.2 0 ∧ fe.2.2 0 < p) (ha : lfO r E kn fe.1 fe.2.1 = none) : fo_X1_branch_47B gk r E kn c0 rc i M = (gk (r + 1) fe.2.1 E kn (tp_up M 283 r ((p - fe.2.2 0) % p))).bind fun N => rc ((i + 1 : Nat) : Int) N := by
  obtain ⟨c1, c2, c3⟩ := lfO_none ha
  have il : i < l.length := by obtain ⟨q1, _⟩ := List.getElem?_eq_some_iff.mp hi; exact q1
  obtain ⟨l1, l2, l3⟩ := hl.2 i fe hi
  have e0 := l3 0 (by decide) (by decide)
  have g0 : ¬ M c0 0 ≤ (i : Int) := by rw [hl.1]; omega
  have g1 : ¬ (9 : Int) ≤ (i : Int) := by omega
  have i9 : 0 ≤ (i : Int) ∧ (i : Int) < 9 := by omega
  have r8 : 0 ≤ r ∧ r < 8 := by omega
  have w1 : tp_w ((i : Int) + 1) = ((i + 1 : Nat) : Int) := w_succ (show i < 1000000 by omega)
  have w2 : tp_w (r + 1) = r + 1 := ho_w (by omega) (by omega)
  have w3 : tp_w (p - fe.2.2 0) = p - fe.2.2 0 := ho_w (by omega) (by omega)
  have rm : f_X10_remainder (p - fe.2.2 0) p M = some ((p - fe.2.2 0) % p) := by
    unfold f_X10_remainder
    rw [if_pos (show ¬ p = 0 by omega), if_neg (show ¬ p = 0 by omega), Int.tmod_eq_emod_of_nonneg (by omega)]
  simp only [fo_X1_branch_47B, fo_X1_branch_212, tp_lt, tp_mp, l1, l2, w1, w2, hp0, e0, w3]
  rw [if_neg g0, if_neg g1, if_pos i9, if_pos i9, if_pos c1, if_pos (by omega), if_pos c3, if_pos i9, if_pos (by decide), rm, Option.bind_some, if_pos r8]
theorem s_brEnd {gk : Int → Int → Int → Int → tp_M → Option tp_M} {rc : Int → tp_M → Option tp_M} {M : tp_M} {r E kn c0 : Int} {l : List Fent} (hl : Fl M c0 l) : fo_X1_branch_47B gk r E kn c0 rc (l.length : Int) M = some M := by
  unfold fo_X1_branch_47B
  rw [hl.1, if_pos (Int.le_refl _)]
