set_option maxHeartbeats 4000000 in
set_option maxRecDepth 100000 in
theorem s_brLeaf {gk : Int → Int → Int → Int → tp_M → Option tp_M} {rc : Int → tp_M → Option tp_M} {M : tp_M} {r E kn c0 nl : Int} {i : Nat} {l : List Fent} {fe : Fent} {a : Int × Int × Int × Int × Int} (hl : Fl M c0 l) (hi : l[i]? = some fe) (hi9 : i < 9) (hfe : (1 ≤ fe.1 ∧ fe.1 ≤ 8) ∧ (1 ≤ fe.2.1 ∧ fe.2.1 ≤ 8)) (hE : 1 ≤ E ∧ E ≤ 8) (ha : lfO r E kn fe.1 fe.2.1 = some a) (h3 : M 41 3 = nl) (hnl : 0 ≤ nl ∧ nl < 16) : ∃ M', fo_X1_branch_47B gk r E kn c0 rc i M = rc ((i + 1 : Nat) : Int) M' ∧ M' 41 3 = nl + 1 ∧ LfC M' nl a.1 a.2.1 a.2.2.1 a.2.2.2.1 a.2.2.2.2 ∧ ∀ c k, ¬ (c = 41 ∧ k = 3) → c ≠ 262 + nl → M' c k = M c k := by
  obtain ⟨N, n1, n2, n3, n4⟩ := s_addLeaf (M := M) (n := nl) a.1 a.2.1 a.2.2.1 a.2.2.2.1 a.2.2.2.2 h3 hnl
  have il : i < l.length := by obtain ⟨q1, _⟩ := List.getElem?_eq_some_iff.mp hi; exact q1
  obtain ⟨l1, l2, l3⟩ := hl.2 i fe hi
  have g0 : ¬ M c0 0 ≤ (i : Int) := by rw [hl.1]; omega
  have g1 : ¬ (9 : Int) ≤ (i : Int) := by omega
  have i9 : 0 ≤ (i : Int) ∧ (i : Int) < 9 := by omega
  have m1 := mulB (x := (fe.1 : Int)) (y := (fe.2.1 : Int)) (a := 8) (b := 8) (by omega) (by omega)
  have m2 := mulB (x := E) (y := (fe.1 : Int)) (a := 8) (b := 8) (by omega) (by omega)
  have m3 := mulB (x := (fe.2.1 : Int)) (y := E) (a := 8) (b := 8) (by omega) (by omega)
  have m4 := mulB (x := (fe.1 : Int) * (fe.2.1 : Int)) (y := E) (a := 64) (b := 8) (by omega) (by omega)
  have w1 : tp_w ((i : Int) + 1) = ((i + 1 : Nat) : Int) := w_succ (show i < 1000000 by omega)
  refine ⟨N, ?_, n2, n3, n4⟩
  simp only [fo_X1_branch_47B, fo_X1_branch_212, tp_lt, tp_mp, l1, l2, w1]
  rw [if_neg g0, if_neg g1, if_pos i9, if_pos i9]
  unfold lfO at ha
  by_cases c1 : (fe.2.1 : Int) = 1
  · rw [if_pos c1] at ha
    have ea := Option.some.inj ha
    rw [← ea] at n1
    rw [if_neg (fun hh => hh c1), ho_w (by omega) (by omega), n1]; rfl
  · rw [if_neg c1] at ha
    rw [if_pos c1]
    by_cases c2 : 2 ≤ (fe.1 : Int)
    · rw [if_pos c2] at ha
      have ea := Option.some.inj ha
      rw [← ea] at n1
      rw [if_neg (by omega), ho_w (x := (fe.1 : Int) * fe.2.1) (by omega) (by omega), ho_w (by omega) (by omega), n1]; rfl
    · rw [if_neg c2] at ha
      by_cases c3 : r = 6
      · rw [if_pos c3] at ha
        have ea := Option.some.inj ha
        rw [← ea] at n1
        rw [if_pos (by omega), if_neg (fun hh => hh c3), ho_w (by omega) (by omega), n1]; rfl
      · rw [if_neg c3] at ha
        exact absurd ha (by simp)
