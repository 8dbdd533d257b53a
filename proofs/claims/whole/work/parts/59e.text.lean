def rhr (t : Int → Int) (n at_ : Int) : Int := if at_ < n then t at_ else -1
def memA (A : tp_M) (at_ : Int) (S : Int → Int) : tp_M := tp_wr (tp_up A 18 3 at_) 19 0 9 S
def memB (B : tp_M) (at_ : Int) (S : Int → Int) : tp_M := tp_wr (tp_up B 483 6 at_) 486 0 9 S
def udS (S : Int → Int) (k v : Int) : Int → Int := fun x => if x = k then v else S x
theorem mA_up {A : tp_M} {a b : Int} {S : Int → Int} : tp_up (memA A a S) 18 3 b = memA A b S := by
  funext x y
  unfold memA
  by_cases h : x = 18 ∧ y = 3
  · rw [up_eq h, wr_out (by omega), up_eq h]
  · rw [up_ne h]
    by_cases h2 : x = 19 ∧ 0 ≤ y ∧ y < 0 + 9
    · rw [wr_in h2, wr_in h2]
    · rw [wr_out h2, wr_out h2, up_ne h, up_ne h]
theorem mB_up {A : tp_M} {a b : Int} {S : Int → Int} : tp_up (memB A a S) 483 6 b = memB A b S := by
  funext x y
  unfold memB
  by_cases h : x = 483 ∧ y = 6
  · rw [up_eq h, wr_out (by omega), up_eq h]
  · rw [up_ne h]
    by_cases h2 : x = 486 ∧ 0 ≤ y ∧ y < 0 + 9
    · rw [wr_in h2, wr_in h2]
    · rw [wr_out h2, wr_out h2, up_ne h, up_ne h]
theorem mA_s {A : tp_M} {a k v : Int} {S : Int → Int} (h : 0 ≤ k ∧ k < 9) : tp_up (memA A a S) 19 k v = memA A a (udS S k v) := by unfold memA udS; rw [wr_up h]
theorem mB_s {A : tp_M} {a k v : Int} {S : Int → Int} (h : 0 ≤ k ∧ k < 9) : tp_up (memB A a S) 486 k v = memB A a (udS S k v) := by unfold memB udS; rw [wr_up h]
theorem mA_3 {A : tp_M} {a : Int} {S : Int → Int} : memA A a S 18 3 = a := by unfold memA; rw [wr_out (by omega), up_eq ⟨rfl, rfl⟩]
theorem mB_6 {A : tp_M} {a : Int} {S : Int → Int} : memB A a S 483 6 = a := by unfold memB; rw [wr_out (by omega), up_eq ⟨rfl, rfl⟩]
theorem mA_o {A : tp_M} {a c k : Int} {S : Int → Int} (h : ¬ (c = 18 ∧ k = 3) ∧ ¬ c = 19) : memA A a S c k = A c k := by unfold memA; rw [wr_out (by omega), up_ne h.1]
theorem mB_o {A : tp_M} {a c k : Int} {S : Int → Int} (h : ¬ (c = 483 ∧ k = 6) ∧ ¬ c = 486) : memB A a S c k = A c k := by unfold memB; rw [wr_out (by omega), up_ne h.1]
theorem mA_19 {A : tp_M} {a k : Int} {S : Int → Int} (h : 0 ≤ k ∧ k < 9) : memA A a S 19 k = S k := by unfold memA; rw [wr_in (by omega), show k - 0 = k by omega]
theorem mB_486 {A : tp_M} {a k : Int} {S : Int → Int} (h : 0 ≤ k ∧ k < 9) : memB A a S 486 k = S k := by unfold memB; rw [wr_in (by omega), show k - 0 = k by omega]
def okA (A : tp_M) (n : Int) : Prop := A 18 1 = 2 ∧ A 18 2 = n ∧ 0 ≤ n ∧ n ≤ 80 ∧ ∀ i, 0 ≤ i → i < n → 0 ≤ A 2 i ∧ A 2 i ≤ 127
def okB (A B : tp_M) (n : Int) : Prop := B 483 5 = n ∧ ∀ i, 0 ≤ i → i < n → B 485 i = A 2 i
theorem tg2 : tp_tg 2 = 20 ∧ tp_al 2 = 80 := by decide +kernel
theorem s_next {A : tp_M} {n a : Int} {S : Int → Int} (h : okA A n) (ha : 0 ≤ a) : f_X8_next (memA A a S) = some (rhr (A 2) n a) := by
  obtain ⟨h1, h2, h3, h4, h5⟩ := h
  unfold f_X8_next rhr
  rw [mA_3, mA_o (k := 1) (by omega), mA_o (k := 2) (by omega), h1, h2, mA_o (c := 2) (by omega), tg2.1, tg2.2, if_neg (by omega), if_neg (by omega)]
  by_cases c : a < n
  · rw [if_neg (by omega), if_pos rfl, if_neg (by omega), if_pos rfl, if_pos (by omega), if_pos c]
  · rw [if_pos (by omega), if_neg c]
theorem s_here {A B : tp_M} {n a : Int} {S : Int → Int} (h : okA A n) (hB : okB A B n) (ha : 0 ≤ a) : f_X11_here (memB B a S) = some (rhr (A 2) n a) := by
  obtain ⟨h1, h2, h3, h4, h5⟩ := h
  unfold f_X11_here rhr
  rw [mB_6, mB_o (c := 483) (by omega), hB.1]
  by_cases c : a < n
  · rw [if_neg (by omega), if_pos (by omega), if_pos c, mB_o (c := 485) (by omega), hB.2 a ha c]
  · rw [if_pos (by omega), if_neg c]
theorem rhr_r {A : tp_M} {n a : Int} (h : okA A n) (ha : 0 ≤ a) : (rhr (A 2) n a = -1 ∧ n ≤ a) ∨ (0 ≤ rhr (A 2) n a ∧ rhr (A 2) n a ≤ 127 ∧ a < n) := by
  unfold rhr
  by_cases c : a < n
  · rw [if_pos c]; have := h.2.2.2.2 a ha c; omega
  · rw [if_neg c]; omega
def pw (t : Int → Int) (n a : Int) : Int × Int := if ¬ rhr t n a = 120 then (-1, a) else if ¬ rhr t n (a + 1) = 94 then (1, a + 1) else if 48 ≤ rhr t n (a + 2) ∧ rhr t n (a + 2) ≤ 56 then (rhr t n (a + 2) - 48, a + 3) else (-1, a + 2)
theorem pw_r {A : tp_M} {n a : Int} (h : okA A n) (ha : 0 ≤ a ∧ a ≤ n) : a ≤ (pw (A 2) n a).2 ∧ (pw (A 2) n a).2 ≤ n ∧ -1 ≤ (pw (A 2) n a).1 ∧ (pw (A 2) n a).1 ≤ 8 ∧ (0 ≤ (pw (A 2) n a).1 → a < (pw (A 2) n a).2) := by
  have r0 := rhr_r h ha.1
  have r1 := rhr_r h (show 0 ≤ a + 1 by omega)
  have r2 := rhr_r h (show 0 ≤ a + 2 by omega)
  unfold pw
  by_cases c0 : rhr (A 2) n a = 120
  · rw [if_neg (by omega)]
    by_cases c1 : rhr (A 2) n (a + 1) = 94
    · rw [if_neg (by omega)]
      by_cases c2 : 48 ≤ rhr (A 2) n (a + 2) ∧ rhr (A 2) n (a + 2) ≤ 56
      · rw [if_pos c2]; simp only; omega
      · rw [if_neg c2]; simp only; omega
    · rw [if_pos c1]; simp only; omega
  · rw [if_pos c0]; simp only; omega
set_option maxHeartbeats 4000000 in
set_option maxRecDepth 100000 in
theorem s_readPower {A : tp_M} {n a v : Int} {S : Int → Int} (h : okA A n) (ha : 0 ≤ a ∧ a ≤ n) (hS : ∀ k, 0 ≤ k → k < 9 → -2000000 ≤ S k ∧ S k ≤ 2000000) (hv : -9999 ≤ v ∧ v ≤ 9999) : f_X8_readPower v (memA A a S) = if (pw (A 2) n a).1 < 0 then some (0, memA A (pw (A 2) n a).2 S) else some (1, memA A (pw (A 2) n a).2 (udS S (pw (A 2) n a).1 (S (pw (A 2) n a).1 + v))) := by
  have r0 := rhr_r h ha.1
  have r1 := rhr_r h (show 0 ≤ a + 1 by omega)
  have r2 := rhr_r h (show 0 ≤ a + 2 by omega)
  have h4 := h.2.2.2.1
  have e71 : ∀ (b q : Int), 0 ≤ q ∧ q < 9 → f_X8_readPower_71 v q (memA A b S) = some (1, memA A b (udS S q (S q + v))) := fun b q hq => by
    have := hS q hq.1 hq.2
    unfold f_X8_readPower_71
    simp only [tp_mp]
    rw [if_neg (by omega), if_pos (by omega), if_pos hq, if_pos hq, mA_19 hq, ho_w (by omega) (by omega), mA_s hq]
  unfold f_X8_readPower f_X8_atDigit
  simp only [tp_mp, tp_lt]
  rw [s_next h ha.1]
  simp only [Option.bind_some]
  by_cases c0 : rhr (A 2) n a = 120
  · rw [if_pos c0, mA_3, ho_w (x := a + 1) (by omega) (by omega), mA_up, s_next h (by omega)]
    simp only [Option.bind_some]
    by_cases c1 : rhr (A 2) n (a + 1) = 94
    · rw [if_neg (show ¬ ¬ rhr (A 2) n (a + 1) = 94 by omega), mA_3, ho_w (x := a + 1 + 1) (by omega) (by omega), mA_up, s_next h (by omega), show a + 1 + 1 = a + 2 by omega]
      simp only [Option.bind_some]
      by_cases c2 : 48 ≤ rhr (A 2) n (a + 2) ∧ rhr (A 2) n (a + 2) ≤ 56
      · have ep : pw (A 2) n a = (rhr (A 2) n (a + 2) - 48, a + 3) := by unfold pw; repeat (first | rw [if_pos (by omega)] | rw [if_neg (by omega)] | simp only [Option.bind_some, not_true_eq_false, not_false_eq_true, if_true, if_false])
        rw [ep, mA_3, ho_w (x := a + 2 + 1) (by omega) (by omega), mA_up, ho_w (x := rhr (A 2) n (a + 2) - 48) (by omega) (by omega), e71 _ _ (by omega), show a + 2 + 1 = a + 3 by omega]
        repeat (first | rw [if_pos (by omega)] | rw [if_neg (by omega)] | simp only [Option.bind_some, not_true_eq_false, not_false_eq_true, if_true, if_false])
      · have ep : pw (A 2) n a = (-1, a + 2) := by unfold pw; repeat (first | rw [if_pos (by omega)] | rw [if_neg (by omega)] | simp only [Option.bind_some, not_true_eq_false, not_false_eq_true, if_true, if_false])
        rw [ep]
        by_cases c3 : rhr (A 2) n (a + 2) < 48
        · repeat (first | rw [if_pos (by omega)] | rw [if_neg (by omega)] | simp only [Option.bind_some, not_true_eq_false, not_false_eq_true, if_true, if_false])
        · repeat (first | rw [if_pos (by omega)] | rw [if_neg (by omega)] | simp only [Option.bind_some, not_true_eq_false, not_false_eq_true, if_true, if_false])
    · have ep : pw (A 2) n a = (1, a + 1) := by unfold pw; repeat (first | rw [if_pos (by omega)] | rw [if_neg (by omega)] | simp only [Option.bind_some, not_true_eq_false, not_false_eq_true, if_true, if_false])
      rw [ep, if_pos c1, e71 _ _ (by omega)]
      repeat (first | rw [if_pos (by omega)] | rw [if_neg (by omega)] | simp only [Option.bind_some, not_true_eq_false, not_false_eq_true, if_true, if_false])
  · have ep : pw (A 2) n a = (-1, a) := by unfold pw; repeat (first | rw [if_pos (by omega)] | rw [if_neg (by omega)] | simp only [Option.bind_some, not_true_eq_false, not_false_eq_true, if_true, if_false])
    rw [ep]
    repeat (first | rw [if_pos (by omega)] | rw [if_neg (by omega)] | simp only [Option.bind_some, not_true_eq_false, not_false_eq_true, if_true, if_false])
theorem s_takes {A B : tp_M} {n a c : Int} {S : Int → Int} (h : okA A n) (hB : okB A B n) (ha : 0 ≤ a ∧ a ≤ n) : f_X11_takes c (memB B a S) = if rhr (A 2) n a = c then some (1, memB B (a + 1) S) else some (0, memB B a S) := by
  have h4 := h.2.2.2.1
  unfold f_X11_takes f_X11_takes_13
  simp only [tp_mp]
  rw [s_here h hB ha.1]
  simp only [Option.bind_some]
  rw [mB_6, mB_up, mB_up, ho_w (x := a + 0) (by omega) (by omega), ho_w (x := a + 1) (by omega) (by omega)]
  by_cases e : rhr (A 2) n a = c
  · repeat (first | rw [if_pos (by omega)] | rw [if_neg (by omega)] | simp only [Option.bind_some, not_true_eq_false, not_false_eq_true, if_true, if_false])
    simp [e]
  · rw [show a + 0 = a by omega]
    repeat (first | rw [if_pos (by omega)] | rw [if_neg (by omega)] | simp only [Option.bind_some, not_true_eq_false, not_false_eq_true, if_true, if_false])
    simp [e]
set_option maxHeartbeats 4000000 in
set_option maxRecDepth 100000 in
theorem s_readsPower {A B : tp_M} {n a : Int} {S : Int → Int} (h : okA A n) (hB : okB A B n) (ha : 0 ≤ a ∧ a ≤ n) : f_X11_readsPower (memB B a S) = some ((pw (A 2) n a).1, memB B (pw (A 2) n a).2 S) := by
  have r0 := rhr_r h ha.1
  have r1 := rhr_r h (show 0 ≤ a + 1 by omega)
  have r2 := rhr_r h (show 0 ≤ a + 2 by omega)
  have h4 := h.2.2.2.1
  unfold f_X11_readsPower pw f_X11_in
  simp only [tp_mp]
  rw [s_takes h hB ha]
  by_cases c0 : rhr (A 2) n a = 120
  · rw [if_pos c0, if_neg (show ¬ ¬ rhr (A 2) n a = 120 by omega)]
    simp only [Option.bind_some]
    rw [if_pos (show ¬ (1 : Int) = 0 by omega), s_takes h hB (by omega)]
    by_cases c1 : rhr (A 2) n (a + 1) = 94
    · rw [if_pos c1, if_neg (show ¬ ¬ rhr (A 2) n (a + 1) = 94 by omega)]
      simp only [Option.bind_some]
      rw [if_pos (show ¬ (1 : Int) = 0 by omega), show a + 1 + 1 = a + 2 by omega, s_here h hB (by omega)]
      simp only [Option.bind_some]
      by_cases c2 : 48 ≤ rhr (A 2) n (a + 2) ∧ rhr (A 2) n (a + 2) ≤ 56
      · have e : rhr (A 2) n (a + 2) = A 2 (a + 2) := by unfold rhr; rw [if_pos (by omega)]
        rw [if_pos c2, if_neg (by omega), if_neg (by omega)]
        simp only [Option.bind_some]
        rw [if_pos (show ¬ (1 : Int) = 0 by omega), mB_6, mB_up, mB_6, ho_w (x := a + 2 + 1) (by omega) (by omega), ho_w (x := a + 2 + 1 - 1) (by omega) (by omega), show a + 2 + 1 - 1 = a + 2 by omega, if_pos (by omega), mB_o (by omega), hB.2 _ (by omega) (by omega), ho_w (by omega) (by omega), e, show a + 2 + 1 = a + 3 by omega]
      · rw [if_neg c2]
        by_cases c3 : rhr (A 2) n (a + 2) < 48
        · rw [if_pos c3]; rfl
        · rw [if_neg c3, if_pos (by omega)]; rfl
    · rw [if_neg c1, if_pos (show ¬ rhr (A 2) n (a + 1) = 94 by omega)]; rfl
  · rw [if_neg c0, if_pos c0]; rfl
def dgs (t : Int → Int) (n : Int) : Nat → Int → Int → Int × Int
  | 0, v, a => (v, a)
  | k + 1, v, a => if 48 ≤ rhr t n a ∧ rhr t n a ≤ 57 then dgs t n k (10 * v + rhr t n a - 48) (a + 1) else (v, a)
theorem p10 : ∀ k : Nat, k < 5 → (1 : Int) ≤ 10 ^ k ∧ (10 : Int) ^ k ≤ 10000 := by decide +kernel
theorem dgs_r {A : tp_M} {n : Int} (h : okA A n) : ∀ (k : Nat) (v a : Int), 0 ≤ a → a ≤ n → 0 ≤ v → a ≤ (dgs (A 2) n k v a).2 ∧ (dgs (A 2) n k v a).2 ≤ n ∧ 0 ≤ (dgs (A 2) n k v a).1 ∧ (dgs (A 2) n k v a).1 + 1 ≤ (v + 1) * 10 ^ k := by
  intro k
  induction k with
  | zero => intro v a a0 a1 v0; unfold dgs; simp only [Int.pow_zero]; omega
  | succ k ih =>
    intro v a a0 a1 v0
    have r := rhr_r h a0
    have pk : (1 : Int) ≤ 10 ^ k := by
      have : (0 : Int) < 10 ^ k := Int.pow_pos (by omega)
      omega
    unfold dgs
    by_cases c : 48 ≤ rhr (A 2) n a ∧ rhr (A 2) n a ≤ 57
    · rw [if_pos c]
      have := ih (10 * v + rhr (A 2) n a - 48) (a + 1) (by omega) (by omega) (by omega)
      refine ⟨by omega, by omega, by omega, ?_⟩
      have e : (v + 1) * 10 ^ (k + 1) = (10 * v + 10) * 10 ^ k := by rw [Int.pow_succ, Int.mul_comm (10 ^ k) 10, ← Int.mul_assoc]; congr 1; omega
      rw [e]
      have : (10 * v + rhr (A 2) n a - 48 + 1) * 10 ^ k ≤ (10 * v + 10) * 10 ^ k := Int.mul_le_mul_of_nonneg_right (by omega) (by omega)
      omega
    · rw [if_neg c]
      simp only
      refine ⟨by omega, by omega, by omega, ?_⟩
      have e : (v + 1) * 10 ^ (k + 1) = (10 * v + 10) * 10 ^ k := by rw [Int.pow_succ, Int.mul_comm (10 ^ k) 10, ← Int.mul_assoc]; congr 1; omega
      rw [e]
      have : (10 * v + 10) * 1 ≤ (10 * v + 10) * 10 ^ k := Int.mul_le_mul_of_nonneg_left pk (by omega)
      omega
/-- a term: power (-1: none), number, where it ends -/
def tm (t : Int → Int) (n a : Int) : Int × Int × Int := if 48 ≤ rhr t n a ∧ rhr t n a ≤ 57 then (if rhr t n (dgs t n 4 0 a).2 = 42 then ((pw t n ((dgs t n 4 0 a).2 + 1)).1, (dgs t n 4 0 a).1, (pw t n ((dgs t n 4 0 a).2 + 1)).2) else (0, (dgs t n 4 0 a).1, (dgs t n 4 0 a).2)) else ((pw t n a).1, 1, (pw t n a).2)
theorem dgs_1 {A : tp_M} {n : Int} (h : okA A n) {a : Int} (ha : 0 ≤ a) (c : 48 ≤ rhr (A 2) n a ∧ rhr (A 2) n a ≤ 57) : a + 1 ≤ (dgs (A 2) n 4 0 a).2 := by
  have e : dgs (A 2) n 4 0 a = dgs (A 2) n 3 (10 * 0 + rhr (A 2) n a - 48) (a + 1) := by
    show (if 48 ≤ rhr (A 2) n a ∧ rhr (A 2) n a ≤ 57 then _ else _) = _
    rw [if_pos c]
  rw [e]
  have r := rhr_r h ha
  have := dgs_r h 3 (10 * 0 + rhr (A 2) n a - 48) (a + 1) (by omega) (by omega) (by omega)
  omega
theorem tm_r {A : tp_M} {n a : Int} (h : okA A n) (ha : 0 ≤ a ∧ a ≤ n) : a ≤ (tm (A 2) n a).2.2 ∧ (tm (A 2) n a).2.2 ≤ n ∧ (tm (A 2) n a).1 ≤ 8 ∧ 0 ≤ (tm (A 2) n a).2.1 ∧ (tm (A 2) n a).2.1 ≤ 9999 ∧ (0 ≤ (tm (A 2) n a).1 → a < (tm (A 2) n a).2.2) := by
  unfold tm
  by_cases c : 48 ≤ rhr (A 2) n a ∧ rhr (A 2) n a ≤ 57
  · rw [if_pos c]
    have d := dgs_r h 4 0 a ha.1 ha.2 (by omega)
    have d1 := dgs_1 h ha.1 c
    have e10 : (10 : Int) ^ 4 = 10000 := by decide
    rw [e10] at d
    have r := rhr_r h (a := (dgs (A 2) n 4 0 a).2) (by omega)
    by_cases c2 : rhr (A 2) n (dgs (A 2) n 4 0 a).2 = 42
    · rw [if_pos c2]
      have p := pw_r h (a := (dgs (A 2) n 4 0 a).2 + 1) (by omega)
      simp only; omega
    · rw [if_neg c2]
      simp only; omega
  · rw [if_neg c]
    have p := pw_r h ha
    simp only; omega
def okS (S : Int → Int) (b : Int) : Prop := ∀ k, 0 ≤ k → k < 9 → -(9999 * b) ≤ S k ∧ S k ≤ 9999 * b
set_option maxHeartbeats 4000000 in
set_option maxRecDepth 100000 in
theorem s_readTerm {A : tp_M} {n a sg : Int} {S : Int → Int} (h : okA A n) (ha : 0 ≤ a ∧ a ≤ n) (hS : okS S 100) (hsg : sg = 1 ∨ sg = -1) : f_X8_readTerm sg (memA A a S) = if (tm (A 2) n a).1 < 0 then some (0, memA A (tm (A 2) n a).2.2 S) else some (1, memA A (tm (A 2) n a).2.2 (udS S (tm (A 2) n a).1 (S (tm (A 2) n a).1 + sg * (tm (A 2) n a).2.1))) := by
  have h4 := h.2.2.2.1
  have hS' : ∀ k, 0 ≤ k → k < 9 → -2000000 ≤ S k ∧ S k ≤ 2000000 := fun k k0 k1 => by have := hS k k0 k1; omega
  have r0 := rhr_r h ha.1
  have ed : ∀ b, 0 ≤ b → f_X8_atDigit 57 (memA A b S) = some (if 48 ≤ rhr (A 2) n b ∧ rhr (A 2) n b ≤ 57 then 1 else 0) := fun b hb => by
    unfold f_X8_atDigit
    rw [s_next h hb]
    simp only [Option.bind_some]
    by_cases c : rhr (A 2) n b < 48
    · rw [if_pos c, if_neg (by omega)]
    · rw [if_neg c]
      by_cases c2 : 57 < rhr (A 2) n b
      · rw [if_pos c2, if_neg (by omega)]
      · rw [if_neg c2, if_pos (by omega)]
  have e62 : ∀ b v, 0 ≤ b → b ≤ n → 0 ≤ v → v ≤ 9999 → f_X8_readTerm_62 sg v (memA A b S) = if rhr (A 2) n b = 42 then (if (pw (A 2) n (b + 1)).1 < 0 then some (0, memA A (pw (A 2) n (b + 1)).2 S) else some (1, memA A (pw (A 2) n (b + 1)).2 (udS S (pw (A 2) n (b + 1)).1 (S (pw (A 2) n (b + 1)).1 + sg * v)))) else some (1, memA A b (udS S 0 (S 0 + sg * v))) := fun b v b0 b1 v0 v1 => by
    have hsv : -9999 ≤ sg * v ∧ sg * v ≤ 9999 := by rcases hsg with rfl | rfl <;> omega
    have r := rhr_r h b0
    have s0 := hS' 0 (by omega) (by omega)
    unfold f_X8_readTerm_62
    simp only [tp_mp]
    rw [s_next h b0]
    simp only [Option.bind_some]
    by_cases c : rhr (A 2) n b = 42
    · rw [if_neg (by omega), if_pos c, mA_3, ho_w (x := b + 1) (by omega) (by omega), mA_up, ho_w (x := sg * v) (by omega) (by omega), s_readPower h (by omega) hS' hsv]
      by_cases c2 : (pw (A 2) n (b + 1)).1 < 0
      · rw [if_pos c2]; rfl
      · rw [if_neg c2]; rfl
    · rw [if_pos c, if_neg c, if_pos (by omega), if_pos (by omega), mA_19 (by omega), ho_w (x := sg * v) (by omega) (by omega), ho_w (by omega) (by omega), mA_s (by omega)]
  have e19 : ∀ (k : Nat) (N : Nat) (v b : Int), k ≤ 4 → k < N → 0 ≤ b → b ≤ n → 0 ≤ v → (v + 1) * 10 ^ k ≤ 10000 → tp_lp (σ := Int × Int × tp_M) (fun rec_ u => f_X8_readTerm_19B sg (fun x2' x3' M0' => rec_ (x2', x3', M0')) u.1 u.2.1 u.2.2) N (v, 4 - (k : Int), memA A b S) = f_X8_readTerm_62 sg (dgs (A 2) n k v b).1 (memA A (dgs (A 2) n k v b).2 S) := by
    intro k
    induction k with
    | zero =>
      intro N v b _ hN b0 b1 v0 v1
      obtain ⟨N, rfl⟩ : ∃ k, N = k + 1 := ⟨N - 1, by omega⟩
      show f_X8_readTerm_19B sg _ _ _ _ = _
      unfold f_X8_readTerm_19B
      simp only
      rw [if_pos (by omega)]; rfl
    | succ k ih =>
      intro N v b hk hN b0 b1 v0 v1
      obtain ⟨N, rfl⟩ : ∃ k, N = k + 1 := ⟨N - 1, by omega⟩
      show f_X8_readTerm_19B sg _ _ _ _ = _
      have r := rhr_r h b0
      have pk : (1 : Int) ≤ 10 ^ k := by
        have : (0 : Int) < 10 ^ k := Int.pow_pos (by omega)
        omega
      have e : (v + 1) * 10 ^ (k + 1) = (10 * v + 10) * 10 ^ k := by rw [Int.pow_succ, Int.mul_comm (10 ^ k) 10, ← Int.mul_assoc]; congr 1; omega
      have vb : (10 * v + 10) * 1 ≤ (10 * v + 10) * 10 ^ k := Int.mul_le_mul_of_nonneg_left pk (by omega)
      simp only [f_X8_readTerm_19B, tp_lt, tp_mp]
      rw [if_neg (by omega), ed b b0]
      simp only [Option.bind_some]
      conv => rhs; unfold dgs
      by_cases c : 48 ≤ rhr (A 2) n b ∧ rhr (A 2) n b ≤ 57
      · rw [if_pos c, if_pos c, if_neg (by omega), s_next h b0]
        simp only [Option.bind_some]
        rw [mA_3, ho_w (x := b + 1) (by omega) (by omega), mA_up, ho_w (x := 10 * v) (by omega) (by omega), ho_w (x := 10 * v + rhr (A 2) n b) (by omega) (by omega), ho_w (x := 10 * v + rhr (A 2) n b - 48) (by omega) (by omega), ho_w (x := 4 - ((k + 1 : Nat) : Int) + 1) (by omega) (by omega), show 4 - ((k + 1 : Nat) : Int) + 1 = 4 - (k : Int) by omega]
        have : (10 * v + rhr (A 2) n b - 48 + 1) * 10 ^ k ≤ (10 * v + 10) * 10 ^ k := Int.mul_le_mul_of_nonneg_right (by omega) (by omega)
        exact ih N _ _ (by omega) (by omega) (by omega) (by omega) (by omega) (by omega)
      · rw [if_neg c, if_neg c, if_pos rfl]
  unfold f_X8_readTerm tm f_X8_readTerm_19
  rw [ed a ha.1]
  simp only [Option.bind_some]
  by_cases c : 48 ≤ rhr (A 2) n a ∧ rhr (A 2) n a ≤ 57
  · have d := dgs_r h 4 0 a ha.1 ha.2 (by omega)
    have e10 : (10 : Int) ^ 4 = 10000 := by decide
    have := e19 4 tp_N 0 a (by omega) (by unfold tp_N; omega) ha.1 ha.2 (by omega) (by rw [e10]; omega)
    rw [show (4 : Int) - ((4 : Nat) : Int) = 0 by omega] at this
    rw [e10] at d
    rw [if_pos c, if_pos c, if_pos (by omega), this, e62 _ _ (by omega) (by omega) (by omega) (by omega)]
    by_cases c2 : rhr (A 2) n (dgs (A 2) n 4 0 a).2 = 42
    · rw [if_pos c2, if_pos c2]
    · rw [if_neg c2, if_neg c2, if_neg (by omega)]
  · rw [if_neg c, if_neg c, if_neg (by omega), s_readPower h ha hS' (by rcases hsg with rfl | rfl <;> omega)]
    by_cases c2 : (pw (A 2) n a).1 < 0
    · rw [if_pos c2, if_pos c2]; rfl
    · rw [if_neg c2, if_neg c2, Int.mul_one]; rfl
def tB2 (sg : Int) : (Int × Int × tp_M → Option (Int × tp_M)) → Int × Int × tp_M → Option (Int × tp_M) := fun rec_ u => f_X11_readsTerm_16B sg (fun x2' x4' M0' => rec_ (x2', x4', M0')) u.1 u.2.1 u.2.2
set_option maxHeartbeats 4000000 in
set_option maxRecDepth 100000 in
theorem s_readsTerm {A B : tp_M} {n a sg : Int} {S : Int → Int} (h : okA A n) (hB : okB A B n) (ha : 0 ≤ a ∧ a ≤ n) (hS : okS S 100) (hsg : sg = 1 ∨ sg = -1) : f_X11_readsTerm sg (memB B a S) = if (tm (A 2) n a).1 < 0 then some (0, memB B (tm (A 2) n a).2.2 S) else some (1, memB B (tm (A 2) n a).2.2 (udS S (tm (A 2) n a).1 (S (tm (A 2) n a).1 + sg * (tm (A 2) n a).2.1))) := by
  have h4 := h.2.2.2.1
  have ed : ∀ b, 0 ≤ b → f_X11_isDigit (memB B b S) = some (if 48 ≤ rhr (A 2) n b ∧ rhr (A 2) n b ≤ 57 then 1 else 0) := fun b hb => by
    unfold f_X11_isDigit f_X11_in
    rw [s_here h hB hb]
    simp only [Option.bind_some]
    by_cases c : rhr (A 2) n b < 48
    · rw [if_pos c, if_neg (by omega)]; rfl
    · rw [if_neg c]
      by_cases c2 : 57 < rhr (A 2) n b
      · rw [if_pos c2, if_neg (by omega)]; rfl
      · rw [if_neg c2, if_pos (by omega)]; rfl
  have e89 : ∀ b v q, q ≤ 8 → 0 ≤ v → v ≤ 9999 → f_X11_readsTerm_89 sg v q (memB B b S) = if q < 0 then some (0, memB B b S) else some (1, memB B b (udS S q (S q + sg * v))) := fun b v q q1 v0 v1 => by
    have hsv : -9999 ≤ sg * v ∧ sg * v ≤ 9999 := by rcases hsg with rfl | rfl <;> omega
    unfold f_X11_readsTerm_89
    simp only [tp_mp]
    by_cases c : q < 0
    · rw [if_neg (by omega), if_pos c]
    · have s0 := hS q (by omega) (by omega)
      rw [if_pos (by omega), if_neg c, if_pos (by omega), if_pos (by omega), mB_486 (by omega), ho_w (x := sg * v) (by omega) (by omega), ho_wl (by omega) (by omega), mB_s (by omega)]
  have e63 : ∀ b v, 0 ≤ b → b ≤ n → 0 ≤ v → v ≤ 9999 → f_X11_readsTerm_63 sg v (memB B b S) = if rhr (A 2) n b = 42 then (if (pw (A 2) n (b + 1)).1 < 0 then some (0, memB B (pw (A 2) n (b + 1)).2 S) else some (1, memB B (pw (A 2) n (b + 1)).2 (udS S (pw (A 2) n (b + 1)).1 (S (pw (A 2) n (b + 1)).1 + sg * v)))) else some (1, memB B b (udS S 0 (S 0 + sg * v))) := fun b v b0 b1 v0 v1 => by
    have r := rhr_r h b0
    unfold f_X11_readsTerm_63 f_X11_readsTerm_80
    rw [s_takes h hB ⟨b0, b1⟩]
    by_cases c : rhr (A 2) n b = 42
    · have p := pw_r h (a := b + 1) (by omega)
      rw [if_pos c, if_pos c]
      simp only [Option.bind_some]
      rw [if_neg (show ¬ (1 : Int) = 0 by omega), s_readsPower h hB (by omega)]
      simp only [Option.bind_some]
      rw [e89 _ _ _ (by omega) v0 v1]
    · rw [if_neg c, if_neg c]
      simp only [Option.bind_some]
      rw [e89 _ _ _ (by omega) v0 v1]
      repeat (first | rw [if_pos (by omega)] | rw [if_neg (by omega)] | simp only [Option.bind_some, not_true_eq_false, not_false_eq_true, if_true, if_false])
  have e16 : ∀ (k : Nat) (N : Nat) (v b : Int), k ≤ 4 → k < N → 0 ≤ b → b ≤ n → 0 ≤ v → (v + 1) * 10 ^ k ≤ 10000 → tp_lp (tB2 sg) N (v, 4 - (k : Int), memB B b S) = f_X11_readsTerm_63 sg (dgs (A 2) n k v b).1 (memB B (dgs (A 2) n k v b).2 S) := by
    intro k
    induction k with
    | zero =>
      intro N v b _ hN b0 b1 v0 v1
      obtain ⟨N, rfl⟩ : ∃ k, N = k + 1 := ⟨N - 1, by omega⟩
      show tB2 sg (tp_lp (tB2 sg) N) _ = _
      simp only [tB2, f_X11_readsTerm_16B]
      rw [if_pos (by omega)]; rfl
    | succ k ih =>
      intro N v b hk hN b0 b1 v0 v1
      obtain ⟨N, rfl⟩ : ∃ k, N = k + 1 := ⟨N - 1, by omega⟩
      show tB2 sg (tp_lp (tB2 sg) N) _ = _
      have key := ih N
      generalize tp_lp (tB2 sg) N = R at key ⊢
      have r := rhr_r h b0
      have pk : (1 : Int) ≤ 10 ^ k := by
        have : (0 : Int) < 10 ^ k := Int.pow_pos (by omega)
        omega
      have e : (v + 1) * 10 ^ (k + 1) = (10 * v + 10) * 10 ^ k := by rw [Int.pow_succ, Int.mul_comm (10 ^ k) 10, ← Int.mul_assoc]; congr 1; omega
      have vb : (10 * v + 10) * 1 ≤ (10 * v + 10) * 10 ^ k := Int.mul_le_mul_of_nonneg_left pk (by omega)
      simp only [tB2, f_X11_readsTerm_16B, tp_lt, tp_mp, mB_6]
      rw [if_neg (by omega), ed b b0]
      simp only [Option.bind_some]
      conv => rhs; unfold dgs
      by_cases c : 48 ≤ rhr (A 2) n b ∧ rhr (A 2) n b ≤ 57
      · have eh : rhr (A 2) n b = A 2 b := by unfold rhr; rw [if_pos (by omega)]
        rw [if_pos c, if_pos c, if_neg (show ¬ (1 : Int) = 0 by omega), if_pos (by omega), mB_o (c := 485) (by omega), hB.2 b b0 (by omega), ← eh, ho_w (x := b + 1) (by omega) (by omega), mB_up, ho_w (x := 10 * v) (by omega) (by omega), ho_w (x := 10 * v + rhr (A 2) n b) (by omega) (by omega), ho_w (x := 10 * v + rhr (A 2) n b - 48) (by omega) (by omega), ho_w (x := 4 - ((k + 1 : Nat) : Int) + 1) (by omega) (by omega), show 4 - ((k + 1 : Nat) : Int) + 1 = 4 - (k : Int) by omega]
        have : (10 * v + rhr (A 2) n b - 48 + 1) * 10 ^ k ≤ (10 * v + 10) * 10 ^ k := Int.mul_le_mul_of_nonneg_right (by omega) (by omega)
        exact key _ _ (by omega) (by omega) (by omega) (by omega) (by omega) (by omega)
      · rw [if_neg c, if_neg c, if_pos rfl]
  unfold f_X11_readsTerm tm f_X11_readsTerm_16
  rw [ed a ha.1]
  simp only [Option.bind_some]
  by_cases c : 48 ≤ rhr (A 2) n a ∧ rhr (A 2) n a ≤ 57
  · have d := dgs_r h 4 0 a ha.1 ha.2 (by omega)
    have e10 : (10 : Int) ^ 4 = 10000 := by decide
    have := e16 4 tp_N 0 a (by omega) (by unfold tp_N; omega) ha.1 ha.2 (by omega) (by rw [e10]; omega)
    rw [show (4 : Int) - ((4 : Nat) : Int) = 0 by omega] at this
    unfold tB2 at this
    rw [e10] at d
    rw [if_pos c, if_pos c, if_neg (by omega), this, e63 _ _ (by omega) (by omega) (by omega) (by omega)]
    by_cases c2 : rhr (A 2) n (dgs (A 2) n 4 0 a).2 = 42
    · rw [if_pos c2, if_pos c2]
    · rw [if_neg c2, if_neg c2, if_neg (by omega)]
  · have p := pw_r h ha
    rw [if_neg c, if_neg c, if_pos rfl, s_readsPower h hB ha]
    simp only [Option.bind_some]
    rw [e89 _ _ _ (by omega) (by omega) (by omega)]
