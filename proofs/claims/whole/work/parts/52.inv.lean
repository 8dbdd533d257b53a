def iv_prime (M : tp_M) : Prop := (M 483 0 = M 1 0 ∧ M 483 1 = M 1 1 ∧ M 483 2 = M 1 2) ∧ ((M 1 0 = 2 ∧ M 1 1 = 28 ∧ M 1 2 = 268435456) ∨ (M 1 0 = 3 ∧ M 1 1 = 18 ∧ M 1 2 = 387420489) ∨ (M 1 0 = 5 ∧ M 1 1 = 12 ∧ M 1 2 = 244140625) ∨ (M 1 0 = 7 ∧ M 1 1 = 10 ∧ M 1 2 = 282475249))
def iv_tape (M : tp_M) : Prop := 0 ≤ M 0 2 ∧ M 0 2 ≤ 80 ∧ M 483 5 = M 0 2 ∧ ∀ i, 0 ≤ i → i < M 0 2 → M 485 i = M 2 i ∧ 0 ≤ M 2 i ∧ M 2 i ≤ 127
def iv_slots (M : tp_M) : Prop := ∀ s k, 0 ≤ s → s < 5 → 0 ≤ k → k < 9 → M 484 (9 * s + k) = M (4 + s) k ∧ -9999 ≤ M (4 + s) k ∧ M (4 + s) k ≤ 9999
def iv_sheet (M : tp_M) (s : Int) : Prop := M 532 s = M (10 + 2 * s) 0 ∧ -1 ≤ M (10 + 2 * s) 0 ∧ M (10 + 2 * s) 0 ≤ 1 ∧ M 533 s = M (10 + 2 * s) 1 ∧ 0 ≤ M (10 + 2 * s) 1 ∧ M (10 + 2 * s) 1 ≤ 40 ∧ (M (10 + 2 * s) 0 < 0 → M (10 + 2 * s) 1 = 0) ∧ ∀ i, 0 ≤ i → i < 40 → M 534 (40 * s + i) = M (10 + 2 * s + 1) i ∧ -2147483648 ≤ M (10 + 2 * s + 1) i ∧ M (10 + 2 * s + 1) i ≤ 2147483647
def iv_sheets (M : tp_M) : Prop := ∀ s, 0 ≤ s → s < 4 → iv_sheet M s
/-- where the tree lies -/
def tset (c k : Int) : Prop := c = 41 ∨ c = 42 ∨ (46 ≤ c ∧ c ≤ 277) ∨ (c = 483 ∧ (k = 18 ∨ k = 20 ∨ k = 21 ∨ k = 22 ∨ k = 23 ∨ k = 63)) ∨ (c = 488 ∧ k < 360) ∨ (496 ≤ c ∧ c ≤ 520) ∨ c = 531
def tr_knot (M : tp_M) (i : Int) : Prop :=
  M 496 i = M (46 + 3 * i) 0 ∧ 1 ≤ M (46 + 3 * i) 0 ∧ M (46 + 3 * i) 0 ≤ 6 ∧ M 497 i = M (46 + 3 * i) 1 ∧ 0 ≤ M (46 + 3 * i) 1 ∧ M (46 + 3 * i) 1 ≤ 8 ∧
  M 501 i = M (46 + 3 * i) 4 ∧ M 502 i = M (46 + 3 * i) 5 ∧ M 499 i = M (46 + 3 * i) 6 ∧ M 500 i = M (46 + 3 * i) 7 ∧
  (0 ≤ M (46 + 3 * i) 6 ∧ 0 ≤ M (46 + 3 * i) 7 ∧ M (46 + 3 * i) 6 + M (46 + 3 * i) 7 ≤ M 41 6) ∧
  (M (46 + 3 * i) 0 = 1 → M 498 i = -1 ∧ M (46 + 3 * i) 3 = -2 ∧ M (46 + 3 * i) 2 = 1) ∧
  (2 ≤ M (46 + 3 * i) 0 → 0 ≤ M 498 i ∧ M 498 i < i ∧ M (46 + 3 * i) 3 = M 498 i ∧ M (46 + 3 * M 498 i) 0 = M (46 + 3 * i) 0 - 1 ∧ M (46 + 3 * i) 2 = M (46 + 3 * M 498 i) 2 * M 504 i) ∧
  (1 ≤ M (46 + 3 * i) 2 ∧ M (46 + 3 * i) 2 ≤ 8) ∧
  ∀ k, 0 ≤ k → k < 9 → M 488 (9 * i + k) = M (46 + 3 * i + 1) k ∧ M 503 (9 * i + k) = M (46 + 3 * i + 2) k ∧ -1 ≤ M (46 + 3 * i + 2) k ∧ M (46 + 3 * i + 2) k ≤ 100000
def tr_side (M : tp_M) (q : Int) : Prop :=
  M 508 q = M (118 + 3 * q) 0 ∧ M 509 q = M (118 + 3 * q) 1 ∧ M 510 q = M (118 + 3 * q) 2 ∧ M 511 q = M (118 + 3 * q) 3 ∧ M 512 q = M (118 + 3 * q) 4 ∧ M 513 q = M (118 + 3 * q) 5 ∧
  (∀ t, 0 ≤ t → t < 7 → M 514 (7 * q + t) = M (118 + 3 * q + 1) t) ∧ (∀ k, 0 ≤ k → k < 9 → M 515 (9 * q + k) = M (118 + 3 * q + 2) k)
def tr_leaf (M : tp_M) (i : Int) : Prop := M 516 i = M (262 + i) 0 ∧ M 517 i = M (262 + i) 1 ∧ M 518 i = M (262 + i) 2 ∧ M 519 i = M (262 + i) 3 ∧ M 520 i = M (262 + i) 4 ∧ 0 ≤ M (262 + i) 0 ∧ M (262 + i) 0 ≤ 4 ∧ 0 ≤ M (262 + i) 1 ∧ M (262 + i) 1 ≤ 8
def tr_n (M : tp_M) : Prop := (M 483 21 = M 41 2 ∧ 0 ≤ M 41 2 ∧ M 41 2 ≤ 24) ∧ (M 483 22 = M 41 6 ∧ 0 ≤ M 41 6 ∧ M 41 6 ≤ 48) ∧ (M 483 23 = M 41 3 ∧ 0 ≤ M 41 3 ∧ M 41 3 ≤ 16)
/-- the tree as it is told, of both -/
def tr_all (M : tp_M) : Prop := tr_n M ∧ (∀ i, 0 ≤ i → i < M 41 2 → tr_knot M i) ∧ (∀ q, 0 ≤ q → q < M 41 6 → tr_side M q) ∧ (∀ i, 0 ≤ i → i < M 41 3 → tr_leaf M i)
def tr_end (M : tp_M) : Prop := M 483 20 = M 41 1 ∧ M 483 63 = M 41 4 ∧ 0 ≤ M 41 4 ∧ M 41 4 ≤ 80 ∧ ∀ i, 0 ≤ i → i < M 41 4 → M 531 i = M 42 i
def iv_tree (M : tp_M) : Prop := M 483 18 = M 41 0 ∧ (M 41 0 = 0 ∨ M 41 0 = 1) ∧ (M 41 0 = 0 → M 41 2 = 0 ∧ M 41 3 = 0 ∧ M 41 4 = 0) ∧ (M 41 0 = 1 → tr_all M ∧ tr_end M)
def Inv (M : tp_M) : Prop := iv_prime M ∧ iv_tape M ∧ iv_slots M ∧ iv_sheets M ∧ iv_tree M
theorem fr_knot {M N : tp_M} {i : Int} (h : ∀ c k, tset c k → N c k = M c k) (h0 : 0 ≤ i) (h1 : i < 24) (hk : tr_knot M i) : tr_knot N i := by
  have e : ∀ k, N (46 + 3 * i) k = M (46 + 3 * i) k := fun k => h _ _ (by unfold tset; omega)
  have ea : ∀ c k, 496 ≤ c ∧ c ≤ 520 → N c k = M c k := fun c k hc => h _ _ (by unfold tset; omega)
  have e41 : ∀ k, N 41 k = M 41 k := fun k => h _ _ (by unfold tset; omega)
  unfold tr_knot at hk ⊢
  obtain ⟨a1, a2, a3, a4, a5, a6, a7, a8, a9, a10, a11, a12, a13, a14, a15⟩ := hk
  have e2 : 2 ≤ M (46 + 3 * i) 0 → ∀ k, N (46 + 3 * M 498 i) k = M (46 + 3 * M 498 i) k := fun h2 k => h _ _ (by have := a13 h2; unfold tset; omega)
  simp only [e, e41, ea 496 i (by omega), ea 497 i (by omega), ea 498 i (by omega), ea 499 i (by omega), ea 500 i (by omega), ea 501 i (by omega), ea 502 i (by omega), ea 504 i (by omega)]
  refine ⟨a1, a2, a3, a4, a5, a6, a7, a8, a9, a10, a11, a12, fun h2 => ?_, a14, fun k k0 k1 => ?_⟩
  · rw [e2 h2, e2 h2]; exact a13 h2
  · have hk := a15 k k0 k1
    rw [h 488 _ (by unfold tset; omega), h 503 _ (by unfold tset; omega), h (46 + 3 * i + 1) _ (by unfold tset; omega), h (46 + 3 * i + 2) _ (by unfold tset; omega)]
    exact hk
theorem fr_side {M N : tp_M} {q : Int} (h : ∀ c k, tset c k → N c k = M c k) (h0 : 0 ≤ q) (h1 : q < 48) (hk : tr_side M q) : tr_side N q := by
  have e : ∀ k, N (118 + 3 * q) k = M (118 + 3 * q) k := fun k => h _ _ (by unfold tset; omega)
  have e1 : ∀ k, N (118 + 3 * q + 1) k = M (118 + 3 * q + 1) k := fun k => h _ _ (by unfold tset; omega)
  have e2 : ∀ k, N (118 + 3 * q + 2) k = M (118 + 3 * q + 2) k := fun k => h _ _ (by unfold tset; omega)
  have ea : ∀ c k, 496 ≤ c ∧ c ≤ 520 → N c k = M c k := fun c k hc => h _ _ (by unfold tset; omega)
  have e14 : ∀ k, N 514 k = M 514 k := fun k => ea _ _ (by omega)
  have e15 : ∀ k, N 515 k = M 515 k := fun k => ea _ _ (by omega)
  unfold tr_side at hk ⊢
  simp only [e, e1, e2, e14, e15, ea 508 q (by omega), ea 509 q (by omega), ea 510 q (by omega), ea 511 q (by omega), ea 512 q (by omega), ea 513 q (by omega)]
  exact hk
theorem fr_leaf {M N : tp_M} {i : Int} (h : ∀ c k, tset c k → N c k = M c k) (h0 : 0 ≤ i) (h1 : i < 16) (hk : tr_leaf M i) : tr_leaf N i := by
  have e : ∀ k, N (262 + i) k = M (262 + i) k := fun k => h _ _ (by unfold tset; omega)
  have ea : ∀ c k, 496 ≤ c ∧ c ≤ 520 → N c k = M c k := fun c k hc => h _ _ (by unfold tset; omega)
  unfold tr_leaf at hk ⊢
  simp only [e, ea 516 i (by omega), ea 517 i (by omega), ea 518 i (by omega), ea 519 i (by omega), ea 520 i (by omega)]
  exact hk
theorem fr_all {M N : tp_M} (h : ∀ c k, tset c k → N c k = M c k) (hk : tr_all M) : tr_all N := by
  have e41 : ∀ k, N 41 k = M 41 k := fun k => h _ _ (by unfold tset; omega)
  obtain ⟨hn, h1, h2, h3⟩ := hk
  have hn' := hn
  unfold tr_n at hn'
  refine ⟨?_, fun i i0 i1 => ?_, fun i i0 i1 => ?_, fun i i0 i1 => ?_⟩
  · unfold tr_n
    rw [e41, e41, e41, h 483 21 (by unfold tset; omega), h 483 22 (by unfold tset; omega), h 483 23 (by unfold tset; omega)]
    exact hn
  · rw [e41] at i1; exact fr_knot h i0 (by omega) (h1 i i0 i1)
  · rw [e41] at i1; exact fr_side h i0 (by omega) (h2 i i0 i1)
  · rw [e41] at i1; exact fr_leaf h i0 (by omega) (h3 i i0 i1)
theorem fr_tree {M N : tp_M} (h : ∀ c k, tset c k → N c k = M c k) (hk : iv_tree M) : iv_tree N := by
  have e41 : ∀ k, N 41 k = M 41 k := fun k => h _ _ (by unfold tset; omega)
  unfold iv_tree at hk ⊢
  rw [h 483 18 (by unfold tset; omega)]
  simp only [e41]
  refine ⟨hk.1, hk.2.1, hk.2.2.1, fun z => ⟨fr_all h (hk.2.2.2 z).1, ?_⟩⟩
  have := (hk.2.2.2 z).2
  unfold tr_end at this ⊢
  rw [h 483 20 (by unfold tset; omega), h 483 63 (by unfold tset; omega)]
  simp only [e41]
  refine ⟨this.1, this.2.1, this.2.2.1, this.2.2.2.1, fun i i0 i1 => ?_⟩
  rw [h 531 _ (by unfold tset; omega), h 42 _ (by unfold tset; omega)]
  exact this.2.2.2.2 i i0 i1
theorem fr_tape {M N : tp_M} (h0 : N 0 2 = M 0 2) (h1 : N 483 5 = M 483 5) (h2 : ∀ i, N 2 i = M 2 i) (h3 : ∀ i, N 485 i = M 485 i) (hk : iv_tape M) : iv_tape N := by
  unfold iv_tape at hk ⊢
  simp only [h0, h1, h2, h3]; exact hk
theorem fr_slots {M N : tp_M} (h0 : ∀ c k, 4 ≤ c → c ≤ 8 → N c k = M c k) (h1 : ∀ i, N 484 i = M 484 i) (hk : iv_slots M) : iv_slots N := by
  intro s k s0 s1 k0 k1
  rw [h1, h0 _ _ (by omega) (by omega)]
  exact hk s k s0 s1 k0 k1
theorem fr_sheet {M N : tp_M} {s : Int} (h0 : ∀ k, N (10 + 2 * s) k = M (10 + 2 * s) k) (h1 : ∀ k, N (10 + 2 * s + 1) k = M (10 + 2 * s + 1) k) (h2 : N 532 s = M 532 s) (h3 : N 533 s = M 533 s) (h4 : ∀ i, 0 ≤ i → i < 40 → N 534 (40 * s + i) = M 534 (40 * s + i)) (hk : iv_sheet M s) : iv_sheet N s := by
  unfold iv_sheet at hk ⊢
  simp only [h0, h1, h2, h3]
  refine ⟨hk.1, hk.2.1, hk.2.2.1, hk.2.2.2.1, hk.2.2.2.2.1, hk.2.2.2.2.2.1, hk.2.2.2.2.2.2.1, fun i i0 i1 => ?_⟩
  rw [h4 i i0 i1]; exact hk.2.2.2.2.2.2.2 i i0 i1
theorem fr_prime {M N : tp_M} (h0 : ∀ k, 0 ≤ k → k ≤ 2 → N 1 k = M 1 k) (h1 : ∀ k, 0 ≤ k → k ≤ 2 → N 483 k = M 483 k) (hk : iv_prime M) : iv_prime N := by
  unfold iv_prime at hk ⊢
  rw [h0 0 (by omega) (by omega), h0 1 (by omega) (by omega), h0 2 (by omega) (by omega), h1 0 (by omega) (by omega), h1 1 (by omega) (by omega), h1 2 (by omega) (by omega)]
  exact hk
/-- what the calls show -/
def iset (c k : Int) : Prop := tset c k ∨ (c = 1) ∨ (c = 483 ∧ (k = 0 ∨ k = 1 ∨ k = 2 ∨ k = 5)) ∨ (c = 0 ∧ k = 2) ∨ c = 2 ∨ c = 485 ∨ (4 ≤ c ∧ c ≤ 8) ∨ c = 484 ∨ (10 ≤ c ∧ c ≤ 17) ∨ (532 ≤ c ∧ c ≤ 534)
theorem fr_inv {M N : tp_M} (h : ∀ c k, iset c k → N c k = M c k) (hk : Inv M) : Inv N := by
  obtain ⟨a, b, c, d, e⟩ := hk
  refine ⟨fr_prime (fun k k0 k1 => h _ _ (by unfold iset; omega)) (fun k k0 k1 => h _ _ (by unfold iset; omega)) a, fr_tape (h _ _ (by unfold iset; omega)) (h _ _ (by unfold iset; omega)) (fun i => h _ _ (by unfold iset; omega)) (fun i => h _ _ (by unfold iset; omega)) b, fr_slots (fun c k c0 c1 => h _ _ (by unfold iset; omega)) (fun i => h _ _ (by unfold iset; omega)) c, fun s s0 s1 => fr_sheet (fun k => h _ _ (by unfold iset; omega)) (fun k => h _ _ (by unfold iset; omega)) (h _ _ (by unfold iset; omega)) (h _ _ (by unfold iset; omega)) (fun i i0 i1 => h _ _ (by unfold iset; omega)) (d s s0 s1), fr_tree (fun c k hc => h _ _ (Or.inl hc)) e⟩
