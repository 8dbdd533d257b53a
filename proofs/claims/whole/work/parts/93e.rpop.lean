theorem s_stepPop {R : tp_M} {r kn : Int} (hr : 1 ≤ r ∧ r ≤ 6) (h61 : R 483 61 = r) (h28 : R 528 r = kn) (hk : 0 ≤ kn ∧ kn < 40) (he : R 529 r = R 500 kn) : f_X11_steps R = some (tp_up R 483 61 (r - 1)) := by
  have r8 : 0 ≤ r ∧ r < 8 := by omega
  have w1 : tp_w (r - 1) = r - 1 := ho_w (by omega) (by omega)
  unfold f_X11_steps
  simp only [tp_lt, tp_mp, h61, h28, he, w1]
  rw [if_pos r8, if_neg (show ¬ r ≤ 0 by omega), if_pos r8, if_pos hk, if_neg (fun hh => hh trivial)]
/-- so many steps lead from one memory to another -/
def rn : Nat → tp_M → tp_M → Prop
  | 0, M, N => M = N
  | n + 1, M, N => 0 ≤ M 483 61 ∧ ∃ K, f_X11_steps M = some K ∧ rn n K N
theorem rn_add {a : Nat} : ∀ {b : Nat} {M K N : tp_M}, rn a M K → rn b K N → rn (a + b) M N := by
  induction a with
  | zero => intro b M K N h1 h2; rw [Nat.zero_add]; have h1' : M = K := h1; rw [h1']; exact h2
  | succ a ih =>
    intro b M K N h1 h2
    obtain ⟨h0, V, v1, v2⟩ := h1
    rw [Nat.succ_add]
    exact ⟨h0, V, v1, ih v2 h2⟩
theorem rn_one {M N : tp_M} (h0 : 0 ≤ M 483 61) (h : f_X11_steps M = some N) : rn 1 M N := ⟨h0, N, h, rfl⟩
def gB106 : (tp_M → Option (Int × tp_M)) → tp_M → Option (Int × tp_M) := fun rec_ u => f_X11_grow_106B (fun M0' => rec_ M0') u
theorem rn_lp : ∀ (n N : Nat) {M K : tp_M}, rn n M K → n < N → tp_lp gB106 N M = tp_lp gB106 (N - n) K := by
  intro n
  induction n with
  | zero => intro N M K h _; have h' : M = K := h; rw [h', Nat.sub_zero]
  | succ n ih =>
    intro N M K h hN
    obtain ⟨h0, V, v1, v2⟩ := h
    rw [lp_1 (by omega), show N - (n + 1) = N - 1 - n by omega, ← ih (N - 1) v2 (by omega)]
    generalize tp_lp gB106 (N - 1) = Rc
    simp only [gB106, f_X11_grow_106B]
    rw [if_neg (show ¬ M 483 61 < 0 by omega), v1, Option.bind_some]
