def ho {ρ : Type} (o : Option ρ) (Q : ρ → Prop) : Prop := ∃ r, o = some r ∧ Q r
section HO
variable {ρ τ σ : Type} {o : Option ρ} {Q P : ρ → Prop} {Q2 : τ → Prop}
theorem ho_some {r : ρ} (h : Q r) : ho (some r) Q := ⟨r, rfl, h⟩
theorem ho_of {r : ρ} (e : o = some r) (h : Q r) : ho o Q := ⟨r, e, h⟩
theorem ho_bind {f : ρ → Option τ} (h : ho o P) (k : ∀ r, P r → ho (f r) Q2) : ho (o.bind f) Q2 := by
  obtain ⟨r, rfl, hr⟩ := h
  exact k r hr
theorem ho_ite {c : Prop} {i : Decidable c} {a b : Option ρ} (h1 : c → ho a Q) (h2 : ¬ c → ho b Q) : ho (@ite _ c i a b) Q := by
  by_cases h : c
  · rw [if_pos h]; exact h1 h
  · rw [if_neg h]; exact h2 h
theorem ho_chk {c : Prop} {i : Decidable c} {a b : Option ρ} (h : c) (h1 : ho a Q) : ho (@ite _ c i a b) Q := by
  rw [if_pos h]; exact h1
theorem ho_nchk {c : Prop} {i : Decidable c} {a b : Option ρ} (h : ¬ c) (h1 : ho b Q) : ho (@ite _ c i a b) Q := by
  rw [if_neg h]; exact h1
theorem ho_mono (h : ho o P) (k : ∀ r, P r → Q r) : ho o Q := by
  obtain ⟨r, e, hr⟩ := h
  exact ⟨r, e, k r hr⟩
theorem ho_and (h : ho o P) (k : ho o Q) : ho o (fun r => P r ∧ Q r) := by
  obtain ⟨r, e, hr⟩ := h
  obtain ⟨r', e', hr'⟩ := k
  rw [e] at e'
  cases e'
  exact ⟨r, e, hr, hr'⟩
theorem ho_lp {body : (σ → Option ρ) → σ → Option ρ} (I : σ → Prop) (μ : σ → Nat)
    (h : ∀ s, I s → ∀ rc : σ → Option ρ, (∀ s', I s' → μ s' < μ s → ho (rc s') Q) → ho (body rc s) Q) :
    ∀ (n : Nat) (s : σ), I s → μ s < n → ho (tp_lp body n s) Q := by
  intro n
  induction n with
  | zero => intro s _ hn; omega
  | succ n ih =>
    intro s hs hn
    exact h s hs _ (fun s' h1 h2 => ih s' h1 (by omega))
end HO
theorem ho_w {x : Int} (h1 : -2147483648 ≤ x) (h2 : x ≤ 2147483647) : tp_w x = x := by unfold tp_w; omega
theorem ho_wl {x : Int} (h1 : -9223372036854775808 ≤ x) (h2 : x ≤ 9223372036854775807) : tp_wl x = x := by unfold tp_wl; omega
theorem ho_b {x : Int} (h1 : -128 ≤ x) (h2 : x ≤ 127) : tp_b x = x := by unfold tp_b; omega
theorem up_eq {M : tp_M} {c k v c' k' : Int} (h : c' = c ∧ k' = k) : tp_up M c k v c' k' = v := by unfold tp_up; rw [if_pos h]
theorem up_ne {M : tp_M} {c k v c' k' : Int} (h : ¬ (c' = c ∧ k' = k)) : tp_up M c k v c' k' = M c' k' := by unfold tp_up; rw [if_neg h]
theorem up_at (M : tp_M) (c k v c' k' : Int) : tp_up M c k v c' k' = if c' = c ∧ k' = k then v else M c' k' := rfl
theorem cp_in {M : tp_M} {c sp c' dp n a b : Int} (h : a = c' ∧ dp ≤ b ∧ b < dp + n) : tp_cp M c sp c' dp n a b = M c (sp + (b - dp)) := by unfold tp_cp; rw [if_pos h]
theorem cp_out {M : tp_M} {c sp c' dp n a b : Int} (h : ¬ (a = c' ∧ dp ≤ b ∧ b < dp + n)) : tp_cp M c sp c' dp n a b = M a b := by unfold tp_cp; rw [if_neg h]
theorem cp_at (M : tp_M) (c sp c' dp n a b : Int) : tp_cp M c sp c' dp n a b = if a = c' ∧ dp ≤ b ∧ b < dp + n then M c (sp + (b - dp)) else M a b := rfl
theorem ex1 {P : Int → tp_M → Prop} {v : Int} {M : tp_M} (h : P v M) : ∃ r M1, some (v, M) = some (r, M1) ∧ P r M1 := ⟨v, M, rfl, h⟩
theorem ex2 {P : tp_M → Prop} {v r : Int} {M : tp_M} (e : v = r) (h : P M) : ∃ M2, some (v, M) = some (r, M2) ∧ P M2 := ⟨M, by rw [e], h⟩
/-- a call of both -/
def tw (f : tp_M → Option (Int × tp_M)) (g : tp_M → Option (Int × tp_M)) (Inv : tp_M → Prop) (M : tp_M) : Prop := ho (f M) (fun r1 => ho (g r1.2) (fun r2 => r1.1 = r2.1 ∧ Inv r2.2))
theorem tw_out {f g : tp_M → Option (Int × tp_M)} {Inv : tp_M → Prop} {M : tp_M} (h : tw f g Inv M) : ∃ (r : Int) (M1 : tp_M) (M2 : tp_M), f M = some (r, M1) ∧ g M1 = some (r, M2) ∧ Inv M2 := by
  obtain ⟨⟨r, M1⟩, e1, ⟨r2, M2⟩, e2, h1, h2⟩ := h
  refine ⟨r, M1, M2, e1, ?_, h2⟩
  rw [e2]; exact congrArg some (congrArg (·, M2) h1.symm)
def tr_ (f : tp_M → Option Int) (g : tp_M → Option Int) (M : tp_M) : Prop := ho (f M) (fun r1 => ho (g M) (fun r2 => r1 = r2))
theorem tr_out {f g : tp_M → Option Int} {Inv : tp_M → Prop} {M : tp_M} (hI : Inv M) (h : tr_ f g M) : ∃ (r : Int), f M = some r ∧ g M = some r ∧ Inv M := by
  obtain ⟨r, e1, r2, e2, h1⟩ := h
  exact ⟨r, e1, by rw [e2, h1], hI⟩
