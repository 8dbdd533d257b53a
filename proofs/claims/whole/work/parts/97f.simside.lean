/-- a knot's sides, as the class holds them -/
def KnS (C : tp_M) (p K ρ kn ns0 : Int) (D e s rt : Int → Int) (mo : Int → Int → Int) (Y w : Int → Int) (l : List (Int × Int)) : Prop := (C (46 + 3 * kn) 0 = ρ ∧ C (46 + 3 * kn) 2 = D ρ ∧ C (46 + 3 * kn) 6 = ns0 ∧ C (46 + 3 * kn) 7 = l.length) ∧ ∀ (j : Nat) ab, l[j]? = some ab → SdC C w (lft ρ e s) ρ e s (ns0 + j) ab ∧ ∀ k, 0 ≤ k → k < 9 → C (118 + 3 * (ns0 + j) + 2) k = rsR p K.toNat ρ D e s rt mo Y w (lft ρ e s) ab k
theorem KnS_fr {C C' : tp_M} {p K ρ ρ' kn ns0 nk ns nl : Int} {D e s rt : Int → Int} {mo : Int → Int → Int} {Y w : Int → Int} {l : List (Int × Int)} (h : KnS C p K ρ kn ns0 D e s rt mo Y w l) (hk : 0 ≤ kn ∧ kn < nk) (hs : 0 ≤ ns0 ∧ ns0 + l.length ≤ ns) (hc : ∀ c k, kpC ρ' nk ns nl c k → C' c k = C c k) : KnS C' p K ρ kn ns0 D e s rt mo Y w l := by
  obtain ⟨⟨a1, a2, a3, a4⟩, a5⟩ := h
  have f : ∀ k, C' (46 + 3 * kn) k = C (46 + 3 * kn) k := fun k => hc _ _ (Or.inr (Or.inr (Or.inr (Or.inl ⟨by omega, by omega⟩))))
  refine ⟨⟨by rw [f]; exact a1, by rw [f]; exact a2, by rw [f]; exact a3, by rw [f]; exact a4⟩, fun j ab hj => ?_⟩
  have jl : j < l.length := by obtain ⟨q1, _⟩ := List.getElem?_eq_some_iff.mp hj; exact q1
  have g : ∀ c k, 118 + 3 * (ns0 + j) ≤ c → c ≤ 118 + 3 * (ns0 + j) + 2 → C' c k = C c k := fun c k y0 y1 => hc _ _ (Or.inr (Or.inr (Or.inr (Or.inr (Or.inl ⟨by omega, by omega⟩)))))
  obtain ⟨⟨b1, b2⟩, b3⟩ := a5 j ab hj
  exact ⟨⟨fun f f0 f1 => by rw [g _ _ (by omega) (by omega)]; exact b1 f f0 f1, fun k k0 k1 => by rw [g _ _ (by omega) (by omega)]; exact b2 k k0 k1⟩, fun k k0 k1 => by rw [g _ _ (by omega) (by omega)]; exact b3 k k0 k1⟩
def g171 (br : Int → Int → Int → Int → tp_M → Option tp_M) (x1 x3 x5 x6 : Int) : (Int × tp_M → Option tp_M) → Int × tp_M → Option tp_M := fun rec_ u => fo_X1_growKnot_171B br x1 x3 x5 x6 (fun x7' M0' => rec_ (x7', M0')) u.1 u.2
theorem lnS_drop {l : List (Int × Int)} {i : Nat} {ab : Int × Int} (h : l[i]? = some ab) : lnS (l.drop i) = (ab.2 - ab.1) + lnS (l.drop (i + 1)) := by
  obtain ⟨q1, q2⟩ := List.getElem?_eq_some_iff.mp h
  rw [List.drop_eq_getElem_cons q1, q2]
  rfl
theorem lnS_nn : ∀ {l : List (Int × Int)}, (∀ ab, ab ∈ l → ab.1 < ab.2) → 0 ≤ lnS l := by
  intro l
  induction l with
  | nil => intro _; exact Int.le_refl _
  | cons x l ih =>
    intro h
    have a := h x (List.mem_cons_self ..)
    have b := ih (fun ab hab => h ab (List.mem_cons_of_mem _ hab))
    show 0 ≤ (x.2 - x.1) + lnS l
    omega
/-- the weights of a side -/
theorem budS {A B T X dg G Ei d v nk ns nl : Int} (hd : 1 ≤ d) (hEi : 1 ≤ Ei) (hv : 0 ≤ v) (hdg : 0 ≤ dg ∧ dg ≤ G) (hG : G * Ei = A) (hT : 0 ≤ T) (hX : X = A + T) (hB : B = dg * (d * Ei)) (h8 : X * d ≤ 8) (h1 : 2 * nk + X * d * v ≤ 48) (h2 : ns + X * d * v ≤ 48) (h3 : nl + X * d ≤ 16) : (X * d = A * d + T * d ∧ X * d * v = A * d * v + T * d * v) ∧ (0 ≤ B ∧ B ≤ A * d) ∧ B ≤ 8 ∧ T * d ≤ 8 ∧ 2 * nk + B * v ≤ 48 ∧ ns + B * v ≤ 48 ∧ nl + B ≤ 16 ∧ nk ≤ 24 ∧ ns ≤ 48 ∧ nl ≤ 16 ∧ (1 ≤ d * Ei ∧ (1 ≤ A → d * Ei ≤ 8)) := by
  have e1 : X * d = A * d + T * d := by rw [hX, Int.add_mul]
  have e2 : X * d * v = A * d * v + T * d * v := by rw [e1, Int.add_mul]
  have de : 1 ≤ d * Ei := by
    have := Int.mul_le_mul_of_nonneg_left hEi (show 0 ≤ d by omega)
    omega
  have p1 := Int.mul_nonneg hT (show 0 ≤ d by omega)
  have p2 := Int.mul_nonneg p1 hv
  have b0 : 0 ≤ B := by rw [hB]; exact Int.mul_nonneg hdg.1 (by omega)
  have b1 : B ≤ A * d := by
    rw [hB, ← hG]
    have := Int.mul_le_mul_of_nonneg_right hdg.2 (show 0 ≤ d * Ei by omega)
    have e : G * Ei * d = G * (d * Ei) := by ac_rfl
    omega
  have p3 := Int.mul_le_mul_of_nonneg_right b1 hv
  have p4 := Int.mul_nonneg b0 hv
  have g1 : 1 ≤ A → d * Ei ≤ A * d := fun ha => by
    have : 1 ≤ G := by
      apply Classical.byContradiction
      intro hc
      have g0 : G = 0 := by omega
      rw [g0, Int.zero_mul] at hG
      omega
    have m := Int.mul_le_mul_of_nonneg_right this (show 0 ≤ d * Ei by omega)
    have e : A * d = G * (d * Ei) := by rw [← hG]; ac_rfl
    omega
  refine ⟨⟨e1, e2⟩, ⟨b0, b1⟩, ?_, ?_, ?_, ?_, ?_, ?_, ?_, ?_, de, fun ha => ?_⟩
  · omega
  · omega
  · omega
  · omega
  · omega
  · omega
  · omega
  · omega
  · have := g1 ha; omega
theorem kpC_side {ρ nk ns nl c k : Int} (hρ : 1 ≤ ρ ∧ ρ ≤ 6) (hk : nk ≤ 24) (hs : ns ≤ 48) (hl : nl ≤ 16) (h : kpC ρ nk ns nl c k) : ¬ ((c = 281 ∨ c = 282) ∧ k = ρ) ∧ c ≠ 285 + ρ := by
  unfold kpC at h
  rcases h with h | h | h | h | h | h | h | h | h | h | h | h <;> (refine ⟨?_, ?_⟩ <;> omega)
theorem wy_side {ρ nk ns nl c k : Int} (hρ : 1 ≤ ρ ∧ ρ ≤ 6) (hh : c = 1 ∨ c = 303 ∨ ((280 ≤ c ∧ c ≤ 283) ∧ k < ρ) ∨ (c = 280 ∧ k = ρ) ∨ (285 ≤ c ∧ c < 285 + ρ) ∨ (294 ≤ c ∧ c ≤ 294 + ρ)) : (¬ ((c = 281 ∨ c = 282) ∧ k = ρ) ∧ c ≠ 285 + ρ) ∧ kpB ρ nk ns nl c k := by
  refine ⟨by omega, ?_⟩
  rcases hh with hh | hh | hh | hh | hh | hh
  · exact Or.inl (Or.inl (by omega))
  · exact Or.inl (Or.inr (Or.inr (Or.inr (Or.inr (Or.inr (Or.inr (Or.inr (Or.inr (Or.inr (Or.inl hh))))))))))
  · exact Or.inl (Or.inr (Or.inr (Or.inr (Or.inr (Or.inr (Or.inr (Or.inl hh)))))))
  · exact Or.inr (Or.inl ⟨by omega, hh.2⟩)
  · exact Or.inl (Or.inr (Or.inr (Or.inr (Or.inr (Or.inr (Or.inr (Or.inr (Or.inl hh))))))))
  · by_cases y : c = 294 + ρ
    · exact Or.inr (Or.inr (Or.inr y))
    · exact Or.inl (Or.inr (Or.inr (Or.inr (Or.inr (Or.inr (Or.inr (Or.inr (Or.inr (Or.inl ⟨hh.1, by omega⟩)))))))))
