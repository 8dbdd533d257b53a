theorem chS_tr {r nk ns nl c k : Int} (h : (c = 488 ∧ k < 9 * nk) ∨ (496 ≤ c ∧ c ≤ 502 ∧ k < nk) ∨ (c = 503 ∧ k < 9 * nk) ∨ (504 ≤ c ∧ c ≤ 506 ∧ k < nk) ∨ (c = 507 ∧ k < 7 * nk) ∨ (508 ≤ c ∧ c ≤ 513 ∧ k < ns) ∨ (c = 514 ∧ k < 7 * ns) ∨ (c = 515 ∧ k < 9 * ns) ∨ (516 ≤ c ∧ c ≤ 520 ∧ k < nl)) : chS r nk ns nl c k := by
  unfold chS
  rcases h with h | h | h | h | h | h | h | h | h <;> (refine ⟨?_, ?_, ⟨?_, ?_, ?_⟩, ?_, ?_, ?_, ?_, ?_, ?_, ?_, ?_, ?_, ?_, ?_, ?_⟩ <;> omega)
/-- the old entries stay -/
theorem Rel_old {C C' R R' : tp_M} {ρ r nk ns nl ns' : Int} (h : Rel C R nk ns nl) (hn : ns ≤ ns') (hc : ∀ c k, kpC ρ nk ns nl c k → C' c k = C c k) (hr : ∀ c k, chS r nk ns nl c k → R' c k = R c k) : (∀ i, 0 ≤ i → i < nk → KE C' R' ns' i) ∧ (∀ q, 0 ≤ q → q < ns → SE C' R' q) ∧ ∀ i, 0 ≤ i → i < nl → LE C' R' i := by
  obtain ⟨_, _, b7, b8, b9⟩ := h
  refine ⟨fun i i0 i1 => ?_, fun q q0 q1 => ?_, fun i i0 i1 => ?_⟩
  · refine KE_fr (b7 i i0 i1) hn (fun a c k x1 x2 x3 x4 => hc c k (Or.inr (Or.inr (Or.inr (Or.inl ⟨by omega, by omega⟩))))) (fun c x1 x2 x3 => hr c i (chS_tr ?_)) (fun k k0 k1 => ⟨hr _ _ (chS_tr (Or.inl ⟨rfl, by omega⟩)), hr _ _ (chS_tr (Or.inr (Or.inr (Or.inl ⟨rfl, by omega⟩))))⟩) i0
    by_cases c4 : c = 504
    · exact Or.inr (Or.inr (Or.inr (Or.inl ⟨by omega, by omega, i1⟩)))
    · exact Or.inr (Or.inl ⟨x1, by omega, i1⟩)
  · exact SE_fr (b8 q q0 q1) (fun c k x1 x2 => hc c k (Or.inr (Or.inr (Or.inr (Or.inr (Or.inl ⟨by omega, by omega⟩)))))) (fun c x1 x2 => hr c q (chS_tr (Or.inr (Or.inr (Or.inr (Or.inr (Or.inr (Or.inl ⟨x1, x2, q1⟩)))))))) (fun t t0 t1 => hr _ _ (chS_tr (Or.inr (Or.inr (Or.inr (Or.inr (Or.inr (Or.inr (Or.inl ⟨rfl, by omega⟩))))))))) (fun k k0 k1 => hr _ _ (chS_tr (Or.inr (Or.inr (Or.inr (Or.inr (Or.inr (Or.inr (Or.inr (Or.inl ⟨rfl, by omega⟩))))))))))
  · exact LE_fr (b9 i i0 i1) (fun k => hc _ k (Or.inr (Or.inr (Or.inr (Or.inr (Or.inr (Or.inl ⟨by omega, by omega⟩))))))) (fun c x1 x2 => hr c i (chS_tr (Or.inr (Or.inr (Or.inr (Or.inr (Or.inr (Or.inr (Or.inr (Or.inr ⟨x1, x2, i1⟩))))))))))
/-- a new side in both -/
theorem SE_new {C' R' : tp_M} {p : Int} {K : Nat} {ρ q : Int} {D e s rt Y w : Int → Int} {mo : Int → Int → Int} {ab : Int × Int} (h1 : SdC C' w (lft ρ e s) ρ e s q ab) (h2 : ∀ k, 0 ≤ k → k < 9 → C' (118 + 3 * q + 2) k = rsR p K ρ D e s rt mo Y w (lft ρ e s) ab k) (h3 : SdR R' q (sdF w (lft ρ e s) ab) (mnl e s (ρ - 1).toNat (sgS w (lft ρ e s) ab.1 ab.2)) (rsR p K ρ D e s rt mo Y w (lft ρ e s) ab)) : SE C' R' q := by
  obtain ⟨⟨a0, a1, a2, a3, a4, a5⟩, a6, a7⟩ := h3
  refine ⟨⟨?_, ?_, ?_, ?_, ?_, ?_⟩, fun t t0 t1 => by rw [a6 t t0 t1, h1.2 t t0 (by omega)], fun k k0 k1 => by rw [a7 k k0 k1, h2 k k0 k1]⟩
  · rw [a0, h1.1 0 (by decide) (by decide)]
  · rw [a1, h1.1 1 (by decide) (by decide)]
  · rw [a2, h1.1 2 (by decide) (by decide)]
  · rw [a3, h1.1 3 (by decide) (by decide)]
  · rw [a4, h1.1 4 (by decide) (by decide)]
  · rw [a5, h1.1 5 (by decide) (by decide)]
