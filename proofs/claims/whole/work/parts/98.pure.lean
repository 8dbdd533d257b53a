theorem tp_pure (L : Int) (xs : Int → Int) (h0 : 0 ≤ L) (h1 : L ≤ 3072) (hx : ∀ i, tp_r (xs i)) : ∃ M1, f_L_law_18 L xs 0 tp_M0 = some (1, M1) := sorry
