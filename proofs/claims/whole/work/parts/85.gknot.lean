theorem tg_lf {i : Int} (hi : 0 ≤ i ∧ i < 16) : tp_tg (262 + i) = 3 := by
  have h : i = 0 ∨ i = 1 ∨ i = 2 ∨ i = 3 ∨ i = 4 ∨ i = 5 ∨ i = 6 ∨ i = 7 ∨ i = 8 ∨ i = 9 ∨ i = 10 ∨ i = 11 ∨ i = 12 ∨ i = 13 ∨ i = 14 ∨ i = 15 := by omega
  rcases h with rfl | rfl | rfl | rfl | rfl | rfl | rfl | rfl | rfl | rfl | rfl | rfl | rfl | rfl | rfl | rfl <;> decide +kernel
def LfC (N : tp_M) (n a0 a1 a2 a3 a4 : Int) : Prop := N (262 + n) 0 = a0 ∧ N (262 + n) 1 = a1 ∧ N (262 + n) 2 = a2 ∧ N (262 + n) 3 = a3 ∧ N (262 + n) 4 = a4
set_option maxHeartbeats 4000000 in
set_option maxRecDepth 100000 in
theorem s_addLeaf {M : tp_M} {n : Int} (a0 a1 a2 a3 a4 : Int) (hn : M 41 3 = n) (h : 0 ≤ n ∧ n < 16) : ∃ N, f_X9_addLeaf a0 a1 a2 a3 a4 M = some N ∧ N 41 3 = n + 1 ∧ LfC N n a0 a1 a2 a3 a4 ∧ ∀ c k, ¬ (c = 41 ∧ k = 3) → c ≠ 262 + n → N c k = M c k := by
  have tl := tg_lf h
  have e1 : ∀ N : tp_M, N 41 3 = n + 1 → f_X9_leafAt n N = some (262 + n) := fun N hN => by
    unfold f_X9_leafAt
    rw [hN, if_neg (by omega), if_neg (by omega), if_neg (by omega), if_pos (by omega)]
  have w1 : tp_w (n + 1) = n + 1 := ho_w (by omega) (by omega)
  have w2 : tp_w (n + 1 - 1) = n := by rw [show n + 1 - 1 = n by omega]; exact ho_w (by omega) (by omega)
  have ne : 262 + n ≠ 41 ∧ ¬ (262 + n = -1) := by omega
  refine ⟨tp_up (tp_up (tp_up (tp_up (tp_up (tp_up M 41 3 (n + 1)) (262 + n) 0 a0) (262 + n) 1 a1) (262 + n) 2 a2) (262 + n) 3 a3) (262 + n) 4 a4, ?_, ?_, ?_, fun c k g1 g2 => ?_⟩
  · unfold f_X9_addLeaf
    simp only [tp_mp, hn]
    rw [if_pos h.2, w1, up_eq ⟨rfl, rfl⟩, w2, e1 _ (up_eq ⟨rfl, rfl⟩), Option.bind_some, if_neg ne.2, if_pos tl]
  · rw [up_ne (fun hh => ne.1 hh.1.symm), up_ne (fun hh => ne.1 hh.1.symm), up_ne (fun hh => ne.1 hh.1.symm), up_ne (fun hh => ne.1 hh.1.symm), up_ne (fun hh => ne.1 hh.1.symm), up_eq ⟨rfl, rfl⟩]
  · refine ⟨?_, ?_, ?_, ?_, ?_⟩
    · rw [up_ne (fun hh => absurd hh.2 (by decide)), up_ne (fun hh => absurd hh.2 (by decide)), up_ne (fun hh => absurd hh.2 (by decide)), up_ne (fun hh => absurd hh.2 (by decide)), up_eq ⟨rfl, rfl⟩]
    · rw [up_ne (fun hh => absurd hh.2 (by decide)), up_ne (fun hh => absurd hh.2 (by decide)), up_ne (fun hh => absurd hh.2 (by decide)), up_eq ⟨rfl, rfl⟩]
    · rw [up_ne (fun hh => absurd hh.2 (by decide)), up_ne (fun hh => absurd hh.2 (by decide)), up_eq ⟨rfl, rfl⟩]
    · rw [up_ne (fun hh => absurd hh.2 (by decide)), up_eq ⟨rfl, rfl⟩]
    · rw [up_eq ⟨rfl, rfl⟩]
  · rw [up_ne (fun hh => g2 hh.1), up_ne (fun hh => g2 hh.1), up_ne (fun hh => g2 hh.1), up_ne (fun hh => g2 hh.1), up_ne (fun hh => g2 hh.1), up_ne g1]
/-- a knot's fields -/
def KnF (N : tp_M) (kc a0 a1 a2 a3 a4 a5 a6 a7 : Int) : Prop := N kc 0 = a0 ∧ N kc 1 = a1 ∧ N kc 2 = a2 ∧ N kc 3 = a3 ∧ N kc 4 = a4 ∧ N kc 5 = a5 ∧ N kc 6 = a6 ∧ N kc 7 = a7
set_option maxHeartbeats 4000000 in
set_option maxRecDepth 100000 in
theorem s_addKnot {M : tp_M} {n ns : Int} (a0 a1 a2 a3 : Int) (hn : M 41 2 = n) (h : 0 ≤ n ∧ n < 24) (hs : M 41 6 = ns) : ∃ N, f_X9_addKnot a0 a1 a2 a3 M = some (46 + 3 * n, N) ∧ N 41 2 = n + 1 ∧ KnF N (46 + 3 * n) a0 a1 a2 a3 a1 0 ns 0 ∧ (∀ k, 0 ≤ k → k < 9 → N (46 + 3 * n + 1) k = 0) ∧ (∀ k, 0 ≤ k → k < 9 → N (46 + 3 * n + 2) k = -1) ∧ ∀ c k, ¬ (c = 41 ∧ k = 2) → ¬ (46 + 3 * n ≤ c ∧ c < 46 + 3 * n + 3) → N c k = M c k := by
  obtain ⟨t1, t2, t3⟩ := tg_kn h
  have e1 : ∀ N : tp_M, N 41 2 = n + 1 → f_X9_knotAt n N = some (46 + 3 * n) := fun N hN => by
    unfold f_X9_knotAt
    rw [hN, if_neg (by omega), if_neg (by omega), if_neg (by omega), if_pos (by omega)]
  have w1 : tp_w (n + 1) = n + 1 := ho_w (by omega) (by omega)
  have w2 : tp_w (n + 1 - 1) = n := by rw [show n + 1 - 1 = n by omega]; exact ho_w (by omega) (by omega)
  have ne : 46 + 3 * n ≠ 41 ∧ ¬ (46 + 3 * n = -1) := by omega
  have hl : n < 24 := h.2
  have g1 : ∀ c : Int, ¬ (46 + 3 * n ≤ c ∧ c < 46 + 3 * n + 3) → c ≠ 46 + 3 * n ∧ c ≠ 46 + 3 * n + 1 ∧ c ≠ 46 + 3 * n + 2 := fun c hc => by omega
  have h41 := g1 41 (by omega)
  clear h
  generalize 46 + 3 * n = kc at *
  have k1 : kc ≠ kc + 1 ∧ kc ≠ kc + 2 ∧ kc + 1 ≠ kc + 2 := by omega
  generalize hV : tp_up (tp_up (tp_up (tp_up (tp_up (tp_up (tp_up (tp_up (tp_up M 41 2 (n + 1)) kc 0 a0) kc 1 a1) kc 2 a2) kc 3 a3) kc 4 a1) kc 5 0) kc 6 ns) kc 7 0 = V
  have v41 : V 41 2 = n + 1 := by
    rw [← hV, up_ne (fun hh => ne.1 hh.1.symm), up_ne (fun hh => ne.1 hh.1.symm), up_ne (fun hh => ne.1 hh.1.symm), up_ne (fun hh => ne.1 hh.1.symm), up_ne (fun hh => ne.1 hh.1.symm), up_ne (fun hh => ne.1 hh.1.symm), up_ne (fun hh => ne.1 hh.1.symm), up_ne (fun hh => ne.1 hh.1.symm), up_eq ⟨rfl, rfl⟩]
  have vf : ∀ c k, ¬ (c = 41 ∧ k = 2) → c ≠ kc → V c k = M c k := fun c k x1 x2 => by
    rw [← hV, up_ne (fun hh => x2 hh.1), up_ne (fun hh => x2 hh.1), up_ne (fun hh => x2 hh.1), up_ne (fun hh => x2 hh.1), up_ne (fun hh => x2 hh.1), up_ne (fun hh => x2 hh.1), up_ne (fun hh => x2 hh.1), up_ne (fun hh => x2 hh.1), up_ne x1]
  have vk : KnF V kc a0 a1 a2 a3 a1 0 ns 0 := by
    rw [← hV]
    refine ⟨?_, ?_, ?_, ?_, ?_, ?_, ?_, ?_⟩ <;> (repeat (first | rw [up_eq ⟨rfl, rfl⟩] | rw [up_ne (fun hh => absurd hh.2 (by decide))]))
  refine ⟨tp_fl (tp_fl V (kc + 1) 9 0) (kc + 2) 9 (-1), ?_, ?_, ?_, fun k k0 k1 => ?_, fun k k0 k1 => ?_, fun c k x1 x2 => ?_⟩
  · unfold f_X9_addKnot
    have s6 : tp_up (tp_up (tp_up (tp_up (tp_up (tp_up (tp_up M 41 2 (n + 1)) kc 0 a0) kc 1 a1) kc 2 a2) kc 3 a3) kc 4 a1) kc 5 0 41 6 = ns := by
      rw [up_ne (fun hh => ne.1 hh.1.symm), up_ne (fun hh => ne.1 hh.1.symm), up_ne (fun hh => ne.1 hh.1.symm), up_ne (fun hh => ne.1 hh.1.symm), up_ne (fun hh => ne.1 hh.1.symm), up_ne (fun hh => ne.1 hh.1.symm), up_ne (fun hh => absurd hh.2 (by decide))]
      exact hs
    simp only [tp_mp, hn]
    rw [if_pos hl, w1, up_eq ⟨rfl, rfl⟩, w2, e1 _ (up_eq ⟨rfl, rfl⟩), Option.bind_some, if_neg ne.2, if_pos (show tp_tg kc = 2 from t1), s6, hV, s_filll t2.1 t2.2 (by decide), Option.bind_some, s_fill t3.1 t3.2 (by decide), Option.bind_some]
  · rw [fl_out (fun hh => h41.2.2 hh.1), fl_out (fun hh => h41.2.1 hh.1)]; exact v41
  · obtain ⟨x0, x1, x2, x3, x4, x5, x6, x7⟩ := vk
    refine ⟨?_, ?_, ?_, ?_, ?_, ?_, ?_, ?_⟩ <;> (rw [fl_out (fun hh => k1.2.1 hh.1), fl_out (fun hh => k1.1 hh.1)]; assumption)
  · rename_i k1'
    rw [fl_out (fun hh => absurd hh.1 (by omega)), fl_in ⟨rfl, k0, k1⟩]
  · rw [fl_in ⟨rfl, k0, k1⟩]
  · have := g1 c x2
    rw [fl_out (fun hh => this.2.2 hh.1), fl_out (fun hh => this.2.1 hh.1), vf c k x1 this.1]
theorem s_sideAtN {M : tp_M} {i j cnt fst : Int} (hi : 0 ≤ i ∧ i < 24) (hn : i < M 41 2) (h7 : M (46 + 3 * i) 7 = cnt) (h6 : M (46 + 3 * i) 6 = fst) (hj : 0 ≤ j ∧ j < cnt) (hf : 0 ≤ fst ∧ fst + j < 48) : f_X9_sideAt i j M = some (118 + 3 * (fst + j)) := by
  obtain ⟨t1, t2, t3⟩ := tg_kn hi
  have e1 : f_X9_knotAt i M = some (46 + 3 * i) := by
    unfold f_X9_knotAt
    rw [if_neg (by omega), if_neg (by omega), if_neg (by omega), if_pos (by omega)]
  have w1 : tp_w (fst + j) = fst + j := ho_w (by omega) (by omega)
  have b1 : ¬ 46 + 3 * i = -1 := by omega
  unfold f_X9_sideAt
  rw [e1, Option.bind_some, if_neg b1, if_neg (by omega), if_pos (show tp_tg (46 + 3 * i) = 2 from t1), h7, if_pos hj.2, h6, w1]
  show (if fst + j < 0 then _ else _) = _
  rw [if_neg (by omega), if_neg (by omega), if_pos (by omega)]
set_option maxHeartbeats 4000000 in
set_option maxRecDepth 100000 in
theorem s_enterKnot {M : tp_M} {i r d : Int} (hi : 0 ≤ i ∧ i < 24) (hr : 1 ≤ r ∧ r ≤ 6) (h0 : M (46 + 3 * i) 0 = r) (h2 : M (46 + 3 * i) 2 = d) : ∃ N, f_X5_enterKnot (46 + 3 * i) M = some N ∧ N 280 r = d ∧ (∀ k, 0 ≤ k → k < 9 → N (294 + r) k = M (46 + 3 * i + 1) k) ∧ ∀ c k, ¬ (c = 280 ∧ k = r) → c ≠ 294 + r → N c k = M c k := by
  obtain ⟨t1, t2, t3⟩ := tg_kn hi
  have ne : 46 + 3 * i ≠ 280 ∧ 46 + 3 * i + 1 ≠ 280 ∧ 280 ≠ 294 + r := by omega
  have rb : 0 ≤ r ∧ r < 8 := by omega
  generalize 46 + 3 * i = kc at *
  refine ⟨tp_cp (tp_up M 280 r d) (kc + 1) 0 (294 + r) 0 9, ?_, ?_, fun k k0 k1 => ?_, fun c k g1 g2 => ?_⟩
  · unfold f_X5_enterKnot
    have e0 : tp_up M 280 r d kc 0 = r := by rw [up_ne (fun hh => ne.1 hh.1)]; exact h0
    simp only [tp_mp, h0, h2, e0]
    rw [if_pos (show tp_tg kc = 2 from t1), if_neg (by omega), if_pos rb.2, if_pos rb, if_pos rb, if_pos (by decide)]
  · rw [cp_out (fun hh => ne.2.2 hh.1), up_eq ⟨rfl, rfl⟩]
  · rw [cp_in ⟨rfl, k0, by omega⟩, show (0 : Int) + (k - 0) = k by omega, up_ne (fun hh => ne.2.1 hh.1)]
  · rw [cp_out (fun hh => g2 hh.1), up_ne g1]
set_option maxHeartbeats 4000000 in
set_option maxRecDepth 100000 in
theorem s_enterSide {M : tp_M} {q r E S : Int} (hq : 0 ≤ q ∧ q < 48) (hr : 1 ≤ r ∧ r ≤ 6) (h3 : M (118 + 3 * q) 3 = E) (h5 : M (118 + 3 * q) 5 = S) (ts : tp_tg (118 + 3 * q) = 7) : ∃ N, f_X5_enterSide r (118 + 3 * q) M = some N ∧ N 281 r = E ∧ N 282 r = S ∧ (∀ k, 0 ≤ k → k < 8 → N (285 + r) k = M (118 + 3 * q + 1) k) ∧ ∀ c k, ¬ ((c = 281 ∨ c = 282) ∧ k = r) → c ≠ 285 + r → N c k = M c k := by
  have ne : 118 + 3 * q ≠ 281 ∧ 118 + 3 * q + 1 ≠ 281 ∧ 118 + 3 * q + 1 ≠ 282 ∧ 281 ≠ 285 + r ∧ 282 ≠ 285 + r := by omega
  have rb : 0 ≤ r ∧ r < 8 := by omega
  generalize 118 + 3 * q = sc at *
  refine ⟨tp_cp (tp_up (tp_up M 281 r E) 282 r S) (sc + 1) 0 (285 + r) 0 8, ?_, ?_, ?_, fun k k0 k1 => ?_, fun c k g1 g2 => ?_⟩
  · unfold f_X5_enterSide
    have e0 : tp_up M 281 r E sc 5 = S := by rw [up_ne (fun hh => ne.1 hh.1)]; exact h5
    simp only [tp_mp, h3, e0]
    rw [if_pos ts, if_neg (by omega), if_pos rb.2, if_pos rb, if_pos rb, if_pos rb, if_pos (by decide)]
  · rw [cp_out (fun hh => ne.2.2.2.1 hh.1), up_ne (fun hh => absurd hh.1 (by decide)), up_eq ⟨rfl, rfl⟩]
  · rw [cp_out (fun hh => ne.2.2.2.2 hh.1), up_eq ⟨rfl, rfl⟩]
  · rw [cp_in ⟨rfl, k0, by omega⟩, show (0 : Int) + (k - 0) = k by omega, up_ne (fun hh => ne.2.2.1 hh.1), up_ne (fun hh => ne.2.1 hh.1)]
  · rw [cp_out (fun hh => g2 hh.1), up_ne (fun hh => g1 ⟨Or.inr hh.1, hh.2⟩), up_ne (fun hh => g1 ⟨Or.inl hh.1, hh.2⟩)]
set_option maxHeartbeats 4000000 in
set_option maxRecDepth 100000 in
theorem s_writeResidual {M : tp_M} {p K P r m i n bt : Int} {D e s rt Y w : Int → Int} {mo : Int → Int → Int} {ab : Int × Int} (h : pKP p K P) (hb : cxb r D e s) (hc : copr r e s) (hr : 1 ≤ r ∧ r ≤ 6) (ho : rok p r e rt mo) (hi : 0 ≤ i ∧ i < 24) (hn : 0 ≤ n ∧ n < 48) (hS : SOk w (lft r e s) bt ab) (hH : hdW p K.toNat r m D e s Y w) (hC : CxC M r D e s) (hl : M (46 + 3 * i) 0 = r) (hp : M 1 0 = p) (hM : ∀ k, 1 ≤ k → k < r → M 283 k = rt k ∧ ∀ j, 0 ≤ j → j < 7 → M (285 + k) j = mo k j) (hw : ∀ j, 0 ≤ j → j < 9 → M (46 + 3 * i + 2) j = w j) (hq : hdOk M p K.toNat r m D e s Y 0) (hD : SdC M w (lft r e s) r e s n ab) : ∃ N, f_X1_writeResidual (46 + 3 * i) (118 + 3 * n) M = some N ∧ (∀ j, 0 ≤ j → j < 9 → N (118 + 3 * n + 2) j = rsR p K.toNat r D e s rt mo Y w (lft r e s) ab j) ∧ ∀ c j, c ≠ 311 → c ≠ 118 + 3 * n + 2 → N c j = M c j := by
  have tk := tg_kn hi
  have ts := tg_side hn
  have hkc2 : 46 ≤ 46 + 3 * i ∧ 46 + 3 * i ≤ 115 := by omega
  have sg := sg_spec (w := w) (a := ab.1) (b := ab.2) hS.1 (by have := hS.2.1; omega)
  generalize hV : tp_fl M (118 + 3 * n + 2) 9 0 = V
  have vf : ∀ c k, c ≠ 118 + 3 * n + 2 → V c k = M c k := fun c k hc => by rw [← hV, fl_out (fun hh => hc hh.1)]
  have nk : ∀ k, 1 ≤ k → k < r → 285 + k ≠ 118 + 3 * n + 2 := fun k k0 k1 => by omega
  have n0 : 280 ≠ 118 + 3 * n + 2 ∧ 281 ≠ 118 + 3 * n + 2 ∧ 282 ≠ 118 + 3 * n + 2 ∧ 283 ≠ 118 + 3 * n + 2 ∧ 308 ≠ 118 + 3 * n + 2 ∧ 309 ≠ 118 + 3 * n + 2 ∧ 1 ≠ 118 + 3 * n + 2 := by omega
  have n1 : 46 + 3 * i ≠ 118 + 3 * n + 2 ∧ 46 + 3 * i + 2 ≠ 118 + 3 * n + 2 := by omega
  have n2 : 118 + 3 * n ≠ 118 + 3 * n + 2 ∧ 118 + 3 * n + 1 ≠ 118 + 3 * n + 2 := by omega
  have nm : ¬ 118 + 3 * n = -1 := by omega
  have d2 : V (118 + 3 * n) 2 = w ab.1 - w ab.2 := by rw [vf _ _ n2.1]; exact hD.1 2 (by decide) (by decide)
  have d4 : V (118 + 3 * n) 4 = sgG w ab.1 ab.2 := by rw [vf _ _ n2.1]; exact hD.1 4 (by decide) (by decide)
  obtain ⟨N, k1, k2, k3⟩ := s_wr28 (p := p) (K := K) (P := P) (r := r) (m := m) (kc := 46 + 3 * i) (n := n) (bt := bt) (Y := Y) (w := w) (ab := ab) h hb hc hr ho tk.1 hkc2 hn hS hH (sgG w ab.1 ab.2 + 1).toNat tp_N 0 V (by unfold tp_N; have := hS.1; omega) (Int.le_refl _) (by omega)
    ⟨fun k k0 k1 => by rw [vf _ _ n0.1]; exact hC.1 k k0 k1, fun k k0 k1 => by rw [vf _ _ n0.2.1, vf _ _ n0.2.2.1]; exact hC.2 k k0 k1⟩
    (by rw [vf _ _ n1.1]; exact hl) (by rw [vf _ _ n0.2.2.2.2.2.2]; exact hp)
    (fun k k0 k1 => ⟨by rw [vf _ _ n0.2.2.2.1]; exact (hM k k0 k1).1, fun j j0 j1 => by rw [vf _ _ (nk k k0 k1)]; exact (hM k k0 k1).2 j j0 j1⟩)
    (fun j j0 j1 => by rw [vf _ _ n1.2]; exact hw j j0 j1)
    (fun i i0 i1 i2 => by rw [vf _ _ n0.2.2.2.2.1, vf _ _ n0.2.2.2.2.2.1]; exact hq i i0 i1 i2)
    ⟨fun f f0 f1 => by rw [vf _ _ n2.1]; exact hD.1 f f0 f1, fun k k0 k1 => by rw [vf _ _ n2.2]; exact hD.2 k k0 k1⟩
    (fun j j0 j1 => by rw [← hV, fl_in ⟨rfl, j0, j1⟩, if_neg (by omega)])
  refine ⟨N, ?_, k2, fun c j g1 g2 => by rw [k3 c j g1 g2, vf c j g2]⟩
  have q1 : f_X10_quotient (w ab.1 - w ab.2) (sgG w ab.1 ab.2) V = some (sgH w ab.1 ab.2) := by
    unfold f_X10_quotient
    have g0 : ¬ sgG w ab.1 ab.2 = 0 := by omega
    have f0 : 0 ≤ w ab.1 - w ab.2 ∧ w ab.1 - w ab.2 ≤ 20000 := by have := hS.2.1; have := hS.2.2.1; omega
    rw [if_pos g0, if_neg g0, Int.tdiv_eq_ediv_of_nonneg f0.1]
    have : (w ab.1 - w ab.2) / sgG w ab.1 ab.2 = sgH w ab.1 ab.2 := rfl
    have b := Int.ediv_le_self (sgG w ab.1 ab.2) f0.1
    have b0 := Int.ediv_nonneg (a := w ab.1 - w ab.2) (b := sgG w ab.1 ab.2) f0.1 (by omega)
    rw [ho_w (by omega) (by omega), this]
  unfold f_X1_writeResidual
  rw [if_pos (show tp_tg (46 + 3 * i) = 2 from tk.1), if_pos ts.1, if_neg nm, s_fill (n := 9) ts.2.2.2.1 ts.2.2.2.2 (by decide), Option.bind_some, hV, d2, d4, q1, Option.bind_some]
  exact k1
