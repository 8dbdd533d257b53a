/-- a function, changed at one place -/
def ud {α : Type} (f : Int → α) (k : Int) (v : α) : Int → α := fun j => if j = k then v else f j
theorem ud_at {α : Type} {f : Int → α} {k : Int} {v : α} : ud f k v k = v := by unfold ud; rw [if_pos rfl]
theorem ud_ne {α : Type} {f : Int → α} {k j : Int} {v : α} (h : j ≠ k) : ud f k v j = f j := by unfold ud; rw [if_neg h]
theorem fcN_cong {P : Int} {q q' : Int → Int → Int} {t t' : Int → Int} {X : Int → Int} : ∀ n : Nat, (∀ k, 1 ≤ k → k ≤ (n : Int) → q k = q' k ∧ t k = t' k) → fcN P q t X n = fcN P q' t' X n := by
  intro n
  induction n with
  | zero => intro _; rfl
  | succ n ih =>
    intro h
    unfold fcN
    have a := h ((n : Int) + 1) (by omega) (by omega)
    rw [ih (fun k k0 k1 => h k k0 (by omega)), a.1, a.2]
theorem kyP_cong {P pw c : Int} {er : Nat} {qr : Int → Int} {q q' : Int → Int → Int} {t t' : Int → Int} {n : Nat} (h : ∀ k, 1 ≤ k → k ≤ (n : Int) → q k = q' k ∧ t k = t' k) : kyP P pw c er qr q t n = kyP P pw c er qr q' t' n := by
  funext k; unfold kyP; rw [fcN_cong n h]
def ky1 (P c : Int) : Int → Int := fun k => if k = 0 then (-c) % P else if k = 1 then 1 else 0
/-- the key of the next level -/
def nwK (p K P ρ : Int) (e rt : Int → Int) (mo q : Int → Int → Int) : Int → Int := if ρ = 1 then ky1 P (rt 0) else kyP P (pwr p K (mo (ρ - 1) 0)) (rt (ρ - 1)) (e (ρ - 1)).toNat (q (ρ - 1)) q (mo (ρ - 1)) (ρ - 2).toNat
theorem nwK_cong {p K P ρ : Int} {e rt e' rt' : Int → Int} {mo q mo' q' : Int → Int → Int} (hρ : 1 ≤ ρ) (h : ∀ k, 1 ≤ k → k < ρ → e k = e' k ∧ mo k = mo' k ∧ q k = q' k) (hr : rt (ρ - 1) = rt' (ρ - 1)) : nwK p K P ρ e rt mo q = nwK p K P ρ e' rt' mo' q' := by
  unfold nwK
  by_cases c : ρ = 1
  · rw [if_pos c, if_pos c]; rw [c] at hr; rw [show (0 : Int) = 1 - 1 by omega, hr]
  · have a := h (ρ - 1) (by omega) (by omega)
    rw [if_neg c, if_neg c, a.1, a.2.1, a.2.2, hr]
    exact kyP_cong (fun k k0 k1 => ⟨(h k k0 (by omega)).2.2, rfl⟩)
theorem nwK_ro {p K P ρ : Int} {e rt : Int → Int} {mo q : Int → Int → Int} (hp : pKP p K P) : Ro P (nwK p K P ρ e rt mo q) := by
  have h5 := hp.2.2.2.2.1
  have hP10 : 1 < P := by
    have h4 := hp.2.2.2.1
    have hp2 := pm_2 hp.1
    have := (pow_mono (p := p) (by omega) (a := 1) (b := K.toNat) (by have := hp.2.1; omega)).2
    rw [← h4, Int.pow_succ, Int.pow_zero] at this
    omega
  unfold nwK
  split
  · refine ⟨fun k k0 k1 => ?_, fun k hk => ?_⟩
    · unfold ky1
      split
      · exact ⟨Int.emod_nonneg _ (by omega), Int.emod_lt_of_pos _ h5⟩
      · split <;> omega
    · unfold ky1; rw [if_neg (by omega), if_neg (by omega)]
  · refine ⟨fun k k0 k1 => ?_, fun k hk => ?_⟩
    · unfold kyP; rw [if_pos ⟨k0, k1⟩]; exact ⟨Int.emod_nonneg _ (by omega), Int.emod_lt_of_pos _ h5⟩
    · unfold kyP; rw [if_neg hk]
/-- what a knot of the class leaves as it is -/
def kpC (ρ nk ns nl c k : Int) : Prop := (0 ≤ c ∧ c ≤ 40) ∨ (c = 41 ∧ k ≠ 2 ∧ k ≠ 3 ∧ k ≠ 6) ∨ c = 42 ∨ (46 ≤ c ∧ c < 46 + 3 * nk) ∨ (118 ≤ c ∧ c < 118 + 3 * ns) ∨ (262 ≤ c ∧ c < 262 + nl) ∨ ((280 ≤ c ∧ c ≤ 283) ∧ k < ρ) ∨ (285 ≤ c ∧ c < 285 + ρ) ∨ (294 ≤ c ∧ c < 294 + ρ) ∨ c = 303 ∨ (312 ≤ c ∧ c < 312 + 21 * ρ) ∨ 483 ≤ c
/-- the way, as the class keeps it -/
def WyC (C : tp_M) (p K P ρ : Int) (D e s rt : Int → Int) (mo q : Int → Int → Int) (f : Int → Int) : Prop := (C 1 0 = p ∧ C 1 1 = K ∧ C 1 2 = P) ∧ (∀ k, 0 ≤ k → k < 9 → C 303 k = f k) ∧ (∀ k, 1 ≤ k → k ≤ ρ → C 280 k = D k ∧ rd (C (294 + k)) = q k) ∧ ∀ k, 1 ≤ k → k < ρ → C 281 k = e k ∧ C 282 k = s k ∧ C 283 k = rt k ∧ ∀ j, 0 ≤ j → j < 8 → C (285 + k) j = mo k j
def g85E (br : Int → Int → Int → Int → tp_M → Option tp_M) (ρ d kc nk : Int) (M : tp_M) : Option tp_M := if M kc 4 < 2 then fo_X1_growKnot_146 br ρ d kc nk M else (f_X9_addLeaf 4 0 0 (tp_w (M kc 4 * d)) nk M).bind fun r29 => fo_X1_growKnot_146 br ρ d kc nk r29
def g85 (br : Int → Int → Int → Int → tp_M → Option tp_M) (x1 x3 x5 x6 : Int) : (Int × tp_M → Option tp_M) → Int × tp_M → Option tp_M := fun rec_ u => fo_X1_growKnot_85B br x1 x3 x5 x6 (fun x7' M0' => rec_ (x7', M0')) u.1 u.2
set_option maxHeartbeats 4000000 in
set_option maxRecDepth 100000 in
theorem s_g85 {br : Int → Int → Int → Int → tp_M → Option tp_M} {p K P r m i d ns bt : Int} {D e s rt Y w : Int → Int} {mo : Int → Int → Int} {l : List (Int × Int)} (h : pKP p K P) (hb : cxb r D e s) (hc : copr r e s) (hr : 1 ≤ r ∧ r ≤ 6) (ho : rok p r e rt mo) (hi : 0 ≤ i ∧ i < 24) (hn : 0 ≤ ns ∧ ns + l.length ≤ 48) (hS : ∀ ab, ab ∈ l → SOk w (lft r e s) bt ab) (hH : hdW p K.toNat r m D e s Y w) : ∀ (t N : Nat) (x : Nat) (M : tp_M), t < N → x + t = l.length → CxC M r D e s → M (46 + 3 * i) 0 = r → M (46 + 3 * i) 7 = l.length → M (46 + 3 * i) 6 = ns → i < M 41 2 → M 1 0 = p → (∀ k, 1 ≤ k → k < r → M 283 k = rt k ∧ ∀ j, 0 ≤ j → j < 7 → M (285 + k) j = mo k j) → (∀ j, 0 ≤ j → j < 9 → M (46 + 3 * i + 2) j = w j) → hdOk M p K.toNat r m D e s Y 0 → (∀ (j : Nat) ab, l[j]? = some ab → SdC M w (lft r e s) r e s (ns + j) ab) → (∀ (j : Nat) ab, l[j]? = some ab → j < x → ∀ k, 0 ≤ k → k < 9 → M (118 + 3 * (ns + j) + 2) k = rsR p K.toNat r D e s rt mo Y w (lft r e s) ab k) → ∃ N', tp_lp (g85 br r d (46 + 3 * i) i) N ((x : Int), M) = g85E br r d (46 + 3 * i) i N' ∧ (∀ (j : Nat) ab, l[j]? = some ab → ∀ k, 0 ≤ k → k < 9 → N' (118 + 3 * (ns + j) + 2) k = rsR p K.toNat r D e s rt mo Y w (lft r e s) ab k) ∧ ∀ c k, c ≠ 311 → (∀ j : Nat, j < l.length → c ≠ 118 + 3 * (ns + j) + 2) → N' c k = M c k := by
  have tk := tg_kn hi
  intro t
  induction t with
  | zero =>
    intro N x M hN hx hC h0 h7 h6 h2 hp hM hw hq hD hR
    refine ⟨M, ?_, fun j ab hj k k0 k1 => ?_, fun c k _ _ => rfl⟩
    · rw [lp_1 (by omega)]
      simp only [g85, fo_X1_growKnot_85B, h7]
      rw [if_pos (show tp_tg (46 + 3 * i) = 2 from tk.1), if_pos (by omega)]
      rfl
    · have hl : j < l.length := by
        obtain ⟨q1, _⟩ := List.getElem?_eq_some_iff.mp hj
        exact q1
      exact hR j ab hj (by omega) k k0 k1
  | succ t ih =>
    intro N x M hN hx hC h0 h7 h6 h2 hp hM hw hq hD hR
    have xl : x < l.length := by omega
    have hx0 : l[x]? = some l[x] := List.getElem?_eq_getElem xl
    have hab := hD x l[x] hx0
    have sa := s_sideAtN (M := M) (i := i) (j := x) (cnt := l.length) (fst := ns) hi h2 h7 h6 (by omega) (by omega)
    obtain ⟨V, v1, v2, v3⟩ := s_writeResidual (M := M) (p := p) (K := K) (P := P) (r := r) (m := m) (i := i) (n := ns + x) (bt := bt) (Y := Y) (w := w) (ab := l[x]) h hb hc hr ho hi (by omega) (hS _ (List.getElem_mem xl)) hH hC h0 hp hM hw hq hab
    have kk : ∀ c k, c < 118 ∨ (262 ≤ c ∧ c < 311) → V c k = M c k := fun c k hc => v3 c k (by omega) (by omega)
    have lj : ∀ (j : Nat) ab, l[j]? = some ab → j < l.length := fun j ab hj => by
      obtain ⟨q1, _⟩ := List.getElem?_eq_some_iff.mp hj
      exact q1
    have ks : ∀ (j : Nat) k, j < l.length → V (118 + 3 * (ns + j)) k = M (118 + 3 * (ns + j)) k ∧ V (118 + 3 * (ns + j) + 1) k = M (118 + 3 * (ns + j) + 1) k := fun j k hj => ⟨v3 _ _ (by omega) (by omega), v3 _ _ (by omega) (by omega)⟩
    obtain ⟨N', n1, n2, n3⟩ := ih (N - 1) (x + 1) V (by omega) (by omega) ⟨fun k k0 k1 => by rw [kk _ _ (by omega)]; exact hC.1 k k0 k1, fun k k0 k1 => by rw [kk _ _ (by omega), kk _ _ (by omega)]; exact hC.2 k k0 k1⟩ (by rw [kk _ _ (by omega)]; exact h0) (by rw [kk _ _ (by omega)]; exact h7) (by rw [kk _ _ (by omega)]; exact h6) (by rw [kk _ _ (by omega)]; exact h2) (by rw [kk _ _ (by omega)]; exact hp) (fun k k0 k1 => ⟨by rw [kk _ _ (by omega)]; exact (hM k k0 k1).1, fun j j0 j1 => by rw [kk _ _ (by omega)]; exact (hM k k0 k1).2 j j0 j1⟩) (fun j j0 j1 => by rw [kk _ _ (by omega)]; exact hw j j0 j1) (fun i i0 i1 i2 => by rw [kk _ _ (by omega), kk _ _ (by omega)]; exact hq i i0 i1 i2) (fun j ab hj => ⟨fun f f0 f1 => by rw [(ks j f (lj j ab hj)).1]; exact (hD j ab hj).1 f f0 f1, fun k k0 k1 => by rw [(ks j k (lj j ab hj)).2]; exact (hD j ab hj).2 k k0 k1⟩) (fun j ab hj hjx k k0 k1 => by
      by_cases e : j = x
      · subst e
        have : ab = l[j] := by rw [hx0] at hj; exact (Option.some.inj hj).symm
        rw [this]; exact v2 k k0 k1
      · have hjl : j < l.length := by obtain ⟨q1, _⟩ := List.getElem?_eq_some_iff.mp hj; exact q1
        rw [v3 _ _ (by omega) (by omega)]; exact hR j ab hj (by omega) k k0 k1)
    refine ⟨N', ?_, n2, fun c k g1 g2 => by rw [n3 c k g1 g2, v3 c k g1 (by exact_mod_cast g2 x xl)]⟩
    rw [lp_1 (by omega)]
    generalize tp_lp (g85 br r d (46 + 3 * i) i) (N - 1) = Rc at n1 ⊢
    simp only [g85, fo_X1_growKnot_85B, h7, tp_lt]
    rw [if_pos (show tp_tg (46 + 3 * i) = 2 from tk.1), if_neg (by omega), sa, Option.bind_some, v1, Option.bind_some, ho_w (by omega) (by omega), show (x : Int) + 1 = ((x + 1 : Nat) : Int) by omega]
    exact n1
