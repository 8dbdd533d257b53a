theorem dvd_of {p a b : Int} (h : p ∣ a) (e : a = b) : p ∣ b := e ▸ h
/-- a row acts on sequences -/
def ac (a : Int → Int) : Nat → (Nat → Int) → Nat → Int
  | 0, _, _ => 0
  | n + 1, s, i => ac a n s i + a n * s (i + n)
theorem ac_cong {a b : Int → Int} {n : Nat} (h : ∀ k : Nat, k < n → a k = b k) (s : Nat → Int) (i : Nat) : ac a n s i = ac b n s i := by
  induction n with
  | zero => rfl
  | succ n ih => unfold ac; rw [ih (fun k hk => h k (by omega)), h n (by omega)]
theorem ac_scong {a : Int → Int} {n : Nat} {s t : Nat → Int} {i j : Nat} (h : ∀ k : Nat, k < n → s (i + k) = t (j + k)) : ac a n s i = ac a n t j := by
  induction n with
  | zero => rfl
  | succ n ih => unfold ac; rw [ih (fun k hk => h k (by omega)), h n (by omega)]
theorem ac_mod {p : Int} {a b : Int → Int} {n : Nat} (h : ∀ k : Nat, k < n → p ∣ a k - b k) (s : Nat → Int) (i : Nat) : p ∣ ac a n s i - ac b n s i := by
  induction n with
  | zero => exact ⟨0, by unfold ac; omega⟩
  | succ n ih =>
    have h1 := ih (fun k hk => h k (by omega))
    have h2 : p ∣ (a n - b n) * s (i + n) := Int.dvd_mul_of_dvd_left (h n (by omega))
    have h3 := Int.dvd_add h1 h2
    have e : ac a (n + 1) s i - ac b (n + 1) s i = ac a n s i - ac b n s i + (a n - b n) * s (i + n) := by
      show ac a n s i + a n * s (i + n) - (ac b n s i + b n * s (i + n)) = _
      rw [Int.sub_mul]; omega
    rw [e]; exact h3
theorem ac_smod {p : Int} {a : Int → Int} {n : Nat} {s t : Nat → Int} (h : ∀ j, p ∣ s j - t j) (i : Nat) : p ∣ ac a n s i - ac a n t i := by
  induction n with
  | zero => exact ⟨0, by unfold ac; omega⟩
  | succ n ih =>
    have h2 : p ∣ a n * (s (i + n) - t (i + n)) := Int.dvd_mul_of_dvd_right (h (i + n))
    have h3 := Int.dvd_add ih h2
    have e : ac a (n + 1) s i - ac a (n + 1) t i = ac a n s i - ac a n t i + a n * (s (i + n) - t (i + n)) := by
      show ac a n s i + a n * s (i + n) - (ac a n t i + a n * t (i + n)) = _
      rw [Int.mul_sub]; omega
    rw [e]; exact h3
theorem ac_dvd {p : Int} {a : Int → Int} {n : Nat} {t : Nat → Int} (h : ∀ j, p ∣ t j) (i : Nat) : p ∣ ac a n t i := by
  induction n with
  | zero => exact ⟨0, by unfold ac; omega⟩
  | succ n ih => exact Int.dvd_add ih (Int.dvd_mul_of_dvd_right (h (i + n)))
theorem ac_add (a b : Int → Int) (n : Nat) (s : Nat → Int) (i : Nat) : ac (fun k => a k + b k) n s i = ac a n s i + ac b n s i := by
  induction n with
  | zero => rfl
  | succ n ih => unfold ac; rw [ih, Int.add_mul]; omega
theorem ac_smul (c : Int) (a : Int → Int) (n : Nat) (s : Nat → Int) (i : Nat) : ac (fun k => c * a k) n s i = c * ac a n s i := by
  induction n with
  | zero => unfold ac; omega
  | succ n ih => unfold ac; rw [ih, Int.mul_add, Int.mul_assoc]
theorem ac_sadd (a : Int → Int) (n : Nat) (s t : Nat → Int) (i : Nat) : ac a n (fun j => s j + t j) i = ac a n s i + ac a n t i := by
  induction n with
  | zero => rfl
  | succ n ih => unfold ac; rw [ih, Int.mul_add]; omega
theorem ac_ssmul (a : Int → Int) (n : Nat) (c : Int) (s : Nat → Int) (i : Nat) : ac a n (fun j => c * s j) i = c * ac a n s i := by
  induction n with
  | zero => unfold ac; omega
  | succ n ih => unfold ac; rw [ih, Int.mul_add, Int.mul_left_comm]
theorem ac_shift (a : Int → Int) (n : Nat) (s : Nat → Int) (m i : Nat) : ac a n (fun j => s (j + m)) i = ac a n s (i + m) :=
  ac_scong (fun k hk => by show s (i + k + m) = s (i + m + k); rw [show i + k + m = i + m + k by omega])
theorem ac_comm (a : Int → Int) (n : Nat) (b : Int → Int) (m : Nat) (s : Nat → Int) (i : Nat) : ac a n (fun j => ac b m s j) i = ac b m (fun j => ac a n s j) i := by
  induction n with
  | zero =>
    have : ∀ m, ac b m (fun j => ac a 0 s j) i = 0 := by
      intro m
      induction m with
      | zero => rfl
      | succ m ih => unfold ac; rw [ih]; show 0 + b m * 0 = 0; omega
    rw [this]; rfl
  | succ n ih =>
    show ac a n (fun j => ac b m s j) i + a n * ac b m s (i + n) = ac b m (fun j => ac a n s j + a n * s (j + n)) i
    rw [ac_sadd b m (fun j => ac a n s j) (fun j => a n * s (j + n)), ac_ssmul b m (a n) (fun j => s (j + n)), ac_shift, ih]
theorem ac_ext {a : Int → Int} {n m : Nat} (h : n ≤ m) (hz : ∀ k : Nat, n ≤ k → k < m → a k = 0) (s : Nat → Int) (i : Nat) : ac a m s i = ac a n s i := by
  induction m with
  | zero => rw [show n = 0 by omega]
  | succ m ih =>
    by_cases e : n = m + 1
    · rw [e]
    · show ac a m s i + a m * s (i + m) = _
      rw [ih (by omega) (fun k k0 k1 => hz k k0 (by omega)), hz m (by omega) (by omega)]; omega
theorem ac_split (a : Int → Int) (n m : Nat) (s : Nat → Int) (i : Nat) : ac a (n + m) s i = ac a n s i + ac (fun k => a (n + k)) m s (i + n) := by
  induction m with
  | zero => show ac a n s i = ac a n s i + 0; omega
  | succ m ih =>
    show ac a (n + m) s i + a ((n + m : Nat) : Int) * s (i + (n + m)) = ac a n s i + (ac (fun k => a (n + k)) m s (i + n) + a (n + m) * s (i + n + m))
    rw [ih, show ((n + m : Nat) : Int) = (n : Int) + m by omega, show i + (n + m) = i + n + m by omega]; omega
def Kr (p : Int) (a : Int → Int) (n : Nat) (s : Nat → Int) : Prop := ∀ i, p ∣ ac a n s i
theorem kr_shift {p : Int} {a : Int → Int} {n : Nat} {s : Nat → Int} (h : Kr p a n s) (m : Nat) : Kr p a n (fun j => s (j + m)) := fun i => by rw [ac_shift]; exact h _
theorem kr_ac {p : Int} {a : Int → Int} {n : Nat} {s : Nat → Int} (h : Kr p a n s) (b : Int → Int) (m : Nat) : Kr p a n (fun j => ac b m s j) := fun i => by rw [ac_comm]; exact ac_dvd h i
theorem kr_ext {p : Int} {a : Int → Int} {n m : Nat} (h : n ≤ m) (hz : ∀ k : Nat, n ≤ k → k < m → a k = 0) (s : Nat → Int) : Kr p a m s ↔ Kr p a n s := by
  unfold Kr
  exact ⟨fun hh i => by rw [← ac_ext h hz]; exact hh i, fun hh i => by rw [ac_ext h hz]; exact hh i⟩
theorem md_dvd (x p : Int) : p ∣ x % p - x := ⟨-(x / p), by rw [Int.emod_def, Int.mul_neg]; omega⟩
theorem kr_mod {p : Int} {a b : Int → Int} {n : Nat} {s : Nat → Int} (h : ∀ k : Nat, k < n → p ∣ a k - b k) (hs : Kr p b n s) : Kr p a n s := fun i => by
  have := Int.dvd_add (ac_mod h s i) (hs i)
  rw [show ac a n s i - ac b n s i + ac b n s i = ac a n s i by omega] at this
  exact this
/-- division -/
def e1 (p : Int) (g : Int → Int) (d top : Int) (c : Int → Int) : Int → Int := fun k => if top - d ≤ k ∧ k < top then (c k - c top * g (k - (top - d))) % p else c k
def dv (p : Int) (g : Int → Int) (d : Nat) : Nat → (Int → Int) → (Int → Int)
  | 0, c => c
  | n + 1, c => dv p g d n (e1 p g d ((d + n : Nat) : Int) c)
theorem dv_high (p : Int) (g : Int → Int) (d n : Nat) : ∀ (c : Int → Int) (k : Int), ((d + n : Nat) : Int) ≤ k + 1 → dv p g d n c k = c k := by
  induction n with
  | zero => intro c k h; rfl
  | succ n ih =>
    intro c k h
    show dv p g d n _ k = c k
    rw [ih _ k (by omega)]
    unfold e1
    rw [if_neg (by omega)]
theorem dv_low (p : Int) (g : Int → Int) (d n : Nat) : ∀ (c : Int → Int) (k : Int), k < 0 → dv p g d n c k = c k := by
  induction n with
  | zero => intro c k h; rfl
  | succ n ih =>
    intro c k h
    show dv p g d n _ k = c k
    rw [ih _ k h]
    unfold e1
    rw [if_neg (by omega)]
theorem e1_ac (p : Int) (g : Int → Int) (d n : Nat) (c : Int → Int) (s : Nat → Int) (i : Nat) : p ∣ ac (e1 p g d ((d + n : Nat) : Int) c) (d + n) s i - (ac c (d + n) s i - c ((d + n : Nat) : Int) * ac g d s (i + n)) := by
  rw [show d + n = n + d by omega, ac_split _ n d, ac_split c n d]
  have h1 : ac (e1 p g d ((n + d : Nat) : Int) c) n s i = ac c n s i := ac_cong (fun k hk => by unfold e1; rw [if_neg (by omega)]) s i
  have h2 : p ∣ ac (fun k => e1 p g d ((n + d : Nat) : Int) c (n + k)) d s (i + n) - ac (fun k => c (n + k) + (- c ((n + d : Nat) : Int)) * g k) d s (i + n) := by
    refine ac_mod (fun k hk => ?_) s _
    simp only [e1]
    rw [if_pos (by omega), show (n : Int) + k - (((n + d : Nat) : Int) - d) = k by omega]
    have := md_dvd (c (n + k) - c ((n + d : Nat) : Int) * g k) p
    rw [show c (n + k) + - c ((n + d : Nat) : Int) * g k = c (n + k) - c ((n + d : Nat) : Int) * g k by rw [Int.neg_mul]; omega]
    exact this
  rw [ac_add (fun k => c (n + k)) (fun k => - c ((n + d : Nat) : Int) * g k), ac_smul] at h2
  rw [h1]
  refine dvd_of h2 ?_
  rw [Int.neg_mul]; omega
theorem dv_spec {p : Int} {g : Int → Int} {d : Nat} (hg : g d = 1) (n : Nat) : ∀ (c : Int → Int) (s : Nat → Int) (i : Nat), p ∣ ac c (d + n) s i - (ac (dv p g d n c) d s i + ac (fun k => dv p g d n c (k + d)) n (fun j => ac g (d + 1) s j) i) := by
  induction n with
  | zero => intro c s i; exact ⟨0, by show ac c d s i - (ac c d s i + 0) = p * 0; omega⟩
  | succ n ih =>
    intro c s i
    have h1 := ih (e1 p g d ((d + n : Nat) : Int) c) s i
    have h2 := e1_ac p g d n c s i
    have h3 := Int.dvd_sub h1 h2
    have e3 : dv p g d n (e1 p g d ((d + n : Nat) : Int) c) ((n : Int) + d) = c ((d + n : Nat) : Int) := by
      rw [dv_high _ _ _ _ _ _ (by omega)]
      unfold e1
      rw [if_neg (by omega), show (n : Int) + d = ((d + n : Nat) : Int) by omega]
    show p ∣ ac c (d + n) s i + c ((d + n : Nat) : Int) * s (i + (d + n)) - (ac (dv p g d n (e1 p g d ((d + n : Nat) : Int) c)) d s i + (ac (fun k => dv p g d n (e1 p g d ((d + n : Nat) : Int) c) (k + d)) n (fun j => ac g (d + 1) s j) i + dv p g d n (e1 p g d ((d + n : Nat) : Int) c) ((n : Int) + d) * ac g (d + 1) s (i + n)))
    rw [e3, show ac g (d + 1) s (i + n) = ac g d s (i + n) + g d * s (i + n + d) from rfl, hg, Int.one_mul, Int.mul_add, show i + n + d = i + (d + n) by omega]
    refine dvd_of h3 ?_
    omega
/-- a sequence that a row with 1 in front kills, from any beginning -/
def rcs (g : Int → Int) (d : Nat) (v : Nat → Int) : Nat → (Nat → Int)
  | 0 => v
  | n + 1 => fun j => if j + 1 < d then rcs g d v n (j + 1) else - ac g d (rcs g d v n) 0
def rsq (g : Int → Int) (d : Nat) (v : Nat → Int) : Nat → Int := fun n => rcs g d v n 0
theorem rcs_at (g : Int → Int) (d : Nat) (v : Nat → Int) : ∀ (j n : Nat), j < d → rcs g d v n j = rsq g d v (n + j) := by
  intro j
  induction j with
  | zero => intro n h; rfl
  | succ j ih =>
    intro n h
    have := ih (n + 1) (by omega)
    rw [show n + (j + 1) = n + 1 + j by omega, ← this]
    show _ = if j + 1 < d then rcs g d v n (j + 1) else _
    rw [if_pos (by omega)]
theorem rsq_init (g : Int → Int) (d : Nat) (v : Nat → Int) (j : Nat) (h : j < d) : rsq g d v j = v j := by
  have := rcs_at g d v j 0 h
  rw [show 0 + j = j by omega] at this
  rw [← this]; rfl
theorem rsq_rec (g : Int → Int) (d : Nat) (v : Nat → Int) (hd : 1 ≤ d) (n : Nat) : rsq g d v (n + d) = - ac g d (rsq g d v) n := by
  have := rcs_at g d v (d - 1) (n + 1) (by omega)
  rw [show n + 1 + (d - 1) = n + d by omega] at this
  rw [← this]
  show (if d - 1 + 1 < d then _ else - ac g d (rcs g d v n) 0) = _
  rw [if_neg (by omega)]
  congr 1
  exact ac_scong (fun k hk => by rw [show 0 + k = k by omega]; exact rcs_at g d v k n hk)
theorem rsq_kr (p : Int) {g : Int → Int} {d : Nat} (v : Nat → Int) (hd : 1 ≤ d) (hg : g d = 1) : Kr p g (d + 1) (rsq g d v) := fun i => by
  refine ⟨0, ?_⟩
  show ac g d (rsq g d v) i + g d * rsq g d v (i + d) = p * 0
  rw [hg, rsq_rec g d v hd]; omega
theorem ac_delta (r : Int → Int) (j : Nat) : ∀ n : Nat, ac r n (fun k => if k = j then 1 else 0) 0 = if j < n then r j else 0 := by
  intro n
  induction n with
  | zero => rw [if_neg (by omega)]; rfl
  | succ n ih =>
    show ac r n _ 0 + r n * (if 0 + n = j then 1 else 0) = _
    rw [ih]
    by_cases e : n = j
    · subst e; rw [if_neg (by omega), if_pos (by omega), if_pos (by omega)]; omega
    · by_cases c : j < n
      · rw [if_pos c, if_neg (by omega), if_pos (by omega)]; omega
      · rw [if_neg c, if_neg (by omega), if_neg (by omega)]; omega
theorem kr_zero {p : Int} {g r : Int → Int} {d : Nat} (hg : g d = 1) (hd : 1 ≤ d) (h : ∀ s, Kr p g (d + 1) s → p ∣ ac r d s 0) (j : Nat) (hj : j < d) : p ∣ r j := by
  have := h (rsq g d (fun k => if k = j then 1 else 0)) (rsq_kr p _ hd hg)
  rw [ac_scong (t := fun k => if k = j then 1 else 0) (j := 0) (fun k hk => by rw [show 0 + k = k by omega, rsq_init _ _ _ _ hk]), ac_delta, if_pos hj] at this
  exact this
/-- g divides f -/
def Dv (p : Int) (g : Int → Int) (d : Nat) (f : Int → Int) (n : Nat) : Prop := ∀ s, Kr p g (d + 1) s → Kr p f n s
theorem dv_of_zero {p : Int} {g : Int → Int} {d n : Nat} {c : Int → Int} (hg : g d = 1) (h : ∀ k : Nat, k < d → p ∣ dv p g d n c k) : Dv p g d c (d + n) := by
  intro s hs i
  have h1 := dv_spec (p := p) hg n c s i
  have h2 : p ∣ ac (dv p g d n c) d s i := by
    have := ac_mod (p := p) (a := dv p g d n c) (b := fun _ => 0) (n := d) (fun k hk => by rw [Int.sub_zero]; exact h k hk) s i
    have e : ac (fun _ => 0) d s i = 0 := by
      have := ac_ext (a := fun _ => 0) (n := 0) (m := d) (by omega) (fun _ _ _ => rfl) s i
      rw [this]; rfl
    rw [e, Int.sub_zero] at this
    exact this
  have h3 : p ∣ ac (fun k => dv p g d n c (k + d)) n (fun j => ac g (d + 1) s j) i := ac_dvd hs i
  have h4 := Int.dvd_add h1 (Int.dvd_add h2 h3)
  refine dvd_of h4 ?_
  omega
theorem zero_of_dv {p : Int} {g : Int → Int} {d n : Nat} {c : Int → Int} (hg : g d = 1) (hd : 1 ≤ d) (h : Dv p g d c (d + n)) (k : Nat) (hk : k < d) : p ∣ dv p g d n c k := by
  refine kr_zero hg hd (fun s hs => ?_) k hk
  have h1 := dv_spec (p := p) hg n c s 0
  have h2 := h s hs 0
  have h3 : p ∣ ac (fun k => dv p g d n c (k + d)) n (fun j => ac g (d + 1) s j) 0 := ac_dvd hs 0
  have h4 := Int.dvd_sub (Int.dvd_sub h2 h1) h3
  refine dvd_of h4 ?_
  omega
/-- rows of residues -/
def Ro (p : Int) (a : Int → Int) : Prop := (∀ k, 0 ≤ k → k < 9 → 0 ≤ a k ∧ a k < p) ∧ ∀ k, ¬ (0 ≤ k ∧ k < 9) → a k = 0
def Mo (p : Int) (a : Int → Int) (m : Nat) : Prop := Ro p a ∧ m ≤ 8 ∧ a m = 1 ∧ ∀ k, (m : Int) < k → a k = 0
theorem kr_mo {p : Int} {a : Int → Int} {m : Nat} (h : Mo p a m) (s : Nat → Int) : Kr p a 9 s ↔ Kr p a (m + 1) s := kr_ext (by have := h.2.1; omega) (fun k k0 k1 => h.2.2.2 k (by omega)) s
theorem dg_mo {p : Int} {a : Int → Int} {m : Nat} (h : Mo p a m) : tp_dg a 9 = m := by
  have h1 := tp_dg_r a 9
  have h2 := tp_dg_top a 9
  have h3 := tp_dg_at a 9
  obtain ⟨-, a1, a2, a3⟩ := h
  by_cases c : tp_dg a 9 < m
  · have := h2 m c (by omega); omega
  · by_cases c2 : (m : Int) < tp_dg a 9
    · exact absurd (a3 _ c2) (h3 (by omega))
    · omega
theorem e1_skip {p : Int} {g : Int → Int} {d n : Nat} {c : Int → Int} (hr : ∀ k, 0 ≤ k → k < ((d + n : Nat) : Int) → 0 ≤ c k ∧ c k < p) (hz : c ((d + n : Nat) : Int) = 0) : e1 p g d ((d + n : Nat) : Int) c = c := by
  funext k
  unfold e1
  by_cases h : ((d + n : Nat) : Int) - d ≤ k ∧ k < ((d + n : Nat) : Int)
  · rw [if_pos h, hz, Int.zero_mul, Int.sub_zero]
    have := hr k (by omega) h.2
    exact Int.emod_eq_of_lt this.1 this.2
  · rw [if_neg h]
theorem e1_r {p : Int} (hp : 0 < p) {g : Int → Int} {d top : Int} {c : Int → Int} {N : Int} (h : ∀ k, 0 ≤ k → k < N → 0 ≤ c k ∧ c k < p) : ∀ k, 0 ≤ k → k < N → 0 ≤ e1 p g d top c k ∧ e1 p g d top c k < p := by
  intro k k0 k1
  unfold e1
  by_cases hc : top - d ≤ k ∧ k < top
  · rw [if_pos hc]; exact ⟨Int.emod_nonneg _ (by omega), Int.emod_lt_of_pos _ hp⟩
  · rw [if_neg hc]; exact h k k0 k1
theorem dv_r {p : Int} (hp : 0 < p) {g : Int → Int} {d : Nat} {N : Int} (n : Nat) : ∀ {c : Int → Int}, (∀ k, 0 ≤ k → k < N → 0 ≤ c k ∧ c k < p) → ∀ k, 0 ≤ k → k < N → 0 ≤ dv p g d n c k ∧ dv p g d n c k < p := by
  induction n with
  | zero => intro c h; exact h
  | succ n ih => intro c h; exact ih (e1_r hp h)
/-- places above the degree count for nothing -/
theorem dv_skip {p : Int} {g : Int → Int} {d : Nat} {c : Int → Int} (hr : ∀ k, 0 ≤ k → k < 9 → 0 ≤ c k ∧ c k < p) : ∀ (n m : Nat), d + n + m ≤ 9 → (∀ k : Int, ((d + n : Nat) : Int) ≤ k → k < 9 → c k = 0) → dv p g d (n + m) c = dv p g d n c := by
  intro n m
  induction m with
  | zero => intro _ _; rfl
  | succ m ih =>
    intro h hz
    show dv p g d (n + m) (e1 p g d ((d + (n + m) : Nat) : Int) c) = _
    rw [e1_skip (fun k k0 k1 => hr k k0 (by omega)) (hz _ (by omega) (by omega))]
    exact ih (by omega) hz
