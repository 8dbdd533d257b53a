def Pm (p : Int) : Prop := p = 2 ∨ p = 3 ∨ p = 5 ∨ p = 7
theorem pm_2 {p : Int} (h : Pm p) : 2 ≤ p ∧ p ≤ 7 := by unfold Pm at h; omega
theorem pm_inv {p x : Int} (h : Pm p) (hx : ¬ p ∣ x) : ∃ u, p ∣ u * x - 1 := by
  unfold Pm at h
  rcases h with rfl | rfl | rfl | rfl
  · exact ⟨1, by omega⟩
  · have : x % 3 = 1 ∨ x % 3 = 2 := by omega
    rcases this with h | h
    · exact ⟨1, by omega⟩
    · exact ⟨2, by omega⟩
  · have : x % 5 = 1 ∨ x % 5 = 2 ∨ x % 5 = 3 ∨ x % 5 = 4 := by omega
    rcases this with h | h | h | h
    · exact ⟨1, by omega⟩
    · exact ⟨3, by omega⟩
    · exact ⟨2, by omega⟩
    · exact ⟨4, by omega⟩
  · have : x % 7 = 1 ∨ x % 7 = 2 ∨ x % 7 = 3 ∨ x % 7 = 4 ∨ x % 7 = 5 ∨ x % 7 = 6 := by omega
    rcases this with h | h | h | h | h | h
    · exact ⟨1, by omega⟩
    · exact ⟨4, by omega⟩
    · exact ⟨5, by omega⟩
    · exact ⟨2, by omega⟩
    · exact ⟨3, by omega⟩
    · exact ⟨6, by omega⟩
theorem dvd_eq {p a b : Int} (ha : 0 ≤ a ∧ a < p) (hb : 0 ≤ b ∧ b < p) (h : p ∣ a - b) : a = b := by
  have := Int.emod_emod_of_dvd (a - b) h
  have h1 := (Int.emod_eq_emod_iff_emod_sub_eq_zero (m := a) (n := p) (k := b)).mpr (Int.emod_eq_zero_of_dvd h)
  rw [Int.emod_eq_of_lt ha.1 ha.2, Int.emod_eq_of_lt hb.1 hb.2] at h1
  exact h1
theorem dvd_one {p : Int} (h : Pm p) : ¬ p ∣ 1 := fun hd => by
  have := Int.le_of_dvd (by omega) hd
  have := pm_2 h
  omega
theorem mo_eq {p : Int} {g h : Int → Int} {d : Nat} (hg : Mo p g d) (hh : Mo p h d) (e : ∀ j : Nat, j < d → p ∣ h j - g j) : g = h := by
  funext k
  by_cases c0 : 0 ≤ k ∧ k < 9
  · by_cases c1 : k < d
    · have := e k.toNat (by omega)
      rw [show ((k.toNat : Nat) : Int) = k by omega] at this
      exact (dvd_eq (hh.1.1 k c0.1 c0.2) (hg.1.1 k c0.1 c0.2) this).symm
    · by_cases c2 : k = d
      · rw [c2, hg.2.2.1, hh.2.2.1]
      · rw [hg.2.2.2 k (by omega), hh.2.2.2 k (by omega)]
  · rw [hg.1.2 k c0, hh.1.2 k c0]
theorem ac_sub (h g : Int → Int) (n : Nat) (s : Nat → Int) (i : Nat) : ac (fun k => h k - g k) n s i = ac h n s i - ac g n s i := by
  have e : (fun k => h k - g k) = (fun k => h k + (-1) * g k) := by funext k; omega
  rw [e, ac_add h (fun k => (-1) * g k), ac_smul]; omega
theorem dv_same {p : Int} {g h : Int → Int} {d : Nat} (hd : 1 ≤ d) (hg : Mo p g d) (hh : Mo p h d) (H : Dv p g d h 9) : g = h := by
  refine mo_eq hg hh (fun j hj => kr_zero (r := fun k => h k - g k) hg.2.2.1 hd (fun s hs => ?_) j hj)
  have h1 := hs 0
  have h2 := (kr_mo hh s).mp (H s hs) 0
  rw [ac_sub]
  have h3 := Int.dvd_sub h2 h1
  have e1 : ac h (d + 1) s 0 = ac h d s 0 + h d * s (0 + d) := rfl
  have e2 : ac g (d + 1) s 0 = ac g d s 0 + g d * s (0 + d) := rfl
  rw [e1, e2, hg.2.2.1, hh.2.2.1] at h3
  refine dvd_of h3 ?_
  omega
theorem dv_refl (p : Int) {g : Int → Int} {d : Nat} (hg : Mo p g d) : Dv p g d g 9 := fun s hs => (kr_mo hg s).mpr hs
theorem dv_deg {p : Int} {g R : Int → Int} {d m : Nat} (hp : Pm p) (hd : 1 ≤ d) (hg : Mo p g d) (hR : Mo p R m) (H : Dv p g d R 9) : d ≤ m := by
  by_cases c : d ≤ m
  · exact c
  · exfalso
    have := kr_zero (r := R) hg.2.2.1 hd (fun s hs => by
      have h1 := (kr_mo hR s).mp (H s hs) 0
      rw [ac_ext (n := m + 1) (m := d) (by omega) (fun k k0 k1 => hR.2.2.2 k (by omega))]
      exact h1) m (by omega)
    rw [hR.2.2.1] at this
    exact dvd_one hp this
def dvb (p : Int) (g : Int → Int) (d : Nat) (R : Int → Int) : Bool := decide (∀ k : Nat, k < d → dv p g d (9 - d) R k = 0)
theorem dvb_iff {p : Int} {g R : Int → Int} {d : Nat} (hp : Pm p) (hd : 1 ≤ d) (hg : Mo p g d) (hR : Ro p R) : dvb p g d R = true ↔ Dv p g d R 9 := by
  have h9 : d + (9 - d) = 9 := by have := hg.2.1; omega
  have hp2 := pm_2 hp
  unfold dvb
  rw [decide_eq_true_eq]
  constructor
  · intro h
    have := dv_of_zero (p := p) (n := 9 - d) (c := R) hg.2.2.1 (fun k hk => by rw [h k hk]; exact ⟨0, by omega⟩)
    rw [h9] at this; exact this
  · intro h k hk
    rw [← h9] at h
    have h1 := zero_of_dv hg.2.2.1 hd h k hk
    have h2 := dv_r (p := p) (by omega) (g := g) (d := d) (N := 9) (9 - d) (c := R) hR.1 k (by omega) (by have := hg.2.1; omega)
    exact dvd_eq (p := p) h2 ⟨by omega, by omega⟩ (by rw [Int.sub_zero]; exact h1)
def qr (p : Int) (g : Int → Int) (d : Nat) (R : Int → Int) : Int → Int := fun k => if 0 ≤ k ∧ k + d < 9 then dv p g d (9 - d) R (k + d) else 0
theorem dv_top {p : Int} {g R : Int → Int} {d m : Nat} (hR : Mo p R m) (h : d ≤ m) : dv p g d (9 - d) R = dv p g d (m + 1 - d) R := by
  have := dv_skip (p := p) (g := g) (d := d) (c := R) hR.1.1 (m + 1 - d) (8 - m) (by have := hR.2.1; omega) (fun k k0 k1 => hR.2.2.2 k (by omega))
  rw [← this, show m + 1 - d + (8 - m) = 9 - d by have := hR.2.1; omega]
theorem qr_mo {p : Int} {g R : Int → Int} {d m : Nat} (hp : Pm p) (hR : Mo p R m) (h : d ≤ m) : Mo p (qr p g d R) (m - d) := by
  have hp2 := pm_2 hp
  have hm := hR.2.1
  have e := dv_top (g := g) hR h
  refine ⟨⟨fun k k0 k1 => ?_, fun k hk => ?_⟩, by omega, ?_, fun k hk => ?_⟩
  · unfold qr
    by_cases c : 0 ≤ k ∧ k + d < 9
    · rw [if_pos c]; exact dv_r (by omega) (N := 9) _ hR.1.1 _ (by omega) (by omega)
    · rw [if_neg c]; omega
  · unfold qr; rw [if_neg (by omega)]
  · unfold qr
    rw [if_pos (by omega), e, dv_high _ _ _ _ _ _ (by omega), show ((m - d : Nat) : Int) + d = m by omega]
    exact hR.2.2.1
  · unfold qr
    by_cases c : 0 ≤ k ∧ k + d < 9
    · rw [if_pos c, e, dv_high _ _ _ _ _ _ (by omega)]; exact hR.2.2.2 _ (by omega)
    · rw [if_neg c]
/-- R is g times q -/
def Pr (p : Int) (R g : Int → Int) (d : Nat) (q : Int → Int) : Prop := ∀ s i, p ∣ ac R 9 s i - ac q 9 (fun j => ac g (d + 1) s j) i
theorem qr_pr {p : Int} {g R : Int → Int} {d : Nat} (hd : 1 ≤ d) (hg : Mo p g d) (H : Dv p g d R 9) : Pr p R g d (qr p g d R) := by
  have h9 : d + (9 - d) = 9 := by have := hg.2.1; omega
  intro s i
  have h1 := dv_spec (p := p) hg.2.2.1 (9 - d) R s i
  rw [h9] at h1
  have h2 : p ∣ ac (dv p g d (9 - d) R) d s i := by
    have := ac_mod (p := p) (a := dv p g d (9 - d) R) (b := fun _ => 0) (n := d) (fun k hk => by rw [Int.sub_zero]; exact zero_of_dv hg.2.2.1 hd (by rw [h9]; exact H) k hk) s i
    have e : ac (fun _ => 0) d s i = 0 := by
      have := ac_ext (a := fun _ => 0) (n := 0) (m := d) (by omega) (fun _ _ _ => rfl) s i
      rw [this]; rfl
    rw [e, Int.sub_zero] at this
    exact this
  have e1 : ac (qr p g d R) 9 (fun j => ac g (d + 1) s j) i = ac (fun k => dv p g d (9 - d) R (k + d)) (9 - d) (fun j => ac g (d + 1) s j) i := by
    rw [ac_ext (n := 9 - d) (m := 9) (by omega) (fun k k0 k1 => by unfold qr; rw [if_neg (by omega)])]
    exact ac_cong (fun k hk => by unfold qr; rw [if_pos (by omega)]) _ _
  rw [e1]
  have h4 := Int.dvd_add h1 h2
  refine dvd_of h4 ?_
  omega
theorem pr_q {p : Int} {R g q : Int → Int} {d : Nat} (h : Pr p R g d q) {s : Nat → Int} (hs : Kr p q 9 s) : Kr p R 9 s := fun i => by
  have h1 := h s i
  rw [ac_comm q 9 g (d + 1)] at h1
  have h2 : p ∣ ac g (d + 1) (fun j => ac q 9 s j) i := ac_dvd hs i
  have h3 := Int.dvd_add h1 h2
  refine dvd_of h3 ?_
  omega
def Ir (p : Int) (g : Int → Int) (d : Nat) : Prop := ∀ (e : Int → Int) (m : Nat), 1 ≤ m → m < d → Mo p e m → ¬ Dv p e m g 9
/-- what a row and a lesser one both kill is nothing, if the first has no divisors -/
theorem co_zero {p : Int} (hp : Pm p) {g : Int → Int} {d : Nat} (hg : Mo p g d) (hi : Ir p g d) : ∀ (m : Nat) (r : Int → Int), m ≤ d → (∃ j : Nat, j < m ∧ ¬ p ∣ r j) → ∀ s, Kr p g (d + 1) s → Kr p r m s → ∀ i, p ∣ s i := by
  have hp2 := pm_2 hp
  have hd8 := hg.2.1
  intro m
  induction m using Nat.strongRecOn with
  | ind m ih =>
    intro r hm hj s hs hr i
    obtain ⟨j, hj1, hj2⟩ := hj
    obtain ⟨m, rfl⟩ : ∃ k, m = k + 1 := ⟨m - 1, by omega⟩
    by_cases c : p ∣ r m
    · refine ih m (by omega) r (by omega) ⟨j, ?_, hj2⟩ s hs (fun i => ?_) i
      · by_cases e : j = m
        · subst e; exact absurd c hj2
        · omega
      · have h1 := hr i
        have h2 : p ∣ r m * s (i + m) := Int.dvd_mul_of_dvd_left c
        have h3 := Int.dvd_sub h1 h2
        have e : ac r (m + 1) s i = ac r m s i + r m * s (i + m) := rfl
        rw [e] at h3
        refine dvd_of h3 ?_
        omega
    · obtain ⟨u, hu⟩ := pm_inv hp c
      have he : Mo p (fun k => if 0 ≤ k ∧ k < (m : Int) then (u * r k) % p else if k = m then 1 else 0) m := by
        refine ⟨⟨fun k k0 k1 => ?_, fun k hk => ?_⟩, by omega, ?_, fun k hk => ?_⟩
        · simp only
          by_cases c1 : 0 ≤ k ∧ k < (m : Int)
          · rw [if_pos c1]; exact ⟨Int.emod_nonneg _ (by omega), Int.emod_lt_of_pos _ (by omega)⟩
          · rw [if_neg c1]
            by_cases c2 : k = m
            · rw [if_pos c2]; omega
            · rw [if_neg c2]; omega
        · simp only
          rw [if_neg (by omega), if_neg (by omega)]
        · show (if _ then _ else if (m : Int) = m then _ else _) = _
          rw [if_neg (by omega), if_pos rfl]
        · simp only
          rw [if_neg (by omega), if_neg (by omega)]
      have hk : Kr p (fun k => if 0 ≤ k ∧ k < (m : Int) then (u * r k) % p else if k = m then 1 else 0) (m + 1) s := by
        refine kr_mod (b := fun k => u * r k) (fun k hk => ?_) (fun i => by rw [ac_smul]; exact Int.dvd_mul_of_dvd_right (hr i))
        by_cases c1 : k < m
        · rw [if_pos (by omega)]; exact md_dvd _ _
        · rw [if_neg (by omega), if_pos (by omega)]
          have : (k : Int) = m := by omega
          rw [this]
          have := Int.dvd_neg.mpr hu
          rw [show - (u * r m - 1) = 1 - u * r m by omega] at this
          exact this
      generalize hee : (fun k : Int => if 0 ≤ k ∧ k < (m : Int) then (u * r k) % p else if k = m then 1 else 0) = e at he hk
      by_cases c0 : m = 0
      · subst c0
        have := hk i
        have e1 : ac e (0 + 1) s i = 0 + e ((0 : Nat) : Int) * s (i + 0) := rfl
        rw [e1, he.2.2.1, show i + 0 = i by omega] at this
        refine dvd_of this ?_
        omega
      · have h9 : m + (9 - m) = 9 := by omega
        by_cases ca : ∀ k : Nat, k < m → p ∣ dv p e m (9 - m) g k
        · have := dv_of_zero (p := p) (n := 9 - m) he.2.2.1 ca
          rw [h9] at this
          exact absurd this (hi e m (by omega) (by omega) he)
        · have ⟨j', hj'⟩ : ∃ k : Nat, k < m ∧ ¬ p ∣ dv p e m (9 - m) g k := Classical.byContradiction fun hn => ca (fun k hk => Classical.byContradiction fun h2 => hn ⟨k, hk, h2⟩)
          refine ih m (by omega) (dv p e m (9 - m) g) (by omega) ⟨j', hj'⟩ s hs (fun i => ?_) i
          have h1 := dv_spec (p := p) he.2.2.1 (9 - m) g s i
          rw [h9] at h1
          have h2 := (kr_mo hg s).mpr hs i
          have h3 : p ∣ ac (fun k => dv p e m (9 - m) g (k + m)) (9 - m) (fun j => ac e (m + 1) s j) i := ac_dvd hk i
          have h4 := Int.dvd_sub (Int.dvd_sub h2 h1) h3
          refine dvd_of h4 ?_
          omega
theorem euclid {p : Int} (hp : Pm p) {g h R q : Int → Int} {d : Nat} (hg : Mo p g d) (hi : Ir p g d) (hh : Mo p h d) (hne : g ≠ h) (hP : Pr p R h d q) (H : Dv p g d R 9) : Dv p g d q 9 := by
  intro s hs
  have k1 : Kr p g (d + 1) (fun j => ac q 9 s j) := kr_ac hs q 9
  have k2 : Kr p h (d + 1) (fun j => ac q 9 s j) := fun i => by
    rw [ac_comm]
    have := Int.dvd_sub (H s hs i) (hP s i)
    refine dvd_of this ?_
    omega
  have ⟨j, hj⟩ : ∃ j : Nat, j < d ∧ ¬ p ∣ h j - g j := Classical.byContradiction fun hn => hne (mo_eq hg hh (fun j hj => Classical.byContradiction fun h2 => hn ⟨j, hj, h2⟩))
  intro i
  refine co_zero hp hg hi d (fun k => h k - g k) (by omega) ⟨j, hj⟩ (fun j => ac q 9 s j) k1 (fun i => ?_) i
  rw [ac_sub]
  have h3 := Int.dvd_sub (k2 i) (k1 i)
  have e1 : ∀ t : Nat → Int, ac h (d + 1) t i = ac h d t i + h d * t (i + d) := fun _ => rfl
  have e2 : ∀ t : Nat → Int, ac g (d + 1) t i = ac g d t i + g d * t (i + d) := fun _ => rfl
  rw [e1, e2, hg.2.2.1, hh.2.2.1] at h3
  refine dvd_of h3 ?_
  omega
/-- what x^(p^d) and x do alike -/
def Fp (p : Int) (d : Nat) (s : Nat → Int) : Prop := ∀ i, p ∣ s (i + p.toNat ^ d) - s (i + 1)
theorem ac_n (g : Int → Int) (n : Nat) (s : Nat → Int) (i : Nat) : ac g n (fun j => (j : Int) * s j) i = (i : Int) * ac g n s i + ac (fun k => k * g k) n s i := by
  induction n with
  | zero => unfold ac; omega
  | succ n ih =>
    show ac g n (fun j => (j : Int) * s j) i + g n * (((i + n : Nat) : Int) * s (i + n)) = i * (ac g n s i + g n * s (i + n)) + (ac (fun k => k * g k) n s i + (n : Int) * g n * s (i + n))
    rw [ih, Int.mul_add, show ((i + n : Nat) : Int) = (i : Int) + n by omega, Int.add_mul, Int.mul_add, Int.mul_left_comm (g n) i, Int.mul_left_comm (g n) n, Int.mul_assoc]; omega
theorem pw_p {p : Int} (hp : Pm p) {d : Nat} (hd : 1 ≤ d) : p ∣ ((p.toNat ^ d : Nat) : Int) ∧ 2 ≤ p.toNat ^ d := by
  have hp2 := pm_2 hp
  obtain ⟨d, rfl⟩ : ∃ k, d = k + 1 := ⟨d - 1, by omega⟩
  rw [Nat.pow_succ]
  constructor
  · rw [Int.natCast_mul, Int.toNat_of_nonneg (by omega)]; exact ⟨_, Int.mul_comm _ _⟩
  · have : 1 ≤ p.toNat ^ d := Nat.pos_of_ne_zero (by have := Nat.pow_pos (n := d) (show 0 < p.toNat by omega); omega)
    calc 2 ≤ 1 * p.toNat := by omega
      _ ≤ p.toNat ^ d * p.toNat := Nat.mul_le_mul_right _ this
/-- no square divides -/
theorem no_sq {p : Int} (hp : Pm p) {g C q : Int → Int} {d : Nat} (hd : 1 ≤ d) (hg : Mo p g d) (hF : ∀ s, Kr p C 9 s → Fp p d s) (hP : Pr p C g d q) (H : Dv p g d q 9) : False := by
  have hp2 := pm_2 hp
  obtain ⟨pw1, pw2⟩ := pw_p hp hd
  have st : ∀ s, Kr p g (d + 1) (fun j => ac g (d + 1) s j) → Fp p d s := fun s hs => hF s (fun i => by
    have h1 := hP s i
    have h2 := H _ hs i
    have h3 := Int.dvd_add h1 h2
    refine dvd_of h3 ?_
    omega)
  have all : ∀ s, Kr p g (d + 1) s → ∀ i, p ∣ s (i + 1) := by
    intro s hs i
    have f1 := st s (fun i => ac_dvd hs i) i
    have f2 := st (fun j => (j : Int) * s j) (by
      have k1 : Kr p g (d + 1) (fun j => ac (fun k => k * g k) (d + 1) s j) := kr_ac hs _ _
      intro i
      have h1 := k1 i
      have h2 := ac_smod (p := p) (a := g) (n := d + 1) (s := fun j => ac g (d + 1) (fun j => (j : Int) * s j) j) (t := fun j => ac (fun k => k * g k) (d + 1) s j) (fun j => by
        rw [ac_n, show (j : Int) * ac g (d + 1) s j + ac (fun k => k * g k) (d + 1) s j - ac (fun k => k * g k) (d + 1) s j = (j : Int) * ac g (d + 1) s j by omega]
        exact Int.dvd_mul_of_dvd_right (hs j)) i
      have h3 := Int.dvd_add h2 h1
      refine dvd_of h3 ?_
      omega) i
    simp only at f2
    have f3 : p ∣ ((i + p.toNat ^ d : Nat) : Int) * (s (i + p.toNat ^ d) - s (i + 1)) := Int.dvd_mul_of_dvd_right f1
    have f4 : p ∣ ((p.toNat ^ d : Nat) : Int) * s (i + 1) := Int.dvd_mul_of_dvd_left pw1
    have f5 := Int.dvd_add (Int.dvd_sub f3 f2) f4
    refine dvd_of f5 ?_
    rw [Int.mul_sub, show ((i + p.toNat ^ d : Nat) : Int) = (i : Int) + ((p.toNat ^ d : Nat) : Int) by omega, show ((i + 1 : Nat) : Int) = (i : Int) + 1 by omega, Int.add_mul, Int.add_mul, Int.add_mul, Int.one_mul]
    omega
  by_cases c : d = 1
  · subst c
    have h1 := all (rsq g 1 (fun _ => 1)) (rsq_kr p _ (by omega) hg.2.2.1) 0
    have e := rsq_rec g 1 (fun _ => 1) (by omega) 0
    rw [e] at h1
    have e2 : ac g 1 (rsq g 1 (fun _ => 1)) 0 = 0 + g ((0 : Nat) : Int) * rsq g 1 (fun _ => 1) (0 + 0) := rfl
    rw [e2, rsq_init _ _ _ _ (by omega), Int.mul_one] at h1
    have h2 := Int.dvd_neg.mp h1
    have g0 : g 0 = 0 := dvd_eq (hg.1.1 0 (by omega) (by omega)) ⟨by omega, by omega⟩ (by refine dvd_of h2 ?_; show 0 + g 0 = _; omega)
    have sh : ∀ (s : Nat → Int) i, ac g (1 + 1) s i = s (i + 1) := fun s i => by
      show 0 + g 0 * s (i + 0) + g ((1 : Nat) : Int) * s (i + 1) = _
      rw [g0, hg.2.2.1]; omega
    have h3 : p ∣ (if 0 + p.toNat ^ 1 = 1 then (1 : Int) else 0) - (if 0 + 1 = 1 then (1 : Int) else 0) := st (fun j => if j = 1 then 1 else 0) (fun i => by
      rw [sh, sh, if_neg (by omega)]; exact ⟨0, by omega⟩) 0
    rw [if_neg (by omega), if_pos (by omega)] at h3
    have h4 := Int.dvd_neg.mpr h3
    exact dvd_one hp (dvd_of h4 (by omega))
  · have h1 := all (rsq g d (fun _ => 1)) (rsq_kr p _ hd hg.2.2.1) 0
    rw [rsq_init _ _ _ _ (by omega)] at h1
    exact dvd_one hp h1
def mt (p : Int) (g : Int → Int) (d : Nat) : Nat → (Int → Int) → Nat × (Int → Int)
  | 0, R => (0, R)
  | n + 1, R => if (d : Int) ≤ tp_dg R 9 ∧ dvb p g d R = true then ((mt p g d n (qr p g d R)).1 + 1, (mt p g d n (qr p g d R)).2) else (0, R)
theorem mt_spec {p : Int} (hp : Pm p) {g : Int → Int} {d : Nat} (hd : 1 ≤ d) (hg : Mo p g d) : ∀ (n : Nat) (R : Int → Int) (m : Nat), Mo p R m → m < n → ∃ m' : Nat, Mo p (mt p g d n R).2 m' ∧ m = m' + (mt p g d n R).1 * d ∧ ¬ Dv p g d (mt p g d n R).2 9 ∧ (∀ s, Kr p (mt p g d n R).2 9 s → Kr p R 9 s) ∧ ((mt p g d n R).1 = 0 → ¬ Dv p g d R 9 ∧ (mt p g d n R).2 = R) ∧ (∀ h, Mo p h d → h ≠ g → Ir p h d → Dv p h d R 9 → Dv p h d (mt p g d n R).2 9) := by
  intro n
  induction n with
  | zero => intro R m _ h; omega
  | succ n ih =>
    intro R m hR hm
    have eg := dg_mo hR
    by_cases c : Dv p g d R 9
    · have hdm := dv_deg hp hd hg hR c
      have cb : (d : Int) ≤ tp_dg R 9 ∧ dvb p g d R = true := ⟨by omega, (dvb_iff hp hd hg hR.1).mpr c⟩
      have e : mt p g d (n + 1) R = ((mt p g d n (qr p g d R)).1 + 1, (mt p g d n (qr p g d R)).2) := by
        show (if (d : Int) ≤ tp_dg R 9 ∧ dvb p g d R = true then _ else _) = _
        rw [if_pos cb]
      rw [e]
      have hP := qr_pr hd hg c
      obtain ⟨m', q1, q2, q3, q4, q5, q6⟩ := ih (qr p g d R) (m - d) (qr_mo hp hR hdm) (by omega)
      refine ⟨m', q1, by rw [Nat.add_mul]; omega, q3, fun s hs => pr_q hP (q4 s hs), fun h => by simp only at h; omega, fun h h1 h2 h3 h4 => q6 h h1 h2 h3 (euclid hp h1 h3 hg h2 hP h4)⟩
    · have cb : ¬ ((d : Int) ≤ tp_dg R 9 ∧ dvb p g d R = true) := fun h => c ((dvb_iff hp hd hg hR.1).mp h.2)
      have e : mt p g d (n + 1) R = (0, R) := by
        show (if (d : Int) ≤ tp_dg R 9 ∧ dvb p g d R = true then _ else _) = _
        rw [if_neg cb]
      rw [e]
      exact ⟨m, hR, by simp only; omega, c, fun s hs => hs, fun _ => ⟨c, rfl⟩, fun h h1 h2 h3 h4 => h4⟩
/-- candidates by number -/
def dq (p : Int) : Nat → Int → Int
  | 0, n => n
  | k + 1, n => dq p k n / p
def cand (p : Int) (d : Nat) (n : Int) : Int → Int := fun k => if 0 ≤ k ∧ k < (d : Int) then dq p k.toNat n % p else if k = d then 1 else 0
theorem cand_mo {p : Int} (hp : Pm p) {d : Nat} (hd : d ≤ 8) (n : Int) : Mo p (cand p d n) d := by
  have hp2 := pm_2 hp
  refine ⟨⟨fun k k0 k1 => ?_, fun k hk => ?_⟩, hd, ?_, fun k hk => ?_⟩
  · unfold cand
    by_cases c1 : 0 ≤ k ∧ k < (d : Int)
    · rw [if_pos c1]; exact ⟨Int.emod_nonneg _ (by omega), Int.emod_lt_of_pos _ (by omega)⟩
    · rw [if_neg c1]
      by_cases c2 : k = d
      · rw [if_pos c2]; omega
      · rw [if_neg c2]; omega
  · unfold cand
    rw [if_neg (by omega), if_neg (by omega)]
  · unfold cand
    rw [if_neg (by omega), if_pos rfl]
  · unfold cand
    rw [if_neg (by omega), if_neg (by omega)]
def cdt (p : Int) (g : Int → Int) : Nat → Nat → Int
  | 0, _ => 0
  | n + 1, k => g k + p * cdt p g n (k + 1)
theorem cdt_r {p : Int} (hp : 0 < p) {g : Int → Int} {d : Nat} (h : ∀ k : Nat, k < d → 0 ≤ g k ∧ g k < p) : ∀ n k : Nat, k + n ≤ d → 0 ≤ cdt p g n k ∧ cdt p g n k < p ^ n := by
  intro n
  induction n with
  | zero => intro k _; exact ⟨by unfold cdt; omega, by unfold cdt; rw [Int.pow_zero]; omega⟩
  | succ n ih =>
    intro k hk
    have h1 := ih (k + 1) (by omega)
    have h2 := h k (by omega)
    have h3 : 0 ≤ p * cdt p g n (k + 1) := Int.mul_nonneg (by omega) h1.1
    have h4 : p * cdt p g n (k + 1) ≤ p * (p ^ n - 1) := Int.mul_le_mul_of_nonneg_left (by omega) (by omega)
    rw [Int.mul_sub, Int.mul_one] at h4
    rw [Int.pow_succ, Int.mul_comm]
    unfold cdt
    omega
theorem cdt_dq {p : Int} (hp : 0 < p) {g : Int → Int} {d : Nat} (h : ∀ k : Nat, k < d → 0 ≤ g k ∧ g k < p) : ∀ j : Nat, j ≤ d → dq p j (cdt p g d 0) = cdt p g (d - j) j := by
  intro j
  induction j with
  | zero => intro _; rfl
  | succ j ih =>
    intro hj
    show dq p j (cdt p g d 0) / p = _
    rw [ih (by omega), show d - j = (d - (j + 1)) + 1 by omega]
    show (g j + p * cdt p g (d - (j + 1)) (j + 1)) / p = _
    have := h j (by omega)
    rw [Int.add_mul_ediv_left _ _ (by omega), Int.ediv_eq_zero_of_lt this.1 this.2]; omega
theorem cand_sur {p : Int} (hp : Pm p) {g : Int → Int} {d : Nat} (hg : Mo p g d) : ∃ n, 0 ≤ n ∧ n < p ^ d ∧ g = cand p d n := by
  have hp2 := pm_2 hp
  have hr : ∀ k : Nat, k < d → 0 ≤ g k ∧ g k < p := fun k hk => hg.1.1 k (by omega) (by have := hg.2.1; omega)
  have h1 := cdt_r (by omega) hr d 0 (by omega)
  refine ⟨cdt p g d 0, h1.1, h1.2, mo_eq hg (cand_mo hp hg.2.1 _) (fun j hj => ?_)⟩
  unfold cand
  rw [if_pos (by omega), show ((j : Int)).toNat = j by omega, cdt_dq (by omega) hr j (by omega), show d - j = (d - (j + 1)) + 1 by omega]
  have e : cdt p g ((d - (j + 1)) + 1) j = g j + p * cdt p g (d - (j + 1)) (j + 1) := rfl
  have := hr j hj
  rw [e, Int.add_mul_emod_self_left, Int.emod_eq_of_lt this.1 this.2]
  exact ⟨0, by omega⟩
theorem dq_r {p : Int} (hp : 0 < p) {n : Int} (h0 : 0 ≤ n) : ∀ (j m : Nat), n < p ^ (j + m) → 0 ≤ dq p j n ∧ dq p j n < p ^ m := by
  intro j
  induction j with
  | zero => intro m h; rw [show 0 + m = m by omega] at h; exact ⟨h0, h⟩
  | succ j ih =>
    intro m h
    have := ih (m + 1) (by rw [show j + (m + 1) = j + 1 + m by omega]; exact h)
    rw [Int.pow_succ] at this
    exact ⟨Int.ediv_nonneg this.1 (by omega), Int.ediv_lt_of_lt_mul hp this.2⟩
theorem cdt_cand {p : Int} (hp : Pm p) {d : Nat} {n : Int} (h0 : 0 ≤ n) (h1 : n < p ^ d) : ∀ m j : Nat, j + m = d → cdt p (cand p d n) m j = dq p j n := by
  have hp2 := pm_2 hp
  intro m
  induction m with
  | zero =>
    intro j hj
    have := dq_r (p := p) (by omega) h0 j 0 (by rw [hj]; exact h1)
    rw [Int.pow_zero] at this
    unfold cdt; omega
  | succ m ih =>
    intro j hj
    show cand p d n j + p * cdt p (cand p d n) m (j + 1) = _
    rw [ih (j + 1) (by omega)]
    unfold cand
    rw [if_pos (by omega), show ((j : Int)).toNat = j by omega]
    show dq p j n % p + p * (dq p j n / p) = _
    exact Int.emod_add_mul_ediv _ _
theorem cand_inj {p : Int} (hp : Pm p) {d : Nat} {n m : Int} (h0 : 0 ≤ n) (h1 : n < p ^ d) (h2 : 0 ≤ m) (h3 : m < p ^ d) (e : cand p d n = cand p d m) : n = m := by
  have e1 := cdt_cand hp h0 h1 d 0 (by omega)
  have e2 := cdt_cand hp h2 h3 d 0 (by omega)
  rw [e] at e1
  exact e1.symm.trans e2
def rp (p : Int) (d : Nat) : Nat → Int → (Int → Int) → List (Nat × Nat × (Int → Int)) × (Int → Int)
  | 0, _, R => ([], R)
  | m + 1, n, R => if tp_dg R 9 < d then ([], R) else if (mt p (cand p d n) d 9 R).1 = 0 then rp p d m (n + 1) R else ((d, (mt p (cand p d n) d 9 R).1, cand p d n) :: (rp p d m (n + 1) (mt p (cand p d n) d 9 R).2).1, (rp p d m (n + 1) (mt p (cand p d n) d 9 R).2).2)
def cl (p : Int) (d : Nat) : Nat → Int → (Int → Int) → (Int → Int) → List (Nat × Nat × (Int → Int)) × (Int → Int) × (Int → Int)
  | 0, _, C, R => ([], C, R)
  | m + 1, n, C, R => if tp_dg C 9 ≤ d then ([], C, R) else if dvb p (cand p d n) d C = true then ((d, (mt p (cand p d n) d 9 R).1, cand p d n) :: (cl p d m (n + 1) (qr p (cand p d n) d C) (mt p (cand p d n) d 9 R).2).1, (cl p d m (n + 1) (qr p (cand p d n) d C) (mt p (cand p d n) d 9 R).2).2) else cl p d m (n + 1) C R
def cfin (p : Int) (d : Nat) (r : List (Nat × Nat × (Int → Int)) × (Int → Int) × (Int → Int)) : List (Nat × Nat × (Int → Int)) × (Int → Int) := if tp_dg r.2.1 9 = d then (r.1 ++ [(d, (mt p r.2.1 d 9 r.2.2).1, r.2.1)], (mt p r.2.1 d 9 r.2.2).2) else (r.1, r.2.2)
theorem cfin_cons (p : Int) (d : Nat) (x : Nat × Nat × (Int → Int)) (l : List (Nat × Nat × (Int → Int))) (CR : (Int → Int) × (Int → Int)) : cfin p d (x :: l, CR) = (x :: (cfin p d (l, CR)).1, (cfin p d (l, CR)).2) := by
  unfold cfin
  by_cases h : tp_dg CR.1 9 = d
  · simp only [if_pos h, List.cons_append]
  · simp only [if_neg h]
theorem rp_small {p : Int} {d : Nat} {R : Int → Int} (h : tp_dg R 9 < d) : ∀ (m : Nat) (n : Int), rp p d m n R = ([], R) := by
  intro m n
  cases m with
  | zero => rfl
  | succ m => unfold rp; rw [if_pos h]
theorem cl_small {p : Int} {d : Nat} {C R : Int → Int} (h : tp_dg C 9 ≤ d) : ∀ (m : Nat) (n : Int), cl p d m n C R = ([], C, R) := by
  intro m n
  cases m with
  | zero => rfl
  | succ m => unfold cl; rw [if_pos h]
def noDv (p : Int) (d : Nat) (R : Int → Int) : Prop := ∀ (e : Int → Int) (m : Nat), 1 ≤ m → m < d → Mo p e m → ¬ Dv p e m R 9
theorem phase {p : Int} (hp : Pm p) {d : Nat} (hd : 1 ≤ d ∧ d ≤ 8) : ∀ (m : Nat) (n : Int) (C R : Int → Int) (mC mR : Nat), 0 ≤ n → n + m = p ^ d → Mo p C mC → Mo p R mR → noDv p d R → (∀ s, Kr p C 9 s → Fp p d s) → (∀ j, n ≤ j → j < p ^ d → (Dv p (cand p d j) d C 9 ↔ Dv p (cand p d j) d R 9)) → (∀ j, 0 ≤ j → j < n → ¬ Dv p (cand p d j) d C 9) → cfin p d (cl p d m n C R) = rp p d m n R := by
  intro m
  induction m with
  | zero =>
    intro n C R mC mR h0 hn hC hR hN hF hA hB
    unfold cl rp cfin
    have e := dg_mo hC
    by_cases c : tp_dg C 9 = d
    · exfalso
      have : mC = d := by omega
      subst this
      obtain ⟨j, j0, j1, ej⟩ := cand_sur hp hC
      exact hB j j0 (by omega) (ej ▸ dv_refl p hC)
    · simp only [if_neg c]
  | succ m ih =>
    intro n C R mC mR h0 hn hC hR hN hF hA hB
    have hg := cand_mo hp hd.2 n
    have eC := dg_mo hC
    have eR := dg_mo hR
    have hAn := hA n (by omega) (by omega)
    have hIr : ∀ j, Dv p (cand p d j) d R 9 → Ir p (cand p d j) d := fun j hj e m' h1 h2 h3 h4 => hN e m' h1 h2 h3 (fun s hs => hj s ((kr_mo (cand_mo hp hd.2 j) s).mp (h4 s hs)))
    obtain ⟨m', t1, t2, t3, t4, t5, t6⟩ := mt_spec hp hd.1 hg 9 R mR hR (by have := hR.2.1; omega)
    by_cases c : Dv p (cand p d n) d C 9
    · have cR := hAn.mp c
      have hdC := dv_deg hp hd.1 hg hC c
      have hdR := dv_deg hp hd.1 hg hR cR
      have ht : ¬ (mt p (cand p d n) d 9 R).1 = 0 := fun h => (t5 h).1 cR
      have hP := qr_pr hd.1 hg c
      have hI := ih (n + 1) (qr p (cand p d n) d C) (mt p (cand p d n) d 9 R).2 (mC - d) m' (by omega) (by omega) (qr_mo hp hC hdC) t1 (fun e m' h1 h2 h3 h4 => hN e m' h1 h2 h3 (fun s hs => t4 s (h4 s hs))) (fun s hs => hF s (pr_q hP hs)) (fun j j0 j1 => by
        have hne : cand p d j ≠ cand p d n := fun e => by
          have := cand_inj hp (by omega) j1 h0 (by omega) e
          omega
        constructor
        · intro h
          have h1 : Dv p (cand p d j) d R 9 := (hA j (by omega) j1).mp (fun s hs => pr_q hP (h s hs))
          exact t6 _ (cand_mo hp hd.2 j) hne (hIr j h1) h1
        · intro h
          have h1 : Dv p (cand p d j) d R 9 := fun s hs => t4 s (h s hs)
          exact euclid hp (cand_mo hp hd.2 j) (hIr j h1) hg hne hP ((hA j (by omega) j1).mpr h1)) (fun j j0 j1 h => by
        by_cases e : j = n
        · subst e; exact no_sq hp hd.1 hg hF hP h
        · exact hB j j0 (by omega) (fun s hs => pr_q hP (h s hs)))
      have er : rp p d (m + 1) n R = ((d, (mt p (cand p d n) d 9 R).1, cand p d n) :: (rp p d m (n + 1) (mt p (cand p d n) d 9 R).2).1, (rp p d m (n + 1) (mt p (cand p d n) d 9 R).2).2) := by
        conv => lhs; unfold rp
        rw [if_neg (by omega), if_neg ht]
      rw [er, ← hI]
      by_cases c2 : tp_dg C 9 ≤ d
      · have e1 : mC = d := by omega
        subst e1
        have e2 : cand p mC n = C := dv_same hd.1 hg hC c
        rw [cl_small c2]
        have e3 : tp_dg (qr p (cand p mC n) mC C) 9 = ((mC - mC : Nat) : Int) := dg_mo (qr_mo hp hC (by omega))
        rw [cl_small (by omega)]
        unfold cfin
        simp only
        rw [if_pos (by omega), if_neg (by omega), e2]
        rfl
      · have ec : cl p d (m + 1) n C R = ((d, (mt p (cand p d n) d 9 R).1, cand p d n) :: (cl p d m (n + 1) (qr p (cand p d n) d C) (mt p (cand p d n) d 9 R).2).1, (cl p d m (n + 1) (qr p (cand p d n) d C) (mt p (cand p d n) d 9 R).2).2) := by
          conv => lhs; unfold cl
          rw [if_neg c2, if_pos ((dvb_iff hp hd.1 hg hC.1).mpr c)]
        rw [ec, cfin_cons]
    · have cR : ¬ Dv p (cand p d n) d R 9 := fun h => c (hAn.mpr h)
      have ht : (mt p (cand p d n) d 9 R).1 = 0 := by
        by_cases h : (mt p (cand p d n) d 9 R).1 = 0
        · exact h
        · exfalso
          have e9 : mt p (cand p d n) d 9 R = (0, R) := by
            show (if (d : Int) ≤ tp_dg R 9 ∧ dvb p (cand p d n) d R = true then _ else _) = _
            rw [if_neg (fun hh => cR ((dvb_iff hp hd.1 hg hR.1).mp hh.2))]
          rw [e9] at h
          exact h rfl
      have hI := ih (n + 1) C R mC mR (by omega) (by omega) hC hR hN hF (fun j j0 j1 => hA j (by omega) j1) (fun j j0 j1 => by
        by_cases e : j = n
        · subst e; exact c
        · exact hB j j0 (by omega))
      have ec : cl p d (m + 1) n C R = cl p d m (n + 1) C R := by
        by_cases c2 : tp_dg C 9 ≤ d
        · rw [cl_small c2, cl_small c2]
        · conv => lhs; unfold cl
          rw [if_neg c2, if_neg (fun hh => c ((dvb_iff hp hd.1 hg hC.1).mp hh))]
      have er : rp p d (m + 1) n R = rp p d m (n + 1) R := by
        by_cases c2 : tp_dg R 9 < d
        · rw [rp_small c2, rp_small c2]
        · conv => lhs; unfold rp
          rw [if_neg c2, if_pos ht]
      rw [ec, er, hI]
/-- what the trials leave -/
theorem rp_spec {p : Int} (hp : Pm p) {d : Nat} (hd : 1 ≤ d ∧ d ≤ 8) : ∀ (m : Nat) (n : Int) (R : Int → Int) (mR : Nat), 0 ≤ n → Mo p R mR → (∀ j, 0 ≤ j → j < n → ¬ Dv p (cand p d j) d R 9) → ∃ m' : Nat, Mo p (rp p d m n R).2 m' ∧ m' ≤ mR ∧ (∀ s, Kr p (rp p d m n R).2 9 s → Kr p R 9 s) ∧ (∀ j, 0 ≤ j → j < n + m → ¬ Dv p (cand p d j) d (rp p d m n R).2 9) := by
  intro m
  induction m with
  | zero =>
    intro n R mR h0 hR hB
    exact ⟨mR, hR, by omega, fun s hs => hs, fun j j0 j1 => hB j j0 (by omega)⟩
  | succ m ih =>
    intro n R mR h0 hR hB
    have hg := cand_mo hp hd.2 n
    have eR := dg_mo hR
    obtain ⟨m', t1, t2, t3, t4, t5, t6⟩ := mt_spec hp hd.1 hg 9 R mR hR (by have := hR.2.1; omega)
    by_cases c2 : tp_dg R 9 < d
    · rw [rp_small c2]
      exact ⟨mR, hR, by omega, fun s hs => hs, fun j j0 j1 h => by have := dv_deg hp hd.1 (cand_mo hp hd.2 j) hR h; omega⟩
    · by_cases ht : (mt p (cand p d n) d 9 R).1 = 0
      · have er : rp p d (m + 1) n R = rp p d m (n + 1) R := by
          conv => lhs; unfold rp
          rw [if_neg c2, if_pos ht]
        rw [er]
        obtain ⟨m2, q1, q2, q3, q4⟩ := ih (n + 1) R mR (by omega) hR (fun j j0 j1 => by
          by_cases e : j = n
          · subst e; exact (t5 ht).1
          · exact hB j j0 (by omega))
        exact ⟨m2, q1, q2, q3, fun j j0 j1 => q4 j j0 (by omega)⟩
      · have er : rp p d (m + 1) n R = ((d, (mt p (cand p d n) d 9 R).1, cand p d n) :: (rp p d m (n + 1) (mt p (cand p d n) d 9 R).2).1, (rp p d m (n + 1) (mt p (cand p d n) d 9 R).2).2) := by
          conv => lhs; unfold rp
          rw [if_neg c2, if_neg ht]
        rw [er]
        obtain ⟨m2, q1, q2, q3, q4⟩ := ih (n + 1) (mt p (cand p d n) d 9 R).2 m' (by omega) t1 (fun j j0 j1 => by
          by_cases e : j = n
          · subst e; exact t3
          · exact fun h => hB j j0 (by omega) (fun s hs => t4 s (h s hs)))
        exact ⟨m2, q1, by omega, fun s hs => t4 s (q3 s hs), fun j j0 j1 => q4 j j0 (by omega)⟩
