/-- a way that is good -/
def cxg (p P r : Int) (D e s rt : Int → Int) (mo q : Int → Int → Int) : Prop := D 1 = 1 ∧ D r ≤ 4 ∧ (∀ k, 1 ≤ k → k ≤ r → Ro P (q k)) ∧ ∀ k, 1 ≤ k → k < r → (1 ≤ e k ∧ D (k + 1) = D k * e k) ∧ (0 ≤ s k ∧ s k ≤ 28 * D k * D (k + 1)) ∧ cop1 (e k) (s k) ∧ (0 ≤ rt k ∧ rt k < p) ∧ (∀ j, 1 ≤ j → j < k → 0 ≤ mo k j ∧ mo k j < e j) ∧ (∀ j, k ≤ j → mo k j = 0)
theorem cxg_D {p P r : Int} {D e s rt : Int → Int} {mo q : Int → Int → Int} (h : cxg p P r D e s rt mo q) (k : Int) (k0 : 1 ≤ k) (k1 : k ≤ r) : 1 ≤ D k ∧ D k ≤ D r ∧ D k ∣ D r := by
  obtain ⟨h1, h2, h3, h4⟩ := h
  have pos : ∀ n : Nat, (n : Int) + 1 ≤ r → 1 ≤ D ((n : Int) + 1) := by
    intro n
    induction n with
    | zero => intro _; rw [show ((0 : Nat) : Int) + 1 = 1 by omega, h1]; omega
    | succ n ih =>
      intro hn
      have a := ih (by omega)
      have b := (h4 ((n : Int) + 1) (by omega) (by omega)).1
      rw [show ((n + 1 : Nat) : Int) + 1 = (n : Int) + 1 + 1 by omega, b.2]
      have := Int.mul_pos (a := D ((n : Int) + 1)) (b := e ((n : Int) + 1)) (by omega) (by omega)
      omega
  have pos' : ∀ k, 1 ≤ k → k ≤ r → 1 ≤ D k := fun k k0 k1 => by
    have := pos (k - 1).toNat (by omega)
    rw [show (((k - 1).toNat : Nat) : Int) + 1 = k by omega] at this
    exact this
  have dv : ∀ n : Nat, ∀ k, 1 ≤ k → k + n = r → D k ∣ D r := by
    intro n
    induction n with
    | zero => intro k _ hk; rw [show k = r by omega]; exact Int.dvd_refl _
    | succ n ih =>
      intro k hk0 hk
      have a := ih (k + 1) (by omega) (by omega)
      rw [((h4 k hk0 (by omega)).1).2] at a
      exact Int.dvd_trans (Int.dvd_mul_right _ _) a
  have d := dv (r - k).toNat k k0 (by omega)
  exact ⟨pos' k k0 k1, Int.le_of_dvd (by have := pos' r (by omega) (Int.le_refl _); omega) d, d⟩
theorem cxg_e {p P r : Int} {D e s rt : Int → Int} {mo q : Int → Int → Int} (h : cxg p P r D e s rt mo q) (k : Int) (k0 : 1 ≤ k) (k1 : k < r) : (1 ≤ e k ∧ e k ≤ 4) ∧ (1 ≤ D k ∧ D k ≤ 4) ∧ (1 ≤ D (k + 1) ∧ D (k + 1) ≤ 4) ∧ s k ≤ 448 := by
  have a := cxg_D h k k0 (by omega)
  have b := cxg_D h (k + 1) (by omega) (by omega)
  have h2 := h.2.1
  have c := h.2.2.2 k k0 k1
  have d : e k ≤ D (k + 1) := Int.le_of_dvd (by omega) (by rw [c.1.2]; exact Int.dvd_mul_left _ _)
  have m := mulB (x := D k) (y := D (k + 1)) (a := 4) (b := 4) (by omega) (by omega)
  have m2 : 28 * D k * D (k + 1) = 28 * (D k * D (k + 1)) := Int.mul_assoc _ _ _
  have := c.2.1
  refine ⟨by omega, by omega, by omega, by omega⟩
theorem cxg_b {p P r : Int} {D e s rt : Int → Int} {mo q : Int → Int → Int} (h : cxg p P r D e s rt mo q) (hr : 1 ≤ r) : cxb r D e s ∧ copr r e s ∧ rok p r e rt mo ∧ (∀ k, 1 ≤ k → k < r → D (k + 1) ∣ D r) := by
  refine ⟨⟨?_, fun k k0 k1 => ?_⟩, fun k k0 k1 => (h.2.2.2 k k0 k1).2.2.1, fun k k0 k1 => ?_, fun k k0 k1 => (cxg_D h (k + 1) (by omega) (by omega)).2.2⟩
  · have := cxg_D h r hr (Int.le_refl _); have := h.2.1; omega
  · have a := cxg_e h k k0 k1
    have b := h.2.2.2 k k0 k1
    exact ⟨by omega, by omega, by omega, b.1.2⟩
  · have a := cxg_e h k k0 k1
    have b := h.2.2.2 k k0 k1
    refine ⟨a.1, b.2.2.2.1, fun j j0 j1 => ?_, b.2.2.2.2.2⟩
    have c := b.2.2.2.2.1 j j0 j1
    have d := cxg_e h j j0 (by omega)
    omega
theorem vpl_s {x S d E d' Q Dr : Int} (hx : 0 ≤ x ∧ x ≤ E - 1) (hd : 1 ≤ d) (he : d' = d * E) (hS : 0 ≤ S ∧ S ≤ 28 * d * d') (hQ : 0 ≤ Q) (hDr : d' * Q = Dr) : x * S * Q ≤ 28 * Dr * (d' - d) := by
  have a := mulB (x := x) (y := S) (a := E - 1) (b := 28 * d * d') hx hS
  have b := Int.mul_le_mul_of_nonneg_right a.2 hQ
  have c : (E - 1) * (28 * d * d') * Q = 28 * Dr * (d' - d) := by
    have e1 : d' - d = (E - 1) * d := by rw [he, Int.sub_mul, Int.one_mul, Int.mul_comm]
    rw [e1, ← hDr]
    ac_rfl
  omega
theorem vpl_g {p P r : Int} {D e s rt : Int → Int} {mo q : Int → Int → Int} (h : cxg p P r D e s rt mo q) (hr : 1 ≤ r) (j : Int) : ∀ n : Nat, (n : Int) < r → vpl D e s (D r) j n ≤ 28 * D r * (D ((n : Int) + 1) - 1) := by
  have hb := (cxg_b h hr).1
  intro n
  induction n with
  | zero => intro _; rw [show ((0 : Nat) : Int) + 1 = 1 by omega, h.1]; show (0 : Int) ≤ _; rw [Int.sub_self, Int.mul_zero]; exact Int.le_refl _
  | succ n ih =>
    intro hn
    have a := ih (by omega)
    have b := h.2.2.2 ((n : Int) + 1) (by omega) (by omega)
    have c := cxg_D h ((n : Int) + 1) (by omega) (by omega)
    have d := cxg_D h ((n : Int) + 2) (by omega) (by omega)
    have xb := xpt_b hb (j := j) (k := (n : Int) + 1) (by omega) (by omega)
    rw [show (n : Int) + 1 + 1 = (n : Int) + 2 by omega] at b
    have dr := cxg_D h r hr (Int.le_refl _)
    have t := vpl_s (x := xpt D e j ((n : Int) + 1)) (S := s ((n : Int) + 1)) (d := D ((n : Int) + 1)) (E := e ((n : Int) + 1)) (d' := D ((n : Int) + 2)) (Q := D r / D ((n : Int) + 2)) (Dr := D r) xb c.1 b.1.2 b.2.1 (Int.ediv_nonneg (by omega) (by omega)) (Int.mul_ediv_cancel' d.2.2)
    rw [show ((n + 1 : Nat) : Int) + 1 = (n : Int) + 2 by omega]
    unfold vpl
    rw [Int.mul_sub] at a t ⊢
    omega
theorem Hd_g {p K P r : Int} {D e s rt Y : Int → Int} {mo q : Int → Int → Int} (hp : pKP p K P) (h : cxg p P r D e s rt mo q) (hr : 1 ≤ r ∧ r ≤ 6) (i : Int) : -1 ≤ (Hd p K.toNat r D e s Y i).1 ∧ (Hd p K.toNat r D e s Y i).1 ≤ 28 * (D r * D r) := by
  have hb := (cxg_b h hr.1).1
  have hs := hdS_b (val := kval p K.toNat (D r) (fun j => vpl D e s (D r) j (r - 1).toNat) (seg Y (D r) i)) (Y := seg Y (D r) i) (fun j => (kval_b hp hb hr j).1) (D r).toNat
  have dr := (cxg_D h r hr.1 (Int.le_refl _)).1
  have dd := Int.mul_nonneg (a := D r) (b := D r) (by omega) (by omega)
  unfold Hd
  by_cases c : 0 ≤ (hdS (kval p K.toNat (D r) (fun j => vpl D e s (D r) j (r - 1).toNat) (seg Y (D r) i)) (seg Y (D r) i) (D r).toNat).1
  · have e1 := (hs.1 c).2.2.2
    rw [e1]
    generalize (hdS (kval p K.toNat (D r) (fun j => vpl D e s (D r) j (r - 1).toNat) (seg Y (D r) i)) (seg Y (D r) i) (D r).toNat).2 = j at *
    have a := (kval_b (Y := seg Y (D r) i) hp hb hr j).1
    have v := vpl_g h hr.1 j (r - 1).toNat (by omega)
    rw [show (((r - 1).toNat : Nat) : Int) + 1 = r by omega, Int.mul_sub, Int.mul_one] at v
    have pb := pvn_b p K.toNat (seg Y (D r) i j)
    have hK := hp.2.2.1
    have m := Int.mul_le_mul_of_nonneg_right (show pvn p K.toNat (seg Y (D r) i j) ≤ 28 by omega) (show 0 ≤ D r by omega)
    refine ⟨by omega, ?_⟩
    show pvn p K.toNat (seg Y (D r) i j) * D r + vpl D e s (D r) j (r - 1).toNat ≤ 28 * (D r * D r)
    rw [Int.mul_assoc] at v
    omega
  · rw [(hs.2 (by omega)).1]; show (-1 : Int) ≤ -1 ∧ (-1 : Int) ≤ _; omega
theorem lft_g {p P r : Int} {D e s rt : Int → Int} {mo q : Int → Int → Int} (h : cxg p P r D e s rt mo q) (hr : 1 ≤ r ∧ r ≤ 6) : 0 ≤ lft r e s ∧ lft r e s ≤ 28 * (D r * D r) := by
  have dr := (cxg_D h r hr.1 (Int.le_refl _)).1
  have dd := Int.mul_nonneg (a := D r) (b := D r) (by omega) (by omega)
  unfold lft
  by_cases c : r = 1
  · rw [if_pos c]; omega
  · rw [if_neg c]
    have b := h.2.2.2 (r - 1) (by omega) (by omega)
    rw [show r - 1 + 1 = r by omega] at b
    obtain ⟨b1, b2, _⟩ := b
    refine ⟨Int.mul_nonneg (by omega) b2.1, ?_⟩
    have m := Int.mul_le_mul_of_nonneg_left b2.2 (show 0 ≤ e (r - 1) by omega)
    have e1 : e (r - 1) * (28 * D (r - 1) * D r) = 28 * (D r * D r) := by
      conv => rhs; rw [b1.2]
      rw [← b1.2]
      have : 28 * (D (r - 1) * e (r - 1) * D r) = e (r - 1) * (28 * D (r - 1) * D r) := by ac_rfl
      rw [← this]
      rw [← b1.2]
    omega
