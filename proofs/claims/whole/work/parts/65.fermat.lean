theorem perm_sub : ∀ (l l' : List Nat), l.Nodup → (∀ x, x ∈ l → x ∈ l') → l'.length ≤ l.length → l.Perm l' := by
  intro l
  induction l with
  | nil =>
    intro l' _ _ h
    have : l' = [] := List.eq_nil_of_length_eq_zero (by simp at h; simpa using h)
    rw [this]
  | cons a l ih =>
    intro l' hn hs hl
    have ha := hs a (List.mem_cons_self)
    have hn' := List.nodup_cons.mp hn
    have h1 : l.Perm (l'.erase a) := ih _ hn'.2 (fun x hx => by
      have hne : x ≠ a := fun e => hn'.1 (e ▸ hx)
      exact (List.mem_erase_of_ne hne).mpr (hs x (List.mem_cons_of_mem _ hx))) (by
      rw [List.length_erase_of_mem ha]
      simp only [List.length_cons] at hl
      omega)
    exact (List.Perm.cons a h1).trans (List.perm_cons_erase ha).symm
theorem cdt_at {p : Int} (hp : Pm p) {h : Int → Int} {d : Nat} (hr : ∀ k : Nat, k < d → 0 ≤ h k ∧ h k < p) : 0 ≤ cdt p h d 0 ∧ cdt p h d 0 < p ^ d ∧ ∀ j : Nat, j < d → cand p d (cdt p h d 0) j = h j := by
  have hp2 := pm_2 hp
  have h1 := cdt_r (by omega) hr d 0 (by omega)
  refine ⟨h1.1, h1.2, fun j hj => ?_⟩
  unfold cand
  rw [if_pos (by omega), show ((j : Int)).toNat = j by omega, cdt_dq (by omega) hr j (by omega), show d - j = (d - (j + 1)) + 1 by omega]
  have e : cdt p h ((d - (j + 1)) + 1) j = h j + p * cdt p h (d - (j + 1)) (j + 1) := rfl
  have := hr j hj
  rw [e, Int.add_mul_emod_self_left, Int.emod_eq_of_lt this.1 this.2]
theorem cand_eqn {p : Int} (hp : Pm p) {d : Nat} {n m : Int} (h0 : 0 ≤ n) (h1 : n < p ^ d) (h2 : 0 ≤ m) (h3 : m < p ^ d) (e : ∀ k : Nat, k < d → cand p d n k = cand p d m k) : n = m := by
  refine cand_inj hp h0 h1 h2 h3 ?_
  funext k
  by_cases c : 0 ≤ k ∧ k < (d : Int)
  · have := e k.toNat (by omega)
    rw [show ((k.toNat : Nat) : Int) = k by omega] at this
    exact this
  · unfold cand
    rw [if_neg c, if_neg c]
/-- times x, by g -/
def mxv (p : Int) (g : Int → Int) (d : Nat) (n : Int) : Int → Int := fun k => ((if k = 0 then 0 else cand p d n (k - 1)) + (- cand p d n ((d : Int) - 1)) * g k) % p
def mxn (p : Int) (g : Int → Int) (d : Nat) (n : Nat) : Nat := (cdt p (mxv p g d n) d 0).toNat
theorem mxn_at {p : Int} (hp : Pm p) {g : Int → Int} {d : Nat} (n : Nat) : ((mxn p g d n : Nat) : Int) < p ^ d ∧ ∀ j : Nat, j < d → cand p d (mxn p g d n) j = mxv p g d n j := by
  have hp2 := pm_2 hp
  obtain ⟨h1, h2, h3⟩ := cdt_at hp (h := mxv p g d n) (d := d) (fun k _ => ⟨Int.emod_nonneg _ (by omega), Int.emod_lt_of_pos _ (by omega)⟩)
  have e : ((mxn p g d n : Nat) : Int) = cdt p (mxv p g d n) d 0 := Int.toNat_of_nonneg h1
  rw [e]
  exact ⟨h2, h3⟩
theorem ac_sh (e : Int → Int) (s : Nat → Int) (i : Nat) : ∀ n : Nat, ac (fun k => if k = 0 then 0 else e (k - 1)) (n + 1) s i = ac e n s (i + 1) := by
  intro n
  induction n with
  | zero => show 0 + (if ((0 : Nat) : Int) = 0 then (0 : Int) else _) * _ = 0; rw [if_pos (show ((0 : Nat) : Int) = 0 from rfl)]; omega
  | succ n ih =>
    show ac (fun k => if k = 0 then 0 else e (k - 1)) (n + 1) s i + (if ((n + 1 : Nat) : Int) = 0 then (0 : Int) else e (((n + 1 : Nat) : Int) - 1)) * s (i + (n + 1)) = ac e n s (i + 1) + e n * s (i + 1 + n)
    rw [ih, if_neg (by omega), show ((n + 1 : Nat) : Int) - 1 = n by omega, show i + (n + 1) = i + 1 + n by omega]
theorem mx_ac {p : Int} (hp : Pm p) {g : Int → Int} {d : Nat} (hd : 1 ≤ d) (hg : g d = 1) (n : Nat) {s : Nat → Int} (hs : Kr p g (d + 1) s) (i : Nat) : p ∣ ac (cand p d (mxn p g d n)) d s i - ac (cand p d n) d s (i + 1) := by
  have h1 : p ∣ ac (cand p d (mxn p g d n)) d s i - ac (fun k => (if k = 0 then 0 else cand p d n (k - 1)) + (- cand p d n ((d : Int) - 1)) * g k) d s i := ac_mod (fun k hk => by
    rw [(mxn_at hp n).2 k hk]
    exact md_dvd _ _) s i
  obtain ⟨m, rfl⟩ : ∃ m, d = m + 1 := ⟨d - 1, by omega⟩
  rw [ac_add (fun k => if k = 0 then 0 else cand p (m + 1) n (k - 1)) (fun k => (- cand p (m + 1) n (((m + 1 : Nat) : Int) - 1)) * g k), ac_smul, ac_sh, show (((m + 1 : Nat) : Int) - 1) = m by omega] at h1
  have h2 : p ∣ cand p (m + 1) n m * (ac g (m + 1) s i + g ((m + 1 : Nat) : Int) * s (i + (m + 1))) := Int.dvd_mul_of_dvd_right (hs i)
  rw [hg, Int.mul_add, Int.one_mul] at h2
  have e : ac (cand p (m + 1) n) (m + 1) s (i + 1) = ac (cand p (m + 1) n) m s (i + 1) + cand p (m + 1) n m * s (i + 1 + m) := rfl
  rw [e]
  have h3 := Int.dvd_sub h1 h2
  refine dvd_of h3 ?_
  rw [Int.neg_mul, show i + 1 + m = i + (m + 1) by omega]; omega
def pio (p : Int) (d : Nat) : List Nat → (Nat → Int) → (Nat → Int)
  | [], s => s
  | n :: L, s => fun i => ac (cand p d n) d (pio p d L s) i
theorem pio_perm {p : Int} {d : Nat} {L L' : List Nat} (h : L.Perm L') (s : Nat → Int) : pio p d L s = pio p d L' s := by
  induction h with
  | nil => rfl
  | cons x _ ih => unfold pio; rw [ih]
  | swap x y l => funext i; show ac _ d (fun j => ac _ d _ j) i = ac _ d (fun j => ac _ d _ j) i; rw [ac_comm]
  | trans _ _ ih1 ih2 => rw [ih1, ih2]
theorem pio_kr {p : Int} {d : Nat} {g : Int → Int} {n : Nat} {s : Nat → Int} (h : Kr p g n s) : ∀ L : List Nat, Kr p g n (pio p d L s) := by
  intro L
  induction L with
  | nil => exact h
  | cons x L ih => exact kr_ac ih _ _
theorem pio_shift (p : Int) (d : Nat) (s : Nat → Int) (m : Nat) : ∀ (L : List Nat) (i : Nat), pio p d L (fun j => s (j + m)) i = pio p d L s (i + m) := by
  intro L
  induction L with
  | nil => intro i; rfl
  | cons x L ih =>
    intro i
    show ac _ d (pio p d L (fun j => s (j + m))) i = ac _ d (pio p d L s) (i + m)
    rw [← ac_shift]
    exact ac_scong (fun k hk => ih _)
theorem pio_sub (p : Int) (d : Nat) (s t : Nat → Int) : ∀ (L : List Nat) (i : Nat), pio p d L (fun j => s j - t j) i = pio p d L s i - pio p d L t i := by
  intro L
  induction L with
  | nil => intro i; rfl
  | cons x L ih =>
    intro i
    show ac _ d (pio p d L (fun j => s j - t j)) i = ac _ d (pio p d L s) i - ac _ d (pio p d L t) i
    have e : (pio p d L (fun j => s j - t j)) = (fun j => pio p d L s j + (-1) * pio p d L t j) := by
      funext j; rw [ih]; omega
    rw [e, ac_sadd _ d (pio p d L s) (fun j => (-1) * pio p d L t j), ac_ssmul _ d (-1) (pio p d L t)]; omega
theorem pio_map {p : Int} (hp : Pm p) {g : Int → Int} {d : Nat} (hd : 1 ≤ d) (hg : g d = 1) {s : Nat → Int} (hs : Kr p g (d + 1) s) : ∀ (L : List Nat) (i : Nat), p ∣ pio p d (L.map (mxn p g d)) s i - pio p d L s (i + L.length) := by
  intro L
  induction L with
  | nil => intro i; exact ⟨0, by show s i - s (i + 0) = p * 0; rw [show i + 0 = i by omega]; omega⟩
  | cons x L ih =>
    intro i
    have h1 := mx_ac hp hd hg x (pio_kr (d := d) hs (L.map (mxn p g d))) i
    have h2 : p ∣ ac (cand p d x) d (pio p d (L.map (mxn p g d)) s) (i + 1) - ac (cand p d x) d (fun j => pio p d L s (j + L.length)) (i + 1) := ac_smod (fun j => ih j) (i + 1)
    rw [ac_shift] at h2
    have h3 := Int.dvd_add h1 h2
    refine dvd_of h3 ?_
    show _ = ac (cand p d (mxn p g d x)) d (pio p d (L.map (mxn p g d)) s) i - ac (cand p d x) d (pio p d L s) (i + (L.length + 1))
    rw [show i + (L.length + 1) = i + 1 + L.length by omega]; omega
theorem pio_can {p : Int} (hp : Pm p) {g : Int → Int} {d : Nat} (hg : Mo p g d) (hi : Ir p g d) {t : Nat → Int} (ht : Kr p g (d + 1) t) : ∀ L : List Nat, (∀ n, n ∈ L → ∃ k : Nat, k < d ∧ ¬ p ∣ cand p d n k) → (∀ j, p ∣ pio p d L t j) → ∀ j, p ∣ t j := by
  intro L
  induction L with
  | nil => intro _ h; exact h
  | cons x L ih =>
    intro hL h
    refine ih (fun n hn => hL n (List.mem_cons_of_mem _ hn)) ?_
    exact co_zero hp hg hi d (cand p d x) (Nat.le_refl _) (hL x List.mem_cons_self) (pio p d L t) (pio_kr ht L) h
/-- x does not divide what has no divisors -/
theorem ir_g0 {p : Int} (hp : Pm p) {g : Int → Int} {d : Nat} (hd : 2 ≤ d) (hg : Mo p g d) (hi : Ir p g d) : ¬ p ∣ g 0 := by
  intro h0
  have hp2 := pm_2 hp
  refine hi (fun k => if k = 1 then 1 else 0) 1 (by omega) (by omega) ⟨⟨fun k k0 k1 => ?_, fun k hk => ?_⟩, by omega, by simp, fun k hk => ?_⟩ ?_
  · simp only
    by_cases c : k = 1
    · rw [if_pos c]; omega
    · rw [if_neg c]; omega
  · simp only; rw [if_neg (by omega)]
  · simp only; rw [if_neg (by omega)]
  · intro s hs i
    have hs' : ∀ j, p ∣ s (j + 1) := fun j => by
      have := hs j
      refine dvd_of this ?_
      show 0 + (if ((0 : Nat) : Int) = 1 then (1 : Int) else 0) * s (j + 0) + (if ((1 : Nat) : Int) = 1 then (1 : Int) else 0) * s (j + 1) = _
      rw [if_neg (by omega), if_pos (by omega)]; omega
    have : ∀ n : Nat, p ∣ ac g (n + 1) s i := by
      intro n
      induction n with
      | zero =>
        have : p ∣ g 0 * s (i + 0) := Int.dvd_mul_of_dvd_left h0
        refine dvd_of this ?_
        show _ = 0 + g ((0 : Nat) : Int) * s (i + 0)
        rw [show ((0 : Nat) : Int) = 0 from rfl]; omega
      | succ n ih => exact Int.dvd_add ih (Int.dvd_mul_of_dvd_right (hs' (i + n)))
    exact this 8
set_option maxHeartbeats 4000000 in
set_option maxRecDepth 100000 in
theorem fermat {p : Int} (hp : Pm p) {g : Int → Int} {d : Nat} (hd : 1 ≤ d) (hg : Mo p g d) (hi : Ir p g d) {s : Nat → Int} (hs : Kr p g (d + 1) s) : Fp p d s := by
  have hp2 := pm_2 hp
  obtain ⟨pw1, pw2⟩ := pw_p hp hd
  by_cases c0 : p ∣ g 0
  · have d1 : d = 1 := by
      by_cases c : 2 ≤ d
      · exact absurd c0 (ir_g0 hp c hg hi)
      · omega
    subst d1
    have h1 : ∀ i, p ∣ s (i + 1) := fun i => by
      have h2 := hs i
      have h3 : p ∣ g 0 * s (i + 0) := Int.dvd_mul_of_dvd_left c0
      have h4 := Int.dvd_sub h2 h3
      refine dvd_of h4 ?_
      show 0 + g ((0 : Nat) : Int) * s (i + 0) + g ((1 : Nat) : Int) * s (i + 1) - g 0 * s (i + 0) = _
      rw [hg.2.2.1, show ((0 : Nat) : Int) = 0 from rfl]; omega
    intro i
    have := h1 (i + (p.toNat ^ 1 - 1))
    rw [show i + (p.toNat ^ 1 - 1) + 1 = i + p.toNat ^ 1 by omega] at this
    exact Int.dvd_sub this (h1 i)
  · have ePw : ((p.toNat ^ d : Nat) : Int) = p ^ d := by
      rw [Int.natCast_pow, Int.toNat_of_nonneg (by omega)]
    have hcand : ∀ (n : Int) (k : Nat), k < d → 0 ≤ cand p d n k ∧ cand p d n k < p := fun n k hk => (cand_mo hp hg.2.1 n).1.1 k (by omega) (by have := hg.2.1; omega)
    have inj : ∀ n m : Nat, n < p.toNat ^ d → m < p.toNat ^ d → mxn p g d n = mxn p g d m → n = m := by
      intro n m hn hm e
      have ev : ∀ k : Nat, k < d → mxv p g d n k = mxv p g d m k := fun k hk => by
        rw [← (mxn_at hp n).2 k hk, ← (mxn_at hp m).2 k hk, e]
      have dv0 : ∀ k : Nat, k < d → p ∣ ((if (k : Int) = 0 then 0 else cand p d n ((k : Int) - 1)) + (- cand p d n ((d : Int) - 1)) * g k) - ((if (k : Int) = 0 then 0 else cand p d m ((k : Int) - 1)) + (- cand p d m ((d : Int) - 1)) * g k) := fun k hk => by
        have := ev k hk
        unfold mxv at this
        exact Int.dvd_of_emod_eq_zero ((Int.emod_eq_emod_iff_emod_sub_eq_zero).mp this)
      have ea : cand p d n ((d : Int) - 1) = cand p d m ((d : Int) - 1) := by
        have h1 := dv0 0 (by omega)
        rw [if_pos (show ((0 : Nat) : Int) = 0 from rfl), if_pos (show ((0 : Nat) : Int) = 0 from rfl)] at h1
        obtain ⟨u, hu⟩ := pm_inv hp c0
        have a1 := hcand n (d - 1) (by omega)
        have a2 := hcand m (d - 1) (by omega)
        rw [show ((d - 1 : Nat) : Int) = (d : Int) - 1 by omega] at a1 a2
        refine dvd_eq (p := p) a1 a2 ?_
        generalize cand p d n ((d : Int) - 1) = x at *
        generalize cand p d m ((d : Int) - 1) = y at *
        have h2 : p ∣ u * (0 + -x * g ((0 : Nat) : Int) - (0 + -y * g ((0 : Nat) : Int))) := Int.dvd_mul_of_dvd_right h1
        have h3 : p ∣ (x - y) * (u * g 0 - 1) := Int.dvd_mul_of_dvd_right hu
        have h4 := Int.dvd_add h2 h3
        have h5 := Int.dvd_neg.mpr h4
        refine dvd_of h5 ?_
        rw [show ((0 : Nat) : Int) = 0 from rfl, show 0 + -x * g 0 - (0 + -y * g 0) = -((x - y) * g 0) by rw [Int.sub_mul, Int.neg_mul, Int.neg_mul]; omega, Int.mul_sub, Int.mul_one, Int.mul_neg, Int.mul_left_comm]; omega
      have ek : ∀ k : Nat, k < d → cand p d n k = cand p d m k := fun k hk => by
        by_cases c : k + 1 < d
        · have h1 := dv0 (k + 1) c
          rw [if_neg (by omega), if_neg (by omega), ea, show ((k + 1 : Nat) : Int) - 1 = k by omega] at h1
          refine dvd_eq (p := p) (hcand n k hk) (hcand m k hk) (dvd_of h1 (by omega))
        · rw [show (k : Int) = (d : Int) - 1 by omega]; exact ea
      have := cand_eqn hp (d := d) (n := n) (m := m) (by omega) (by rw [← ePw]; omega) (by omega) (by rw [← ePw]; omega) ek
      omega
    have z0 : ∀ k : Nat, cand p d ((0 : Nat) : Int) k = if (k : Int) = d then 1 else 0 := fun k => by
      have hz : ∀ j : Nat, dq p j 0 = 0 := by
        intro j
        induction j with
        | zero => rfl
        | succ j ih => show dq p j 0 / p = 0; rw [ih, Int.zero_ediv]
      unfold cand
      by_cases c : 0 ≤ (k : Int) ∧ (k : Int) < d
      · rw [if_pos c, show ((0 : Nat) : Int) = 0 from rfl, hz, Int.zero_emod, if_neg (by omega)]
      · rw [if_neg c]
    have nz : ∀ n : Nat, n < p.toNat ^ d → n ≠ 0 → ∃ k : Nat, k < d ∧ ¬ p ∣ cand p d n k := fun n hn h0 => Classical.byContradiction fun hc => by
      refine h0 ?_
      have := cand_eqn hp (d := d) (n := n) (m := ((0 : Nat) : Int)) (by omega) (by rw [← ePw]; omega) (by omega) (by rw [← ePw]; omega) (fun k hk => by
        rw [z0, if_neg (by omega)]
        refine dvd_eq (p := p) (hcand n k hk) ⟨by omega, by omega⟩ ?_
        rw [Int.sub_zero]
        exact Classical.byContradiction fun h2 => hc ⟨k, hk, h2⟩)
      omega
    have m0 : mxn p g d 0 = 0 := by
      have := cand_eqn hp (d := d) (n := ((mxn p g d 0 : Nat) : Int)) (m := ((0 : Nat) : Int)) (by omega) (mxn_at hp 0).1 (by omega) (by rw [← ePw]; omega) (fun k hk => by
        rw [(mxn_at hp 0).2 k hk, z0, if_neg (by omega)]
        unfold mxv
        have e1 := z0 (d - 1)
        rw [if_neg (by omega), show ((d - 1 : Nat) : Int) = (d : Int) - 1 by omega] at e1
        rw [e1]
        by_cases c : (k : Int) = 0
        · rw [if_pos c, Int.neg_zero, Int.zero_mul]; rfl
        · rw [if_neg c]
          have e2 := z0 (k - 1)
          rw [if_neg (by omega), show ((k - 1 : Nat) : Int) = (k : Int) - 1 by omega] at e2
          rw [e2, Int.neg_zero, Int.zero_mul]; rfl)
      omega
    have hN : (p.toNat ^ d - 1) + 1 = p.toNat ^ d := by omega
    have perm : ((List.range' 1 (p.toNat ^ d - 1)).map (mxn p g d)).Perm (List.range' 1 (p.toNat ^ d - 1)) := by
      refine perm_sub _ _ ?_ (fun x hx => ?_) (by rw [List.length_map]; exact Nat.le_refl _)
      · unfold List.Nodup
        rw [List.pairwise_map]
        have nd : (List.range' 1 (p.toNat ^ d - 1)).Nodup := List.nodup_range'
        refine List.Pairwise.imp_of_mem ?_ nd
        intro a b ha hb hab e
        rw [List.mem_range'_1] at ha hb
        exact hab (inj a b (by omega) (by omega) e)
      · obtain ⟨n, hn, rfl⟩ := List.mem_map.mp hx
        rw [List.mem_range'_1] at hn
        rw [List.mem_range'_1]
        have h1 := (mxn_at hp (g := g) (d := d) n).1
        rw [← ePw] at h1
        have h2 : mxn p g d n ≠ 0 := fun e => by
          have := inj n 0 (by omega) (by omega) (by rw [e, m0])
          omega
        omega
    have hper := pio_perm (p := p) (d := d) perm s
    have hmap := pio_map hp hd hg.2.2.1 hs (List.range' 1 (p.toNat ^ d - 1))
    rw [hper, List.length_range'] at hmap
    have hker : Kr p g (d + 1) (fun j => s j - s (j + (p.toNat ^ d - 1))) := fun i => by
      have h1 := hs i
      have h2 := hs (i + (p.toNat ^ d - 1))
      have e : (fun j => s j - s (j + (p.toNat ^ d - 1))) = (fun j => s j + (-1) * s (j + (p.toNat ^ d - 1))) := by funext j; omega
      rw [e, ac_sadd g (d + 1) s (fun j => (-1) * s (j + (p.toNat ^ d - 1))), ac_ssmul g (d + 1) (-1) (fun j => s (j + (p.toNat ^ d - 1))), ac_shift]
      have := Int.dvd_sub h1 h2
      exact dvd_of this (by omega)
    have hz := pio_can hp hg hi hker (List.range' 1 (p.toNat ^ d - 1)) (fun n hn => by
      rw [List.mem_range'_1] at hn
      exact nz n (by omega) (by omega)) (fun j => by
      rw [pio_sub, pio_shift p d s]
      exact hmap j)
    intro i
    have h1 := hz (i + 1)
    have h2 := Int.dvd_neg.mpr h1
    refine dvd_of h2 ?_
    rw [show i + 1 + (p.toNat ^ d - 1) = i + p.toNat ^ d by omega]; omega
