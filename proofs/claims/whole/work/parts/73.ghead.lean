/-- how often p divides -/
def pvn (p : Int) : Nat → Int → Int
  | 0, _ => 0
  | n + 1, v => if v % p = 0 then 1 + pvn p n (v / p) else 0
theorem pvn_b (p : Int) : ∀ (n : Nat) (v : Int), 0 ≤ pvn p n v ∧ pvn p n v ≤ n := by
  intro n
  induction n with
  | zero => intro v; exact ⟨Int.le_refl _, Int.le_refl _⟩
  | succ n ih =>
    intro v
    unfold pvn
    by_cases c : v % p = 0
    · rw [if_pos c]; have := ih (v / p); omega
    · rw [if_neg c]; omega
theorem div_p {p v : Int} {n : Nat} (hp : 2 ≤ p) (h0 : 0 < v) (h1 : v < p ^ (n + 1)) (hm : v % p = 0) : 0 < v / p ∧ v / p < p ^ n := by
  have e := Int.mul_ediv_add_emod v p
  rw [hm, Int.add_zero] at e
  rw [Int.pow_succ] at h1
  refine ⟨?_, Int.ediv_lt_of_lt_mul (by omega) h1⟩
  have n0 := Int.ediv_nonneg (show 0 ≤ v by omega) (show 0 ≤ p by omega)
  by_cases c : v / p = 0
  · rw [c, Int.mul_zero] at e; omega
  · omega
theorem pvn_lt {p : Int} (hp : 2 ≤ p) : ∀ (n : Nat) (v : Int), 0 < v → v < p ^ n → pvn p n v < n := by
  intro n
  induction n with
  | zero => intro v h0 h1; rw [Int.pow_zero] at h1; omega
  | succ n ih =>
    intro v h0 h1
    unfold pvn
    by_cases c : v % p = 0
    · rw [if_pos c]
      obtain ⟨a, b⟩ := div_p hp h0 h1 c
      have := ih (v / p) a b
      omega
    · rw [if_neg c]; omega
def rsv (p : Int) (n : Nat) (v : Int) : Int := v / p ^ (pvn p n v).toNat % p
theorem rsv_ne {p : Int} (hp : 2 ≤ p) : ∀ (n : Nat) (v : Int), 0 < v → v < p ^ n → rsv p n v ≠ 0 := by
  intro n
  induction n with
  | zero => intro v h0 h1; rw [Int.pow_zero] at h1; omega
  | succ n ih =>
    intro v h0 h1
    unfold rsv pvn
    by_cases c : v % p = 0
    · rw [if_pos c]
      obtain ⟨a, b⟩ := div_p hp h0 h1 c
      have h2 := ih (v / p) a b
      have h3 := (pvn_b p n (v / p)).1
      unfold rsv at h2
      rw [show (1 + pvn p n (v / p)).toNat = (pvn p n (v / p)).toNat + 1 by omega, Int.pow_succ, Int.mul_comm, ← Int.ediv_ediv_of_nonneg (by omega)]
      exact h2
    · rw [if_neg c, show (0 : Int).toNat = 0 from rfl, Int.pow_zero, Int.ediv_one]; exact c
theorem rsv_b {p : Int} (hp : 2 ≤ p) (n : Nat) (v : Int) : 0 ≤ rsv p n v ∧ rsv p n v < p := ⟨Int.emod_nonneg _ (by omega), Int.emod_lt_of_pos _ (by omega)⟩
theorem div_b {p v : Int} (hp : 2 ≤ p) (h0 : 0 ≤ v) (h1 : v ≤ 400000000) : 0 ≤ v / p ∧ v / p ≤ 400000000 := by
  have := Int.ediv_nonneg h0 (show 0 ≤ p by omega)
  have := Int.ediv_le_self p h0
  omega
def vB5 (M : tp_M) : (Int × Int → Option Int) → Int × Int → Option Int := fun rec_ u => f_X4_value_5B M (fun x3' x4' => rec_ (x3', x4')) u.1 u.2
theorem s_v5 {M : tp_M} {p K : Int} (hp : M 1 0 = p) (hK : M 1 1 = K) (hp2 : 2 ≤ p ∧ p ≤ 7) (hK2 : 0 ≤ K ∧ K ≤ 28) : ∀ (n N : Nat) (s v : Int), n < N → 0 ≤ s → s + n = K → 0 ≤ v → v ≤ 400000000 → tp_lp (vB5 M) N (s, v) = some (s + pvn p n v) := by
  intro n
  induction n with
  | zero =>
    intro N s v hN h0 hs v0 v1
    rw [lp_1 (by omega)]
    simp only [vB5, f_X4_value_5B, hK]
    rw [if_pos (by omega)]
    show some s = some (s + 0)
    rw [Int.add_zero]
  | succ n ih =>
    intro N s v hN h0 hs v0 v1
    have db := div_b hp2.1 v0 v1
    have key := ih (N - 1) (s + 1) (v / p) (by omega) (by omega) (by omega) db.1 db.2
    rw [lp_1 (by omega)]
    generalize tp_lp (vB5 M) (N - 1) = Rc at key ⊢
    have t1 := Int.tmod_eq_emod_of_nonneg (a := v) (b := p) v0
    have t2 := Int.tdiv_eq_ediv_of_nonneg (a := v) (b := p) v0
    have w1 := ho_w (x := s + 1) (by omega) (by omega)
    have w2 := ho_wl (x := v / p) (by omega) (by omega)
    have g1 : ¬ K ≤ s := by omega
    have g2 : ¬ p ≤ 1 := by omega
    have g3 : ¬ p = 0 := by omega
    simp only [vB5, f_X4_value_5B, hK, hp, tp_lt, t1, t2, w1, w2]
    rw [if_neg g1, if_neg g2, if_neg g3]
    unfold pvn
    by_cases c : v % p = 0
    · rw [if_neg (fun h => h c), if_neg g3, if_pos c, key]
      rw [Int.add_assoc]
    · rw [if_pos c, if_neg c, Int.add_zero]
theorem s_value {M : tp_M} {p K : Int} {v : Int} (hp : M 1 0 = p) (hK : M 1 1 = K) (hp2 : 2 ≤ p ∧ p ≤ 7) (hK2 : 0 ≤ K ∧ K ≤ 28) (hv : 0 ≤ v ∧ v ≤ 400000000) : f_X4_value v M = some (pvn p K.toNat v) := by
  unfold f_X4_value
  have := s_v5 (M := M) hp hK hp2 hK2 K.toNat tp_N 0 v (by unfold tp_N; omega) (by omega) (by omega) hv.1 hv.2
  rw [Int.zero_add] at this
  exact this
def wB5 (M : tp_M) : (Int × Int → Option Int) → Int × Int → Option Int := fun rec_ u => f_X11_powerIn_5B M (fun x3' x4' => rec_ (x3', x4')) u.1 u.2
theorem s_p5 {M : tp_M} {p : Int} (hp : M 483 0 = p) (hp2 : 2 ≤ p ∧ p ≤ 7) : ∀ (n N : Nat) (s v : Int), n < N → 0 ≤ s → s + n ≤ 1000 → 0 < v → v ≤ 400000000 → v < p ^ n → tp_lp (wB5 M) N (s, v) = some (s + pvn p n v) := by
  intro n
  induction n with
  | zero => intro N s v _ _ _ h0 _ h1; rw [Int.pow_zero] at h1; omega
  | succ n ih =>
    intro N s v hN h0 hs v0 v1 v2
    have t1 := Int.tmod_eq_emod_of_nonneg (a := v) (b := p) (by omega)
    have t2 := Int.tdiv_eq_ediv_of_nonneg (a := v) (b := p) (by omega)
    have db := div_b hp2.1 (Int.le_of_lt v0) v1
    have w1 := ho_w (x := s + 1) (by omega) (by omega)
    have w2 := ho_wl (x := v / p) (by omega) (by omega)
    have g3 : ¬ p = 0 := by omega
    rw [lp_1 (by omega)]
    unfold pvn
    by_cases c : v % p = 0
    · obtain ⟨a, b⟩ := div_p hp2.1 v0 v2 c
      have key := ih (N - 1) (s + 1) (v / p) (by omega) (by omega) (by omega) a db.2 b
      generalize tp_lp (wB5 M) (N - 1) = Rc at key ⊢
      simp only [wB5, f_X11_powerIn_5B, hp, tp_lt, t1, t2, w1, w2]
      rw [if_neg g3, if_neg (fun h => h c), if_neg g3, if_pos c, key, Int.add_assoc]
    · simp only [wB5, f_X11_powerIn_5B, hp, tp_lt, t1, t2, w1, w2]
      rw [if_neg g3, if_pos c, if_neg c, Int.add_zero]
theorem s_powerIn {M : tp_M} {p v : Int} {n : Nat} (hp : M 483 0 = p) (hp2 : 2 ≤ p ∧ p ≤ 7) (hn : n ≤ 28) (hv : 0 < v ∧ v ≤ 400000000) (h : v < p ^ n) : f_X11_powerIn v M = some (pvn p n v) := by
  unfold f_X11_powerIn
  have := s_p5 (M := M) hp hp2 n tp_N 0 v (by unfold tp_N; omega) (by omega) (by omega) hv.1 hv.2 h
  rw [Int.zero_add] at this
  exact this
theorem s_residueBy {M : tp_M} {p K P v : Int} (h : pKP p K P) (hp : M 1 0 = p) (hK : M 1 1 = K) (hv : 0 < v ∧ v < P) : f_X4_residueBy v (pvn p K.toNat v) M = some (rsv p K.toNat v) := by
  have h' := h
  obtain ⟨h1, h2, h3, h4, h5, h6⟩ := h
  have hp2 := pm_2 h1
  have hlt := pvn_lt hp2.1 K.toNat v hv.1 (by rw [← h4]; exact hv.2)
  have hb := pvn_b p K.toNat v
  have e : pwr p K (pvn p K.toNat v) = p ^ (pvn p K.toNat v).toNat := by unfold pwr; rw [if_pos (by omega)]
  have pb := pow_mono (p := p) (by omega) (a := (pvn p K.toNat v).toNat) (b := K.toNat) (by omega)
  rw [← h4] at pb
  have q0 : 0 ≤ v / p ^ (pvn p K.toNat v).toNat := Int.ediv_nonneg (by omega) (by omega)
  have q1 : v / p ^ (pvn p K.toNat v).toNat ≤ v := Int.ediv_le_self _ (by omega)
  have rb := rsv_b hp2.1 K.toNat v
  unfold f_X4_residueBy
  rw [s_power (P := P) h' hp hK, Option.bind_some, e, hp, if_neg (by omega), if_pos (by omega), if_neg (by omega), if_neg (by omega), Int.tdiv_eq_ediv_of_nonneg (by omega), ho_wl (by omega) (by omega), Int.tmod_eq_emod_of_nonneg q0]
  unfold rsv at rb ⊢
  rw [ho_w (by omega) (by omega)]
/-- exponents of a place -/
def xpt (D e : Int → Int) (j k : Int) : Int := j / D k % e k
def vpl (D e s : Int → Int) (Dr j : Int) : Nat → Int
  | 0 => 0
  | n + 1 => vpl D e s Dr j n + xpt D e j ((n : Int) + 1) * s ((n : Int) + 1) * (Dr / D ((n : Int) + 2))
/-- small numbers on the way -/
def cxb (r : Int) (D e s : Int → Int) : Prop := (1 ≤ D r ∧ D r ≤ 8) ∧ ∀ k, 1 ≤ k → k < r → (1 ≤ D k ∧ D k ≤ 8) ∧ (1 ≤ e k ∧ e k ≤ 8) ∧ (0 ≤ s k ∧ s k ≤ 2000) ∧ D (k + 1) = D k * e k
theorem cxb_D {r : Int} {D e s : Int → Int} (h : cxb r D e s) {k : Int} (k0 : 1 ≤ k) (k1 : k < r) : 1 ≤ D (k + 1) ∧ D (k + 1) ≤ 8 := by
  by_cases c : k + 1 < r
  · exact (h.2 (k + 1) (by omega) c).1
  · rw [show k + 1 = r by omega]; exact h.1
theorem xpt_b {r : Int} {D e s : Int → Int} (h : cxb r D e s) {j k : Int} (k0 : 1 ≤ k) (k1 : k < r) : 0 ≤ xpt D e j k ∧ xpt D e j k ≤ e k - 1 := by
  have := (h.2 k k0 k1).2.1
  unfold xpt
  have a := Int.emod_nonneg (j / D k) (show e k ≠ 0 by omega)
  have b := Int.emod_lt_of_pos (j / D k) (show 0 < e k by omega)
  omega
theorem mulB {x y a b : Int} (hx : 0 ≤ x ∧ x ≤ a) (hy : 0 ≤ y ∧ y ≤ b) : 0 ≤ x * y ∧ x * y ≤ a * b := ⟨Int.mul_nonneg hx.1 hy.1, Int.mul_le_mul hx.2 hy.2 hy.1 (by omega)⟩
theorem vpl_t {r : Int} {D e s : Int → Int} (h : cxb r D e s) {j k : Int} (k0 : 1 ≤ k) (k1 : k < r) : (0 ≤ xpt D e j k * s k ∧ xpt D e j k * s k ≤ 14000) ∧ (0 ≤ D r / D (k + 1) ∧ D r / D (k + 1) ≤ 8) ∧ (0 ≤ xpt D e j k * s k * (D r / D (k + 1)) ∧ xpt D e j k * s k * (D r / D (k + 1)) ≤ 112000) := by
  have hk := h.2 k k0 k1
  have xb := xpt_b h (j := j) k0 k1
  have d1 := cxb_D h k0 k1
  have a1 := mulB (x := xpt D e j k) (y := s k) (a := 7) (b := 2000) (by omega) (by omega)
  have q0 : 0 ≤ D r / D (k + 1) := Int.ediv_nonneg (by have := h.1; omega) (by omega)
  have q1 : D r / D (k + 1) ≤ D r := Int.ediv_le_self _ (by have := h.1; omega)
  have a2 := mulB (x := xpt D e j k * s k) (y := D r / D (k + 1)) (a := 14000) (b := 8) (by omega) (by have := h.1; omega)
  have := h.1
  refine ⟨by omega, by omega, by omega⟩
theorem vpl_b {r : Int} {D e s : Int → Int} (h : cxb r D e s) (j : Int) : ∀ n : Nat, (n : Int) < r → 0 ≤ vpl D e s (D r) j n ∧ vpl D e s (D r) j n ≤ 112000 * n := by
  intro n
  induction n with
  | zero => intro _; exact ⟨Int.le_refl _, Int.le_refl _⟩
  | succ n ih =>
    intro hn
    have a := ih (by omega)
    have b := (vpl_t h (j := j) (k := (n : Int) + 1) (by omega) (by omega)).2.2
    rw [show (n : Int) + 1 + 1 = (n : Int) + 2 by omega] at b
    unfold vpl
    omega
/-- the context of the class -/
def CxC (M : tp_M) (r : Int) (D e s : Int → Int) : Prop := (∀ k, 1 ≤ k → k ≤ r → M 280 k = D k) ∧ ∀ k, 1 ≤ k → k < r → M 281 k = e k ∧ M 282 k = s k
theorem s_exponent {M : tp_M} {r : Int} {D e s : Int → Int} (h : cxb r D e s) (hM : CxC M r D e s) (hr : r ≤ 6) {j k : Int} (hj : 0 ≤ j ∧ j ≤ 100) (k0 : 1 ≤ k) (k1 : k < r) : f_X5_exponent j k M = some (xpt D e j k) := by
  have hk := h.2 k k0 k1
  have q0 : 0 ≤ j / D k := Int.ediv_nonneg hj.1 (by omega)
  have q1 : j / D k ≤ j := Int.ediv_le_self _ hj.1
  have t1 := Int.tdiv_eq_ediv_of_nonneg (a := j) (b := D k) hj.1
  have t2 := Int.tmod_eq_emod_of_nonneg (a := j / D k) (b := e k) q0
  have w := ho_w (x := j / D k) (by omega) (by omega)
  unfold f_X5_exponent f_X10_quotient f_X10_remainder
  rw [hM.1 k k0 (by omega), (hM.2 k k0 k1).1, if_neg (by omega), if_pos (by omega), if_pos (by omega), if_pos (by omega), if_neg (by omega), Option.bind_some, if_pos (by omega), if_pos (by omega), if_neg (by omega), t1, w, t2, Option.bind_some]
  rfl
theorem s_valueOfPlace {M : tp_M} {r : Int} {D e s : Int → Int} (h : cxb r D e s) (hM : CxC M r D e s) (hr : 1 ≤ r ∧ r ≤ 6) {j : Int} (hj : 0 ≤ j ∧ j ≤ 100) : f_X5_valueOfPlace j r M = some (vpl D e s (D r) j (r - 1).toNat) := by
  unfold f_X5_valueOfPlace
  rw [if_neg (show ¬ r < 1 by omega), if_pos hr.2]
  unfold f_X5_valueOfPlace_18
  have e0 : ((0 : Int), (1 : Int)) = (vpl D e s (D r) j 0, ((0 : Nat) : Int) + 1) := by show _ = ((0 : Int), _); rw [show ((0 : Nat) : Int) + 1 = 1 by omega]
  rw [e0]
  refine lp_seq (fun n => (vpl D e s (D r) j n, (n : Int) + 1)) (r - 1).toNat (fun n hn rc => ?_) (fun rc => ?_) tp_N (by unfold tp_N; omega)
  · have n0 : 1 ≤ (n : Int) + 1 := by omega
    have n1 : (n : Int) + 1 < r := by omega
    have hk := h.2 _ n0 n1
    have d1 := cxb_D h n0 n1
    have vt := vpl_t h (j := j) n0 n1
    have vb := vpl_b h j n (by omega)
    have dk := hM.1 _ n0 (Int.le_of_lt n1)
    have dr := hM.1 r (by omega) (Int.le_refl _)
    have ek := hM.2 _ n0 n1
    have ex := s_exponent h hM hr.2 hj n0 n1
    have e2 : (n : Int) + 1 + 1 = (n : Int) + 2 := by omega
    have t1 := Int.tdiv_eq_ediv_of_nonneg (a := D r) (b := D ((n : Int) + 1 + 1)) (by have := h.1; omega)
    have g0 : ¬ r ≤ (n : Int) + 1 := by omega
    have g2 : 0 ≤ r ∧ r < 8 := by omega
    have g3 : 0 ≤ (n : Int) + 1 ∧ (n : Int) + 1 < 8 := by omega
    have g4 : ¬ D ((n : Int) + 1 + 1) = 0 := by omega
    have bd : -2147483648 ≤ D ((n : Int) + 1 + 1) ∧ D ((n : Int) + 1 + 1) ≤ 2147483647 := by omega
    have b1 : -2147483648 ≤ D r / D ((n : Int) + 1 + 1) ∧ D r / D ((n : Int) + 1 + 1) ≤ 2147483647 := by omega
    have b2 : -2147483648 ≤ xpt D e j ((n : Int) + 1) * s ((n : Int) + 1) ∧ xpt D e j ((n : Int) + 1) * s ((n : Int) + 1) ≤ 2147483647 := by omega
    have b3 : -2147483648 ≤ xpt D e j ((n : Int) + 1) * s ((n : Int) + 1) * (D r / D ((n : Int) + 1 + 1)) ∧ xpt D e j ((n : Int) + 1) * s ((n : Int) + 1) * (D r / D ((n : Int) + 1 + 1)) ≤ 2147483647 := by omega
    have n6 : n ≤ 6 := by omega
    have b4 : -2147483648 ≤ vpl D e s (D r) j n + xpt D e j ((n : Int) + 1) * s ((n : Int) + 1) * (D r / D ((n : Int) + 1 + 1)) ∧ vpl D e s (D r) j n + xpt D e j ((n : Int) + 1) * s ((n : Int) + 1) * (D r / D ((n : Int) + 1 + 1)) ≤ 2147483647 := by omega
    have b5 : -2147483648 ≤ (n : Int) + 1 + 1 ∧ (n : Int) + 1 + 1 ≤ 2147483647 := by omega
    have qt : f_X10_quotient (D r) (D ((n : Int) + 1 + 1)) M = some (D r / D ((n : Int) + 1 + 1)) := by
      unfold f_X10_quotient
      rw [if_pos g4, if_neg g4, t1, ho_w b1.1 b1.2]
    simp only [f_X5_valueOfPlace_18B, tp_lt]
    rw [if_neg g0, if_pos g2, if_pos g3, if_pos g3, dk, ek.1, dr, ← hk.2.2.2, ho_w bd.1 bd.2, qt, Option.bind_some, ex, Option.bind_some, if_pos g3, ek.2, ho_w b2.1 b2.2, ho_w b3.1 b3.2, ho_w b4.1 b4.2, ho_w b5.1 b5.2]
    have ev : vpl D e s (D r) j (n + 1) = vpl D e s (D r) j n + xpt D e j ((n : Int) + 1) * s ((n : Int) + 1) * (D r / D ((n : Int) + 2)) := rfl
    rw [ev, e2, show ((n + 1 : Nat) : Int) + 1 = (n : Int) + 2 by omega]
  · simp only [f_X5_valueOfPlace_18B]
    rw [if_pos (by omega)]
theorem s_lift {M : tp_M} {r : Int} {D e s : Int → Int} (h : cxb r D e s) (hM : CxC M r D e s) (hr : 1 ≤ r ∧ r ≤ 6) : f_X5_lift r M = some (if r = 1 then 0 else e (r - 1) * s (r - 1)) := by
  unfold f_X5_lift
  by_cases c : r = 1
  · rw [if_pos (by omega), if_pos c]
  · have h1 := hM.2 (r - 1) (by omega) (by omega)
    have h2 := h.2 (r - 1) (by omega) (by omega)
    have m := mulB (x := e (r - 1)) (y := s (r - 1)) (a := 8) (b := 2000) (by omega) (by omega)
    have w := ho_w (x := r - 1) (by omega) (by omega)
    have w2 := ho_w (x := e (r - 1) * s (r - 1)) (by omega) (by omega)
    rw [if_neg (by omega), if_pos (by omega), w, if_pos (by omega), if_pos (by omega), h1.1, h1.2, w2, if_neg c]
/-- the head -/
def hdS (val Y : Int → Int) : Nat → Int × Int
  | 0 => (-1, -1)
  | n + 1 => if Y n ≠ 0 ∧ ((hdS val Y n).1 < 0 ∨ val n < (hdS val Y n).1) then (val n, (n : Int)) else hdS val Y n
theorem hdS_b {val Y : Int → Int} (hv : ∀ j : Nat, 0 ≤ val j) : ∀ n : Nat, (0 ≤ (hdS val Y n).1 → 0 ≤ (hdS val Y n).2 ∧ (hdS val Y n).2 < n ∧ Y (hdS val Y n).2 ≠ 0 ∧ (hdS val Y n).1 = val (hdS val Y n).2) ∧ ((hdS val Y n).1 < 0 → hdS val Y n = (-1, -1) ∧ ∀ j : Nat, j < n → Y j = 0) := by
  intro n
  induction n with
  | zero => exact ⟨fun h => absurd h (by show ¬ (0 : Int) ≤ -1; omega), fun _ => ⟨rfl, fun j hj => by omega⟩⟩
  | succ n ih =>
    unfold hdS
    by_cases c : Y n ≠ 0 ∧ ((hdS val Y n).1 < 0 ∨ val n < (hdS val Y n).1)
    · rw [if_pos c]
      exact ⟨fun _ => ⟨by simp only; omega, by simp only; omega, c.1, rfl⟩, fun h => absurd (hv n) (by simp only at h; omega)⟩
    · rw [if_neg c]
      refine ⟨fun h => ?_, fun h => ⟨(ih.2 h).1, fun j hj => ?_⟩⟩
      · have := ih.1 h
        exact ⟨this.1, by omega, this.2.2⟩
      · by_cases e : j = n
        · rw [e]
          exact Classical.byContradiction fun hc => c ⟨hc, Or.inl h⟩
        · exact (ih.2 h).2 j (by omega)
def kval (p : Int) (K : Nat) (Dr : Int) (vp Y : Int → Int) : Int → Int := fun j => pvn p K (Y j) * Dr + vp j
def hB14 (x1 x2 : Int) : (Int × Int × tp_M → Option (Int × tp_M)) → Int × Int × tp_M → Option (Int × tp_M) := fun rec_ u => f_X1_findHead_14B x1 x2 (fun x3' x4' M0' => rec_ (x3', x4', M0')) u.1 u.2.1 u.2.2
def hq (p : Int) (K : Nat) (i : Int) (val Y : Int → Int) (n : Nat) (M : tp_M) : Prop := 0 ≤ (hdS val Y n).1 → M 308 i = (hdS val Y n).2 ∧ M 309 i = rsv p K (Y (hdS val Y n).2)
theorem s_h14b {W : tp_M} {p K P kc i Dr b v : Int} {j : Nat} {rc : Int → Int → tp_M → Option (Int × tp_M)} {Yv vp : Int} (h : pKP p K P) (hp : W 1 0 = p) (hK : W 1 1 = K) (hD : W kc 2 = Dr) (hDr : 1 ≤ Dr ∧ Dr ≤ 8) (hj : (j : Int) < Dr) (hi : 0 ≤ i ∧ i ≤ 8) (hid : i * Dr ≤ 8) (hY : W 304 (i * Dr + j) = Yv) (hY2 : 0 ≤ Yv ∧ Yv < P) (hv : W 307 j = vp) (hv2 : 0 ≤ vp ∧ vp ≤ 1000000) (hkc : kc ≠ 308 ∧ kc ≠ 309) : f_X1_findHead_14B kc i rc b j W = if Yv ≠ 0 ∧ (b < 0 ∨ pvn p K.toNat Yv * Dr + vp < b) then rc (pvn p K.toNat Yv * Dr + vp) ((j + 1 : Nat) : Int) (tp_up (tp_up W 308 i j) 309 i (rsv p K.toNat Yv)) else rc b ((j + 1 : Nat) : Int) W := by
  have h' := h
  obtain ⟨h1, h2, h3, h4, h5, h6⟩ := h
  have hp2 := pm_2 h1
  have id0 : 0 ≤ i * Dr := Int.mul_nonneg hi.1 (by omega)
  have g0 : ¬ Dr ≤ (j : Int) := by omega
  have g1 : ¬ 9 ≤ (j : Int) := by omega
  have b1 : -2147483648 ≤ i * Dr ∧ i * Dr ≤ 2147483647 := by omega
  have b2 : -2147483648 ≤ i * Dr + j ∧ i * Dr + j ≤ 2147483647 := by omega
  have g2 : ¬ i * Dr + (j : Int) < 0 := by omega
  have g3 : ¬ 18 ≤ i * Dr + (j : Int) := by omega
  have g4 : 0 ≤ i * Dr + (j : Int) ∧ i * Dr + (j : Int) < 18 := by omega
  have g5 : 0 ≤ (j : Int) ∧ (j : Int) < 9 := by omega
  have g6 : 0 ≤ i ∧ i < 9 := by omega
  have g7 : j < 1000000 := by omega
  have pb := pvn_b p K.toNat Yv
  have mb := mulB (x := pvn p K.toNat Yv) (y := Dr) (a := 28) (b := 8) (by omega) (by omega)
  have b3 : -2147483648 ≤ pvn p K.toNat Yv * Dr ∧ pvn p K.toNat Yv * Dr ≤ 2147483647 := by omega
  have b4 : -2147483648 ≤ pvn p K.toNat Yv * Dr + vp ∧ pvn p K.toNat Yv * Dr + vp ≤ 2147483647 := by omega
  have sv := s_value (M := W) (p := p) (K := K) (v := Yv) hp hK hp2 (by omega) (by omega)
  have u4 : tp_up W 308 i j 304 (i * Dr + j) = Yv := by rw [up_ne (fun h => absurd h.1 (by decide))]; exact hY
  unfold f_X1_findHead_14B
  dsimp only [tp_lt]
  rw [hD, if_neg g0, if_neg g1, ho_w b1.1 b1.2, ho_w b2.1 b2.2, if_neg g2, if_neg g3, if_pos g4, hY]
  have e150 : ∀ (x : Int) (N : tp_M), f_X1_findHead_150 rc kc i x j N = rc x ((j + 1 : Nat) : Int) N := fun x N => by
    unfold f_X1_findHead_150
    dsimp only [tp_lt]
    rw [w_succ g7]
  by_cases c0 : Yv = 0
  · rw [if_neg (fun h => h c0), if_neg (fun h => h.1 c0), e150]
  · have sr := s_residueBy (M := tp_up W 308 i j) (p := p) (K := K) (P := P) (v := Yv) h' (by rw [up_ne (fun h => absurd h.1 (by decide))]; exact hp) (by rw [up_ne (fun h => absurd h.1 (by decide))]; exact hK) (by omega)
    have e117 : f_X1_findHead_117 rc kc i j (i * Dr + j) (pvn p K.toNat Yv) (pvn p K.toNat Yv * Dr + vp) W = rc (pvn p K.toNat Yv * Dr + vp) ((j + 1 : Nat) : Int) (tp_up (tp_up W 308 i j) 309 i (rsv p K.toNat Yv)) := by
      unfold f_X1_findHead_117
      dsimp only [tp_mp]
      rw [if_pos g6, if_pos g4, u4, sr, Option.bind_some, if_pos g6, e150]
    rw [if_pos c0, if_pos g4, sv, Option.bind_some, if_pos g5, hv, ho_w b3.1 b3.2, ho_w b4.1 b4.2]
    by_cases c1 : b < 0
    · rw [if_pos c1, if_pos ⟨c0, Or.inl c1⟩, e117]
    · rw [if_neg c1]
      by_cases c2 : pvn p K.toNat Yv * Dr + vp < b
      · rw [if_pos c2, if_pos ⟨c0, Or.inr c2⟩, e117]
      · rw [if_neg c2, if_neg (fun h => h.2.elim c1 c2), e150]
theorem s_h14 {p K P kc i Dr : Int} {vp Y : Int → Int} (h : pKP p K P) (hDr : 1 ≤ Dr ∧ Dr ≤ 8) (hi : 0 ≤ i ∧ i ≤ 8) (hid : i * Dr ≤ 8) (hkc : kc ≠ 308 ∧ kc ≠ 309) (hY : inP P Y 0 Dr) (hv : ∀ j, 0 ≤ j → j < Dr → 0 ≤ vp j ∧ vp j ≤ 1000000) : ∀ (m N n : Nat) (W : tp_M), m < N → ((n + m : Nat) : Int) = Dr → W 1 0 = p → W 1 1 = K → W kc 2 = Dr → (∀ j, 0 ≤ j → j < Dr → W 304 (i * Dr + j) = Y j ∧ W 307 j = vp j) → hq p K.toNat i (kval p K.toNat Dr vp Y) Y n W → ∃ N', tp_lp (hB14 kc i) N ((hdS (kval p K.toNat Dr vp Y) Y n).1, (n : Int), W) = some ((hdS (kval p K.toNat Dr vp Y) Y (n + m)).1, N') ∧ hq p K.toNat i (kval p K.toNat Dr vp Y) Y (n + m) N' ∧ ∀ c k, ¬ (c = 308 ∧ k = i) → ¬ (c = 309 ∧ k = i) → N' c k = W c k := by
  intro m
  induction m with
  | zero =>
    intro N n W hN hn hp hK hD hW hQ
    refine ⟨W, ?_, hQ, fun c k _ _ => rfl⟩
    rw [lp_1 (by omega)]
    simp only [hB14, f_X1_findHead_14B, hD]
    rw [if_pos (by omega)]
    rfl
  | succ m ih =>
    intro N n W hN hn hp hK hD hW hQ
    have n1 : (n : Int) < Dr := by omega
    have hb := s_h14b (W := W) (b := (hdS (kval p K.toNat Dr vp Y) Y n).1) (v := 0) (j := n) (rc := fun x3' x4' M0' => tp_lp (hB14 kc i) (N - 1) (x3', x4', M0')) h hp hK hD hDr n1 hi hid (hW n (by omega) n1).1 (hY n (by omega) n1) (hW n (by omega) n1).2 (hv n (by omega) n1) hkc
    rw [lp_1 (by omega)]
    have e0 : hdS (kval p K.toNat Dr vp Y) Y (n + 1) = if Y n ≠ 0 ∧ ((hdS (kval p K.toNat Dr vp Y) Y n).1 < 0 ∨ kval p K.toNat Dr vp Y n < (hdS (kval p K.toNat Dr vp Y) Y n).1) then (kval p K.toNat Dr vp Y n, (n : Int)) else hdS (kval p K.toNat Dr vp Y) Y n := rfl
    by_cases c : Y n ≠ 0 ∧ ((hdS (kval p K.toNat Dr vp Y) Y n).1 < 0 ∨ kval p K.toNat Dr vp Y n < (hdS (kval p K.toNat Dr vp Y) Y n).1)
    · rw [if_pos c] at e0
      have hb2 := hb.trans (if_pos c)
      obtain ⟨N', k1, k2, k3⟩ := ih (N - 1) (n + 1) (tp_up (tp_up W 308 i n) 309 i (rsv p K.toNat (Y n))) (by omega) (by omega) (by rw [up_ne (fun h => absurd h.1 (by decide)), up_ne (fun h => absurd h.1 (by decide))]; exact hp) (by rw [up_ne (fun h => absurd h.1 (by decide)), up_ne (fun h => absurd h.1 (by decide))]; exact hK) (by rw [up_ne (fun h => hkc.2 h.1), up_ne (fun h => hkc.1 h.1)]; exact hD) (fun j j0 j1 => ⟨by rw [up_ne (fun h => absurd h.1 (by decide)), up_ne (fun h => absurd h.1 (by decide))]; exact (hW j j0 j1).1, by rw [up_ne (fun h => absurd h.1 (by decide)), up_ne (fun h => absurd h.1 (by decide))]; exact (hW j j0 j1).2⟩) (fun _ => by
        rw [e0]
        exact ⟨by rw [up_ne (fun h => absurd h.1 (by decide)), up_eq ⟨rfl, rfl⟩], by rw [up_eq ⟨rfl, rfl⟩]⟩)
      rw [show n + 1 + m = n + (m + 1) by omega] at k1 k2
      rw [e0] at k1
      refine ⟨N', ?_, k2, fun c k h1 h2 => by rw [k3 c k h1 h2, up_ne h2, up_ne h1]⟩
      exact Eq.trans hb2 k1
    · rw [if_neg c] at e0
      have hb2 := hb.trans (if_neg c)
      obtain ⟨N', k1, k2, k3⟩ := ih (N - 1) (n + 1) W (by omega) (by omega) hp hK hD hW (by unfold hq; rw [e0]; exact hQ)
      rw [show n + 1 + m = n + (m + 1) by omega] at k1 k2
      rw [e0] at k1
      exact ⟨N', Eq.trans hb2 k1, k2, k3⟩
theorem s_findHead {M : tp_M} {p K P kc i Dr : Int} {vp Y : Int → Int} (h : pKP p K P) (tk : kn_t kc) (hp : M 1 0 = p) (hK : M 1 1 = K) (hD : M kc 2 = Dr) (hDr : 1 ≤ Dr ∧ Dr ≤ 8) (hi : 0 ≤ i ∧ i ≤ 8) (hid : i * Dr ≤ 8) (hkc : kc ≠ 308 ∧ kc ≠ 309) (hY : inP P Y 0 Dr) (hv : ∀ j, 0 ≤ j → j < Dr → 0 ≤ vp j ∧ vp j ≤ 1000000) (hM : ∀ j, 0 ≤ j → j < Dr → M 304 (i * Dr + j) = Y j ∧ M 307 j = vp j) : ∃ N, f_X1_findHead kc i M = some ((hdS (kval p K.toNat Dr vp Y) Y Dr.toNat).1, N) ∧ hq p K.toNat i (kval p K.toNat Dr vp Y) Y Dr.toNat N ∧ ∀ c k, ¬ (c = 308 ∧ k = i) → ¬ (c = 309 ∧ k = i) → N c k = M c k := by
  obtain ⟨N, k1, k2, k3⟩ := s_h14 h hDr hi hid hkc hY hv Dr.toNat tp_N 0 M (by unfold tp_N; omega) (by omega) hp hK hD hM (fun h => absurd h (by show ¬ (0 : Int) ≤ -1; omega))
  rw [show 0 + Dr.toNat = Dr.toNat by omega] at k1 k2
  refine ⟨N, ?_, k2, k3⟩
  unfold f_X1_findHead f_X10_isPower
  rw [if_pos (show tp_tg kc = 2 from tk), if_neg (by omega), if_neg (by omega), Option.bind_some, if_pos (by decide)]
  exact k1
