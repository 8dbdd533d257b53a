def tp_w (x : Int) : Int := (x + 2147483648) % 4294967296 - 2147483648
def tp_wl (x : Int) : Int := (x + 9223372036854775808) % 18446744073709551616 - 9223372036854775808
def tp_r (x : Int) : Prop := -2147483648 ≤ x ∧ x ≤ 2147483647
def tp_rl (x : Int) : Prop := -9223372036854775808 ≤ x ∧ x ≤ 9223372036854775807
theorem tp_w_r (x : Int) : tp_r (tp_w x) := by unfold tp_r tp_w; omega
theorem tp_wl_r (x : Int) : tp_rl (tp_wl x) := by unfold tp_rl tp_wl; omega
theorem tp_w_id {x : Int} (h : tp_r x) : tp_w x = x := by unfold tp_r at h; unfold tp_w; omega
theorem tp_wl_id {x : Int} (h : tp_rl x) : tp_wl x = x := by unfold tp_rl at h; unfold tp_wl; omega
theorem tp_w_bm (x : Int) : tp_w x = x.bmod (2 ^ 32) := by
  unfold tp_w Int.bmod
  simp only [show ((2 ^ 32 : Nat) : Int) = 4294967296 from rfl]
  split <;> omega
theorem tp_wl_bm (x : Int) : tp_wl x = x.bmod (2 ^ 64) := by
  unfold tp_wl Int.bmod
  simp only [show ((2 ^ 64 : Nat) : Int) = 18446744073709551616 from rfl]
  split <;> omega
theorem tp_i_to (x : Int) : (Int32.ofInt x).toInt = tp_w x := by rw [Int32.toInt_ofInt, tp_w_bm]
theorem tp_l_to (x : Int) : (Int64.ofInt x).toInt = tp_wl x := by rw [Int64.toInt_ofInt, tp_wl_bm]
theorem tp_i_rt {x : Int} (h : tp_r x) : (Int32.ofInt x).toInt = x := by rw [tp_i_to, tp_w_id h]
theorem tp_l_rt {x : Int} (h : tp_rl x) : (Int64.ofInt x).toInt = x := by rw [tp_l_to, tp_wl_id h]
theorem tp_i_eq {x : Int32} {y : Int} (h : x.toInt = tp_w y) : x = Int32.ofInt (tp_w y) := by
  rw [← h, Int32.ofInt_toInt]
theorem tp_l_eq {x : Int64} {y : Int} (h : x.toInt = tp_wl y) : x = Int64.ofInt (tp_wl y) := by
  rw [← h, Int64.ofInt_toInt]
theorem tp_iadd (a b : Int) : Int32.ofInt a + Int32.ofInt b = Int32.ofInt (tp_w (a + b)) := by
  apply tp_i_eq; rw [← Int32.ofInt_add, tp_i_to]
theorem tp_isub (a b : Int) : Int32.ofInt a - Int32.ofInt b = Int32.ofInt (tp_w (a - b)) := by
  apply tp_i_eq; rw [← Int32.ofInt_sub, tp_i_to]
theorem tp_imul (a b : Int) : Int32.ofInt a * Int32.ofInt b = Int32.ofInt (tp_w (a * b)) := by
  apply tp_i_eq; rw [← Int32.ofInt_mul, tp_i_to]
theorem tp_ineg (a : Int) : - Int32.ofInt a = Int32.ofInt (tp_w (- a)) := by
  apply tp_i_eq; rw [← Int32.ofInt_neg, tp_i_to]
theorem tp_ladd (a b : Int) : Int64.ofInt a + Int64.ofInt b = Int64.ofInt (tp_wl (a + b)) := by
  apply tp_l_eq; rw [← Int64.ofInt_add, tp_l_to]
theorem tp_lsub (a b : Int) : Int64.ofInt a - Int64.ofInt b = Int64.ofInt (tp_wl (a - b)) := by
  apply tp_l_eq; rw [← Int64.ofInt_sub, tp_l_to]
theorem tp_lmul (a b : Int) : Int64.ofInt a * Int64.ofInt b = Int64.ofInt (tp_wl (a * b)) := by
  apply tp_l_eq; rw [← Int64.ofInt_mul, tp_l_to]
theorem tp_idiv {a b : Int} (ha : tp_r a) (hb : tp_r b) : Int32.ofInt a / Int32.ofInt b = Int32.ofInt (tp_w (a.tdiv b)) := by
  apply tp_i_eq; rw [Int32.toInt_div, tp_i_rt ha, tp_i_rt hb, tp_w_bm]
theorem tp_tm_abs (a b : Int) : (a.tmod b).natAbs ≤ a.natAbs := by rw [Int.natAbs_tmod]; exact Nat.mod_le _ _
theorem tp_tm_r {a : Int} (b : Int) (ha : tp_r a) : tp_r (a.tmod b) := by
  have h := tp_tm_abs a b
  have h2 : 0 ≤ a → 0 ≤ a.tmod b := fun h => Int.tmod_nonneg b h
  have h3 : a ≤ 0 → a.tmod b ≤ 0 := fun h => by
    have := Int.tmod_nonneg b (show 0 ≤ -a by omega)
    rw [Int.neg_tmod] at this; omega
  unfold tp_r at *; omega
theorem tp_tm_rl {a : Int} (b : Int) (ha : tp_rl a) : tp_rl (a.tmod b) := by
  have h := tp_tm_abs a b
  have h2 : 0 ≤ a → 0 ≤ a.tmod b := fun h => Int.tmod_nonneg b h
  have h3 : a ≤ 0 → a.tmod b ≤ 0 := fun h => by
    have := Int.tmod_nonneg b (show 0 ≤ -a by omega)
    rw [Int.neg_tmod] at this; omega
  unfold tp_rl at *; omega
theorem tp_ow (x : Int) : Int32.ofInt (tp_w x) = Int32.ofInt x := by rw [← tp_i_to, Int32.ofInt_toInt]
theorem tp_owl (x : Int) : Int64.ofInt (tp_wl x) = Int64.ofInt x := by rw [← tp_l_to, Int64.ofInt_toInt]
theorem tp_irem {a b : Int} (ha : tp_r a) (hb : tp_r b) : Int32.ofInt a - Int32.ofInt a / Int32.ofInt b * Int32.ofInt b = Int32.ofInt (a.tmod b) := by
  rw [tp_idiv ha hb, tp_ow, ← Int32.ofInt_mul, ← Int32.ofInt_sub, Int.tmod_def, Int.mul_comm]
theorem tp_ldiv {a b : Int} (ha : tp_rl a) (hb : tp_rl b) : Int64.ofInt a / Int64.ofInt b = Int64.ofInt (tp_wl (a.tdiv b)) := by
  apply tp_l_eq; rw [Int64.toInt_div, tp_l_rt ha, tp_l_rt hb, tp_wl_bm]
theorem tp_lrem {a b : Int} (ha : tp_rl a) (hb : tp_rl b) : Int64.ofInt a - Int64.ofInt a / Int64.ofInt b * Int64.ofInt b = Int64.ofInt (a.tmod b) := by
  rw [tp_ldiv ha hb, tp_owl, ← Int64.ofInt_mul, ← Int64.ofInt_sub, Int.tmod_def, Int.mul_comm]
theorem tp_i2l {a : Int} (ha : tp_r a) : (Int32.ofInt a).toInt64 = Int64.ofInt a := by
  apply Int64.toInt_inj.mp
  rw [Int32.toInt_toInt64, tp_i_rt ha, tp_l_rt]
  unfold tp_r at ha; unfold tp_rl; omega
theorem tp_l2i (a : Int) : (Int64.ofInt a).toInt32 = Int32.ofInt (tp_w a) := by
  apply tp_i_eq
  rw [Int64.toInt_toInt32, tp_l_to]
  rw [← tp_w_bm]
  unfold tp_w tp_wl; omega
theorem tp_ilt {a b : Int} (ha : tp_r a) (hb : tp_r b) : Int32.ofInt a < Int32.ofInt b ↔ a < b := by rw [Int32.lt_iff_toInt_lt, tp_i_rt ha, tp_i_rt hb]
theorem tp_ile {a b : Int} (ha : tp_r a) (hb : tp_r b) : Int32.ofInt a ≤ Int32.ofInt b ↔ a ≤ b := by rw [Int32.le_iff_toInt_le, tp_i_rt ha, tp_i_rt hb]
theorem tp_ieq {a b : Int} (ha : tp_r a) (hb : tp_r b) : Int32.ofInt a = Int32.ofInt b ↔ a = b := by rw [← Int32.toInt_inj, tp_i_rt ha, tp_i_rt hb]
theorem tp_llt {a b : Int} (ha : tp_rl a) (hb : tp_rl b) : Int64.ofInt a < Int64.ofInt b ↔ a < b := by rw [Int64.lt_iff_toInt_lt, tp_l_rt ha, tp_l_rt hb]
theorem tp_leq {a b : Int} (ha : tp_rl a) (hb : tp_rl b) : Int64.ofInt a = Int64.ofInt b ↔ a = b := by rw [← Int64.toInt_inj, tp_l_rt ha, tp_l_rt hb]
