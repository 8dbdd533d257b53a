abbrev tp_rm (d : Nat) : Room := { frames := d, cells := 0, slots := 0, locals := 60 * d }
def tp_cp (M : tp_M) (c sp c' dp n : Int) : tp_M := fun a b => if a = c' ∧ dp ≤ b ∧ b < dp + n then M c (sp + (b - dp)) else M a b
def tp_mask (bs : List Bool) (lv : List (Option tp_V)) : List (Option tp_V) := List.zipWith (fun b v => if b then v else none) bs lv
section TPN
variable {I : tp_I} {R : Room} {G : tp_G} {mc ms : Nat} {ρ : Type} {out : ρ → tp_O} {n : Nat} {g : Nat → tp_C} {k q : Nat} {lv : List (Option tp_V)} {pc : Nat} {st : List tp_V} {φ : Option ρ}
theorem j_nmI {e : Int} {f : Int → Option ρ} (h : ∀ x, x = e → tp_J I R G mc ms out n g k q lv pc (.inl x :: st) (f x)) : tp_J I R G mc ms out n g k q lv pc (.inl e :: st) (tp_lt e f) := h e rfl
theorem j_nmL {e : Int} {f : Int → Option ρ} (h : ∀ x, x = e → tp_J I R G mc ms out n g k q lv pc (.inr (.inl x) :: st) (f x)) : tp_J I R G mc ms out n g k q lv pc (.inr (.inl e) :: st) (tp_lt e f) := h e rfl
theorem j_nmR {e : Int} {f : Int → Option ρ} (h : ∀ x, x = e → tp_J I R G mc ms out n g k q lv pc (.inr (.inr x) :: st) (f x)) : tp_J I R G mc ms out n g k q lv pc (.inr (.inr e) :: st) (tp_lt e f) := h e rfl
theorem j_iincN {i : Nat} {x d : Int} {lv' : Int → List (Option tp_V)} {f : Int → Option ρ} (hd : decode I.1 pc = .ok (.iinc i d, 3)) (h0 : lv[i]? = some (some (.inl x))) (hi : i < lv.length) (hl : ∀ x', tp_sm lv i (.inl x') = lv' x') (kk : ∀ x', x' = tp_w (x + d) → tp_J I R G mc ms out n g k q (lv' x') (pc + 3) st (f x')) : tp_J I R G mc ms out n g k q lv pc st (tp_lt (tp_w (x + d)) f) := j_iinc hd h0 hi (hl _) (kk _ rfl)
theorem tp_mask_at : ∀ (bs : List Bool) (lv : List (Option tp_V)) (i : Nat) (v : tp_V), (tp_mask bs lv)[i]? = some (some v) → lv[i]? = some (some v) := by
  intro bs lv i v h
  unfold tp_mask at h
  rw [List.getElem?_zipWith] at h
  cases hb : bs[i]? with
  | none => rw [hb] at h; simp at h
  | some b =>
    cases hl : lv[i]? with
    | none => rw [hb, hl] at h; simp at h
    | some w =>
      rw [hb, hl] at h
      cases b with
      | false => simp at h
      | true => simp at h; rw [h]
theorem j_wk {lv' : List (Option tp_V)} (bs : List Bool) (hb : bs.length = lv.length) (h : tp_mask bs lv = lv') (kk : tp_J I R G mc ms out n g k q lv' pc st φ) : tp_J I R G mc ms out n g k q lv pc st φ := by
  subst h
  intro r hr p l e s m args below meth c hC ls H locs hL hn hs hH hS
  have hlen : (tp_mask bs lv).length = lv.length := by unfold tp_mask; rw [List.length_zipWith]; omega
  exact kk r hr p l e s m args below meth c hC ls H locs ⟨by rw [hlen]; exact hL.1, hL.2.1, fun i v hv => hL.2.2 i v (tp_mask_at bs lv i v hv)⟩ (by rw [hlen]; exact hn) hs hH hS
theorem tp_max_e {x y : Int} (hx : tp_r x) (hy : tp_r y) : (if Int32.ofInt x < Int32.ofInt y then Int32.ofInt y else Int32.ofInt x) = Int32.ofInt (max x y) := by
  by_cases h : x < y
  · rw [if_pos ((tp_ilt hx hy).mpr h), Int.max_eq_right (by omega)]
  · rw [if_neg (fun z => h ((tp_ilt hx hy).mp z)), Int.max_eq_left (by omega)]
theorem tp_min_e {x y : Int} (hx : tp_r x) (hy : tp_r y) : (if Int32.ofInt y < Int32.ofInt x then Int32.ofInt y else Int32.ofInt x) = Int32.ofInt (min x y) := by
  by_cases h : y < x
  · rw [if_pos ((tp_ilt hy hx).mpr h), Int.min_eq_right (by omega)]
  · rw [if_neg (fun z => h ((tp_ilt hy hx).mp z)), Int.min_eq_left (by omega)]
theorem j_mmax {x y : Int} {ix : Nat} (hw : Cond.methodLink I.2.1 ix Lib.Math.max.name ∈ lw_tbl) (hst : Cond.static Lib.Math.max.name ∈ lw_tbl) (hini : Cond.initialized "java/lang/Math" ∈ lw_tbl) (hcode : Cond.code Lib.Math.max.name Lib.Math.max.code 2 (some .int) ∈ lw_tbl) (hR : 1 ≤ R.frames ∧ 40 ≤ R.locals) (hkq : k ≤ R.cells ∧ q ≤ R.slots) (hc4 : st.length ≤ 4) (hd : decode I.1 pc = .ok (.invokestatic ix, 3)) (kk : tp_J I R G mc ms out n g k q lv (pc + 3) (.inl (max x y) :: st) φ) : tp_J I R G mc ms out n g k q lv pc (.inl y :: .inl x :: st) φ := by
  intro r hr p l e s m args below meth c hC ls H locs hL hn hs hH hS
  have hy := tp_unI (tp_ok1 hs)
  have hx := tp_unI (tp_ok1 (tp_okt hs))
  have w := kk r hr p l e s m args below meth c hC ls H locs hL hn (tp_oks (show tp_r (max x y) by unfold tp_r at *; omega) (tp_okt (tp_okt hs))) hH hS
  refine va_mmax hC.1 hC.2.1 (by rw [hC.2.2.1, hL.1, hn]) hC.2.2.2.1 (hC.2.2.2.2.1 _ hw rfl) (hC.2.2.2.2.1 _ hst rfl) (hC.2.2.2.2.1 _ hini rfl) (hC.2.2.2.2.1 _ hcode rfl) hR.1 (by have := tp_catsum G st hc4; omega) hkq.1 hkq.2 hd ?_
  rw [tp_max_e hx hy]
  exact w
theorem j_mmin {x y : Int} {ix : Nat} (hw : Cond.methodLink I.2.1 ix Lib.Math.min.name ∈ lw_tbl) (hst : Cond.static Lib.Math.min.name ∈ lw_tbl) (hini : Cond.initialized "java/lang/Math" ∈ lw_tbl) (hcode : Cond.code Lib.Math.min.name Lib.Math.min.code 2 (some .int) ∈ lw_tbl) (hR : 1 ≤ R.frames ∧ 40 ≤ R.locals) (hkq : k ≤ R.cells ∧ q ≤ R.slots) (hc4 : st.length ≤ 4) (hd : decode I.1 pc = .ok (.invokestatic ix, 3)) (kk : tp_J I R G mc ms out n g k q lv (pc + 3) (.inl (min x y) :: st) φ) : tp_J I R G mc ms out n g k q lv pc (.inl y :: .inl x :: st) φ := by
  intro r hr p l e s m args below meth c hC ls H locs hL hn hs hH hS
  have hy := tp_unI (tp_ok1 hs)
  have hx := tp_unI (tp_ok1 (tp_okt hs))
  have w := kk r hr p l e s m args below meth c hC ls H locs hL hn (tp_oks (show tp_r (min x y) by unfold tp_r at *; omega) (tp_okt (tp_okt hs))) hH hS
  refine va_mmin hC.1 hC.2.1 (by rw [hC.2.2.1, hL.1, hn]) hC.2.2.2.1 (hC.2.2.2.2.1 _ hw rfl) (hC.2.2.2.2.1 _ hst rfl) (hC.2.2.2.2.1 _ hini rfl) (hC.2.2.2.2.1 _ hcode rfl) hR.1 (by have := tp_catsum G st hc4; omega) hkq.1 hkq.2 hd ?_
  rw [tp_min_e hx hy]
  exact w
theorem j_lpP {σ : Type} {P : σ → Prop} {body : (σ → Option ρ) → σ → Option ρ} {n' : σ → Nat} {g' : σ → Nat → tp_C} {k' q' : σ → Nat} {lv' : σ → List (Option tp_V)} (h : ∀ rec_ : σ → Option ρ, (∀ u, P u → tp_J I R G mc ms out (n' u) (g' u) (k' u) (q' u) (lv' u) pc st (rec_ u)) → ∀ u, P u → tp_J I R G mc ms out (n' u) (g' u) (k' u) (q' u) (lv' u) pc st (body rec_ u)) : ∀ (N : Nat) (u : σ), P u → tp_J I R G mc ms out (n' u) (g' u) (k' u) (q' u) (lv' u) pc st (tp_lp body N u) := by
  intro N
  induction N with
  | zero => exact fun u _ => tp_none
  | succ N ih => exact fun u hu => h _ ih u hu
theorem j_idivC {x y : Int} (hz : y ≠ 0) (hd : decode I.1 pc = .ok (.idiv, 1)) (kk : tp_J I R G mc ms out n g k q lv (pc + 1) (.inl (tp_w (x.tdiv y)) :: st) φ) : tp_J I R G mc ms out n g k q lv pc (.inl y :: .inl x :: st) φ := by
  have h := j_idiv hd kk
  rw [if_neg hz] at h
  exact h
theorem j_iremC {x y : Int} (hz : y ≠ 0) (hd : decode I.1 pc = .ok (.irem, 1)) (kk : tp_J I R G mc ms out n g k q lv (pc + 1) (.inl (x.tmod y) :: st) φ) : tp_J I R G mc ms out n g k q lv pc (.inl y :: .inl x :: st) φ := by
  have h := j_irem hd kk
  rw [if_neg hz] at h
  exact h
theorem j_ldivC {x y : Int} (hz : y ≠ 0) (hd : decode I.1 pc = .ok (.ldiv, 1)) (kk : tp_J I R G mc ms out n g k q lv (pc + 1) (.inr (.inl (tp_wl (x.tdiv y))) :: st) φ) : tp_J I R G mc ms out n g k q lv pc (.inr (.inl y) :: .inr (.inl x) :: st) φ := by
  have h := j_ldiv hd kk
  rw [if_neg hz] at h
  exact h
theorem j_lremC {x y : Int} (hz : y ≠ 0) (hd : decode I.1 pc = .ok (.lrem, 1)) (kk : tp_J I R G mc ms out n g k q lv (pc + 1) (.inr (.inl (x.tmod y)) :: st) φ) : tp_J I R G mc ms out n g k q lv pc (.inr (.inl y) :: .inr (.inl x) :: st) φ := by
  have h := j_lrem hd kk
  rw [if_neg hz] at h
  exact h
end TPN
theorem tp_al_r (c : Int) : tp_r (tp_al c) := by
  have h : tp_lay.all (fun q => decide (q.2.length ≤ 10000)) = true := by decide +kernel
  unfold tp_al
  cases hq : tp_lay[c.toNat]? with
  | none => exact ⟨by decide, by decide⟩
  | some x =>
    have := of_decide_eq_true (List.all_eq_true.mp h x (List.mem_of_getElem? hq))
    show tp_r (x.2.length : Int)
    unfold tp_r
    omega
def tp_N : Nat := 100000
section TPA
variable {I : tp_I} {R : Room} {G : tp_G} {mc ms : Nat} {ρ : Type} {out : ρ → tp_O} {M : tp_M} {k q : Nat} {lv : List (Option tp_V)} {pc : Nat} {st : List tp_V} {φ : Option ρ}
theorem tp_Hcp {H H1 : Heap} {c sp c' dp nn : Int} (hH : tp_H G tp_NC (tp_st M) H) (h0 : 0 ≤ c') (hc : c'.toNat < tp_NC) (hz : H1.size = H.size) (ho : ∀ a, a ≠ G.1 + c'.toNat → H1[a]? = H[a]?) (h1 : tp_cell G (tp_st (tp_cp M c sp c' dp nn) c'.toNat) (G.1 + c'.toNat) H1) (h2 : tp_okc (tp_st (tp_cp M c sp c' dp nn) c'.toNat)) : tp_H G tp_NC (tp_st (tp_cp M c sp c' dp nn)) H1 := by
  refine ⟨by rw [hz]; exact hH.1, fun a ha => ?_⟩
  by_cases e : a = c'.toNat
  · subst e; exact ⟨h1, h2⟩
  · have : tp_st (tp_cp M c sp c' dp nn) a = tp_st M a := by
      unfold tp_st
      cases tp_lay[a]? with
      | none => rfl
      | some x =>
        have : ∀ j, tp_cp M c sp c' dp nn a j = M a j := fun j => by unfold tp_cp; rw [if_neg (fun z => e (by have := z.1; omega))]
        simp only [this]
    rw [this]
    obtain ⟨g1, g2⟩ := hH.2 a ha
    refine ⟨?_, g2⟩
    have hk : H1[G.1 + a]? = H[G.1 + a]? := ho _ (by omega)
    unfold tp_cell at g1 ⊢
    cases hr : vwCl[(tp_st M a).1]? with
    | none => rw [hr] at g1; exact hk.trans g1
    | some r => rw [hr] at g1; exact ⟨g1.1, g1.2.kept hk⟩
theorem tp_nnc {z : Int} (hr : tp_r z) (h : 0 ≤ z) : (Int32.ofInt z).toInt = ((Int32.ofInt z).toNatClampNeg : Int) := by rw [tp_clamp hr h, tp_i_rt hr]; omega
theorem j_acpi {c sp c' dp nn N N' : Int} {ix : Nat} {f : tp_M → Option ρ} (ht : tp_tg c = 21) (hal : tp_al c = N) (ht' : tp_tg c' = 21) (hal' : tp_al c' = N') (hw : Cond.methodLink I.2.1 ix arraycopyName ∈ lw_tbl) (hnat : Cond.native arraycopyName ∈ lw_tbl) (hstat : Cond.static arraycopyName ∈ lw_tbl) (hini : Cond.initialized "java/lang/System" ∈ lw_tbl) (hR : 1 ≤ R.frames ∧ 60 ≤ R.locals) (hc4 : st.length ≤ 4) (hd : decode I.1 pc = .ok (.invokestatic ix, 3))
    (kk : ∀ M1, M1 = tp_cp M c sp c' dp nn → tp_J I R G mc ms out tp_NC (tp_st M1) k q lv (pc + 3) st (f M1)) : tp_J I R G mc ms out tp_NC (tp_st M) k q lv pc (.inl nn :: .inl dp :: .inr (.inr c') :: .inl sp :: .inr (.inr c) :: st) (if 0 ≤ sp ∧ 0 ≤ dp ∧ 0 ≤ nn ∧ sp + nn ≤ N ∧ dp + nn ≤ N' then tp_mp (tp_cp M c sp c' dp nn) f else none) := by
  refine tp_chk (fun hi => ?_)
  obtain ⟨i1, i2, i3, i4, i5⟩ := hi
  intro r hr p l e s m args below meth cc hC ls H locs hL hn hs hH hS
  obtain ⟨a0, xs, a1, a2, a3, a4, a5⟩ := tp_arrat (by decide) hH ht
  obtain ⟨b0, ys, b1, b2, b3, b4, b5⟩ := tp_arrat (by decide) hH ht'
  have rn := tp_unI (tp_ok1 hs)
  have rd := tp_unI (tp_ok1 (tp_okt hs))
  have rs := tp_unI (tp_ok1 (tp_okt (tp_okt (tp_okt hs))))
  have cn := tp_clamp rn i3
  have cd := tp_clamp rd i2
  have cs := tp_clamp rs i1
  show W p l e R s m args below meth cc H locs k q _ (F0 m pc ls (.int (Int32.ofInt nn) :: .int (Int32.ofInt dp) :: tp_ref G c' :: .int (Int32.ofInt sp) :: tp_ref G c :: st.map (tp_enc G)))
  rw [tp_ref_pos a0, tp_ref_pos b0]
  intro T hT X
  have hc0 : H[G.1 + c.toNat]? = some (vp_cell (G.2.2.2 21) (xs.length, .inl (fun j => Int32.ofInt ((tp_st M c.toNat).2.getD j 0)))) := a4
  have hc1 : H[G.1 + c'.toNat]? = some (vp_cell (G.2.2.2 21) (ys.length, .inl (fun j => Int32.ofInt ((tp_st M c'.toNat).2.getD j 0)))) := b4
  have hA : ArrOfT s (G.2.2.2 21) .int := (hC.2.2.2.2.2.2.2.1.2.1 (21, .int) (by decide)).1
  obtain ⟨-, k0, hk0, cm0, hkk0⟩ := hA xs.length (fun j => .int (Int32.ofInt ((tp_st M c.toNat).2.getD j 0)))
  obtain ⟨-, k1, hk1, cm1, hkk1⟩ := hA ys.length (fun j => .int (Int32.ofInt ((tp_st M c'.toNat).2.getD j 0)))
  obtain ⟨vm', X', step⟩ := X.arraycopy hC.1 hC.2.2.2.1 (hC.2.2.2.2.1 _ hw rfl) (hC.2.2.2.2.1 _ hnat rfl) (hC.2.2.2.2.1 _ hstat rfl) (hC.2.2.2.2.1 _ hini rfl) (srcPos := Int32.ofInt sp) (destPos := Int32.ofInt dp) (n := Int32.ofInt nn) (by rw [hT]; exact hc0) (by rw [hT]; exact hc1)
    (fun _ h => by cases h) (fun _ h => by cases h) (fun h => by cases h) (fun h => by cases h) hk0 hk1 hkk0 hkk1 (by rfl) (tp_pos rs i1) (tp_pos rd i2) (tp_pos rn i3)
    (by rw [tp_i_rt rs, tp_i_rt rn]; show ¬ _ > ((arrV _ _ _).slots.size : Int); rw [arrV_size]; omega)
    (by rw [tp_i_rt rd, tp_i_rt rn]; show ¬ _ > ((arrV _ _ _).slots.size : Int); rw [arrV_size]; omega)
    (fun vm₁ _ i hi => by
      rw [cn] at hi
      have e9 : (arrV (G.2.2.2 21) xs.length (fun j => .int (Int32.ofInt ((tp_st M c.toNat).2.getD j 0)))).slots.getD ((Int32.ofInt sp).toNatClampNeg + i) .null = .int (Int32.ofInt ((tp_st M c.toNat).2.getD ((Int32.ofInt sp).toNatClampNeg + i) 0)) := by
        show (arrV _ _ _).slots.getD _ _ = _
        rw [Array.getD_eq_getD_getElem?, arrV_read _ _ (by rw [cs]; omega)]
        rfl
      refine ⟨?_, ?_⟩
      · rw [e9]; rfl
      · rw [e9]; exact trivial)
    (g := F0 m pc ls (.int (Int32.ofInt nn) :: .int (Int32.ofInt dp) :: .ref (G.1 + c'.toNat) :: .int (Int32.ofInt sp) :: .ref (G.1 + c.toNat) :: st.map (tp_enc G))) rfl (by show ls.size = _; rw [hC.2.2.1, hL.1, hn]) (rest := st.map (tp_enc G)) rfl (by rw [hC.2.1]; exact hd) hR.1 (by
      have := tp_catsum G st hc4
      have h9 : nativeFrameWords "java/lang/System" "arraycopy" 5 + 11 ≤ 50 := by decide +kernel
      show 2 * 0 + _ + _ ≤ _
      omega)
  have e1 := va_copied (fun z : Int32 => .int z) (G.2.2.2 21) (G.2.2.2 21) (n1 := ys.length) (fun j => Int32.ofInt ((tp_st M c.toNat).2.getD j 0)) (fun j => Int32.ofInt ((tp_st M c'.toNat).2.getD j 0)) (sp := (Int32.ofInt sp).toNatClampNeg) (dp := (Int32.ofInt dp).toNatClampNeg) (n := (Int32.ofInt nn).toNatClampNeg) (n0 := xs.length) (by rw [cs, cn]; omega)
  have e1' : copied (arrV (G.2.2.2 21) xs.length (fun j => .int (Int32.ofInt ((tp_st M c.toNat).2.getD j 0)))) (arrV (G.2.2.2 21) ys.length (fun j => .int (Int32.ofInt ((tp_st M c'.toNat).2.getD j 0)))) (Int32.ofInt sp) (Int32.ofInt dp) (Int32.ofInt nn) = arrV (G.2.2.2 21) ys.length (fun j => .int (va_cpy (fun j => Int32.ofInt ((tp_st M c.toNat).2.getD j 0)) (fun j => Int32.ofInt ((tp_st M c'.toNat).2.getD j 0)) (Int32.ofInt sp).toNatClampNeg (Int32.ofInt dp).toNatClampNeg (Int32.ofInt nn).toNatClampNeg j)) := e1
  rw [e1', cs, cd, cn] at X' step
  generalize hcell : arrV (G.2.2.2 21) ys.length (fun j => .int (va_cpy (fun j => Int32.ofInt ((tp_st M c.toNat).2.getD j 0)) (fun j => Int32.ofInt ((tp_st M c'.toNat).2.getD j 0)) sp.toNat dp.toNat nn.toNat j)) = cell1 at X' step
  have hl : G.1 + c'.toNat < H.size := (Array.getElem?_eq_some_iff.mp hc1).1
  have hheap : ((T.setVm vm').setCell (G.1 + c'.toNat) cell1).heap = H.setIfInBounds (G.1 + c'.toNat) cell1 := by rw [← hT]; rfl
  have oq : ∀ a : Nat, a ≠ G.1 + c'.toNat → (H.setIfInBounds (G.1 + c'.toNat) cell1)[a]? = H[a]? := fun a hq => by simp [Array.getElem?_setIfInBounds, Ne.symm hq]
  have sq : (H.setIfInBounds (G.1 + c'.toNat) cell1)[G.1 + c'.toNat]? = some cell1 := by simp [Array.getElem?_setIfInBounds, hl]
  have ccc : ((c.toNat : Nat) : Int) = c := by omega
  have ccc' : ((c'.toNat : Nat) : Int) = c' := by omega
  have key : ∀ j, j < ys.length → (tp_st (tp_cp M c sp c' dp nn) c'.toNat).2.getD j 0 = if dp.toNat ≤ j ∧ j < dp.toNat + nn.toNat then (tp_st M c.toNat).2.getD (sp.toNat + (j - dp.toNat)) 0 else (tp_st M c'.toNat).2.getD j 0 := fun j hj => by
    rw [tp_st_get b1 hj, if_neg (show ¬ tp_ty 21 j = 2 by show ¬ 0 = 2; decide), ccc']
    unfold tp_cp
    by_cases e2 : dp.toNat ≤ j ∧ j < dp.toNat + nn.toNat
    · rw [if_pos ⟨rfl, by omega, by omega⟩, if_pos e2, tp_st_get a1 (by omega), if_neg (show ¬ tp_ty 21 _ = 2 by show ¬ 0 = 2; decide), ccc]
      congr 1
      omega
    · rw [if_neg (fun z => e2 ⟨by omega, by omega⟩), if_neg e2, tp_st_get b1 hj, if_neg (show ¬ tp_ty 21 j = 2 by show ¬ 0 = 2; decide), ccc']
  have hH1 := tp_Hcp (M := M) (c := c) (sp := sp) (dp := dp) (nn := nn) hH b0 b2 (H1 := H.setIfInBounds (G.1 + c'.toNat) cell1) (by simp) oq (by
    unfold tp_cell
    rw [tp_st_tag b1, tp_cl_arr (by decide), tp_st_len b1]
    show (H.setIfInBounds _ _)[_]? = _
    rw [sq, ← hcell]
    refine congrArg some ?_
    unfold arrV
    congr 2
    funext j
    show Value.int (va_cpy _ _ _ _ _ _) = Value.int (Int32.ofInt ((tp_st (tp_cp M c sp c' dp nn) c'.toNat).2.getD j 0))
    rw [key j j.2]
    unfold va_cpy
    split <;> rfl) (fun j x hx => by
    have hj : j < ys.length := by
      have := (List.getElem?_eq_some_iff.mp hx).1
      rw [tp_st_len b1] at this; exact this
    have hx2 := key j hj
    rw [List.getD_eq_getElem?_getD, hx, Option.getD_some] at hx2
    rw [tp_st_tag b1]
    have okb : ∀ (z : Int) (zs : List Int) (hz : tp_lay[z.toNat]? = some (21, zs)) (hk : tp_okc (tp_st M z.toNat)) (i : Nat) (hi : i < zs.length), tp_ok (tp_tv 21 j ((tp_st M z.toNat).2.getD i 0)) := fun z zs hz hk i hi => by
      have h3 := tp_tv_get (M := M) hz hi
      have := hk i _ h3
      rw [tp_st_tag hz] at this
      rw [List.getD_eq_getElem?_getD, h3, Option.getD_some]
      exact this
    rw [hx2]
    split
    · exact okb c xs a1 a5 _ (by omega)
    · exact okb c' ys b1 b5 _ hj)
  obtain ⟨t, g1, g2⟩ := kk _ rfl r hr p l e s m args below meth cc hC ls _ _ hL hn (tp_okt (tp_okt (tp_okt (tp_okt (tp_okt hs))))) hH1 ⟨by simp; exact hS.1, fun a g1 g2 => by
      rw [oq a (fun e => g2 (by rw [e]; exact Nat.le_add_right _ _))]
      exact hS.2.1 a g1 g2, fun a ha => by
      rcases List.mem_append.mp ha with h | h
      · exact hS.2.2 a h
      · obtain ⟨z, -, hz⟩ := List.mem_map.mp h
        rw [← hz]
        exact Nat.le_add_right _ _⟩ _ hheap X'
  exact ⟨t, step t g1, g2⟩
theorem j_acpl {c sp c' dp nn N N' : Int} {ix : Nat} {f : tp_M → Option ρ} (ht : tp_tg c = 22) (hal : tp_al c = N) (ht' : tp_tg c' = 22) (hal' : tp_al c' = N') (hw : Cond.methodLink I.2.1 ix arraycopyName ∈ lw_tbl) (hnat : Cond.native arraycopyName ∈ lw_tbl) (hstat : Cond.static arraycopyName ∈ lw_tbl) (hini : Cond.initialized "java/lang/System" ∈ lw_tbl) (hR : 1 ≤ R.frames ∧ 60 ≤ R.locals) (hc4 : st.length ≤ 4) (hd : decode I.1 pc = .ok (.invokestatic ix, 3))
    (kk : ∀ M1, M1 = tp_cp M c sp c' dp nn → tp_J I R G mc ms out tp_NC (tp_st M1) k q lv (pc + 3) st (f M1)) : tp_J I R G mc ms out tp_NC (tp_st M) k q lv pc (.inl nn :: .inl dp :: .inr (.inr c') :: .inl sp :: .inr (.inr c) :: st) (if 0 ≤ sp ∧ 0 ≤ dp ∧ 0 ≤ nn ∧ sp + nn ≤ N ∧ dp + nn ≤ N' then tp_mp (tp_cp M c sp c' dp nn) f else none) := by
  refine tp_chk (fun hi => ?_)
  obtain ⟨i1, i2, i3, i4, i5⟩ := hi
  intro r hr p l e s m args below meth cc hC ls H locs hL hn hs hH hS
  obtain ⟨a0, xs, a1, a2, a3, a4, a5⟩ := tp_arrat (by decide) hH ht
  obtain ⟨b0, ys, b1, b2, b3, b4, b5⟩ := tp_arrat (by decide) hH ht'
  have rn := tp_unI (tp_ok1 hs)
  have rd := tp_unI (tp_ok1 (tp_okt hs))
  have rs := tp_unI (tp_ok1 (tp_okt (tp_okt (tp_okt hs))))
  have cn := tp_clamp rn i3
  have cd := tp_clamp rd i2
  have cs := tp_clamp rs i1
  show W p l e R s m args below meth cc H locs k q _ (F0 m pc ls (.int (Int32.ofInt nn) :: .int (Int32.ofInt dp) :: tp_ref G c' :: .int (Int32.ofInt sp) :: tp_ref G c :: st.map (tp_enc G)))
  rw [tp_ref_pos a0, tp_ref_pos b0]
  intro T hT X
  have hc0 : H[G.1 + c.toNat]? = some (vp_cell (G.2.2.2 22) (xs.length, .inr (.inl (fun j => Int64.ofInt ((tp_st M c.toNat).2.getD j 0))))) := a4
  have hc1 : H[G.1 + c'.toNat]? = some (vp_cell (G.2.2.2 22) (ys.length, .inr (.inl (fun j => Int64.ofInt ((tp_st M c'.toNat).2.getD j 0))))) := b4
  have hA : ArrOfT s (G.2.2.2 22) .long := (hC.2.2.2.2.2.2.2.1.2.1 (22, .long) (by decide)).1
  obtain ⟨-, k0, hk0, cm0, hkk0⟩ := hA xs.length (fun j => .long (Int64.ofInt ((tp_st M c.toNat).2.getD j 0)))
  obtain ⟨-, k1, hk1, cm1, hkk1⟩ := hA ys.length (fun j => .long (Int64.ofInt ((tp_st M c'.toNat).2.getD j 0)))
  obtain ⟨vm', X', step⟩ := X.arraycopy hC.1 hC.2.2.2.1 (hC.2.2.2.2.1 _ hw rfl) (hC.2.2.2.2.1 _ hnat rfl) (hC.2.2.2.2.1 _ hstat rfl) (hC.2.2.2.2.1 _ hini rfl) (srcPos := Int32.ofInt sp) (destPos := Int32.ofInt dp) (n := Int32.ofInt nn) (by rw [hT]; exact hc0) (by rw [hT]; exact hc1)
    (fun _ h => by cases h) (fun _ h => by cases h) (fun h => by cases h) (fun h => by cases h) hk0 hk1 hkk0 hkk1 (by rfl) (tp_pos rs i1) (tp_pos rd i2) (tp_pos rn i3)
    (by rw [tp_i_rt rs, tp_i_rt rn]; show ¬ _ > ((arrV _ _ _).slots.size : Int); rw [arrV_size]; omega)
    (by rw [tp_i_rt rd, tp_i_rt rn]; show ¬ _ > ((arrV _ _ _).slots.size : Int); rw [arrV_size]; omega)
    (fun vm₁ _ i hi => by
      rw [cn] at hi
      have e9 : (arrV (G.2.2.2 22) xs.length (fun j => .long (Int64.ofInt ((tp_st M c.toNat).2.getD j 0)))).slots.getD ((Int32.ofInt sp).toNatClampNeg + i) .null = .long (Int64.ofInt ((tp_st M c.toNat).2.getD ((Int32.ofInt sp).toNatClampNeg + i) 0)) := by
        show (arrV _ _ _).slots.getD _ _ = _
        rw [Array.getD_eq_getD_getElem?, arrV_read _ _ (by rw [cs]; omega)]
        rfl
      refine ⟨?_, ?_⟩
      · rw [e9]; rfl
      · rw [e9]; exact trivial)
    (g := F0 m pc ls (.int (Int32.ofInt nn) :: .int (Int32.ofInt dp) :: .ref (G.1 + c'.toNat) :: .int (Int32.ofInt sp) :: .ref (G.1 + c.toNat) :: st.map (tp_enc G))) rfl (by show ls.size = _; rw [hC.2.2.1, hL.1, hn]) (rest := st.map (tp_enc G)) rfl (by rw [hC.2.1]; exact hd) hR.1 (by
      have := tp_catsum G st hc4
      have h9 : nativeFrameWords "java/lang/System" "arraycopy" 5 + 11 ≤ 50 := by decide +kernel
      show 2 * 0 + _ + _ ≤ _
      omega)
  have e1 := va_copied (fun z : Int64 => .long z) (G.2.2.2 22) (G.2.2.2 22) (n1 := ys.length) (fun j => Int64.ofInt ((tp_st M c.toNat).2.getD j 0)) (fun j => Int64.ofInt ((tp_st M c'.toNat).2.getD j 0)) (sp := (Int32.ofInt sp).toNatClampNeg) (dp := (Int32.ofInt dp).toNatClampNeg) (n := (Int32.ofInt nn).toNatClampNeg) (n0 := xs.length) (by rw [cs, cn]; omega)
  have e1' : copied (arrV (G.2.2.2 22) xs.length (fun j => .long (Int64.ofInt ((tp_st M c.toNat).2.getD j 0)))) (arrV (G.2.2.2 22) ys.length (fun j => .long (Int64.ofInt ((tp_st M c'.toNat).2.getD j 0)))) (Int32.ofInt sp) (Int32.ofInt dp) (Int32.ofInt nn) = arrV (G.2.2.2 22) ys.length (fun j => .long (va_cpy (fun j => Int64.ofInt ((tp_st M c.toNat).2.getD j 0)) (fun j => Int64.ofInt ((tp_st M c'.toNat).2.getD j 0)) (Int32.ofInt sp).toNatClampNeg (Int32.ofInt dp).toNatClampNeg (Int32.ofInt nn).toNatClampNeg j)) := e1
  rw [e1', cs, cd, cn] at X' step
  generalize hcell : arrV (G.2.2.2 22) ys.length (fun j => .long (va_cpy (fun j => Int64.ofInt ((tp_st M c.toNat).2.getD j 0)) (fun j => Int64.ofInt ((tp_st M c'.toNat).2.getD j 0)) sp.toNat dp.toNat nn.toNat j)) = cell1 at X' step
  have hl : G.1 + c'.toNat < H.size := (Array.getElem?_eq_some_iff.mp hc1).1
  have hheap : ((T.setVm vm').setCell (G.1 + c'.toNat) cell1).heap = H.setIfInBounds (G.1 + c'.toNat) cell1 := by rw [← hT]; rfl
  have oq : ∀ a : Nat, a ≠ G.1 + c'.toNat → (H.setIfInBounds (G.1 + c'.toNat) cell1)[a]? = H[a]? := fun a hq => by simp [Array.getElem?_setIfInBounds, Ne.symm hq]
  have sq : (H.setIfInBounds (G.1 + c'.toNat) cell1)[G.1 + c'.toNat]? = some cell1 := by simp [Array.getElem?_setIfInBounds, hl]
  have ccc : ((c.toNat : Nat) : Int) = c := by omega
  have ccc' : ((c'.toNat : Nat) : Int) = c' := by omega
  have key : ∀ j, j < ys.length → (tp_st (tp_cp M c sp c' dp nn) c'.toNat).2.getD j 0 = if dp.toNat ≤ j ∧ j < dp.toNat + nn.toNat then (tp_st M c.toNat).2.getD (sp.toNat + (j - dp.toNat)) 0 else (tp_st M c'.toNat).2.getD j 0 := fun j hj => by
    rw [tp_st_get b1 hj, if_neg (show ¬ tp_ty 22 j = 2 by show ¬ 1 = 2; decide), ccc']
    unfold tp_cp
    by_cases e2 : dp.toNat ≤ j ∧ j < dp.toNat + nn.toNat
    · rw [if_pos ⟨rfl, by omega, by omega⟩, if_pos e2, tp_st_get a1 (by omega), if_neg (show ¬ tp_ty 22 _ = 2 by show ¬ 1 = 2; decide), ccc]
      congr 1
      omega
    · rw [if_neg (fun z => e2 ⟨by omega, by omega⟩), if_neg e2, tp_st_get b1 hj, if_neg (show ¬ tp_ty 22 j = 2 by show ¬ 1 = 2; decide), ccc']
  have hH1 := tp_Hcp (M := M) (c := c) (sp := sp) (dp := dp) (nn := nn) hH b0 b2 (H1 := H.setIfInBounds (G.1 + c'.toNat) cell1) (by simp) oq (by
    unfold tp_cell
    rw [tp_st_tag b1, tp_cl_arr (by decide), tp_st_len b1]
    show (H.setIfInBounds _ _)[_]? = _
    rw [sq, ← hcell]
    refine congrArg some ?_
    unfold arrV
    congr 2
    funext j
    show Value.long (va_cpy _ _ _ _ _ _) = Value.long (Int64.ofInt ((tp_st (tp_cp M c sp c' dp nn) c'.toNat).2.getD j 0))
    rw [key j j.2]
    unfold va_cpy
    split <;> rfl) (fun j x hx => by
    have hj : j < ys.length := by
      have := (List.getElem?_eq_some_iff.mp hx).1
      rw [tp_st_len b1] at this; exact this
    have hx2 := key j hj
    rw [List.getD_eq_getElem?_getD, hx, Option.getD_some] at hx2
    rw [tp_st_tag b1]
    have okb : ∀ (z : Int) (zs : List Int) (hz : tp_lay[z.toNat]? = some (22, zs)) (hk : tp_okc (tp_st M z.toNat)) (i : Nat) (hi : i < zs.length), tp_ok (tp_tv 22 j ((tp_st M z.toNat).2.getD i 0)) := fun z zs hz hk i hi => by
      have h3 := tp_tv_get (M := M) hz hi
      have := hk i _ h3
      rw [tp_st_tag hz] at this
      rw [List.getD_eq_getElem?_getD, h3, Option.getD_some]
      exact this
    rw [hx2]
    split
    · exact okb c xs a1 a5 _ (by omega)
    · exact okb c' ys b1 b5 _ hj)
  obtain ⟨t, g1, g2⟩ := kk _ rfl r hr p l e s m args below meth cc hC ls _ _ hL hn (tp_okt (tp_okt (tp_okt (tp_okt (tp_okt hs))))) hH1 ⟨by simp; exact hS.1, fun a g1 g2 => by
      rw [oq a (fun e => g2 (by rw [e]; exact Nat.le_add_right _ _))]
      exact hS.2.1 a g1 g2, fun a ha => by
      rcases List.mem_append.mp ha with h | h
      · exact hS.2.2 a h
      · obtain ⟨z, -, hz⟩ := List.mem_map.mp h
        rw [← hz]
        exact Nat.le_add_right _ _⟩ _ hheap X'
  exact ⟨t, step t g1, g2⟩
end TPA
