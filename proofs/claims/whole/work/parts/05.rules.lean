section TPR
variable {I : tp_I} {R : Room} {G : tp_G} {mc ms : Nat} {ρ : Type} {out : ρ → tp_O} {n : Nat} {g : Nat → tp_C} {k q : Nat} {lv : List (Option tp_V)} {pc : Nat} {st : List tp_V} {φ φ1 φ2 : Option ρ}
theorem tp_okI {x : Int} (h : tp_r x) : tp_ok (.inl x) := h
theorem tp_okL {x : Int} (h : tp_rl x) : tp_ok (.inr (.inl x)) := h
theorem tp_okR {x : Int} : tp_ok (.inr (.inr x)) := trivial
theorem tp_unI {x : Int} (h : tp_ok (.inl x)) : tp_r x := h
theorem tp_unL {x : Int} (h : tp_ok (.inr (.inl x))) : tp_rl x := h
theorem j_iconst {x : Int} (hr : tp_r x) (hd : decode I.1 pc = .ok (.iconst x, 1)) (kk : tp_J I R G mc ms out n g k q lv (pc + 1) (.inl x :: st) (φ)) : tp_J I R G mc ms out n g k q lv (pc) (st) (φ) :=
  tp_step (fun h => tp_oks (tp_okI hr) h) (fun p l e s m args below meth c H locs Q ls hC hL hs w => lv_iconst hC.1 hC.2.1 hd rfl w) kk
theorem j_bipush {x : Int} (hr : tp_r x) (hv : (Int8.ofInt x).toInt32 = Int32.ofInt x) (hd : decode I.1 pc = .ok (.bipush x, 2)) (kk : tp_J I R G mc ms out n g k q lv (pc + 2) (.inl x :: st) (φ)) : tp_J I R G mc ms out n g k q lv (pc) (st) (φ) :=
  tp_step (fun h => tp_oks (tp_okI hr) h) (fun p l e s m args below meth c H locs Q ls hC hL hs w => lv_bipush hC.1 hC.2.1 hd hv w) kk
theorem j_sipush {x : Int} (hr : tp_r x) (hv : (Int16.ofInt x).toInt32 = Int32.ofInt x) (hd : decode I.1 pc = .ok (.sipush x, 3)) (kk : tp_J I R G mc ms out n g k q lv (pc + 3) (.inl x :: st) (φ)) : tp_J I R G mc ms out n g k q lv (pc) (st) (φ) :=
  tp_step (fun h => tp_oks (tp_okI hr) h) (fun p l e s m args below meth c H locs Q ls hC hL hs w => lv_sipush hC.1 hC.2.1 hd hv w) kk
theorem j_lconst {y : Fin 2} {x : Int} (hr : tp_rl x) (hv : Int64.ofNat (y : Nat) = Int64.ofInt x) (hd : decode I.1 pc = .ok (.lconst y, 1)) (kk : tp_J I R G mc ms out n g k q lv (pc + 1) (.inr (.inl x) :: st) (φ)) : tp_J I R G mc ms out n g k q lv (pc) (st) (φ) :=
  tp_step (fun h => tp_oks (tp_okL hr) h) (fun p l e s m args below meth c H locs Q ls hC hL hs w => lv_lconst hC.1 hC.2.1 hd hv w) kk
theorem j_null  (hd : decode I.1 pc = .ok (.aconst_null, 1)) (kk : tp_J I R G mc ms out n g k q lv (pc + 1) (.inr (.inr (-1)) :: st) (φ)) : tp_J I R G mc ms out n g k q lv (pc) (st) (φ) :=
  tp_step (fun h => tp_oks (tp_okR) h) (fun p l e s m args below meth c H locs Q ls hC hL hs w => lv_null hC.1 hC.2.1 hd w) kk
theorem j_ldc2 {ix : Nat} {x : Int} (hr : tp_rl x) (hw : Jvm.Cond.constantLong I.2.1 ix (Int64.ofInt x) ∈ lw_tbl) (hd : decode I.1 pc = .ok (.ldc2_w ix, 3)) (kk : tp_J I R G mc ms out n g k q lv (pc + 3) (.inr (.inl x) :: st) (φ)) : tp_J I R G mc ms out n g k q lv (pc) (st) (φ) :=
  tp_step (fun h => tp_oks (tp_okL hr) h) (fun p l e s m args below meth c H locs Q ls hC hL hs w => lv_ldc2 hC.1 hC.2.1 hC.2.2.2.1 (hC.2.2.2.2.1 _ hw rfl) hd w) kk
theorem j_ldc {ix : Nat} {x : Int} (hr : tp_r x) (hw : Jvm.Cond.constant I.2.1 ix (Int32.ofInt x) ∈ lw_tbl) (hd : decode I.1 pc = .ok (.ldc ix, 2)) (kk : tp_J I R G mc ms out n g k q lv (pc + 2) (.inl x :: st) (φ)) : tp_J I R G mc ms out n g k q lv (pc) (st) (φ) :=
  tp_step (fun h => tp_oks (tp_okI hr) h) (fun p l e s m args below meth c H locs Q ls hC hL hs w => lv_ldc hC.1 hC.2.1 hC.2.2.2.1 (hC.2.2.2.2.1 _ hw rfl) hd w) kk
theorem j_ldcw {ix : Nat} {x : Int} (hr : tp_r x) (hw : Jvm.Cond.constant I.2.1 ix (Int32.ofInt x) ∈ lw_tbl) (hd : decode I.1 pc = .ok (.ldc_w ix, 3)) (kk : tp_J I R G mc ms out n g k q lv (pc + 3) (.inl x :: st) (φ)) : tp_J I R G mc ms out n g k q lv (pc) (st) (φ) :=
  tp_step (fun h => tp_oks (tp_okI hr) h) (fun p l e s m args below meth c H locs Q ls hC hL hs w => lv_ldcw hC.1 hC.2.1 hC.2.2.2.1 (hC.2.2.2.2.1 _ hw rfl) hd w) kk
theorem j_iload_n {i : Nat} {x : Int} {y : Fin 4} (hy : (y : Nat) = i) (hd : decode I.1 pc = .ok (.iload_n y, 1)) (hl : lv[i]? = some (some (.inl x))) (kk : tp_J I R G mc ms out n g k q lv (pc + 1) (.inl x :: st) (φ)) : tp_J I R G mc ms out n g k q lv (pc) (st) (φ) := by
  intro r hr p l e s m args below meth c hC ls H locs hL hn hs hH hS
  have h1 := hL.2.2 i _ hl
  exact lv_iload_n hC.1 hC.2.1 hd hy h1.1 (kk r hr p l e s m args below meth c hC ls H locs hL hn (tp_oks h1.2 hs) hH hS)
theorem j_iload {i : Nat} {x : Int}  (hd : decode I.1 pc = .ok (.iload i, 2)) (hl : lv[i]? = some (some (.inl x))) (kk : tp_J I R G mc ms out n g k q lv (pc + 2) (.inl x :: st) (φ)) : tp_J I R G mc ms out n g k q lv (pc) (st) (φ) := by
  intro r hr p l e s m args below meth c hC ls H locs hL hn hs hH hS
  have h1 := hL.2.2 i _ hl
  exact lv_iload hC.1 hC.2.1 hd h1.1 (kk r hr p l e s m args below meth c hC ls H locs hL hn (tp_oks h1.2 hs) hH hS)
theorem j_lload_n {i : Nat} {x : Int} {y : Fin 4} (hy : (y : Nat) = i) (hd : decode I.1 pc = .ok (.lload_n y, 1)) (hl : lv[i]? = some (some (.inr (.inl x)))) (kk : tp_J I R G mc ms out n g k q lv (pc + 1) (.inr (.inl x) :: st) (φ)) : tp_J I R G mc ms out n g k q lv (pc) (st) (φ) := by
  intro r hr p l e s m args below meth c hC ls H locs hL hn hs hH hS
  have h1 := hL.2.2 i _ hl
  exact lv_lload_n hC.1 hC.2.1 hd hy h1.1 (kk r hr p l e s m args below meth c hC ls H locs hL hn (tp_oks h1.2 hs) hH hS)
theorem j_lload {i : Nat} {x : Int}  (hd : decode I.1 pc = .ok (.lload i, 2)) (hl : lv[i]? = some (some (.inr (.inl x)))) (kk : tp_J I R G mc ms out n g k q lv (pc + 2) (.inr (.inl x) :: st) (φ)) : tp_J I R G mc ms out n g k q lv (pc) (st) (φ) := by
  intro r hr p l e s m args below meth c hC ls H locs hL hn hs hH hS
  have h1 := hL.2.2 i _ hl
  exact lv_lload hC.1 hC.2.1 hd h1.1 (kk r hr p l e s m args below meth c hC ls H locs hL hn (tp_oks h1.2 hs) hH hS)
theorem tp_refc (G : tp_G) (r : Int) : tp_ref G r = .null ∨ ∃ a, tp_ref G r = .ref a := by
  unfold tp_ref
  split
  · exact Or.inr ⟨_, rfl⟩
  · split
    · exact Or.inl rfl
    · exact Or.inr ⟨_, rfl⟩
theorem j_aload_n {i : Nat} {x : Int} {y : Fin 4} (hy : (y : Nat) = i) (hd : decode I.1 pc = .ok (.aload_n y, 1)) (hl : lv[i]? = some (some (.inr (.inr x)))) (kk : tp_J I R G mc ms out n g k q lv (pc + 1) (.inr (.inr x) :: st) (φ)) : tp_J I R G mc ms out n g k q lv (pc) (st) (φ) := by
  intro r hr p l e s m args below meth c hC ls H locs hL hn hs hH hS
  have h1 := (hL.2.2 i _ hl).1
  have w := kk r hr p l e s m args below meth c hC ls H locs hL hn (tp_oks tp_okR hs) hH hS
  have h1 : ls[i]? = some (.val (tp_ref G x)) := h1
  have w : W p l e R s m args below meth c H locs k q (MQ below (tp_Q G (out r)) args s mc ms (tp_A G)) (F0 m (pc + 1) ls (tp_ref G x :: st.map (tp_enc G))) := w
  rcases tp_refc G x with h | ⟨a, h⟩
  · rw [h] at h1 w; exact lv_aload_nN hC.1 hC.2.1 hd hy h1 w
  · rw [h] at h1 w; exact lv_aload_n hC.1 hC.2.1 hd hy h1 w
theorem j_aload {i : Nat} {x : Int}  (hd : decode I.1 pc = .ok (.aload i, 2)) (hl : lv[i]? = some (some (.inr (.inr x)))) (kk : tp_J I R G mc ms out n g k q lv (pc + 2) (.inr (.inr x) :: st) (φ)) : tp_J I R G mc ms out n g k q lv (pc) (st) (φ) := by
  intro r hr p l e s m args below meth c hC ls H locs hL hn hs hH hS
  have h1 := (hL.2.2 i _ hl).1
  have w := kk r hr p l e s m args below meth c hC ls H locs hL hn (tp_oks tp_okR hs) hH hS
  have h1 : ls[i]? = some (.val (tp_ref G x)) := h1
  have w : W p l e R s m args below meth c H locs k q (MQ below (tp_Q G (out r)) args s mc ms (tp_A G)) (F0 m (pc + 2) ls (tp_ref G x :: st.map (tp_enc G))) := w
  rcases tp_refc G x with h | ⟨a, h⟩
  · rw [h] at h1 w; exact lv_aloadN hC.1 hC.2.1 hd h1 w
  · rw [h] at h1 w; exact lv_aload hC.1 hC.2.1 hd h1 w
def tp_sl (lv : List (Option tp_V)) (i : Nat) (v : tp_V) : List (Option tp_V) := lv.mapIdx (fun j w => if j = i then some v else match w with
  | some (.inr (.inl x)) => if j + 1 = i then none else some (.inr (.inl x))
  | w => w)
def tp_sl2 (lv : List (Option tp_V)) (i : Nat) (v : tp_V) : List (Option tp_V) := lv.mapIdx (fun j w => if j = i then some v else if j = i + 1 then none else match w with
  | some (.inr (.inl x)) => if j + 1 = i then none else some (.inr (.inl x))
  | w => w)
def tp_cl1 : Option tp_V → Option tp_V
  | some (.inr (.inl _)) => none
  | w => w
def tp_sm : List (Option tp_V) → Nat → tp_V → List (Option tp_V)
  | [], _, _ => []
  | _ :: l, 0, v => some v :: l
  | w :: l, 1, v => tp_cl1 w :: tp_sm l 0 v
  | w :: l, i + 2, v => w :: tp_sm l (i + 1) v
def tp_cl0 : List (Option tp_V) → List (Option tp_V)
  | [] => []
  | _ :: l => none :: l
def tp_sm2 : List (Option tp_V) → Nat → tp_V → List (Option tp_V)
  | [], _, _ => []
  | _ :: l, 0, v => some v :: tp_cl0 l
  | w :: l, 1, v => tp_cl1 w :: tp_sm2 l 0 v
  | w :: l, i + 2, v => w :: tp_sm2 l (i + 1) v
theorem tp_sm_get : ∀ (lv : List (Option tp_V)) (i : Nat) (v : tp_V) (j : Nat), (tp_sm lv i v)[j]? = lv[j]?.map (fun w => if j = i then some v else if j + 1 = i then tp_cl1 w else w)
  | [], i, v, j => by simp [tp_sm]
  | w :: l, 0, v, 0 => by simp [tp_sm]
  | w :: l, 0, v, j + 1 => by simp [tp_sm]
  | w :: l, 1, v, 0 => by simp [tp_sm]
  | w :: l, 1, v, j + 1 => by
    have h := tp_sm_get l 0 v j
    simp [tp_sm] at h ⊢
    rw [h]
  | w :: l, i + 2, v, 0 => by simp [tp_sm]
  | w :: l, i + 2, v, j + 1 => by
    have h := tp_sm_get l (i + 1) v j
    simp [tp_sm] at h ⊢
    rw [h]
theorem tp_sm2_get : ∀ (lv : List (Option tp_V)) (i : Nat) (v : tp_V) (j : Nat), (tp_sm2 lv i v)[j]? = lv[j]?.map (fun w => if j = i then some v else if j = i + 1 then none else if j + 1 = i then tp_cl1 w else w)
  | [], i, v, j => by simp [tp_sm2]
  | w :: l, 0, v, 0 => by simp [tp_sm2]
  | w :: [], 0, v, j + 1 => by simp [tp_sm2, tp_cl0]
  | w :: u :: l, 0, v, 1 => by simp [tp_sm2, tp_cl0]
  | w :: u :: l, 0, v, j + 2 => by simp [tp_sm2, tp_cl0]
  | w :: l, 1, v, 0 => by simp [tp_sm2]
  | w :: l, 1, v, j + 1 => by
    have h := tp_sm2_get l 0 v j
    simp [tp_sm2] at h ⊢
    rw [h]
  | w :: l, i + 2, v, 0 => by simp [tp_sm2]
  | w :: l, i + 2, v, j + 1 => by
    have h := tp_sm2_get l (i + 1) v j
    simp [tp_sm2] at h ⊢
    rw [h]
theorem tp_sm_eq (lv : List (Option tp_V)) (i : Nat) (v : tp_V) : tp_sl lv i v = tp_sm lv i v := by
  apply List.ext_getElem?
  intro j
  rw [tp_sm_get]
  unfold tp_sl
  rw [List.getElem?_mapIdx]
  congr 1
  funext w
  by_cases h : j = i
  · simp [h]
  · by_cases h2 : j + 1 = i
    · rcases w with _ | _ | _ | _ <;> simp [h, h2, tp_cl1]
    · rcases w with _ | _ | _ | _ <;> simp [h, h2]
theorem tp_sm2_eq (lv : List (Option tp_V)) (i : Nat) (v : tp_V) : tp_sl2 lv i v = tp_sm2 lv i v := by
  apply List.ext_getElem?
  intro j
  rw [tp_sm2_get]
  unfold tp_sl2
  rw [List.getElem?_mapIdx]
  congr 1
  funext w
  by_cases h : j = i
  · simp [h]
  · by_cases h1 : j = i + 1
    · simp [h, h1]
    · by_cases h2 : j + 1 = i
      · rcases w with _ | _ | _ | _ <;> simp [h, h1, h2, tp_cl1]
      · rcases w with _ | _ | _ | _ <;> simp [h, h1, h2]
def tp_pairs (G : tp_G) (lv : List (Option tp_V)) : List (Nat × Value) := (lv.zipIdx).filterMap (fun q => q.1.map (fun v => (q.2, tp_enc G v)))
theorem tp_pairs_in {G : tp_G} {lv : List (Option tp_V)} {i : Nat} {v : tp_V} (h : lv[i]? = some (some v)) : (i, tp_enc G v) ∈ tp_pairs G lv := by
  unfold tp_pairs
  refine List.mem_filterMap.mpr ⟨(some v, i), ?_, rfl⟩
  exact List.mem_zipIdx_iff_getElem?.mpr h
theorem tp_has {G : tp_G} {ls : Array Slot} {lv : List (Option tp_V)} (h : tp_L G ls lv) : lv_has ls lv.length (tp_pairs G lv) := by
  refine ⟨h.1, h.2.1, fun q hq => ?_⟩
  unfold tp_pairs at hq
  obtain ⟨⟨w, i⟩, h1, h2⟩ := List.mem_filterMap.mp hq
  have h3 : lv[i]? = some w := List.mem_zipIdx_iff_getElem?.mp h1
  cases w with
  | none => cases h2
  | some v =>
    have h2 : some (i, tp_enc G v) = some q := h2
    cases h2
    exact (h.2.2 i v h3).1
theorem tp_cat (G : tp_G) (v : tp_V) : (tp_enc G v).category = match v with
  | .inr (.inl _) => 2
  | _ => 1 := by
  match v with
  | .inl a => rfl
  | .inr (.inl a) => rfl
  | .inr (.inr r) =>
    show (tp_ref G r).category = 1
    rcases tp_refc G r with h | ⟨a, h⟩ <;> rw [h] <;> rfl
theorem tp_L1 {G : tp_G} {ls' : Array Slot} {lv : List (Option tp_V)} {i : Nat} {v : tp_V} (hok : tp_ok v) (hl : ∀ (j : Nat) (w : tp_V), lv[j]? = some (some w) → tp_ok w)
    (h : lv_has ls' lv.length ((i, tp_enc G v) :: (tp_pairs G lv).filter (fun q => !(q.1 == i) && !(q.1 + 1 == i && q.2.category == 2)))) : tp_L G ls' (tp_sl lv i v) := by
  refine ⟨by rw [h.1]; simp [tp_sl], h.2.1, fun j w hj => ?_⟩
  unfold tp_sl at hj
  rw [List.getElem?_mapIdx] at hj
  cases hw : lv[j]? with
  | none => rw [hw] at hj; cases hj
  | some x =>
    rw [hw] at hj
    simp only [Option.map_some, Option.some.injEq] at hj
    by_cases e : j = i
    · rw [if_pos e] at hj
      cases hj
      subst e
      exact ⟨h.2.2 (j, tp_enc G v) List.mem_cons_self, hok⟩
    · rw [if_neg e] at hj
      have key : x = some w ∧ ¬ (j + 1 = i ∧ (tp_enc G w).category = 2) := by
        match x, hj with
        | none, hj => cases hj
        | some (.inl a), hj => cases hj; exact ⟨rfl, fun z => by have := z.2; rw [tp_cat] at this; cases this⟩
        | some (.inr (.inl a)), hj =>
          by_cases e2 : j + 1 = i
          · simp [e2] at hj
          · simp [e2] at hj
            subst hj
            exact ⟨rfl, fun z => e2 z.1⟩
        | some (.inr (.inr a)), hj => cases hj; exact ⟨rfl, fun z => by have := z.2; rw [tp_cat] at this; cases this⟩
      obtain ⟨rfl, key⟩ := key
      refine ⟨h.2.2 (j, tp_enc G w) (List.mem_cons_of_mem _ (List.mem_filter.mpr ⟨tp_pairs_in hw, ?_⟩)), hl j w hw⟩
      simp only [Bool.and_eq_true, Bool.not_eq_true', beq_eq_false_iff_ne, Bool.and_eq_false_iff]
      refine ⟨e, ?_⟩
      by_cases e2 : j + 1 = i
      · exact Or.inr fun z => key ⟨e2, z⟩
      · exact Or.inl e2
theorem tp_L2 {G : tp_G} {ls' : Array Slot} {lv : List (Option tp_V)} {i : Nat} {v : tp_V} (hok : tp_ok v) (hl : ∀ (j : Nat) (w : tp_V), lv[j]? = some (some w) → tp_ok w)
    (h : lv_has ls' lv.length ((i, tp_enc G v) :: (tp_pairs G lv).filter (fun q => !(q.1 == i) && (!(q.1 == i + 1) && !(q.1 + 1 == i && q.2.category == 2))))) : tp_L G ls' (tp_sl2 lv i v) := by
  refine ⟨by rw [h.1]; simp [tp_sl2], h.2.1, fun j w hj => ?_⟩
  unfold tp_sl2 at hj
  rw [List.getElem?_mapIdx] at hj
  cases hw : lv[j]? with
  | none => rw [hw] at hj; cases hj
  | some x =>
    rw [hw] at hj
    simp only [Option.map_some, Option.some.injEq] at hj
    by_cases e : j = i
    · rw [if_pos e] at hj
      cases hj
      subst e
      exact ⟨h.2.2 (j, tp_enc G v) List.mem_cons_self, hok⟩
    · rw [if_neg e] at hj
      by_cases e1 : j = i + 1
      · rw [if_pos e1] at hj; cases hj
      rw [if_neg e1] at hj
      have key : x = some w ∧ ¬ (j + 1 = i ∧ (tp_enc G w).category = 2) := by
        match x, hj with
        | none, hj => cases hj
        | some (.inl a), hj => cases hj; exact ⟨rfl, fun z => by have := z.2; rw [tp_cat] at this; cases this⟩
        | some (.inr (.inl a)), hj =>
          by_cases e2 : j + 1 = i
          · simp [e2] at hj
          · simp [e2] at hj
            subst hj
            exact ⟨rfl, fun z => e2 z.1⟩
        | some (.inr (.inr a)), hj => cases hj; exact ⟨rfl, fun z => by have := z.2; rw [tp_cat] at this; cases this⟩
      obtain ⟨rfl, key⟩ := key
      refine ⟨h.2.2 (j, tp_enc G w) (List.mem_cons_of_mem _ (List.mem_filter.mpr ⟨tp_pairs_in hw, ?_⟩)), hl j w hw⟩
      simp only [Bool.and_eq_true, Bool.not_eq_true', beq_eq_false_iff_ne, Bool.and_eq_false_iff]
      refine ⟨e, e1, ?_⟩
      by_cases e2 : j + 1 = i
      · exact Or.inr fun z => key ⟨e2, z⟩
      · exact Or.inl e2
theorem j_istore_n {i : Nat} {x : Int} {lv' : List (Option tp_V)} {y : Fin 4} (hy : (y : Nat) = i) (hd : decode I.1 pc = .ok (.istore_n y, 1)) (hi : i < lv.length) (hl : tp_sm lv i (.inl x) = lv') (kk : tp_J I R G mc ms out n g k q lv' (pc + 1) (st) (φ)) : tp_J I R G mc ms out n g k q lv (pc) (.inl x :: st) (φ) := by
  rw [← tp_sm_eq] at hl
  subst hl
  intro r hr p l e s m args below meth c hC ls H locs hL hn hs hH hS
  have ho := fun j w hw => (hL.2.2 j w hw).2
  have w := fun ls' hl' => kk r hr p l e s m args below meth c hC ls' H locs (tp_L1 (tp_ok1 hs) ho hl') (by rw [← hn]; simp [tp_sl]) (tp_okt hs) hH hS
  exact lv_istore_n hC.1 hC.2.1 hd hy (tp_has hL) hi rfl w
theorem j_istore {i : Nat} {x : Int} {lv' : List (Option tp_V)}  (hd : decode I.1 pc = .ok (.istore i, 2)) (hi : i < lv.length) (hl : tp_sm lv i (.inl x) = lv') (kk : tp_J I R G mc ms out n g k q lv' (pc + 2) (st) (φ)) : tp_J I R G mc ms out n g k q lv (pc) (.inl x :: st) (φ) := by
  rw [← tp_sm_eq] at hl
  subst hl
  intro r hr p l e s m args below meth c hC ls H locs hL hn hs hH hS
  have ho := fun j w hw => (hL.2.2 j w hw).2
  have w := fun ls' hl' => kk r hr p l e s m args below meth c hC ls' H locs (tp_L1 (tp_ok1 hs) ho hl') (by rw [← hn]; simp [tp_sl]) (tp_okt hs) hH hS
  exact lv_istore hC.1 hC.2.1 hd (tp_has hL) hi rfl w
theorem j_lstore_n {i : Nat} {x : Int} {lv' : List (Option tp_V)} {y : Fin 4} (hy : (y : Nat) = i) (hd : decode I.1 pc = .ok (.lstore_n y, 1)) (hi : i + 1 < lv.length) (hl : tp_sm2 lv i (.inr (.inl x)) = lv') (kk : tp_J I R G mc ms out n g k q lv' (pc + 1) (st) (φ)) : tp_J I R G mc ms out n g k q lv (pc) (.inr (.inl x) :: st) (φ) := by
  rw [← tp_sm2_eq] at hl
  subst hl
  intro r hr p l e s m args below meth c hC ls H locs hL hn hs hH hS
  have ho := fun j w hw => (hL.2.2 j w hw).2
  have w := fun ls' hl' => kk r hr p l e s m args below meth c hC ls' H locs (tp_L2 (tp_ok1 hs) ho hl') (by rw [← hn]; simp [tp_sl2]) (tp_okt hs) hH hS
  exact lv_lstore_n hC.1 hC.2.1 hd hy (tp_has hL) hi rfl w
theorem j_lstore {i : Nat} {x : Int} {lv' : List (Option tp_V)}  (hd : decode I.1 pc = .ok (.lstore i, 2)) (hi : i + 1 < lv.length) (hl : tp_sm2 lv i (.inr (.inl x)) = lv') (kk : tp_J I R G mc ms out n g k q lv' (pc + 2) (st) (φ)) : tp_J I R G mc ms out n g k q lv (pc) (.inr (.inl x) :: st) (φ) := by
  rw [← tp_sm2_eq] at hl
  subst hl
  intro r hr p l e s m args below meth c hC ls H locs hL hn hs hH hS
  have ho := fun j w hw => (hL.2.2 j w hw).2
  have w := fun ls' hl' => kk r hr p l e s m args below meth c hC ls' H locs (tp_L2 (tp_ok1 hs) ho hl') (by rw [← hn]; simp [tp_sl2]) (tp_okt hs) hH hS
  exact lv_lstore hC.1 hC.2.1 hd (tp_has hL) hi rfl w
theorem j_astore_n {i : Nat} {x : Int} {lv' : List (Option tp_V)} {y : Fin 4} (hy : (y : Nat) = i) (hd : decode I.1 pc = .ok (.astore_n y, 1)) (hi : i < lv.length) (hl : tp_sm lv i (.inr (.inr x)) = lv') (kk : tp_J I R G mc ms out n g k q lv' (pc + 1) (st) (φ)) : tp_J I R G mc ms out n g k q lv (pc) (.inr (.inr x) :: st) (φ) := by
  rw [← tp_sm_eq] at hl
  subst hl
  intro r hr p l e s m args below meth c hC ls H locs hL hn hs hH hS
  have ho := fun j w hw => (hL.2.2 j w hw).2
  have w := fun ls' hl' => kk r hr p l e s m args below meth c hC ls' H locs (tp_L1 (tp_ok1 hs) ho hl') (by rw [← hn]; simp [tp_sl]) (tp_okt hs) hH hS
  show W p l e R s m args below meth c H locs k q (MQ below (tp_Q G (out r)) args s mc ms (tp_A G)) (F0 m pc ls (tp_ref G x :: st.map (tp_enc G)))
  have w : ∀ ls', lv_has ls' lv.length ((i, tp_ref G x) :: (tp_pairs G lv).filter (fun q => !(q.1 == i) && !(q.1 + 1 == i && q.2.category == 2))) → _ := w
  rcases tp_refc G x with h | ⟨a, h⟩
  · rw [h] at w ⊢; exact lv_astore_nN hC.1 hC.2.1 hd hy (tp_has hL) hi rfl w
  · rw [h] at w ⊢; exact lv_astore_n hC.1 hC.2.1 hd hy (tp_has hL) hi rfl w
theorem j_astore {i : Nat} {x : Int} {lv' : List (Option tp_V)}  (hd : decode I.1 pc = .ok (.astore i, 2)) (hi : i < lv.length) (hl : tp_sm lv i (.inr (.inr x)) = lv') (kk : tp_J I R G mc ms out n g k q lv' (pc + 2) (st) (φ)) : tp_J I R G mc ms out n g k q lv (pc) (.inr (.inr x) :: st) (φ) := by
  rw [← tp_sm_eq] at hl
  subst hl
  intro r hr p l e s m args below meth c hC ls H locs hL hn hs hH hS
  have ho := fun j w hw => (hL.2.2 j w hw).2
  have w := fun ls' hl' => kk r hr p l e s m args below meth c hC ls' H locs (tp_L1 (tp_ok1 hs) ho hl') (by rw [← hn]; simp [tp_sl]) (tp_okt hs) hH hS
  show W p l e R s m args below meth c H locs k q (MQ below (tp_Q G (out r)) args s mc ms (tp_A G)) (F0 m pc ls (tp_ref G x :: st.map (tp_enc G)))
  have w : ∀ ls', lv_has ls' lv.length ((i, tp_ref G x) :: (tp_pairs G lv).filter (fun q => !(q.1 == i) && !(q.1 + 1 == i && q.2.category == 2))) → _ := w
  rcases tp_refc G x with h | ⟨a, h⟩
  · rw [h] at w ⊢; exact lv_astoreN hC.1 hC.2.1 hd (tp_has hL) hi rfl w
  · rw [h] at w ⊢; exact lv_astore hC.1 hC.2.1 hd (tp_has hL) hi rfl w
theorem j_iinc {i : Nat} {x d : Int} {lv' : List (Option tp_V)} (hd : decode I.1 pc = .ok (.iinc i d, 3)) (h0 : lv[i]? = some (some (.inl x))) (hi : i < lv.length) (hl : tp_sm lv i (.inl (tp_w (x + d))) = lv') (kk : tp_J I R G mc ms out n g k q lv' (pc + 3) (st) (φ)) : tp_J I R G mc ms out n g k q lv (pc) (st) (φ) := by
  rw [← tp_sm_eq] at hl
  subst hl
  intro r hr p l e s m args below meth c hC ls H locs hL hn hs hH hS
  have ho := fun j w hw => (hL.2.2 j w hw).2
  have w := fun ls' hl' => kk r hr p l e s m args below meth c hC ls' H locs (tp_L1 (tp_w_r _) ho hl') (by rw [← hn]; simp [tp_sl]) hs hH hS
  obtain ⟨j, hj⟩ := List.getElem?_of_mem (tp_pairs_in (G := G) h0)
  exact lv_iinc (v := Int32.ofInt (tp_w (x + d))) hC.1 hC.2.1 hd (tp_has hL) hj (by rw [← tp_iadd]) hi rfl w
theorem j_iadd {x y : Int} (hd : decode I.1 pc = .ok (.iadd, 1)) (kk : tp_J I R G mc ms out n g k q lv (pc + 1) (.inl (tp_w (x + y)) :: st) (φ)) : tp_J I R G mc ms out n g k q lv (pc) (.inl y :: .inl x :: st) (φ) := by
  refine tp_step (fun h => tp_oks (tp_okI (tp_w_r _)) (tp_okt (tp_okt h))) (fun p l e s m args below meth c H locs Q ls hC hL hs w => ?_) kk
  have hy := tp_unI (tp_ok1 hs)
  have hx := tp_unI (tp_ok1 (tp_okt hs))
  have w : W p l e R s m args below meth c H locs k q Q (F0 m (pc + 1) ls (.int (Int32.ofInt (tp_w (x + y))) :: st.map (tp_enc G))) := w
  rw [← tp_iadd] at w
  exact lv_iadd hC.1 hC.2.1 hd w
theorem j_ladd {x y : Int} (hd : decode I.1 pc = .ok (.ladd, 1)) (kk : tp_J I R G mc ms out n g k q lv (pc + 1) (.inr (.inl (tp_wl (x + y))) :: st) (φ)) : tp_J I R G mc ms out n g k q lv (pc) (.inr (.inl y) :: .inr (.inl x) :: st) (φ) := by
  refine tp_step (fun h => tp_oks (tp_okL (tp_wl_r _)) (tp_okt (tp_okt h))) (fun p l e s m args below meth c H locs Q ls hC hL hs w => ?_) kk
  have hy := tp_unL (tp_ok1 hs)
  have hx := tp_unL (tp_ok1 (tp_okt hs))
  have w : W p l e R s m args below meth c H locs k q Q (F0 m (pc + 1) ls (.long (Int64.ofInt (tp_wl (x + y))) :: st.map (tp_enc G))) := w
  rw [← tp_ladd] at w
  exact lv_ladd hC.1 hC.2.1 hd w
theorem j_isub {x y : Int} (hd : decode I.1 pc = .ok (.isub, 1)) (kk : tp_J I R G mc ms out n g k q lv (pc + 1) (.inl (tp_w (x - y)) :: st) (φ)) : tp_J I R G mc ms out n g k q lv (pc) (.inl y :: .inl x :: st) (φ) := by
  refine tp_step (fun h => tp_oks (tp_okI (tp_w_r _)) (tp_okt (tp_okt h))) (fun p l e s m args below meth c H locs Q ls hC hL hs w => ?_) kk
  have hy := tp_unI (tp_ok1 hs)
  have hx := tp_unI (tp_ok1 (tp_okt hs))
  have w : W p l e R s m args below meth c H locs k q Q (F0 m (pc + 1) ls (.int (Int32.ofInt (tp_w (x - y))) :: st.map (tp_enc G))) := w
  rw [← tp_isub] at w
  exact lv_isub hC.1 hC.2.1 hd w
theorem j_lsub {x y : Int} (hd : decode I.1 pc = .ok (.lsub, 1)) (kk : tp_J I R G mc ms out n g k q lv (pc + 1) (.inr (.inl (tp_wl (x - y))) :: st) (φ)) : tp_J I R G mc ms out n g k q lv (pc) (.inr (.inl y) :: .inr (.inl x) :: st) (φ) := by
  refine tp_step (fun h => tp_oks (tp_okL (tp_wl_r _)) (tp_okt (tp_okt h))) (fun p l e s m args below meth c H locs Q ls hC hL hs w => ?_) kk
  have hy := tp_unL (tp_ok1 hs)
  have hx := tp_unL (tp_ok1 (tp_okt hs))
  have w : W p l e R s m args below meth c H locs k q Q (F0 m (pc + 1) ls (.long (Int64.ofInt (tp_wl (x - y))) :: st.map (tp_enc G))) := w
  rw [← tp_lsub] at w
  exact lv_lsub hC.1 hC.2.1 hd w
theorem j_imul {x y : Int} (hd : decode I.1 pc = .ok (.imul, 1)) (kk : tp_J I R G mc ms out n g k q lv (pc + 1) (.inl (tp_w (x * y)) :: st) (φ)) : tp_J I R G mc ms out n g k q lv (pc) (.inl y :: .inl x :: st) (φ) := by
  refine tp_step (fun h => tp_oks (tp_okI (tp_w_r _)) (tp_okt (tp_okt h))) (fun p l e s m args below meth c H locs Q ls hC hL hs w => ?_) kk
  have hy := tp_unI (tp_ok1 hs)
  have hx := tp_unI (tp_ok1 (tp_okt hs))
  have w : W p l e R s m args below meth c H locs k q Q (F0 m (pc + 1) ls (.int (Int32.ofInt (tp_w (x * y))) :: st.map (tp_enc G))) := w
  rw [← tp_imul] at w
  exact lv_imul hC.1 hC.2.1 hd w
theorem j_lmul {x y : Int} (hd : decode I.1 pc = .ok (.lmul, 1)) (kk : tp_J I R G mc ms out n g k q lv (pc + 1) (.inr (.inl (tp_wl (x * y))) :: st) (φ)) : tp_J I R G mc ms out n g k q lv (pc) (.inr (.inl y) :: .inr (.inl x) :: st) (φ) := by
  refine tp_step (fun h => tp_oks (tp_okL (tp_wl_r _)) (tp_okt (tp_okt h))) (fun p l e s m args below meth c H locs Q ls hC hL hs w => ?_) kk
  have hy := tp_unL (tp_ok1 hs)
  have hx := tp_unL (tp_ok1 (tp_okt hs))
  have w : W p l e R s m args below meth c H locs k q Q (F0 m (pc + 1) ls (.long (Int64.ofInt (tp_wl (x * y))) :: st.map (tp_enc G))) := w
  rw [← tp_lmul] at w
  exact lv_lmul hC.1 hC.2.1 hd w
theorem j_idiv {x y : Int} (hd : decode I.1 pc = .ok (.idiv, 1)) (kk : tp_J I R G mc ms out n g k q lv (pc + 1) (.inl (tp_w (x.tdiv y)) :: st) (φ)) : tp_J I R G mc ms out n g k q lv (pc) (.inl y :: .inl x :: st) (if y = 0 then none else φ) := by
  refine tp_ite (fun _ => tp_none) (fun hz => ?_)
  refine tp_step (fun h => tp_oks (tp_okI (tp_w_r _)) (tp_okt (tp_okt h))) (fun p l e s m args below meth c H locs Q ls hC hL hs w => ?_) kk
  have hy := tp_unI (tp_ok1 hs)
  have hx := tp_unI (tp_ok1 (tp_okt hs))
  have w : W p l e R s m args below meth c H locs k q Q (F0 m (pc + 1) ls (.int (Int32.ofInt (tp_w (x.tdiv y))) :: st.map (tp_enc G))) := w
  rw [← tp_idiv hx hy] at w
  exact lv_idiv hC.1 hC.2.1 hd (fun z => hz ((tp_ieq hy (by constructor <;> decide)).mp z)) w
theorem j_irem {x y : Int} (hd : decode I.1 pc = .ok (.irem, 1)) (kk : tp_J I R G mc ms out n g k q lv (pc + 1) (.inl (x.tmod y) :: st) (φ)) : tp_J I R G mc ms out n g k q lv (pc) (.inl y :: .inl x :: st) (if y = 0 then none else φ) := by
  refine tp_ite (fun _ => tp_none) (fun hz => ?_)
  refine tp_step (fun h => tp_oks (tp_okI (tp_tm_r _ (tp_unI (tp_ok1 (tp_okt h))))) (tp_okt (tp_okt h))) (fun p l e s m args below meth c H locs Q ls hC hL hs w => ?_) kk
  have hy := tp_unI (tp_ok1 hs)
  have hx := tp_unI (tp_ok1 (tp_okt hs))
  have w : W p l e R s m args below meth c H locs k q Q (F0 m (pc + 1) ls (.int (Int32.ofInt (x.tmod y)) :: st.map (tp_enc G))) := w
  rw [← tp_irem hx hy] at w
  exact lv_irem hC.1 hC.2.1 hd (fun z => hz ((tp_ieq hy (by constructor <;> decide)).mp z)) w
theorem j_ldiv {x y : Int} (hd : decode I.1 pc = .ok (.ldiv, 1)) (kk : tp_J I R G mc ms out n g k q lv (pc + 1) (.inr (.inl (tp_wl (x.tdiv y))) :: st) (φ)) : tp_J I R G mc ms out n g k q lv (pc) (.inr (.inl y) :: .inr (.inl x) :: st) (if y = 0 then none else φ) := by
  refine tp_ite (fun _ => tp_none) (fun hz => ?_)
  refine tp_step (fun h => tp_oks (tp_okL (tp_wl_r _)) (tp_okt (tp_okt h))) (fun p l e s m args below meth c H locs Q ls hC hL hs w => ?_) kk
  have hy := tp_unL (tp_ok1 hs)
  have hx := tp_unL (tp_ok1 (tp_okt hs))
  have w : W p l e R s m args below meth c H locs k q Q (F0 m (pc + 1) ls (.long (Int64.ofInt (tp_wl (x.tdiv y))) :: st.map (tp_enc G))) := w
  rw [← tp_ldiv hx hy] at w
  exact lv_ldiv hC.1 hC.2.1 hd (fun z => hz ((tp_leq hy (by constructor <;> decide)).mp z)) w
theorem j_lrem {x y : Int} (hd : decode I.1 pc = .ok (.lrem, 1)) (kk : tp_J I R G mc ms out n g k q lv (pc + 1) (.inr (.inl (x.tmod y)) :: st) (φ)) : tp_J I R G mc ms out n g k q lv (pc) (.inr (.inl y) :: .inr (.inl x) :: st) (if y = 0 then none else φ) := by
  refine tp_ite (fun _ => tp_none) (fun hz => ?_)
  refine tp_step (fun h => tp_oks (tp_okL (tp_tm_rl _ (tp_unL (tp_ok1 (tp_okt h))))) (tp_okt (tp_okt h))) (fun p l e s m args below meth c H locs Q ls hC hL hs w => ?_) kk
  have hy := tp_unL (tp_ok1 hs)
  have hx := tp_unL (tp_ok1 (tp_okt hs))
  have w : W p l e R s m args below meth c H locs k q Q (F0 m (pc + 1) ls (.long (Int64.ofInt (x.tmod y)) :: st.map (tp_enc G))) := w
  rw [← tp_lrem hx hy] at w
  exact lv_lrem hC.1 hC.2.1 hd (fun z => hz ((tp_leq hy (by constructor <;> decide)).mp z)) w
def tp_or (x y : Int) : Int := (Int32.ofInt x ||| Int32.ofInt y).toInt
def tp_and (x y : Int) : Int := (Int32.ofInt x &&& Int32.ofInt y).toInt
def tp_shl (x y : Int) : Int := (Int32.ofInt x <<< (Int32.ofInt y &&& 31)).toInt
def tp_shr (x y : Int) : Int := (Int32.ofInt x >>> (Int32.ofInt y &&& 31)).toInt
def tp_lxor (x y : Int) : Int := (Int64.ofInt x ^^^ Int64.ofInt y).toInt
def tp_land (x y : Int) : Int := (Int64.ofInt x &&& Int64.ofInt y).toInt
theorem tp_rt (x : Int32) : tp_r x.toInt := ⟨Int32.le_toInt x, by have := Int32.toInt_lt x; omega⟩
theorem tp_rlt (x : Int64) : tp_rl x.toInt := ⟨Int64.le_toInt x, by have := Int64.toInt_lt x; omega⟩
theorem tp_or_e (x y : Int) : Int32.ofInt x ||| Int32.ofInt y = Int32.ofInt (tp_or x y) := (Int32.ofInt_toInt _).symm
theorem tp_and_e (x y : Int) : Int32.ofInt x &&& Int32.ofInt y = Int32.ofInt (tp_and x y) := (Int32.ofInt_toInt _).symm
theorem tp_shl_e (x y : Int) : Int32.ofInt x <<< (Int32.ofInt y &&& 31) = Int32.ofInt (tp_shl x y) := (Int32.ofInt_toInt _).symm
theorem tp_shr_e (x y : Int) : Int32.ofInt x >>> (Int32.ofInt y &&& 31) = Int32.ofInt (tp_shr x y) := (Int32.ofInt_toInt _).symm
theorem tp_lxor_e (x y : Int) : Int64.ofInt x ^^^ Int64.ofInt y = Int64.ofInt (tp_lxor x y) := (Int64.ofInt_toInt _).symm
theorem tp_land_e (x y : Int) : Int64.ofInt x &&& Int64.ofInt y = Int64.ofInt (tp_land x y) := (Int64.ofInt_toInt _).symm
theorem j_ior {x y : Int} (hd : decode I.1 pc = .ok (.ior, 1)) (kk : tp_J I R G mc ms out n g k q lv (pc + 1) (.inl (tp_or x y) :: st) (φ)) : tp_J I R G mc ms out n g k q lv (pc) (.inl y :: .inl x :: st) (φ) := by
  refine tp_step (fun h => tp_oks (tp_okI (tp_rt _)) (tp_okt (tp_okt h))) (fun p l e s m args below meth c H locs Q ls hC hL hs w => ?_) kk
  have hy := tp_unI (tp_ok1 hs)
  have hx := tp_unI (tp_ok1 (tp_okt hs))
  have w : W p l e R s m args below meth c H locs k q Q (F0 m (pc + 1) ls (.int (Int32.ofInt (tp_or x y)) :: st.map (tp_enc G))) := w
  rw [← tp_or_e] at w
  exact lv_ior hC.1 hC.2.1 hd w
theorem j_iand {x y : Int} (hd : decode I.1 pc = .ok (.iand, 1)) (kk : tp_J I R G mc ms out n g k q lv (pc + 1) (.inl (tp_and x y) :: st) (φ)) : tp_J I R G mc ms out n g k q lv (pc) (.inl y :: .inl x :: st) (φ) := by
  refine tp_step (fun h => tp_oks (tp_okI (tp_rt _)) (tp_okt (tp_okt h))) (fun p l e s m args below meth c H locs Q ls hC hL hs w => ?_) kk
  have hy := tp_unI (tp_ok1 hs)
  have hx := tp_unI (tp_ok1 (tp_okt hs))
  have w : W p l e R s m args below meth c H locs k q Q (F0 m (pc + 1) ls (.int (Int32.ofInt (tp_and x y)) :: st.map (tp_enc G))) := w
  rw [← tp_and_e] at w
  exact lv_iand hC.1 hC.2.1 hd w
theorem j_ishl {x y : Int} (hd : decode I.1 pc = .ok (.ishl, 1)) (kk : tp_J I R G mc ms out n g k q lv (pc + 1) (.inl (tp_shl x y) :: st) (φ)) : tp_J I R G mc ms out n g k q lv (pc) (.inl y :: .inl x :: st) (φ) := by
  refine tp_step (fun h => tp_oks (tp_okI (tp_rt _)) (tp_okt (tp_okt h))) (fun p l e s m args below meth c H locs Q ls hC hL hs w => ?_) kk
  have hy := tp_unI (tp_ok1 hs)
  have hx := tp_unI (tp_ok1 (tp_okt hs))
  have w : W p l e R s m args below meth c H locs k q Q (F0 m (pc + 1) ls (.int (Int32.ofInt (tp_shl x y)) :: st.map (tp_enc G))) := w
  rw [← tp_shl_e] at w
  exact lv_ishl hC.1 hC.2.1 hd w
theorem j_ishr {x y : Int} (hd : decode I.1 pc = .ok (.ishr, 1)) (kk : tp_J I R G mc ms out n g k q lv (pc + 1) (.inl (tp_shr x y) :: st) (φ)) : tp_J I R G mc ms out n g k q lv (pc) (.inl y :: .inl x :: st) (φ) := by
  refine tp_step (fun h => tp_oks (tp_okI (tp_rt _)) (tp_okt (tp_okt h))) (fun p l e s m args below meth c H locs Q ls hC hL hs w => ?_) kk
  have hy := tp_unI (tp_ok1 hs)
  have hx := tp_unI (tp_ok1 (tp_okt hs))
  have w : W p l e R s m args below meth c H locs k q Q (F0 m (pc + 1) ls (.int (Int32.ofInt (tp_shr x y)) :: st.map (tp_enc G))) := w
  rw [← tp_shr_e] at w
  exact lv_ishr hC.1 hC.2.1 hd w
theorem j_lxor {x y : Int} (hd : decode I.1 pc = .ok (.lxor, 1)) (kk : tp_J I R G mc ms out n g k q lv (pc + 1) (.inr (.inl (tp_lxor x y)) :: st) (φ)) : tp_J I R G mc ms out n g k q lv (pc) (.inr (.inl y) :: .inr (.inl x) :: st) (φ) := by
  refine tp_step (fun h => tp_oks (tp_okL (tp_rlt _)) (tp_okt (tp_okt h))) (fun p l e s m args below meth c H locs Q ls hC hL hs w => ?_) kk
  have hy := tp_unL (tp_ok1 hs)
  have hx := tp_unL (tp_ok1 (tp_okt hs))
  have w : W p l e R s m args below meth c H locs k q Q (F0 m (pc + 1) ls (.long (Int64.ofInt (tp_lxor x y)) :: st.map (tp_enc G))) := w
  rw [← tp_lxor_e] at w
  exact lv_lxor hC.1 hC.2.1 hd w
theorem j_land {x y : Int} (hd : decode I.1 pc = .ok (.land, 1)) (kk : tp_J I R G mc ms out n g k q lv (pc + 1) (.inr (.inl (tp_land x y)) :: st) (φ)) : tp_J I R G mc ms out n g k q lv (pc) (.inr (.inl y) :: .inr (.inl x) :: st) (φ) := by
  refine tp_step (fun h => tp_oks (tp_okL (tp_rlt _)) (tp_okt (tp_okt h))) (fun p l e s m args below meth c H locs Q ls hC hL hs w => ?_) kk
  have hy := tp_unL (tp_ok1 hs)
  have hx := tp_unL (tp_ok1 (tp_okt hs))
  have w : W p l e R s m args below meth c H locs k q Q (F0 m (pc + 1) ls (.long (Int64.ofInt (tp_land x y)) :: st.map (tp_enc G))) := w
  rw [← tp_land_e] at w
  exact lv_land hC.1 hC.2.1 hd w
theorem j_i2l {x : Int} (hd : decode I.1 pc = .ok (.i2l, 1)) (kk : tp_J I R G mc ms out n g k q lv (pc + 1) (.inr (.inl x) :: st) (φ)) : tp_J I R G mc ms out n g k q lv (pc) (.inl x :: st) (φ) := by
  refine tp_step (fun h => tp_oks (tp_okL (by have := tp_unI (tp_ok1 h); unfold tp_r at this; unfold tp_rl; omega)) (tp_okt h)) (fun p l e s m args below meth c H locs Q ls hC hL hs w => ?_) kk
  have hx := tp_ok1 hs
  exact lv_i2l hC.1 hC.2.1 hd (tp_i2l (tp_unI hx)) w
theorem j_l2i {x : Int} (hd : decode I.1 pc = .ok (.l2i, 1)) (kk : tp_J I R G mc ms out n g k q lv (pc + 1) (.inl (tp_w x) :: st) (φ)) : tp_J I R G mc ms out n g k q lv (pc) (.inr (.inl x) :: st) (φ) := by
  refine tp_step (fun h => tp_oks (tp_okI (tp_w_r _)) (tp_okt h)) (fun p l e s m args below meth c H locs Q ls hC hL hs w => ?_) kk
  have hx := tp_ok1 hs
  exact lv_l2i hC.1 hC.2.1 hd (tp_l2i x) w
def tp_b (x : Int) : Int := (x + 128) % 256 - 128
theorem tp_i2b (x : Int) : (Int32.ofInt x).toInt8.toInt32 = Int32.ofInt (tp_b x) := by
  apply Int32.toInt_inj.mp
  rw [Int8.toInt_toInt32, Int32.toInt_toInt8, tp_i_to, tp_i_rt (by unfold tp_r tp_b; omega)]
  unfold Int.bmod tp_b tp_w
  simp only [show ((2 ^ 8 : Nat) : Int) = 256 from rfl]
  split <;> omega
theorem tp_i2c (x : Int) : ((Int32.ofInt x).toUInt32 % 65536).toInt32 = Int32.ofInt (x % 65536) := by
  rw [pk_char]
  have h : (Int32.ofInt x).toBitVec.toNat % 65536 = (x % 65536).toNat := by
    have : ((Int32.ofInt x).toBitVec.toNat : Int) = x % 4294967296 := by
      show ((BitVec.ofInt 32 x).toNat : Int) = _
      rw [BitVec.toNat_ofInt]
      omega
    omega
  rw [h]
  apply Int32.toInt_inj.mp
  rw [nI_toInt (by omega), tp_i_rt (by unfold tp_r; omega)]
  omega
theorem j_i2b {x : Int} (hd : decode I.1 pc = .ok (.i2b, 1)) (kk : tp_J I R G mc ms out n g k q lv (pc + 1) (.inl (tp_b x) :: st) (φ)) : tp_J I R G mc ms out n g k q lv (pc) (.inl x :: st) (φ) := by
  refine tp_step (fun h => tp_oks (tp_okI (by unfold tp_b tp_r; omega)) (tp_okt h)) (fun p l e s m args below meth c H locs Q ls hC hL hs w => ?_) kk
  have hx := tp_ok1 hs
  exact lv_i2b hC.1 hC.2.1 hd (tp_i2b x) w
theorem j_i2c {x : Int} (hd : decode I.1 pc = .ok (.i2c, 1)) (kk : tp_J I R G mc ms out n g k q lv (pc + 1) (.inl (x % 65536) :: st) (φ)) : tp_J I R G mc ms out n g k q lv (pc) (.inl x :: st) (φ) := by
  refine tp_step (fun h => tp_oks (tp_okI (by unfold tp_r; omega)) (tp_okt h)) (fun p l e s m args below meth c H locs Q ls hC hL hs w => ?_) kk
  have hx := tp_ok1 hs
  exact lv_i2c hC.1 hC.2.1 hd (tp_i2c x) w
theorem j_ineg {x : Int} (hd : decode I.1 pc = .ok (.ineg, 1)) (kk : tp_J I R G mc ms out n g k q lv (pc + 1) (.inl (tp_w (-x)) :: st) (φ)) : tp_J I R G mc ms out n g k q lv (pc) (.inl x :: st) (φ) := by
  refine tp_step (fun h => tp_oks (tp_okI (tp_w_r _)) (tp_okt h)) (fun p l e s m args below meth c H locs Q ls hC hL hs w => ?_) kk
  have hx := tp_ok1 hs
  exact lv_ineg hC.1 hC.2.1 hd (by have w : W p l e R s m args below meth c H locs k q Q (F0 m (pc + 1) ls (.int (Int32.ofInt (tp_w (-x))) :: st.map (tp_enc G))) := w; rw [← tp_ineg] at w; exact w)
theorem j_dup {v : tp_V} (hd : decode I.1 pc = .ok (.dup, 1)) (hv : ∀ G, (tp_enc G v).category = 1) (kk : tp_J I R G mc ms out n g k q lv (pc + 1) (v :: v :: st) (φ)) : tp_J I R G mc ms out n g k q lv (pc) (v :: st) (φ) :=
  tp_step (fun h => tp_oks (tp_ok1 h) h) (fun p l e s m args below meth c H locs Q ls hC hL hs w => lv_dup hC.1 hC.2.1 hd (hv G) w) kk
theorem j_pop {v : tp_V} (hd : decode I.1 pc = .ok (.pop, 1)) (hv : ∀ G, (tp_enc G v).category = 1) (kk : tp_J I R G mc ms out n g k q lv (pc + 1) (st) (φ)) : tp_J I R G mc ms out n g k q lv (pc) (v :: st) (φ) :=
  tp_step (fun h => tp_okt h) (fun p l e s m args below meth c H locs Q ls hC hL hs w => lv_pop hC.1 hC.2.1 hd (hv G) w) kk
theorem j_dup2 {u v : tp_V} (hd : decode I.1 pc = .ok (.dup2, 1)) (hv : ∀ G, (tp_enc G v).category = 1) (hu : ∀ G, (tp_enc G u).category = 1) (kk : tp_J I R G mc ms out n g k q lv (pc + 1) (v :: u :: v :: u :: st) (φ)) : tp_J I R G mc ms out n g k q lv (pc) (v :: u :: st) (φ) :=
  tp_step (fun h => tp_oks (tp_ok1 h) (tp_oks (tp_ok1 (tp_okt h)) h)) (fun p l e s m args below meth c H locs Q ls hC hL hs w => lv_dup2_11 hC.1 hC.2.1 hd (hv G) (hu G) w) kk
theorem j_goto {off : Int} {tgt : Nat} (hd : decode I.1 pc = .ok (.goto off, 3)) (ht : (pc : Int) + off = (tgt : Int)) (kk : tp_J I R G mc ms out n g k q lv (tgt) (st) (φ)) : tp_J I R G mc ms out n g k q lv (pc) (st) (φ) :=
  tp_step (fun h => h) (fun p l e s m args below meth c H locs Q ls hC hL hs w => lv_goto hC.1 hC.2.1 hd ht w) kk
theorem j_icmp_eq {x y : Int} {off : Int} {tgt : Nat} (hd : decode I.1 pc = .ok (.if_icmp .eq off, 3)) (ht : (pc : Int) + off = (tgt : Int)) (k1 : x = y → tp_J I R G mc ms out n g k q lv (tgt) (st) (φ1)) (k2 : ¬ (x = y) → tp_J I R G mc ms out n g k q lv (pc + 3) (st) (φ2)) : tp_J I R G mc ms out n g k q lv (pc) (.inl y :: .inl x :: st) (if x = y then φ1 else φ2) := by
  intro r hr p l e s m args below meth c hC ls H locs hL hn hs hH hS
  have hy := tp_unI (tp_ok1 hs)
  have hx := tp_unI (tp_ok1 (tp_okt hs))
  have hi := tp_ieq hx hy
  refine lv_icmp_eq hC.1 hC.2.1 hd ht (fun z => ?_) (fun z => ?_)
  · exact k1 (hi.mp z) r (by rw [if_pos (hi.mp z)] at hr; exact hr) p l e s m args below meth c hC ls H locs hL hn (tp_okt (tp_okt hs)) hH hS
  · have z2 := fun y => z (hi.mpr y)
    exact k2 z2 r (by rw [if_neg z2] at hr; exact hr) p l e s m args below meth c hC ls H locs hL hn (tp_okt (tp_okt hs)) hH hS
theorem j_if_eq {x : Int} {off : Int} {tgt : Nat} (hd : decode I.1 pc = .ok (.ifCond .eq off, 3)) (ht : (pc : Int) + off = (tgt : Int)) (k1 : x = 0 → tp_J I R G mc ms out n g k q lv (tgt) (st) (φ1)) (k2 : ¬ (x = 0) → tp_J I R G mc ms out n g k q lv (pc + 3) (st) (φ2)) : tp_J I R G mc ms out n g k q lv (pc) (.inl x :: st) (if x = 0 then φ1 else φ2) := by
  intro r hr p l e s m args below meth c hC ls H locs hL hn hs hH hS
  have hy : tp_r 0 := by constructor <;> decide
  have hx := tp_unI (tp_ok1 hs)
  have hi := tp_ieq hx hy
  refine lv_if_eq hC.1 hC.2.1 hd ht (fun z => ?_) (fun z => ?_)
  · exact k1 (hi.mp z) r (by rw [if_pos (hi.mp z)] at hr; exact hr) p l e s m args below meth c hC ls H locs hL hn (tp_okt hs) hH hS
  · have z2 := fun y => z (hi.mpr y)
    exact k2 z2 r (by rw [if_neg z2] at hr; exact hr) p l e s m args below meth c hC ls H locs hL hn (tp_okt hs) hH hS
theorem j_icmp_ne {x y : Int} {off : Int} {tgt : Nat} (hd : decode I.1 pc = .ok (.if_icmp .ne off, 3)) (ht : (pc : Int) + off = (tgt : Int)) (k1 : ¬ x = y → tp_J I R G mc ms out n g k q lv (tgt) (st) (φ1)) (k2 : ¬ (¬ x = y) → tp_J I R G mc ms out n g k q lv (pc + 3) (st) (φ2)) : tp_J I R G mc ms out n g k q lv (pc) (.inl y :: .inl x :: st) (if ¬ x = y then φ1 else φ2) := by
  intro r hr p l e s m args below meth c hC ls H locs hL hn hs hH hS
  have hy := tp_unI (tp_ok1 hs)
  have hx := tp_unI (tp_ok1 (tp_okt hs))
  have hi := not_congr (tp_ieq hx hy)
  refine lv_icmp_ne hC.1 hC.2.1 hd ht (fun z => ?_) (fun z => ?_)
  · exact k1 (hi.mp z) r (by rw [if_pos (hi.mp z)] at hr; exact hr) p l e s m args below meth c hC ls H locs hL hn (tp_okt (tp_okt hs)) hH hS
  · have z2 := fun y => hi.mpr y z
    exact k2 z2 r (by rw [if_neg z2] at hr; exact hr) p l e s m args below meth c hC ls H locs hL hn (tp_okt (tp_okt hs)) hH hS
theorem j_if_ne {x : Int} {off : Int} {tgt : Nat} (hd : decode I.1 pc = .ok (.ifCond .ne off, 3)) (ht : (pc : Int) + off = (tgt : Int)) (k1 : ¬ x = 0 → tp_J I R G mc ms out n g k q lv (tgt) (st) (φ1)) (k2 : ¬ (¬ x = 0) → tp_J I R G mc ms out n g k q lv (pc + 3) (st) (φ2)) : tp_J I R G mc ms out n g k q lv (pc) (.inl x :: st) (if ¬ x = 0 then φ1 else φ2) := by
  intro r hr p l e s m args below meth c hC ls H locs hL hn hs hH hS
  have hy : tp_r 0 := by constructor <;> decide
  have hx := tp_unI (tp_ok1 hs)
  have hi := not_congr (tp_ieq hx hy)
  refine lv_if_ne hC.1 hC.2.1 hd ht (fun z => ?_) (fun z => ?_)
  · exact k1 (hi.mp z) r (by rw [if_pos (hi.mp z)] at hr; exact hr) p l e s m args below meth c hC ls H locs hL hn (tp_okt hs) hH hS
  · have z2 := fun y => hi.mpr y z
    exact k2 z2 r (by rw [if_neg z2] at hr; exact hr) p l e s m args below meth c hC ls H locs hL hn (tp_okt hs) hH hS
theorem j_icmp_lt {x y : Int} {off : Int} {tgt : Nat} (hd : decode I.1 pc = .ok (.if_icmp .lt off, 3)) (ht : (pc : Int) + off = (tgt : Int)) (k1 : x < y → tp_J I R G mc ms out n g k q lv (tgt) (st) (φ1)) (k2 : ¬ (x < y) → tp_J I R G mc ms out n g k q lv (pc + 3) (st) (φ2)) : tp_J I R G mc ms out n g k q lv (pc) (.inl y :: .inl x :: st) (if x < y then φ1 else φ2) := by
  intro r hr p l e s m args below meth c hC ls H locs hL hn hs hH hS
  have hy := tp_unI (tp_ok1 hs)
  have hx := tp_unI (tp_ok1 (tp_okt hs))
  have hi := tp_ilt hx hy
  refine lv_icmp_lt hC.1 hC.2.1 hd ht (fun z => ?_) (fun z => ?_)
  · exact k1 (hi.mp z) r (by rw [if_pos (hi.mp z)] at hr; exact hr) p l e s m args below meth c hC ls H locs hL hn (tp_okt (tp_okt hs)) hH hS
  · have z2 := fun y => z (hi.mpr y)
    exact k2 z2 r (by rw [if_neg z2] at hr; exact hr) p l e s m args below meth c hC ls H locs hL hn (tp_okt (tp_okt hs)) hH hS
theorem j_if_lt {x : Int} {off : Int} {tgt : Nat} (hd : decode I.1 pc = .ok (.ifCond .lt off, 3)) (ht : (pc : Int) + off = (tgt : Int)) (k1 : x < 0 → tp_J I R G mc ms out n g k q lv (tgt) (st) (φ1)) (k2 : ¬ (x < 0) → tp_J I R G mc ms out n g k q lv (pc + 3) (st) (φ2)) : tp_J I R G mc ms out n g k q lv (pc) (.inl x :: st) (if x < 0 then φ1 else φ2) := by
  intro r hr p l e s m args below meth c hC ls H locs hL hn hs hH hS
  have hy : tp_r 0 := by constructor <;> decide
  have hx := tp_unI (tp_ok1 hs)
  have hi := tp_ilt hx hy
  refine lv_if_lt hC.1 hC.2.1 hd ht (fun z => ?_) (fun z => ?_)
  · exact k1 (hi.mp z) r (by rw [if_pos (hi.mp z)] at hr; exact hr) p l e s m args below meth c hC ls H locs hL hn (tp_okt hs) hH hS
  · have z2 := fun y => z (hi.mpr y)
    exact k2 z2 r (by rw [if_neg z2] at hr; exact hr) p l e s m args below meth c hC ls H locs hL hn (tp_okt hs) hH hS
theorem j_icmp_ge {x y : Int} {off : Int} {tgt : Nat} (hd : decode I.1 pc = .ok (.if_icmp .ge off, 3)) (ht : (pc : Int) + off = (tgt : Int)) (k1 : y ≤ x → tp_J I R G mc ms out n g k q lv (tgt) (st) (φ1)) (k2 : ¬ (y ≤ x) → tp_J I R G mc ms out n g k q lv (pc + 3) (st) (φ2)) : tp_J I R G mc ms out n g k q lv (pc) (.inl y :: .inl x :: st) (if y ≤ x then φ1 else φ2) := by
  intro r hr p l e s m args below meth c hC ls H locs hL hn hs hH hS
  have hy := tp_unI (tp_ok1 hs)
  have hx := tp_unI (tp_ok1 (tp_okt hs))
  have hi := tp_ile hy hx
  refine lv_icmp_ge hC.1 hC.2.1 hd ht (fun z => ?_) (fun z => ?_)
  · exact k1 (hi.mp z) r (by rw [if_pos (hi.mp z)] at hr; exact hr) p l e s m args below meth c hC ls H locs hL hn (tp_okt (tp_okt hs)) hH hS
  · have z2 := fun y => z (hi.mpr y)
    exact k2 z2 r (by rw [if_neg z2] at hr; exact hr) p l e s m args below meth c hC ls H locs hL hn (tp_okt (tp_okt hs)) hH hS
theorem j_if_ge {x : Int} {off : Int} {tgt : Nat} (hd : decode I.1 pc = .ok (.ifCond .ge off, 3)) (ht : (pc : Int) + off = (tgt : Int)) (k1 : 0 ≤ x → tp_J I R G mc ms out n g k q lv (tgt) (st) (φ1)) (k2 : ¬ (0 ≤ x) → tp_J I R G mc ms out n g k q lv (pc + 3) (st) (φ2)) : tp_J I R G mc ms out n g k q lv (pc) (.inl x :: st) (if 0 ≤ x then φ1 else φ2) := by
  intro r hr p l e s m args below meth c hC ls H locs hL hn hs hH hS
  have hy : tp_r 0 := by constructor <;> decide
  have hx := tp_unI (tp_ok1 hs)
  have hi := tp_ile hy hx
  refine lv_if_ge hC.1 hC.2.1 hd ht (fun z => ?_) (fun z => ?_)
  · exact k1 (hi.mp z) r (by rw [if_pos (hi.mp z)] at hr; exact hr) p l e s m args below meth c hC ls H locs hL hn (tp_okt hs) hH hS
  · have z2 := fun y => z (hi.mpr y)
    exact k2 z2 r (by rw [if_neg z2] at hr; exact hr) p l e s m args below meth c hC ls H locs hL hn (tp_okt hs) hH hS
theorem j_icmp_gt {x y : Int} {off : Int} {tgt : Nat} (hd : decode I.1 pc = .ok (.if_icmp .gt off, 3)) (ht : (pc : Int) + off = (tgt : Int)) (k1 : y < x → tp_J I R G mc ms out n g k q lv (tgt) (st) (φ1)) (k2 : ¬ (y < x) → tp_J I R G mc ms out n g k q lv (pc + 3) (st) (φ2)) : tp_J I R G mc ms out n g k q lv (pc) (.inl y :: .inl x :: st) (if y < x then φ1 else φ2) := by
  intro r hr p l e s m args below meth c hC ls H locs hL hn hs hH hS
  have hy := tp_unI (tp_ok1 hs)
  have hx := tp_unI (tp_ok1 (tp_okt hs))
  have hi := tp_ilt hy hx
  refine lv_icmp_gt hC.1 hC.2.1 hd ht (fun z => ?_) (fun z => ?_)
  · exact k1 (hi.mp z) r (by rw [if_pos (hi.mp z)] at hr; exact hr) p l e s m args below meth c hC ls H locs hL hn (tp_okt (tp_okt hs)) hH hS
  · have z2 := fun y => z (hi.mpr y)
    exact k2 z2 r (by rw [if_neg z2] at hr; exact hr) p l e s m args below meth c hC ls H locs hL hn (tp_okt (tp_okt hs)) hH hS
theorem j_if_gt {x : Int} {off : Int} {tgt : Nat} (hd : decode I.1 pc = .ok (.ifCond .gt off, 3)) (ht : (pc : Int) + off = (tgt : Int)) (k1 : 0 < x → tp_J I R G mc ms out n g k q lv (tgt) (st) (φ1)) (k2 : ¬ (0 < x) → tp_J I R G mc ms out n g k q lv (pc + 3) (st) (φ2)) : tp_J I R G mc ms out n g k q lv (pc) (.inl x :: st) (if 0 < x then φ1 else φ2) := by
  intro r hr p l e s m args below meth c hC ls H locs hL hn hs hH hS
  have hy : tp_r 0 := by constructor <;> decide
  have hx := tp_unI (tp_ok1 hs)
  have hi := tp_ilt hy hx
  refine lv_if_gt hC.1 hC.2.1 hd ht (fun z => ?_) (fun z => ?_)
  · exact k1 (hi.mp z) r (by rw [if_pos (hi.mp z)] at hr; exact hr) p l e s m args below meth c hC ls H locs hL hn (tp_okt hs) hH hS
  · have z2 := fun y => z (hi.mpr y)
    exact k2 z2 r (by rw [if_neg z2] at hr; exact hr) p l e s m args below meth c hC ls H locs hL hn (tp_okt hs) hH hS
theorem j_icmp_le {x y : Int} {off : Int} {tgt : Nat} (hd : decode I.1 pc = .ok (.if_icmp .le off, 3)) (ht : (pc : Int) + off = (tgt : Int)) (k1 : x ≤ y → tp_J I R G mc ms out n g k q lv (tgt) (st) (φ1)) (k2 : ¬ (x ≤ y) → tp_J I R G mc ms out n g k q lv (pc + 3) (st) (φ2)) : tp_J I R G mc ms out n g k q lv (pc) (.inl y :: .inl x :: st) (if x ≤ y then φ1 else φ2) := by
  intro r hr p l e s m args below meth c hC ls H locs hL hn hs hH hS
  have hy := tp_unI (tp_ok1 hs)
  have hx := tp_unI (tp_ok1 (tp_okt hs))
  have hi := tp_ile hx hy
  refine lv_icmp_le hC.1 hC.2.1 hd ht (fun z => ?_) (fun z => ?_)
  · exact k1 (hi.mp z) r (by rw [if_pos (hi.mp z)] at hr; exact hr) p l e s m args below meth c hC ls H locs hL hn (tp_okt (tp_okt hs)) hH hS
  · have z2 := fun y => z (hi.mpr y)
    exact k2 z2 r (by rw [if_neg z2] at hr; exact hr) p l e s m args below meth c hC ls H locs hL hn (tp_okt (tp_okt hs)) hH hS
theorem j_if_le {x : Int} {off : Int} {tgt : Nat} (hd : decode I.1 pc = .ok (.ifCond .le off, 3)) (ht : (pc : Int) + off = (tgt : Int)) (k1 : x ≤ 0 → tp_J I R G mc ms out n g k q lv (tgt) (st) (φ1)) (k2 : ¬ (x ≤ 0) → tp_J I R G mc ms out n g k q lv (pc + 3) (st) (φ2)) : tp_J I R G mc ms out n g k q lv (pc) (.inl x :: st) (if x ≤ 0 then φ1 else φ2) := by
  intro r hr p l e s m args below meth c hC ls H locs hL hn hs hH hS
  have hy : tp_r 0 := by constructor <;> decide
  have hx := tp_unI (tp_ok1 hs)
  have hi := tp_ile hx hy
  refine lv_if_le hC.1 hC.2.1 hd ht (fun z => ?_) (fun z => ?_)
  · exact k1 (hi.mp z) r (by rw [if_pos (hi.mp z)] at hr; exact hr) p l e s m args below meth c hC ls H locs hL hn (tp_okt hs) hH hS
  · have z2 := fun y => z (hi.mpr y)
    exact k2 z2 r (by rw [if_neg z2] at hr; exact hr) p l e s m args below meth c hC ls H locs hL hn (tp_okt hs) hH hS
theorem tp_lcmp {x y : Int} (hx : tp_rl x) (hy : tp_rl y) : lg_cmp (Int64.ofInt x) (Int64.ofInt y) = Int32.ofInt (if y < x then 1 else if x = y then 0 else -1) := by
  unfold lg_cmp
  simp only [gt_iff_lt, tp_llt hy hx, tp_leq hx hy]
  split
  · rfl
  · split <;> rfl
theorem tp_lcmp_r (x y : Int) : tp_r (if y < x then 1 else if x = y then 0 else -1) := by unfold tp_r; split <;> (try split) <;> omega
theorem j_lcmp_eq {x y : Int} {off : Int} {tgt pc2 : Nat} (hd0 : decode I.1 pc = .ok (.lcmp, 1)) (h2 : pc + 1 = pc2) (hd : decode I.1 pc2 = .ok (.ifCond .eq off, 3)) (ht : (pc2 : Int) + off = (tgt : Int)) (k1 : x = y → tp_J I R G mc ms out n g k q lv (tgt) (st) (φ1)) (k2 : ¬ (x = y) → tp_J I R G mc ms out n g k q lv (pc2 + 3) (st) (φ2)) : tp_J I R G mc ms out n g k q lv (pc) (.inr (.inl y) :: .inr (.inl x) :: st) (if x = y then φ1 else φ2) := by
  subst h2
  have hi : ((if y < x then (1 : Int) else if x = y then 0 else -1) = 0) ↔ x = y := by
    by_cases a : y < x
    · simp [a]; try omega
    · by_cases b : x = y
      · simp [b]
      · simp [a, b]; try omega
  refine tp_step (st' := .inl (if y < x then 1 else if x = y then 0 else -1) :: st) (fun h => tp_oks (tp_okI (tp_lcmp_r x y)) (tp_okt (tp_okt h))) (fun p l e s m args below meth c H locs Q ls hC hL hs w => ?_) ?_ (pc' := pc + 1)
  · refine W.lcmp hC.1 hC.2.1 hd0 ?_
    rw [tp_lcmp (tp_unL (tp_ok1 (tp_okt hs))) (tp_unL (tp_ok1 hs))]
    exact w
  · have h9 : (if x = y then φ1 else φ2) = (if (if y < x then (1 : Int) else if x = y then 0 else -1) = 0 then φ1 else φ2) := by
      by_cases a : x = y
      · rw [if_pos a, if_pos (hi.mpr a)]
      · rw [if_neg a, if_neg (fun z => a (hi.mp z))]
    rw [h9]
    exact j_if_eq hd ht (fun z => k1 (hi.mp z)) (fun z => k2 (fun a => z (hi.mpr a)))
theorem j_lcmp_ne {x y : Int} {off : Int} {tgt pc2 : Nat} (hd0 : decode I.1 pc = .ok (.lcmp, 1)) (h2 : pc + 1 = pc2) (hd : decode I.1 pc2 = .ok (.ifCond .ne off, 3)) (ht : (pc2 : Int) + off = (tgt : Int)) (k1 : ¬ x = y → tp_J I R G mc ms out n g k q lv (tgt) (st) (φ1)) (k2 : ¬ (¬ x = y) → tp_J I R G mc ms out n g k q lv (pc2 + 3) (st) (φ2)) : tp_J I R G mc ms out n g k q lv (pc) (.inr (.inl y) :: .inr (.inl x) :: st) (if ¬ x = y then φ1 else φ2) := by
  subst h2
  have hi : (¬ (if y < x then (1 : Int) else if x = y then 0 else -1) = 0) ↔ ¬ x = y := by
    by_cases a : y < x
    · simp [a]; try omega
    · by_cases b : x = y
      · simp [b]
      · simp [a, b]; try omega
  refine tp_step (st' := .inl (if y < x then 1 else if x = y then 0 else -1) :: st) (fun h => tp_oks (tp_okI (tp_lcmp_r x y)) (tp_okt (tp_okt h))) (fun p l e s m args below meth c H locs Q ls hC hL hs w => ?_) ?_ (pc' := pc + 1)
  · refine W.lcmp hC.1 hC.2.1 hd0 ?_
    rw [tp_lcmp (tp_unL (tp_ok1 (tp_okt hs))) (tp_unL (tp_ok1 hs))]
    exact w
  · have h9 : (if ¬ x = y then φ1 else φ2) = (if ¬ (if y < x then (1 : Int) else if x = y then 0 else -1) = 0 then φ1 else φ2) := by
      by_cases a : ¬ x = y
      · rw [if_pos a, if_pos (hi.mpr a)]
      · rw [if_neg a, if_neg (fun z => a (hi.mp z))]
    rw [h9]
    exact j_if_ne hd ht (fun z => k1 (hi.mp z)) (fun z => k2 (fun a => z (hi.mpr a)))
theorem j_lcmp_lt {x y : Int} {off : Int} {tgt pc2 : Nat} (hd0 : decode I.1 pc = .ok (.lcmp, 1)) (h2 : pc + 1 = pc2) (hd : decode I.1 pc2 = .ok (.ifCond .lt off, 3)) (ht : (pc2 : Int) + off = (tgt : Int)) (k1 : x < y → tp_J I R G mc ms out n g k q lv (tgt) (st) (φ1)) (k2 : ¬ (x < y) → tp_J I R G mc ms out n g k q lv (pc2 + 3) (st) (φ2)) : tp_J I R G mc ms out n g k q lv (pc) (.inr (.inl y) :: .inr (.inl x) :: st) (if x < y then φ1 else φ2) := by
  subst h2
  have hi : ((if y < x then (1 : Int) else if x = y then 0 else -1) < 0) ↔ x < y := by
    by_cases a : y < x
    · simp [a]; try omega
    · by_cases b : x = y
      · simp [b]
      · simp [a, b]; try omega
  refine tp_step (st' := .inl (if y < x then 1 else if x = y then 0 else -1) :: st) (fun h => tp_oks (tp_okI (tp_lcmp_r x y)) (tp_okt (tp_okt h))) (fun p l e s m args below meth c H locs Q ls hC hL hs w => ?_) ?_ (pc' := pc + 1)
  · refine W.lcmp hC.1 hC.2.1 hd0 ?_
    rw [tp_lcmp (tp_unL (tp_ok1 (tp_okt hs))) (tp_unL (tp_ok1 hs))]
    exact w
  · have h9 : (if x < y then φ1 else φ2) = (if (if y < x then (1 : Int) else if x = y then 0 else -1) < 0 then φ1 else φ2) := by
      by_cases a : x < y
      · rw [if_pos a, if_pos (hi.mpr a)]
      · rw [if_neg a, if_neg (fun z => a (hi.mp z))]
    rw [h9]
    exact j_if_lt hd ht (fun z => k1 (hi.mp z)) (fun z => k2 (fun a => z (hi.mpr a)))
theorem j_lcmp_ge {x y : Int} {off : Int} {tgt pc2 : Nat} (hd0 : decode I.1 pc = .ok (.lcmp, 1)) (h2 : pc + 1 = pc2) (hd : decode I.1 pc2 = .ok (.ifCond .ge off, 3)) (ht : (pc2 : Int) + off = (tgt : Int)) (k1 : y ≤ x → tp_J I R G mc ms out n g k q lv (tgt) (st) (φ1)) (k2 : ¬ (y ≤ x) → tp_J I R G mc ms out n g k q lv (pc2 + 3) (st) (φ2)) : tp_J I R G mc ms out n g k q lv (pc) (.inr (.inl y) :: .inr (.inl x) :: st) (if y ≤ x then φ1 else φ2) := by
  subst h2
  have hi : (0 ≤ (if y < x then (1 : Int) else if x = y then 0 else -1)) ↔ y ≤ x := by
    by_cases a : y < x
    · simp [a]; try omega
    · by_cases b : x = y
      · simp [b]
      · simp [a, b]; try omega
  refine tp_step (st' := .inl (if y < x then 1 else if x = y then 0 else -1) :: st) (fun h => tp_oks (tp_okI (tp_lcmp_r x y)) (tp_okt (tp_okt h))) (fun p l e s m args below meth c H locs Q ls hC hL hs w => ?_) ?_ (pc' := pc + 1)
  · refine W.lcmp hC.1 hC.2.1 hd0 ?_
    rw [tp_lcmp (tp_unL (tp_ok1 (tp_okt hs))) (tp_unL (tp_ok1 hs))]
    exact w
  · have h9 : (if y ≤ x then φ1 else φ2) = (if 0 ≤ (if y < x then (1 : Int) else if x = y then 0 else -1) then φ1 else φ2) := by
      by_cases a : y ≤ x
      · rw [if_pos a, if_pos (hi.mpr a)]
      · rw [if_neg a, if_neg (fun z => a (hi.mp z))]
    rw [h9]
    exact j_if_ge hd ht (fun z => k1 (hi.mp z)) (fun z => k2 (fun a => z (hi.mpr a)))
theorem j_lcmp_gt {x y : Int} {off : Int} {tgt pc2 : Nat} (hd0 : decode I.1 pc = .ok (.lcmp, 1)) (h2 : pc + 1 = pc2) (hd : decode I.1 pc2 = .ok (.ifCond .gt off, 3)) (ht : (pc2 : Int) + off = (tgt : Int)) (k1 : y < x → tp_J I R G mc ms out n g k q lv (tgt) (st) (φ1)) (k2 : ¬ (y < x) → tp_J I R G mc ms out n g k q lv (pc2 + 3) (st) (φ2)) : tp_J I R G mc ms out n g k q lv (pc) (.inr (.inl y) :: .inr (.inl x) :: st) (if y < x then φ1 else φ2) := by
  subst h2
  have hi : (0 < (if y < x then (1 : Int) else if x = y then 0 else -1)) ↔ y < x := by
    by_cases a : y < x
    · simp [a]; try omega
    · by_cases b : x = y
      · simp [b]
      · simp [a, b]; try omega
  refine tp_step (st' := .inl (if y < x then 1 else if x = y then 0 else -1) :: st) (fun h => tp_oks (tp_okI (tp_lcmp_r x y)) (tp_okt (tp_okt h))) (fun p l e s m args below meth c H locs Q ls hC hL hs w => ?_) ?_ (pc' := pc + 1)
  · refine W.lcmp hC.1 hC.2.1 hd0 ?_
    rw [tp_lcmp (tp_unL (tp_ok1 (tp_okt hs))) (tp_unL (tp_ok1 hs))]
    exact w
  · have h9 : (if y < x then φ1 else φ2) = (if 0 < (if y < x then (1 : Int) else if x = y then 0 else -1) then φ1 else φ2) := by
      by_cases a : y < x
      · rw [if_pos a, if_pos (hi.mpr a)]
      · rw [if_neg a, if_neg (fun z => a (hi.mp z))]
    rw [h9]
    exact j_if_gt hd ht (fun z => k1 (hi.mp z)) (fun z => k2 (fun a => z (hi.mpr a)))
theorem j_lcmp_le {x y : Int} {off : Int} {tgt pc2 : Nat} (hd0 : decode I.1 pc = .ok (.lcmp, 1)) (h2 : pc + 1 = pc2) (hd : decode I.1 pc2 = .ok (.ifCond .le off, 3)) (ht : (pc2 : Int) + off = (tgt : Int)) (k1 : x ≤ y → tp_J I R G mc ms out n g k q lv (tgt) (st) (φ1)) (k2 : ¬ (x ≤ y) → tp_J I R G mc ms out n g k q lv (pc2 + 3) (st) (φ2)) : tp_J I R G mc ms out n g k q lv (pc) (.inr (.inl y) :: .inr (.inl x) :: st) (if x ≤ y then φ1 else φ2) := by
  subst h2
  have hi : ((if y < x then (1 : Int) else if x = y then 0 else -1) ≤ 0) ↔ x ≤ y := by
    by_cases a : y < x
    · simp [a]; try omega
    · by_cases b : x = y
      · simp [b]
      · simp [a, b]; try omega
  refine tp_step (st' := .inl (if y < x then 1 else if x = y then 0 else -1) :: st) (fun h => tp_oks (tp_okI (tp_lcmp_r x y)) (tp_okt (tp_okt h))) (fun p l e s m args below meth c H locs Q ls hC hL hs w => ?_) ?_ (pc' := pc + 1)
  · refine W.lcmp hC.1 hC.2.1 hd0 ?_
    rw [tp_lcmp (tp_unL (tp_ok1 (tp_okt hs))) (tp_unL (tp_ok1 hs))]
    exact w
  · have h9 : (if x ≤ y then φ1 else φ2) = (if (if y < x then (1 : Int) else if x = y then 0 else -1) ≤ 0 then φ1 else φ2) := by
      by_cases a : x ≤ y
      · rw [if_pos a, if_pos (hi.mpr a)]
      · rw [if_neg a, if_neg (fun z => a (hi.mp z))]
    rw [h9]
    exact j_if_le hd ht (fun z => k1 (hi.mp z)) (fun z => k2 (fun a => z (hi.mpr a)))
theorem j_ifnull {x off : Int} {tgt : Nat} (hd : decode I.1 pc = .ok (.ifnull off, 3)) (ht : (pc : Int) + off = (tgt : Int)) (k1 : x = -1 → tp_J I R G mc ms out n g k q lv (tgt) (st) (φ1)) (k2 : ¬ x = -1 → tp_J I R G mc ms out n g k q lv (pc + 3) (st) (φ2)) : tp_J I R G mc ms out n g k q lv (pc) (.inr (.inr x) :: st) (if x = -1 then φ1 else φ2) := by
  intro r hr p l e s m args below meth c hC ls H locs hL hn hs hH hS
  show W p l e R s m args below meth c H locs k q (MQ below (tp_Q G (out r)) args s mc ms (tp_A G)) (F0 m pc ls (tp_ref G x :: st.map (tp_enc G)))
  by_cases z : x = -1
  · have h : tp_ref G x = .null := by unfold tp_ref; rw [if_neg (by omega), if_pos z]
    rw [h]
    exact lv_ifnullN hC.1 hC.2.1 hd ht (k1 z r (by rw [if_pos z] at hr; exact hr) p l e s m args below meth c hC ls H locs hL hn (tp_okt hs) hH hS)
  · have h : ∃ a, tp_ref G x = .ref a := by unfold tp_ref; split; exact ⟨_, rfl⟩; exact ⟨_, rfl⟩
    obtain ⟨a, h⟩ := h
    rw [h]
    exact lv_ifnull hC.1 hC.2.1 hd (k2 z r (by rw [if_neg z] at hr; exact hr) p l e s m args below meth c hC ls H locs hL hn (tp_okt hs) hH hS)
theorem j_ifnonnull {x off : Int} {tgt : Nat} (hd : decode I.1 pc = .ok (.ifnonnull off, 3)) (ht : (pc : Int) + off = (tgt : Int)) (k1 : x = -1 → tp_J I R G mc ms out n g k q lv (pc + 3) (st) (φ1)) (k2 : ¬ x = -1 → tp_J I R G mc ms out n g k q lv (tgt) (st) (φ2)) : tp_J I R G mc ms out n g k q lv (pc) (.inr (.inr x) :: st) (if x = -1 then φ1 else φ2) := by
  intro r hr p l e s m args below meth c hC ls H locs hL hn hs hH hS
  show W p l e R s m args below meth c H locs k q (MQ below (tp_Q G (out r)) args s mc ms (tp_A G)) (F0 m pc ls (tp_ref G x :: st.map (tp_enc G)))
  by_cases z : x = -1
  · have h : tp_ref G x = .null := by unfold tp_ref; rw [if_neg (by omega), if_pos z]
    rw [h]
    exact lv_ifnonnullN hC.1 hC.2.1 hd (k1 z r (by rw [if_pos z] at hr; exact hr) p l e s m args below meth c hC ls H locs hL hn (tp_okt hs) hH hS)
  · have h : ∃ a, tp_ref G x = .ref a := by unfold tp_ref; split; exact ⟨_, rfl⟩; exact ⟨_, rfl⟩
    obtain ⟨a, h⟩ := h
    rw [h]
    exact lv_ifnonnull hC.1 hC.2.1 hd ht (k2 z r (by rw [if_neg z] at hr; exact hr) p l e s m args below meth c hC ls H locs hL hn (tp_okt hs) hH hS)
theorem j_tsout {dflt lo hi : Int} {offs : Array Int} {len : Nat} {x : Int} {tgt : Nat} (hd : decode I.1 pc = .ok (.tableswitch dflt lo hi offs, len)) (h : x < lo ∨ hi < x) (ht : (pc : Int) + dflt = (tgt : Int)) (kk : tp_J I R G mc ms out n g k q lv (tgt) (st) (φ)) : tp_J I R G mc ms out n g k q lv (pc) (.inl x :: st) (φ) :=
  tp_step (fun h => tp_okt h) (fun p l e s m args below meth c H locs Q ls hC hL hs w => lv_tableOut hC.1 hC.2.1 hd (by rw [tp_i_rt (tp_unI (tp_ok1 hs))]; exact h) ht w) kk
theorem j_tsin {dflt lo hi : Int} {offs : Array Int} {len : Nat} {x off : Int} {tgt : Nat} (hd : decode I.1 pc = .ok (.tableswitch dflt lo hi offs, len)) (h1 : ¬ x < lo) (h2 : ¬ hi < x) (ho : offs[(x - lo).toNat]? = some off) (ht : (pc : Int) + off = (tgt : Int)) (kk : tp_J I R G mc ms out n g k q lv (tgt) (st) (φ)) : tp_J I R G mc ms out n g k q lv (pc) (.inl x :: st) (φ) :=
  tp_step (fun h => tp_okt h) (fun p l e s m args below meth c H locs Q ls hC hL hs w => lv_tableIn hC.1 hC.2.1 hd (by rw [tp_i_rt (tp_unI (tp_ok1 hs))]; exact h1) (by rw [tp_i_rt (tp_unI (tp_ok1 hs))]; exact h2) (by rw [tp_i_rt (tp_unI (tp_ok1 hs))]; exact ho) ht w) kk
theorem j_lp {σ : Type} {body : (σ → Option ρ) → σ → Option ρ} {n' : σ → Nat} {g' : σ → Nat → tp_C} {k' q' : σ → Nat} {lv' : σ → List (Option tp_V)} (h : ∀ rec_ : σ → Option ρ, (∀ u, tp_J I R G mc ms out (n' u) (g' u) (k' u) (q' u) (lv' u) pc st (rec_ u)) → ∀ u, tp_J I R G mc ms out (n' u) (g' u) (k' u) (q' u) (lv' u) pc st (body rec_ u)) : ∀ (N : Nat) (u : σ), tp_J I R G mc ms out (n' u) (g' u) (k' u) (q' u) (lv' u) pc st (tp_lp body N u) := by
  intro N
  induction N with
  | zero => exact fun u => tp_none
  | succ N ih => exact fun u => h _ ih u
theorem j_lt {x : Int} {f : Int → Option ρ} (h : tp_J I R G mc ms out n g k q lv pc st (f x)) : tp_J I R G mc ms out n g k q lv pc st (tp_lt x f) := h
theorem j_iret {x : Int} {r : ρ} (hd : decode I.1 pc = .ok (.ireturn, 1)) (hret : I.2.2.1 = some .int) (ho : out r = (some (.inl x), n, g)) (hk : mc = k ∧ ms = q) : tp_J I R G mc ms out n g k q lv (pc) ([.inl x]) (some r) := by
  intro r' hr p l e s m args below meth c hC ls H locs hL hn hs hH hS
  cases hr
  have hq : ∀ t : State, t.heap = H → s.WarmedH t.vm → tp_Q G (out r) args s (.returned (some (.int (Int32.ofInt x)))) t := fun t ht hW => by
    rw [ho]
    exact ⟨⟨rfl, fun v hv => (by cases hv; exact tp_ok1 hs), by rw [ht]; exact hH⟩, hS.F ht⟩
  cases hk.1
  cases hk.2
  exact W.iret hC.1 hC.2.1 (by rw [hC.2.2.2.2.2.1, hret]) hq hS.2.2 hd hC.2.2.2.2.2.2.1
theorem j_zret {x : Int} {r : ρ} (hd : decode I.1 pc = .ok (.ireturn, 1)) (hret : I.2.2.1 = some .boolean) (hx : x = 0 ∨ x = 1) (ho : out r = (some (.inl x), n, g)) (hk : mc = k ∧ ms = q) : tp_J I R G mc ms out n g k q lv (pc) ([.inl x]) (some r) := by
  intro r' hr p l e s m args below meth c hC ls H locs hL hn hs hH hS
  cases hr
  have hq : ∀ t : State, t.heap = H → s.WarmedH t.vm → tp_Q G (out r) args s (.returned (some (.int (Int32.ofInt x)))) t := fun t ht hW => by
    rw [ho]
    exact ⟨⟨rfl, fun v hv => (by cases hv; exact tp_ok1 hs), by rw [ht]; exact hH⟩, hS.F ht⟩
  cases hk.1
  cases hk.2
  exact W.zret hC.1 hC.2.1 (by rw [hC.2.2.2.2.2.1, hret]) (by rcases hx with rfl | rfl <;> rfl) hq hS.2.2 hd hC.2.2.2.2.2.2.1
theorem j_lret {x : Int} {r : ρ} (hd : decode I.1 pc = .ok (.lreturn, 1)) (hret : I.2.2.1 = some .long) (ho : out r = (some (.inr (.inl x)), n, g)) (hk : mc = k ∧ ms = q) : tp_J I R G mc ms out n g k q lv (pc) ([.inr (.inl x)]) (some r) := by
  intro r' hr p l e s m args below meth c hC ls H locs hL hn hs hH hS
  cases hr
  have hq : ∀ t : State, t.heap = H → s.WarmedH t.vm → tp_Q G (out r) args s (.returned (some (.long (Int64.ofInt x)))) t := fun t ht hW => by
    rw [ho]
    exact ⟨⟨rfl, fun v hv => (by cases hv; exact tp_ok1 hs), by rw [ht]; exact hH⟩, hS.F ht⟩
  cases hk.1
  cases hk.2
  exact W.lret hC.1 hC.2.1 (by rw [hC.2.2.2.2.2.1, hret]) hq hS.2.2 hd hC.2.2.2.2.2.2.1
theorem j_aret {x : Int} {r : ρ} {rt : FieldType} (hd : decode I.1 pc = .ok (.areturn, 1)) (hret : I.2.2.1 = some rt) (hrt : (∃ n, rt = .object n) ∨ ∃ t, rt = .array t) (ho : out r = (some (.inr (.inr x)), n, g)) (hk : mc = k ∧ ms = q) : tp_J I R G mc ms out n g k q lv (pc) ([.inr (.inr x)]) (some r) := by
  intro r' hr p l e s m args below meth c hC ls H locs hL hn hs hH hS
  cases hr
  have hq : ∀ t : State, t.heap = H → s.WarmedH t.vm → tp_Q G (out r) args s (.returned (some (tp_ref G x))) t := fun t ht hW => by
    rw [ho]
    exact ⟨⟨rfl, fun v hv => (by cases hv; exact tp_ok1 hs), by rw [ht]; exact hH⟩, hS.F ht⟩
  cases hk.1
  cases hk.2
  exact W.aret hC.1 hC.2.1 (by rw [hC.2.2.2.2.2.1, hret]) hrt (tp_refc G x) hq hS.2.2 hd hC.2.2.2.2.2.2.1
theorem j_vret {r : ρ} (hd : decode I.1 pc = .ok (.return_, 1)) (hret : I.2.2.1 = none) (ho : out r = (none, n, g)) (hk : mc = k ∧ ms = q) : tp_J I R G mc ms out n g k q lv (pc) ([]) (some r) := by
  intro r' hr p l e s m args below meth c hC ls H locs hL hn hs hH hS
  cases hr
  have hq : ∀ t : State, t.heap = H → s.WarmedH t.vm → tp_Q G (out r) args s (.returned (none)) t := fun t ht hW => by
    rw [ho]
    exact ⟨⟨rfl, fun v hv => (by cases hv), by rw [ht]; exact hH⟩, hS.F ht⟩
  cases hk.1
  cases hk.2
  exact W.vret hC.1 hC.2.1 (by rw [hC.2.2.2.2.2.1, hret]) hq hS.2.2 hd hC.2.2.2.2.2.2.1
end TPR
