abbrev tp_D : Type := List tp_C
def tp_dy (h : tp_D) (c : Nat) : tp_C := h.getD c (99, [])
def tp_dt (h : tp_D) (c : Int) : Int := if c < 0 then -1 else match h[c.toNat]? with
  | some q => q.1
  | none => -1
def tp_dl (h : tp_D) (c : Int) : Int := match h[c.toNat]? with
  | some q => q.2.length
  | none => 0
def tp_dv (h : tp_D) (c k : Int) : Int := match h[c.toNat]? with
  | some q => q.2.getD k.toNat 0
  | none => 0
def tp_ds (h : tp_D) (c k v : Int) : tp_D := match h[c.toNat]? with
  | some q => h.set c.toNat (q.1, q.2.set k.toNat v)
  | none => h
def tp_tot (h : tp_D) : Nat := (h.map (fun q => q.2.length)).sum
def tp_hp {α : Type} (h : tp_D) (f : tp_D → α) : α := f h
/-- there is room for a cells and b slots more -/
def tp_dc (n0 q0 mc ms : Nat) (h : tp_D) (a b : Nat) : Bool := decide (n0 ≤ h.length) && decide (q0 ≤ tp_tot h) && decide (h.length - n0 + a ≤ mc) && decide (tp_tot h - q0 + b ≤ ms)
theorem tp_dc_of {n0 q0 mc ms : Nat} {h : tp_D} {a b : Nat} (hh : tp_dc n0 q0 mc ms h a b = true) : n0 ≤ h.length ∧ q0 ≤ tp_tot h ∧ h.length - n0 + a ≤ mc ∧ tp_tot h - q0 + b ≤ ms := by
  simp only [tp_dc, Bool.and_eq_true, decide_eq_true_eq] at hh
  exact ⟨hh.1.1.1, hh.1.1.2, hh.1.2, hh.2⟩
theorem tp_dt_at {h : tp_D} {c : Int} {t : Nat} (ht : tp_dt h c = t) : 0 ≤ c ∧ ∃ xs, h[c.toNat]? = some (t, xs) ∧ c.toNat < h.length := by
  unfold tp_dt at ht
  by_cases hc : c < 0
  · rw [if_pos hc] at ht; omega
  · rw [if_neg hc] at ht
    refine ⟨by omega, ?_⟩
    cases hq : h[c.toNat]? with
    | none =>
      rw [hq] at ht
      have ht : (-1 : Int) = t := ht
      omega
    | some x =>
      rw [hq] at ht
      obtain ⟨t', xs⟩ := x
      have ht : (t' : Int) = t := ht
      have : t' = t := by omega
      subst this
      exact ⟨xs, rfl, (List.getElem?_eq_some_iff.mp hq).1⟩
theorem tp_dy_at {h : tp_D} {c : Nat} {q : tp_C} (hq : h[c]? = some q) : tp_dy h c = q := by unfold tp_dy; rw [List.getD_eq_getElem?_getD, hq]; rfl
theorem tp_ds_at {h : tp_D} {c k v : Int} {q : tp_C} (hq : h[c.toNat]? = some q) : tp_ds h c k v = h.set c.toNat (q.1, q.2.set k.toNat v) := by unfold tp_ds; rw [hq]
theorem tp_ds_len (h : tp_D) (c k v : Int) : (tp_ds h c k v).length = h.length := by
  unfold tp_ds
  split <;> simp
theorem tp_sum_set : ∀ (l : List Nat) (i x : Nat), l[i]? = some x → (l.set i x).sum = l.sum
  | [], _, _, h => by simp at h
  | a :: l, 0, x, h => by simp at h; subst h; rfl
  | a :: l, i + 1, x, h => by
    have := tp_sum_set l i x (by simpa using h)
    simp [this]
theorem tp_ds_tot (h : tp_D) (c k v : Int) : tp_tot (tp_ds h c k v) = tp_tot h := by
  unfold tp_ds
  split
  · rename_i q hq
    unfold tp_tot
    rw [List.map_set]
    apply tp_sum_set
    rw [List.getElem?_map, hq]
    simp
  · rfl
theorem tp_app_len (h : tp_D) (q : tp_C) : (h ++ [q]).length = h.length + 1 := by simp
theorem tp_app_tot (h : tp_D) (q : tp_C) : tp_tot (h ++ [q]) = tp_tot h + q.2.length := by unfold tp_tot; simp
section TPD
variable {I : tp_I} {R : Room} {G : tp_G} {mc ms : Nat} {ρ : Type} {out : ρ → tp_O} {h : tp_D} {n0 q0 : Nat} {lv : List (Option tp_V)} {pc : Nat} {st : List tp_V} {φ : Option ρ}
theorem tp_dcell {H : Heap} {c : Int} {t : Nat} (hH : tp_H G h.length (tp_dy h) H) (ht : tp_dt h c = t) : 0 ≤ c ∧ ∃ xs, h[c.toNat]? = some (t, xs) ∧ c.toNat < h.length ∧ tp_cell G (t, xs) (G.1 + c.toNat) H ∧ tp_okc (t, xs) := by
  obtain ⟨h0, xs, h1, h2⟩ := tp_dt_at ht
  have := hH.2 _ h2
  rw [tp_dy_at h1] at this
  exact ⟨h0, xs, h1, h2, this.1, this.2⟩
theorem tp_cellkept {H H1 : Heap} {q : tp_C} {a : Nat} (g1 : tp_cell G q a H) (hk : H1[a]? = H[a]?) : tp_cell G q a H1 := by
  unfold tp_cell at g1 ⊢
  cases hr : vwCl[q.1]? with
  | none => rw [hr] at g1; exact hk.trans g1
  | some r => rw [hr] at g1; exact ⟨g1.1, g1.2.kept hk⟩
/-- a write -/
theorem tp_Hds {H H1 : Heap} {c j v : Int} {t : Nat} {xs : List Int} (hH : tp_H G h.length (tp_dy h) H) (hq : h[c.toNat]? = some (t, xs)) (hz : H1.size = H.size) (ho : ∀ a, a ≠ G.1 + c.toNat → H1[a]? = H[a]?) (h1 : tp_cell G (t, xs.set j.toNat v) (G.1 + c.toNat) H1) (h2 : tp_okc (t, xs.set j.toNat v)) : tp_H G (tp_ds h c j v).length (tp_dy (tp_ds h c j v)) H1 := by
  have hlt := (List.getElem?_eq_some_iff.mp hq).1
  rw [tp_ds_len]
  refine ⟨by rw [hz]; exact hH.1, fun a ha => ?_⟩
  rw [tp_ds_at hq]
  by_cases e : a = c.toNat
  · subst e
    rw [tp_dy_at (List.getElem?_set_self hlt)]
    exact ⟨h1, h2⟩
  · have : tp_dy (h.set c.toNat (t, xs.set j.toNat v)) a = tp_dy h a := by
      unfold tp_dy
      rw [List.getD_eq_getElem?_getD, List.getElem?_set_ne (Ne.symm e), ← List.getD_eq_getElem?_getD]
    rw [this]
    obtain ⟨g1, g2⟩ := hH.2 a ha
    exact ⟨tp_cellkept g1 (ho _ (by omega)), g2⟩
theorem tp_okset {t : Nat} {xs : List Int} {j : Nat} {v : Int} (h1 : tp_okc (t, xs)) (hv : tp_ok (tp_tv t j v)) : tp_okc (t, xs.set j v) := by
  intro i x hx
  by_cases e : i = j
  · subst e
    have hl : i < xs.length := by have := (List.getElem?_eq_some_iff.mp hx).1; simpa using this
    have hx : (xs.set i v)[i]? = some x := hx
    rw [List.getElem?_set_self hl] at hx
    cases hx
    exact hv
  · have hx : (xs.set j v)[i]? = some x := hx
    rw [List.getElem?_set_ne (Ne.symm e)] at hx
    exact h1 i x hx
theorem tp_setget {xs : List Int} {j i : Nat} {v : Int} (hj : j < xs.length) : (xs.set j v).getD i 0 = if i = j then v else xs.getD i 0 := by
  rw [List.getD_eq_getElem?_getD, List.getD_eq_getElem?_getD]
  by_cases e : i = j
  · subst e; rw [List.getElem?_set_self hj, if_pos rfl]; rfl
  · rw [List.getElem?_set_ne (Ne.symm e), if_neg e]
/-- a new cell -/
theorem tp_Hnew {H H1 : Heap} {q : tp_C} (hH : tp_H G h.length (tp_dy h) H) (hz : H1.size = H.size + 1) (ho : ∀ a, a < H.size → H1[a]? = H[a]?) (h1 : tp_cell G q (G.1 + h.length) H1) (h2 : tp_okc q) : tp_H G (h ++ [q]).length (tp_dy (h ++ [q])) H1 := by
  rw [tp_app_len]
  refine ⟨by rw [hz, hH.1]; omega, fun a ha => ?_⟩
  by_cases e : a = h.length
  · subst e
    rw [tp_dy_at (q := q) (by simp)]
    exact ⟨h1, h2⟩
  · have hlt : a < h.length := by omega
    have : tp_dy (h ++ [q]) a = tp_dy h a := by
      unfold tp_dy
      rw [List.getD_eq_getElem?_getD, List.getElem?_append_left hlt, ← List.getD_eq_getElem?_getD]
    rw [this]
    obtain ⟨g1, g2⟩ := hH.2 a hlt
    exact ⟨tp_cellkept g1 (ho _ (by rw [hH.1]; omega)), g2⟩
theorem k_get {ix t j z : Nat} {c : Int} (hF : tp_F I.2.1 ix t j z) (hd : decode I.1 pc = .ok (.getfield ix, 3))
    (kk : tp_J I R G mc ms out h.length (tp_dy h) (h.length - n0) (tp_tot h - q0) lv (pc + 3) (tp_zv z (tp_dv h c j) :: st) φ) : tp_J I R G mc ms out h.length (tp_dy h) (h.length - n0) (tp_tot h - q0) lv pc (.inr (.inr c) :: st) (if tp_dt h c = t then φ else none) := by
  refine tp_chk (fun ht => ?_)
  intro r hr p l e s m args below meth cc hC ls H locs hL hn hs hH hS
  obtain ⟨C, T, N, hcl, hk, hz, hw, hT, -⟩ := hF
  obtain ⟨h0, xs, h1, h2, h3, h4⟩ := tp_dcell hH ht
  have h3' := h3
  unfold tp_cell at h3'
  rw [hcl] at h3'
  have hj : j < xs.length := by rw [h3'.1]; exact hk
  have hv : xs[j]? = some (tp_dv h c j) := by
    unfold tp_dv
    rw [h1]
    show xs[j]? = some (xs.getD (j : Int).toNat 0)
    rw [show ((j : Int)).toNat = j by omega, List.getD_eq_getElem?_getD, List.getElem?_eq_getElem hj]; rfl
  have w := kk r hr p l e s m args below meth cc hC ls H locs hL hn (tp_oks (by
    have := h4 j _ hv
    unfold tp_tv at this
    rw [hz] at this
    exact this) (tp_okt hs)) hH hS
  show W p l e R s m args below meth cc H locs _ _ _ (F0 m pc ls (tp_ref G c :: st.map (tp_enc G)))
  rw [tp_ref_pos h0]
  refine va_get (D := G.2.2.1) (cl := vwCl) (tys := []) (C := C) (T := T) (N := N) (ref := C) (v := tp_enc G (tp_tv t j (tp_dv h c j))) hC.1 hC.2.1 (tp_hts hC) (tp_ws_in _ _ hcl) hC.2.2.2.1 (tp_vaK hC.2.2.2.2.2.2.2.1) (tp_vaP (q := (t, xs)) hcl h3) 0 rfl hcl j hk (hC.2.2.2.2.1 _ hw rfl) (fun x hx => by rw [hT] at hx; exact hx) (tp_fs_at (q := (t, xs)) hv) hd ?_
  unfold tp_tv
  rw [hz]
  exact w
/-- a field is written: one that is final (in a constructor), or not -/
theorem k_put {ix t j z : Nat} {c v : Int} {f : tp_D → Option ρ} {fin : Bool} (hF : tp_F I.2.1 ix t j z) (hn0 : ∀ (C : String) (T : u_T) (N : Nat), vwCl[t]? = some (C, T, N) → (T j).2.2.2 = fin ∧ ∀ G : tp_G, ∃ ty, parseFieldDescriptor (T j).2.2.1 = some ty ∧ narrow ty (tp_enc G (tp_zv z v)) = tp_enc G (tp_zv z v) ∧ fits ty (tp_enc G (tp_zv z v)) = true) (hfin : fin = true → I.2.2.2.2 = "<init>" ∧ ∀ (C : String) (T : u_T) (N : Nat), vwCl[t]? = some (C, T, N) → (T j).1 = I.2.1) (hty0 : ∃ ty0 : Nat → FieldType, ∀ (C : String) (T : u_T) (N : Nat), vwCl[t]? = some (C, T, N) → (∀ k, k < N → parseFieldDescriptor (T k).2.2.1 = some (ty0 k)) ∧ ∀ a, a < N → ∀ b, b < N → a ≠ b → (T a).2.1 ≠ (T b).2.1) (hd : decode I.1 pc = .ok (.putfield ix, 3)) (kk : ∀ h1, h1 = tp_ds h c j v → tp_J I R G mc ms out h1.length (tp_dy h1) (h1.length - n0) (tp_tot h1 - q0) lv (pc + 3) st (f h1)) : tp_J I R G mc ms out h.length (tp_dy h) (h.length - n0) (tp_tot h - q0) lv pc (tp_zv z v :: .inr (.inr c) :: st) (if tp_dt h c = t then tp_hp (tp_ds h c j v) f else none) := by
  refine tp_chk (fun ht => ?_)
  intro r hr p l e s m args below meth cc hC ls H locs hL hn hs hH hS
  obtain ⟨C, T, N, hcl, hk, hz, hw, hT, -⟩ := hF
  obtain ⟨h0, xs, h1, h2, h3, h4⟩ := tp_dcell hH ht
  have h3' := h3
  unfold tp_cell at h3'
  rw [hcl] at h3'
  obtain ⟨hlen, hob⟩ := h3'
  have hlx : xs.length = N := hlen
  have hj : j < xs.length := by rw [hlx]; exact hk
  obtain ⟨hfn, hn1⟩ := hn0 C T N hcl
  obtain ⟨ty, hp, hnar, hfit⟩ := hn1 G
  obtain ⟨ty0, hty1⟩ := hty0
  obtain ⟨hty, hnm⟩ := hty1 C T N hcl
  have hts := tp_hts hC
  have hin := tp_ws_in _ _ hcl
  have hK := tp_vaK hC.2.2.2.2.2.2.2.1
  have hap := va_apart (own := I.2.1) hts hin ty0 hty hnm hK hcl
  obtain ⟨cell, q1, q2, q3, q4⟩ := hob
  obtain ⟨hSl, hfc, kC, hkC, hkind⟩ := hK.1 t _ hcl
  obtain ⟨cf, kf, fi, fd, hi, hsl⟩ := hSl j hk
  have hlay := hts _ (hin _ (u_in_lay hk))
  have hst := (u_facts hfc hkC (u_lays hts hin hk) hi).1
  have after : ∀ (H1 : Heap), H1[G.1 + c.toNat]? = some (cell.setSlot fd.slot (tp_enc G (tp_zv z v))) → H1.size = H.size → (∀ a, a ≠ G.1 + c.toNat → H1[a]? = H[a]?) → W p l e R s m args below meth cc H1 (locs ++ [⟨G.1 + c.toNat, fd.slot⟩]) (h.length - n0) (tp_tot h - q0) (MQ below (tp_Q G (out r)) args s mc ms (tp_A G)) (F0 m (pc + 3) ls (st.map (tp_enc G))) := fun H1 e1 e2 e3 => by
    have e1' := e1
    rw [hsl] at e1'
    have hH1 := tp_Hds (j := (j : Int)) (v := v) hH h1 e2 e3 (by
      unfold tp_cell
      rw [hcl]
      refine ⟨by show (xs.set _ _).length = N; rw [List.length_set]; exact hlx, t_OB.to ⟨_, e1', q2, q3, t_set q4 hap hk _⟩ (fun i hi2 => ?_)⟩
      show _ = tp_enc G (tp_tv t i ((xs.set (j : Int).toNat v).getD i 0))
      rw [show ((j : Int)).toNat = j by omega, tp_setget hj]
      unfold updV
      by_cases ej : i = j
      · subst ej
        rw [if_pos rfl, if_pos rfl]
        unfold tp_tv
        rw [hz]
      · rw [if_neg ej, if_neg ej]) (by
        rw [show ((j : Int)).toNat = j by omega]
        refine tp_okset h4 ?_
        unfold tp_tv
        rw [hz]
        exact tp_ok1 hs)
    have w := kk _ rfl r hr p l e s m args below meth cc hC ls H1 _ hL hn (tp_okt (tp_okt hs)) hH1 (hS.put (k := fd.slot) e2 e3 (Nat.le_add_right _ _))
    rw [tp_ds_len, tp_ds_tot] at w
    exact w
  show W p l e R s m args below meth cc H locs _ _ _ (F0 m pc ls (tp_enc G (tp_zv z v) :: tp_ref G c :: st.map (tp_enc G)))
  rw [tp_ref_pos h0]
  unfold u_lay at hlay
  cases hfb : fin with
  | false =>
    rw [hfb] at hfn
    rw [if_neg (by rw [hfn]; decide)] at hlay
    have h6 := u_store hfc hkC hkind hlay hi hp hnar hfit
    exact W.putK hC.1 hC.2.1 (f := fd) ⟨hC.2.2.2.1, hC.2.2.2.2.1 _ hw rfl, ⟨_, _, _, by rw [← hT]; exact hi⟩, hst⟩ (by rw [q2]; exact h6) q1 q3 (by rw [hsl]; exact k2_hasslot (q4 j hk)) rfl rfl hd after
  | true =>
    rw [hfb] at hfn
    rw [if_pos hfn] at hlay
    obtain ⟨hini, hdecl0⟩ := hfin hfb
    have hdecl := hdecl0 C T N hcl
    have hcf : m.cls = cf := by
      obtain ⟨_, _, c', _, _, _, -, -, hf', -, -, -, hown2, -⟩ := Cond.laysFinal_spec hlay
      have e1 : c' = cf := by have := hi.symm.trans hf'; simp at this; exact this.1.symm
      rw [hdecl] at hown2
      rw [← e1]; exact Option.some.inj (hC.2.2.2.1.symm.trans hown2)
    have h6 := u_fits hfc hkC hkind (Or.inr hlay) hi hp hnar hfit
    exact W.putFinK hC.1 hC.2.1 hC.2.2.2.1 (hC.2.2.2.2.1 _ hw rfl) (by rw [← hT]; exact hi) hst hcf (by rw [hC.2.2.2.2.2.2.2.2.1]; exact hini) (by rw [q2]; exact h6) q1 q3 (by rw [hsl]; exact k2_hasslot (q4 j hk)) rfl rfl hd after
/-- a new array of numbers -/
theorem k_newa {x : Int} {N tag : Nat} {atype : ArrayType} {ty : FieldType} {f : tp_D → Option ρ} (hxN : x = (N : Int)) (hN : N ≤ 1000) (hty : newarray.typeOf atype = ty) (htag : (tag, ty) ∈ tp_ats) (h20 : 20 ≤ tag) (hb : N * componentBytes ty ≤ 536870912) (hw : Cond.arrayClass ty ∈ lw_tbl) (hdv : ∀ (G : tp_G) (j : Nat), defaultValue ty = tp_enc G (tp_tv tag j 0)) (hok : ∀ j, tp_ok (tp_tv tag j 0)) (hra : ∀ (U : State) (cA : ClassId), va_RA U cA ty → U.vm.findClass ("[" ++ ty.toString) = some cA) (hRc : R.cells = mc ∧ R.slots = ms) (hd : decode I.1 pc = .ok (.newarray atype, 2))
    (kk : ∀ h1, h1 = h ++ [(tag, List.replicate N 0)] → tp_J I R G mc ms out h1.length (tp_dy h1) (h1.length - n0) (tp_tot h1 - q0) lv (pc + 2) (.inr (.inr (h.length : Int)) :: st) (f h1)) : tp_J I R G mc ms out h.length (tp_dy h) (h.length - n0) (tp_tot h - q0) lv pc (.inl x :: st) (if tp_dc n0 q0 mc ms h 1 N = true then tp_hp (h ++ [(tag, List.replicate N 0)]) f else none) := by
  refine tp_chk (fun hc => ?_)
  obtain ⟨c1, c2, c3, c4⟩ := tp_dc_of hc
  intro r hr p l e s m args below meth cc hC ls H locs hL hn hs hH hS
  subst hty
  subst hxN
  have hrx : tp_r (N : Int) := by unfold tp_r; omega
  obtain ⟨hAr, hRA⟩ := hC.2.2.2.2.2.2.2.1.2.1 _ htag
  have hfc := hra s _ hRA
  refine va_newaK (N := N) (g := F0 m pc ls (.int (Int32.ofInt (N : Int)) :: st.map (tp_enc G))) hC.1 hC.2.1 (hC.2.2.2.2.1 _ hw rfl) rfl hd rfl (tp_pos hrx (by omega)) (by rw [tp_clamp hrx (by omega)]; omega) hb (by rw [hRc.1]; exact c3) (by rw [hRc.2]; exact c4) (h := H.size) rfl (fun H1 cA e1 z1 o1 hA2 hf2 => ?_)
  have hcA : cA = G.2.2.2 tag := Option.some.inj (hf2.symm.trans hfc)
  subst hcA
  have hH1 := tp_Hnew (q := (tag, List.replicate N 0)) hH z1 o1 (by
    unfold tp_cell
    rw [tp_cl_arr h20]
    show H1[_]? = _
    rw [← hH.1, e1, List.length_replicate]
    refine congrArg some (congrArg (arrV _ _) (funext fun j => ?_))
    rw [hdv G j]
    congr 2
    show 0 = (List.replicate N (0 : Int)).getD j 0
    rw [List.getD_eq_getElem?_getD, List.getElem?_replicate]
    split <;> rfl) (fun j y hy => by
      have hy : (List.replicate N (0 : Int))[j]? = some y := hy
      rw [List.getElem?_replicate] at hy
      split at hy
      · cases hy; exact hok j
      · cases hy)
  have w := kk _ rfl r hr p l e s m args below meth cc hC ls H1 locs hL hn (tp_oks tp_okR (tp_okt hs)) hH1 ⟨Nat.le_trans hS.1 (by omega), fun a h1 h2 => (o1 a (Nat.lt_of_lt_of_le h1 hS.1)).trans (hS.2.1 a h1 h2), hS.2.2⟩
  rw [tp_app_len, tp_app_tot, show h.length + 1 - n0 = h.length - n0 + 1 by omega, show tp_tot h + (List.replicate N (0 : Int)).length - q0 = tp_tot h - q0 + N by rw [List.length_replicate]; omega] at w
  have e9 : tp_ref G (h.length : Int) = .ref H.size := by rw [tp_ref_pos (by omega), hH.1]; congr 1
  have w : W p l e R s m args below meth cc H1 locs (h.length - n0 + 1) (tp_tot h - q0 + N) (MQ below (tp_Q G (out r)) args s mc ms (tp_A G)) (F0 m (pc + 2) ls (tp_ref G (h.length : Int) :: st.map (tp_enc G))) := w
  rw [e9] at w
  exact w
end TPD
