def tp_tg (c : Int) : Int := if c < 0 then -1 else match tp_lay[c.toNat]? with
  | some q => q.1
  | none => -1
def tp_al (c : Int) : Int := match tp_lay[c.toNat]? with
  | some q => q.2.length
  | none => 0
def tp_rv (c : Int) (k : Nat) : Int := match tp_lay[c.toNat]? with
  | some q => q.2.getD k 0
  | none => 0
def tp_mp {α : Type} (M : tp_M) (f : tp_M → α) : α := f M
theorem tp_tg_at {c : Int} {t : Nat} (h : tp_tg c = t) : 0 ≤ c ∧ ∃ xs, tp_lay[c.toNat]? = some (t, xs) ∧ c.toNat < tp_NC := by
  unfold tp_tg at h
  by_cases hc : c < 0
  · rw [if_pos hc] at h; omega
  · rw [if_neg hc] at h
    refine ⟨by omega, ?_⟩
    cases hq : tp_lay[c.toNat]? with
    | none =>
      rw [hq] at h
      have h : (-1 : Int) = t := h
      omega
    | some q =>
      rw [hq] at h
      obtain ⟨t', xs⟩ := q
      have h : (t' : Int) = t := h
      have : t' = t := by omega
      subst this
      refine ⟨xs, rfl, ?_⟩
      have := (List.getElem?_eq_some_iff.mp hq).1
      rw [tp_lay_len] at this
      exact this
theorem tp_al_at {c : Int} {q : tp_C} (h : tp_lay[c.toNat]? = some q) : tp_al c = q.2.length := by unfold tp_al; rw [h]
theorem tp_rv_at {c : Int} {k : Nat} {q : tp_C} (h : tp_lay[c.toNat]? = some q) : tp_rv c k = q.2.getD k 0 := by unfold tp_rv; rw [h]
theorem tp_st_at {M : tp_M} {c : Nat} {t : Nat} {xs : List Int} (h : tp_lay[c]? = some (t, xs)) : tp_st M c = (t, xs.mapIdx (fun k x => if tp_ty t k = 2 then x else M c k)) := by unfold tp_st; rw [h]
theorem tp_st_get {M : tp_M} {c t j : Nat} {xs : List Int} (h : tp_lay[c]? = some (t, xs)) (hj : j < xs.length) : (tp_st M c).2.getD j 0 = if tp_ty t j = 2 then xs.getD j 0 else M c j := by
  rw [tp_st_at h]
  simp only [List.getD_eq_getElem?_getD, List.getElem?_mapIdx, List.getElem?_eq_getElem hj, Option.map_some, Option.getD_some]
theorem tp_st_len {M : tp_M} {c t : Nat} {xs : List Int} (h : tp_lay[c]? = some (t, xs)) : (tp_st M c).2.length = xs.length := by rw [tp_st_at h]; simp
theorem tp_st_tag {M : tp_M} {c t : Nat} {xs : List Int} (h : tp_lay[c]? = some (t, xs)) : (tp_st M c).1 = t := by rw [tp_st_at h]
theorem tp_st_ne {M : tp_M} {c : Int} {k v : Int} {c' : Nat} (h : (c' : Int) ≠ c) : tp_st (tp_up M c k v) c' = tp_st M c' := by
  unfold tp_st
  cases tp_lay[c']? with
  | none => rfl
  | some q =>
    have : ∀ j, tp_up M c k v c' j = M c' j := fun j => by unfold tp_up; rw [if_neg (fun z => h z.1)]
    simp only [this]
/-- all words that hold at every state -/
abbrev tp_T : List Cond := lw_tbl.filter goodWord
theorem tp_hts {I : tp_I} {G : tp_G} {p : Program} {s : State} {m : MethodId} {args : Array Value} {meth : Method} {c : Code} (hC : tp_Cx I G p s m args meth c) : ∀ w ∈ tp_T, w.before args s = true := fun w hw => hC.2.2.2.2.1 w (List.mem_filter.mp hw).1 (List.mem_filter.mp hw).2
theorem tp_ws_in : ∀ (t : Nat) (r : vw_C), vwCl[t]? = some r → ∀ w ∈ u_ws r.1 r.2.1 r.2.2, w ∈ tp_T := by
  have h : vwCl.all (fun r => (u_ws r.1 r.2.1 r.2.2).all (fun w => decide (w ∈ lw_tbl) && goodWord w)) = true := by decide +kernel
  intro t r hr w hw
  have h1 := List.all_eq_true.mp (List.all_eq_true.mp h r (List.mem_of_getElem? hr)) w hw
  simp only [Bool.and_eq_true, decide_eq_true_eq] at h1
  exact List.mem_filter.mpr ⟨h1.1, h1.2⟩
theorem tp_vaK {G : tp_G} {s : State} (h : tp_K G s) : va_K G.2.2.1 vwCl [] s := ⟨fun c q hq => h.1 c q hq, fun k q hq => by simp at hq⟩
def tp_fs (G : tp_G) (q : tp_C) : List Value := q.2.mapIdx (fun k x => tp_enc G (tp_tv q.1 k x))
theorem tp_fs_at {G : tp_G} {q : tp_C} {k : Nat} {x : Int} (h : q.2[k]? = some x) : (tp_fs G q)[k]? = some (tp_enc G (tp_tv q.1 k x)) := by
  unfold tp_fs; rw [List.getElem?_mapIdx, h]; rfl
theorem tp_vaP {G : tp_G} {q : tp_C} {a : Nat} {H : Heap} {r : vw_C} (hr : vwCl[q.1]? = some r) (h : tp_cell G q a H) : va_P G.2.2.1 vwCl [(a, .inr (q.1, tp_fs G q))] H := by
  intro k x hx
  have hk : k < 1 := (List.getElem?_eq_some_iff.mp hx).1
  have : k = 0 := by omega
  subst this
  cases hx
  unfold tp_cell at h
  rw [hr] at h
  refine ⟨r, hr, h.2.to (fun j hj => ?_)⟩
  have hj : j < q.2.length := by rw [h.1]; exact hj
  show _ = (tp_fs G q).getD j .null
  rw [List.getD_eq_getElem?_getD (l := tp_fs G q), tp_fs_at (List.getElem?_eq_getElem hj), Option.getD_some, List.getD_eq_getElem?_getD, List.getElem?_eq_getElem hj, Option.getD_some]
/-- an entry of a class's pool that names a field: class t, place k, kind z -/
def tp_F (own : String) (ix t k z : Nat) : Prop := ∃ (C : String) (T : u_T) (N : Nat), vwCl[t]? = some (C, T, N) ∧ k < N ∧ tp_ty t k = z ∧ Cond.fieldLink own ix C (T k).2.1 (T k).2.2.1 ∈ lw_tbl ∧ (T k).1 = C ∧ z < 4
theorem tp_tv_get {M : tp_M} {c t j : Nat} {xs : List Int} (h : tp_lay[c]? = some (t, xs)) (hj : j < xs.length) : (tp_st M c).2[j]? = some (if tp_ty t j = 2 then xs.getD j 0 else M c j) := by
  have h2 : j < (tp_st M c).2.length := by rw [tp_st_len h]; exact hj
  rw [List.getElem?_eq_getElem h2]
  have := tp_st_get (M := M) h hj
  rw [List.getD_eq_getElem?_getD, List.getElem?_eq_getElem h2, Option.getD_some] at this
  rw [this]
section TPM
variable {I : tp_I} {R : Room} {G : tp_G} {mc ms : Nat} {ρ : Type} {out : ρ → tp_O} {M : tp_M} {k q : Nat} {lv : List (Option tp_V)} {pc : Nat} {st : List tp_V} {φ φ1 φ2 : Option ρ}
theorem tp_cellat {H : Heap} {c : Int} {t : Nat} (hH : tp_H G tp_NC (tp_st M) H) (ht : tp_tg c = t) : 0 ≤ c ∧ ∃ xs, tp_lay[c.toNat]? = some (t, xs) ∧ c.toNat < tp_NC ∧ tp_cell G (tp_st M c.toNat) (G.1 + c.toNat) H ∧ tp_okc (tp_st M c.toNat) := by
  obtain ⟨h0, xs, h1, h2⟩ := tp_tg_at ht
  exact ⟨h0, xs, h1, h2, (hH.2 _ h2).1, (hH.2 _ h2).2⟩
theorem tp_ref_pos {c : Int} (h : 0 ≤ c) : tp_ref G c = .ref (G.1 + c.toNat) := by unfold tp_ref; rw [if_pos h]
theorem tp_getgen {ix t j z : Nat} {c : Int} (hF : tp_F I.2.1 ix t j z) (ht : tp_tg c = t) (hd : decode I.1 pc = .ok (.getfield ix, 3))
    (kk : ∀ x : Int, x = (if z = 2 then tp_rv c j else M c j) → tp_J I R G mc ms out tp_NC (tp_st M) k q lv (pc + 3) (tp_zv z x :: st) φ) : tp_J I R G mc ms out tp_NC (tp_st M) k q lv pc (.inr (.inr c) :: st) φ := by
  intro r hr p l e s m args below meth cc hC ls H locs hL hn hs hH hS
  obtain ⟨C, T, N, hcl, hk, hz, hw, hT, -⟩ := hF
  obtain ⟨h0, xs, h1, h2, h3, h4⟩ := tp_cellat hH ht
  have htag := tp_st_tag (M := M) h1
  have hlen : (tp_st M c.toNat).2.length = N := by
    have h3' := h3
    unfold tp_cell at h3'
    rw [htag, hcl] at h3'
    exact h3'.1
  have hj : j < xs.length := by rw [← tp_st_len (M := M) h1, hlen]; exact hk
  have hv := tp_tv_get (M := M) h1 hj
  rw [hz] at hv
  have hcc : ((c.toNat : Nat) : Int) = c := by omega
  rw [hcc, ← show tp_rv c j = xs.getD j 0 from tp_rv_at h1] at hv
  have hcl' : vwCl[(tp_st M c.toNat).1]? = some (C, T, N) := by rw [htag]; exact hcl
  have w := kk _ rfl r hr p l e s m args below meth cc hC ls H locs hL hn (tp_oks (by
    have := h4 j _ hv
    rw [htag] at this
    unfold tp_tv at this
    rw [hz] at this
    exact this) (tp_okt hs)) hH hS
  show W p l e R s m args below meth cc H locs k q _ (F0 m pc ls (tp_ref G c :: st.map (tp_enc G)))
  rw [tp_ref_pos h0]
  refine va_get (D := G.2.2.1) (cl := vwCl) (tys := []) (C := C) (T := T) (N := N) (ref := C) (v := tp_enc G (tp_tv (tp_st M c.toNat).1 j (if z = 2 then tp_rv c j else M c j))) hC.1 hC.2.1 (tp_hts hC) (tp_ws_in _ _ hcl) hC.2.2.2.1 (tp_vaK hC.2.2.2.2.2.2.2.1) (tp_vaP hcl' h3) 0 rfl hcl' j hk (hC.2.2.2.2.1 _ hw rfl) (fun x hx => by rw [hT] at hx; exact hx) (tp_fs_at hv) hd ?_
  rw [htag]
  unfold tp_tv
  rw [hz]
  exact w
theorem j_geti {ix t j : Nat} {c : Int} (hF : tp_F I.2.1 ix t j 0) (ht : tp_tg c = t) (hd : decode I.1 pc = .ok (.getfield ix, 3)) (kk : tp_J I R G mc ms out tp_NC (tp_st M) k q lv (pc + 3) (.inl (M c j) :: st) φ) : tp_J I R G mc ms out tp_NC (tp_st M) k q lv pc (.inr (.inr c) :: st) φ :=
  tp_getgen hF ht hd (fun x hx => by rw [hx]; exact kk)
theorem j_getl {ix t j : Nat} {c : Int} (hF : tp_F I.2.1 ix t j 1) (ht : tp_tg c = t) (hd : decode I.1 pc = .ok (.getfield ix, 3)) (kk : tp_J I R G mc ms out tp_NC (tp_st M) k q lv (pc + 3) (.inr (.inl (M c j)) :: st) φ) : tp_J I R G mc ms out tp_NC (tp_st M) k q lv pc (.inr (.inr c) :: st) φ :=
  tp_getgen hF ht hd (fun x hx => by rw [hx]; exact kk)
theorem j_getr {ix t j : Nat} {c v : Int} (hF : tp_F I.2.1 ix t j 2) (ht : tp_tg c = t) (hv : tp_rv c j = v) (hd : decode I.1 pc = .ok (.getfield ix, 3)) (kk : tp_J I R G mc ms out tp_NC (tp_st M) k q lv (pc + 3) (.inr (.inr v) :: st) φ) : tp_J I R G mc ms out tp_NC (tp_st M) k q lv pc (.inr (.inr c) :: st) φ :=
  tp_getgen hF ht hd (fun x hx => by rw [if_pos rfl, hv] at hx; rw [hx]; exact kk)
theorem j_getd {ix t j : Nat} {c : Int} (hF : tp_F I.2.1 ix t j 3) (ht : tp_tg c = t) (hd : decode I.1 pc = .ok (.getfield ix, 3)) (kk : tp_J I R G mc ms out tp_NC (tp_st M) k q lv (pc + 3) (.inr (.inr (M c j)) :: st) φ) : tp_J I R G mc ms out tp_NC (tp_st M) k q lv pc (.inr (.inr c) :: st) φ :=
  tp_getgen hF ht hd (fun x hx => by rw [hx]; exact kk)
end TPM
