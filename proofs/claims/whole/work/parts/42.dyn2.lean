abbrev tp_rmc (d mc ms : Nat) : Room := { frames := d, cells := mc, slots := ms, locals := 60 * d }
def tp_mn (h : tp_D) (tag tag2 N K : Nat) : tp_D := h ++ (tag, (List.range N).map (fun j => ((h.length + 1 + j : Nat) : Int))) :: List.replicate N (tag2, List.replicate K 0)
/-- what a constructor has made -/
def tp_dk (n0 q0 mc ms : Nat) (h h' : tp_D) (a b : Nat) : Bool := tp_dc n0 q0 mc ms h a b && decide (h'.length = h.length + a) && decide (tp_tot h' = tp_tot h + b)
def tp_de (n0 q0 mc ms : Nat) (h : tp_D) : Bool := decide (mc = h.length - n0) && decide (ms = tp_tot h - q0)
section TPE
variable {I : tp_I} {R : Room} {G : tp_G} {mc ms : Nat} {ρ : Type} {out : ρ → tp_O} {h : tp_D} {n0 q0 : Nat} {lv : List (Option tp_V)} {pc : Nat} {st stk : List tp_V} {φ : Option ρ} {n : Nat} {g : Nat → tp_C} {k q : Nat}
theorem k_new {ix t N : Nat} {C : String} {T : u_T} {bl : List Int} {ty0 : Nat → FieldType} {f : tp_D → Option ρ} (hcl : vwCl[t]? = some (C, T, N)) (hbl : bl.length = N) (hw : Cond.classLink I.2.1 ix C ∈ lw_tbl) (hins : Cond.instantiable C N ∈ lw_tbl) (hini : Cond.initialized C ∈ lw_tbl) (hty : ∀ j, j < N → parseFieldDescriptor (T j).2.2.1 = some (ty0 j)) (hdf : ∀ (G : tp_G) (j : Nat), j < N → defaultValue (ty0 j) = tp_enc G (tp_tv t j (bl.getD j 0))) (hok : tp_okc (t, bl)) (hRc : R.cells = mc ∧ R.slots = ms) (hd : decode I.1 pc = .ok (.new ix, 3))
    (kk : ∀ h1, h1 = h ++ [(t, bl)] → tp_J I R G mc ms out h1.length (tp_dy h1) (h1.length - n0) (tp_tot h1 - q0) lv (pc + 3) (.inr (.inr (h.length : Int)) :: st) (f h1)) : tp_J I R G mc ms out h.length (tp_dy h) (h.length - n0) (tp_tot h - q0) lv pc st (if tp_dc n0 q0 mc ms h 1 N = true then tp_hp (h ++ [(t, bl)]) f else none) := by
  refine tp_chk (fun hc => ?_)
  obtain ⟨c1, c2, c3, c4⟩ := tp_dc_of hc
  intro r hr p l e s m args below meth cc hC ls H locs hL hn hs hH hS
  have hK := tp_vaK hC.2.2.2.2.2.2.2.1
  have hKn := hK.1 t _ hcl
  refine W.newcK hC.1 hC.2.1 hC.2.2.2.1 (hC.2.2.2.2.1 _ hw rfl) (hC.2.2.2.2.1 _ hins rfl) (hC.2.2.2.2.1 _ hini rfl) rfl hd (by rw [hRc.1]; exact c3) (by rw [hRc.2]; exact c4) hKn.2.1 (h := H.size) rfl fun H1 kC hkC e1 z1 o1 => ?_
  have hH1 := tp_Hnew (q := (t, bl)) hH z1 o1 (by
    unfold tp_cell
    rw [hcl]
    refine ⟨hbl, ?_⟩
    rw [← hH.1]
    exact (u_born ty0 (tp_hts hC) (tp_ws_in _ _ hcl) hKn hkC e1 hty).to (fun j hj => hdf G j hj)) hok
  have w := kk _ rfl r hr p l e s m args below meth cc hC ls H1 locs hL hn (tp_oks tp_okR hs) hH1 ⟨Nat.le_trans hS.1 (by omega), fun a h1 h2 => (o1 a (Nat.lt_of_lt_of_le h1 hS.1)).trans (hS.2.1 a h1 h2), hS.2.2⟩
  rw [tp_app_len, tp_app_tot, show h.length + 1 - n0 = h.length - n0 + 1 by omega, show tp_tot h + bl.length - q0 = tp_tot h - q0 + N by omega] at w
  have e9 : tp_ref G (h.length : Int) = .ref H.size := by rw [tp_ref_pos (by omega), hH.1]; congr 1
  have w : W p l e R s m args below meth cc H1 locs (h.length - n0 + 1) (tp_tot h - q0 + N) (MQ below (tp_Q G (out r)) args s mc ms (tp_A G)) (F0 m (pc + 3) ls (tp_ref G (h.length : Int) :: st.map (tp_enc G))) := w
  rw [e9] at w
  exact w
theorem k_anew {ix N tag : Nat} {x : Int} {C : String} {f : tp_D → Option ρ} (hxN : x = (N : Int)) (hN : N ≤ 1000) (htag : (tag, FieldType.object C) ∈ tp_ats) (h23 : 23 ≤ tag) (hover : FieldType.object C ∈ tp_over) (hw : Cond.classLink I.2.1 ix C ∈ lw_tbl) (hRc : R.cells = mc ∧ R.slots = ms) (hd : decode I.1 pc = .ok (.anewarray ix, 3))
    (kk : ∀ h1, h1 = h ++ [(tag, List.replicate N (-1))] → tp_J I R G mc ms out h1.length (tp_dy h1) (h1.length - n0) (tp_tot h1 - q0) lv (pc + 3) (.inr (.inr (h.length : Int)) :: st) (f h1)) : tp_J I R G mc ms out h.length (tp_dy h) (h.length - n0) (tp_tot h - q0) lv pc (.inl x :: st) (if tp_dc n0 q0 mc ms h 1 N = true then tp_hp (h ++ [(tag, List.replicate N (-1))]) f else none) := by
  refine tp_chk (fun hc => ?_)
  obtain ⟨c1, c2, c3, c4⟩ := tp_dc_of hc
  intro r hr p l e s m args below meth cc hC ls H locs hL hn hs hH hS
  subst hxN
  have hrx : tp_r (N : Int) := by unfold tp_r; omega
  have hcl := tp_clamp hrx (by omega)
  have hNN : ((N : Int)).toNat = N := by omega
  obtain ⟨hAr, hRA⟩ := hC.2.2.2.2.2.2.2.1.2.1 _ htag
  obtain ⟨kA0, comp0, g1, g2, g3, g4⟩ := hRA
  refine W.anew hC.1 hC.2.1 hC.2.2.2.1 (hC.2.2.2.2.1 _ hw rfl) (hC.2.2.2.2.2.2.2.1.2.2.2 _ hover) rfl hd rfl (tp_pos hrx (by omega)) (by rw [hcl]; omega) (by rw [hRc.1]; exact c3) (by rw [hcl, hNN, hRc.2]; exact c4) fun cA kA comp f1 f2 f3 f4 => ?_
  have hcA : cA = G.2.2.2 tag := Option.some.inj (f1.symm.trans g4)
  subst hcA
  rw [hcl, hNN]
  generalize hH1e : H.push ({ cls := G.2.2.2 tag, slots := Array.replicate N .null, vm := .none } : Cell) = H1
  have z1 : H1.size = H.size + 1 := by rw [← hH1e, Array.size_push]
  have e1 : H1[H.size]? = some (arrV (G.2.2.2 tag) N (fun _ => .null)) := by rw [← hH1e, Array.getElem?_push_size, ← arrV_new]
  have o1 : ∀ a : Nat, a < H.size → H1[a]? = H[a]? := fun a ha => by rw [← hH1e, Array.getElem?_push, if_neg (Nat.ne_of_lt ha)]
  have htv : ∀ j y, tp_tv tag j y = .inr (.inr y) := fun j y => by
    unfold tp_tv tp_ty
    rw [if_neg (by omega), if_neg (by omega), if_pos h23]
    rfl
  have hH1 := tp_Hnew (q := (tag, List.replicate N (-1))) hH z1 o1 (by
    unfold tp_cell
    rw [tp_cl_arr (by omega)]
    show H1[_]? = _
    rw [← hH.1, e1, List.length_replicate]
    refine congrArg some ?_
    unfold arrV
    congr 2
    funext j
    show Value.null = tp_enc G (tp_tv tag j.val ((List.replicate N (-1 : Int)).getD j.val 0))
    rw [htv]
    have : (List.replicate N (-1 : Int)).getD j.val 0 = -1 := by rw [List.getD_eq_getElem?_getD, List.getElem?_replicate, if_pos j.2]; rfl
    rw [this]
    rfl) (fun j y hy => by rw [htv]; exact trivial)
  have w := kk _ rfl r hr p l e s m args below meth cc hC ls H1 locs hL hn (tp_oks tp_okR (tp_okt hs)) hH1 ⟨Nat.le_trans hS.1 (by omega), fun a h1 h2 => (o1 a (Nat.lt_of_lt_of_le h1 hS.1)).trans (hS.2.1 a h1 h2), hS.2.2⟩
  rw [tp_app_len, tp_app_tot, show h.length + 1 - n0 = h.length - n0 + 1 by omega, show tp_tot h + (List.replicate N (-1 : Int)).length - q0 = tp_tot h - q0 + N by rw [List.length_replicate]; omega] at w
  have e9 : tp_ref G (h.length : Int) = .ref H.size := by rw [tp_ref_pos (by omega), hH.1]; congr 1
  have w : W p l e R s m args below meth cc H1 locs (h.length - n0 + 1) (tp_tot h - q0 + N) (MQ below (tp_Q G (out r)) args s mc ms (tp_A G)) (F0 m (pc + 3) ls (tp_ref G (h.length : Int) :: st.map (tp_enc G))) := w
  rw [e9] at w
  exact w
theorem j_obj {ix : Nat} {c : Int} (hc0 : 0 ≤ c) (hw : Cond.methodLink I.2.1 ix Lib.objectInit ∈ lw_tbl) (hin : Cond.instanceMethod Lib.objectInit ∈ lw_tbl) (hcode : Cond.code Lib.objectInit ⟨#[0xb1]⟩ 1 none ∈ lw_tbl) (hR : 1 ≤ R.frames ∧ 40 ≤ R.locals) (hc4 : st.length ≤ 4) (hd : decode I.1 pc = .ok (.invokespecial ix, 3)) (kk : tp_J I R G mc ms out n g k q lv (pc + 3) st φ) : tp_J I R G mc ms out n g k q lv pc (.inr (.inr c) :: st) φ := by
  intro r hr p l e s m args below meth cc hC ls H locs hL hn hs hH hS
  have w := kk r hr p l e s m args below meth cc hC ls H locs hL hn (tp_okt hs) hH hS
  show W p l e R s m args below meth cc H locs k q _ (F0 m pc ls (tp_ref G c :: st.map (tp_enc G)))
  rw [tp_ref_pos hc0]
  refine W.objInit hC.1 hC.2.1 hC.2.2.2.1 (hC.2.2.2.2.1 _ hw rfl) (hC.2.2.2.2.1 _ hin rfl) (hC.2.2.2.2.1 _ hcode rfl) rfl (by show ls.size = _; rw [hC.2.2.1, hL.1, hn]) rfl hd hR.1 (by have := tp_catsum G st hc4; show 2 * 0 + _ + 12 ≤ _; omega) ?_
  exact w
theorem k_iast {c i v : Int} {f : tp_D → Option ρ} (hd : decode I.1 pc = .ok (.iastore, 1)) (kk : ∀ h1, h1 = tp_ds h c i v → tp_J I R G mc ms out h1.length (tp_dy h1) (h1.length - n0) (tp_tot h1 - q0) lv (pc + 1) st (f h1)) : tp_J I R G mc ms out h.length (tp_dy h) (h.length - n0) (tp_tot h - q0) lv pc (.inl v :: .inl i :: .inr (.inr c) :: st) (if tp_dt h c = 21 ∧ 0 ≤ i ∧ i < tp_dl h c then tp_hp (tp_ds h c i v) f else none) := by
  refine tp_chk (fun hi => ?_)
  obtain ⟨ht, i0, i1⟩ := hi
  intro r hr p l e s m args below meth cc hC ls H locs hL hn hs hH hS
  obtain ⟨h0, xs, h1, h2, h3, h4⟩ := tp_dcell (t := 21) hH ht
  have hri := tp_unI (tp_ok1 (tp_okt hs))
  have hcl := tp_clamp hri i0
  have hlt : i.toNat < xs.length := by
    unfold tp_dl at i1
    rw [h1] at i1
    have i1 : i < (xs.length : Int) := i1
    omega
  unfold tp_cell at h3
  rw [tp_cl_arr (t := 21) (by decide)] at h3
  have h3 : H[G.1 + c.toNat]? = some (arrV (G.2.2.2 21) xs.length (fun j => tp_enc G (tp_tv 21 j (xs.getD j 0)))) := h3
  show W p l e R s m args below meth cc H locs _ _ _ (F0 m pc ls (.int (Int32.ofInt v) :: .int (Int32.ofInt i) :: tp_ref G c :: st.map (tp_enc G)))
  rw [tp_ref_pos h0]
  refine W.iast hC.1 hC.2.1 h3 ((hC.2.2.2.2.2.2.2.1.2.1 (21, .int) (by decide)).1 _ _) (fun z => by cases z) (by
    show ¬ (_ ∨ (arrV _ _ _).slots.size ≤ _)
    rw [arrV_size, hcl]
    intro z
    rcases z with z | z
    · exact tp_pos hri i0 z
    · omega) rfl rfl hd fun H1 e1 z1 o1 => ?_
  rw [hcl] at e1 ⊢
  have hH1 := tp_Hds (j := i) (v := v) hH h1 z1 o1 (by
    unfold tp_cell
    rw [tp_cl_arr (t := 21) (by decide)]
    show H1[_]? = some (arrV _ (xs.set i.toNat v).length _)
    rw [e1, arrV_store, List.length_set]
    refine congrArg some (congrArg (arrV _ _) (funext fun j => ?_))
    show _ = tp_enc G (tp_tv 21 j ((xs.set i.toNat v).getD j 0))
    rw [tp_setget hlt]
    unfold updV
    by_cases ej : j = i.toNat
    · rw [if_pos ej, if_pos ej]; rfl
    · rw [if_neg ej, if_neg ej]) (tp_okset h4 (tp_ok1 hs))
  have w := kk _ rfl r hr p l e s m args below meth cc hC ls H1 _ hL hn (tp_okt (tp_okt (tp_okt hs))) hH1 (hS.put (k := i.toNat) z1 o1 (Nat.le_add_right _ _))
  rw [tp_ds_len, tp_ds_tot] at w
  exact w
theorem k_aast {c i v : Int} {tag t2 : Nat} {C : String} {f : tp_D → Option ρ} (h23 : 23 ≤ tag) (htag : (tag, FieldType.object C) ∈ tp_ats) (hcl2 : (vwCl[t2]?).map (fun r => r.1) = some C) (hd : decode I.1 pc = .ok (.aastore, 1)) (kk : ∀ h1, h1 = tp_ds h c i v → tp_J I R G mc ms out h1.length (tp_dy h1) (h1.length - n0) (tp_tot h1 - q0) lv (pc + 1) st (f h1)) : tp_J I R G mc ms out h.length (tp_dy h) (h.length - n0) (tp_tot h - q0) lv pc (.inr (.inr v) :: .inl i :: .inr (.inr c) :: st) (if tp_dt h c = tag ∧ tp_dt h v = t2 ∧ 0 ≤ i ∧ i < tp_dl h c then tp_hp (tp_ds h c i v) f else none) := by
  refine tp_chk (fun hi => ?_)
  obtain ⟨ht, ht2, i0, i1⟩ := hi
  intro r hr p l e s m args below meth cc hC ls H locs hL hn hs hH hS
  obtain ⟨h0, xs, h1, h2, h3, h4⟩ := tp_dcell hH ht
  obtain ⟨v0, ys, v1, v2, v3, v4⟩ := tp_dcell hH ht2
  have hri := tp_unI (tp_ok1 (tp_okt hs))
  have hcl := tp_clamp hri i0
  have hlt : i.toNat < xs.length := by
    unfold tp_dl at i1
    rw [h1] at i1
    have i1 : i < (xs.length : Int) := i1
    omega
  have htv : ∀ j y, tp_tv tag j y = .inr (.inr y) := fun j y => by
    unfold tp_tv tp_ty
    rw [if_neg (by omega), if_neg (by omega), if_pos h23]
    rfl
  unfold tp_cell at h3
  rw [tp_cl_arr (by omega)] at h3
  have h3 : H[G.1 + c.toNat]? = some (arrV (G.2.2.2 tag) xs.length (fun j => tp_enc G (tp_tv tag j (xs.getD j 0)))) := h3
  obtain ⟨hAr, kA, comp, k1, k2, k3, -⟩ := hC.2.2.2.2.2.2.2.1.2.1 _ htag
  cases hr2 : vwCl[t2]? with
  | none => rw [hr2] at hcl2; cases hcl2
  | some rr =>
    rw [hr2] at hcl2
    have hname : rr.1 = C := Option.some.inj hcl2
    unfold tp_cell at v3
    rw [hr2] at v3
    obtain ⟨-, cellV, g1, g2, g3, -⟩ := v3
    have hcls := (hC.2.2.2.2.2.2.2.1.1 t2 rr hr2).2
    rw [hname] at hcls
    have hcomp : comp = G.2.2.1.1 t2 := Option.some.inj (k3.symm.trans hcls.1)
    subst hcomp
    have hass := va_assign (s := s) hcls
    obtain ⟨kC, hkC, -⟩ := hcls.2
    show W p l e R s m args below meth cc H locs _ _ _ (F0 m pc ls (tp_ref G v :: .int (Int32.ofInt i) :: tp_ref G c :: st.map (tp_enc G)))
    rw [tp_ref_pos h0, tp_ref_pos v0]
    refine W.aast hC.1 hC.2.1 h3 (fun q h => by cases h) (fun h => by cases h) k1 k2 rfl hkC ⟨tp_pos hri i0, by show _ < (arrV _ _ _).slots.size; rw [arrV_size, hcl]; exact hlt⟩ g1 (fun q h => by rw [g3] at h; cases h) (by rw [g2]; exact hkC) (by rw [g2]; exact hass) rfl rfl hd fun H1 e1 z1 o1 => ?_
    rw [hcl] at e1 ⊢
    have hH1 := tp_Hds (j := i) (v := v) hH h1 z1 o1 (by
      unfold tp_cell
      rw [tp_cl_arr (by omega)]
      show H1[_]? = some (arrV _ (xs.set i.toNat v).length _)
      rw [e1, arrV_store, List.length_set]
      refine congrArg some (congrArg (arrV _ _) (funext fun j => ?_))
      show _ = tp_enc G (tp_tv tag j ((xs.set i.toNat v).getD j 0))
      rw [tp_setget hlt]
      unfold updV
      by_cases ej : j = i.toNat
      · rw [if_pos ej, if_pos ej, htv, ← tp_ref_pos (G := G) v0]; rfl
      · rw [if_neg ej, if_neg ej]) (tp_okset h4 (by rw [htv]; exact trivial))
    have w := kk _ rfl r hr p l e s m args below meth cc hC ls H1 _ hL hn (tp_okt (tp_okt (tp_okt hs))) hH1 (hS.put (k := i.toNat) z1 o1 (Nat.le_add_right _ _))
    rw [tp_ds_len, tp_ds_tot] at w
    exact w
end TPE
