theorem tp_outer (c : ClassId) (N h0 : Nat) : ∀ i : Nat, Jvm.Free.Multi.outerC c N h0 i = arrV c N (fun j => if j < i then .ref (h0 + 1 + j) else .null)
  | 0 => by
    show ({ cls := c, slots := Array.replicate N .null, vm := .none } : Cell) = _
    rw [arrV_new]
    refine congrArg (arrV c N) (funext fun j => ?_)
    simp
  | i + 1 => by
    show (Jvm.Free.Multi.outerC c N h0 i).setSlot i (.ref (h0 + 1 + i)) = _
    rw [tp_outer c N h0 i, arrV_store]
    refine congrArg (arrV c N) (funext fun j => ?_)
    by_cases e : j = i
    · subst e
      simp [updV]
    · by_cases h : j < i
      · simp [updV, e, h, Nat.lt_succ_of_lt h]
      · simp [updV, e, h, show ¬ j < i + 1 by omega]
theorem tp_mn_len (h : tp_D) (tag tag2 N K : Nat) : (tp_mn h tag tag2 N K).length = h.length + (1 + N) := by unfold tp_mn; simp; omega
theorem tp_mn_tot (h : tp_D) (tag tag2 N K : Nat) : tp_tot (tp_mn h tag tag2 N K) = tp_tot h + (N + N * K) := by unfold tp_mn tp_tot; simp
section TPE
variable {I : tp_I} {R : Room} {G : tp_G} {mc ms : Nat} {ρ : Type} {out : ρ → tp_O} {h : tp_D} {n0 q0 : Nat} {lv : List (Option tp_V)} {pc : Nat} {st stk : List tp_V} {φ : Option ρ} {n : Nat} {g : Nat → tp_C} {k q : Nat}
theorem k_mna {ix N K tag tag2 : Nat} {x y : Int} {ty : FieldType} {f : tp_D → Option ρ} (hx : x = (N : Int)) (hy : y = (K : Int)) (hN : N ≤ 1000 ∧ K ≤ 1000) (htag : (tag, FieldType.array ty) ∈ tp_ats) (htag2 : (tag2, ty) ∈ tp_ats) (h23 : 23 ≤ tag) (h20 : 20 ≤ tag2) (hra : ∀ (U : State) (cA : ClassId), va_RA U cA ty → U.vm.findClass (FieldType.array ty).toString = some cA) (hb2 : ∀ K, K ≤ 1000 → K * componentBytes ty ≤ 536870912) (hdf : fits ty (defaultValue ty) = true) (hdd : (defaultValue ty).isDefault = true) (hdv : ∀ (G : tp_G) (j : Nat), defaultValue ty = tp_enc G (tp_tv tag2 j 0)) (hok : ∀ j, tp_ok (tp_tv tag2 j 0)) (hover : FieldType.array ty ∈ tp_over) (hw : Cond.classLink I.2.1 ix ("[" ++ (FieldType.array ty).toString) ∈ lw_tbl) (harr : Cond.arrayClass ty ∈ lw_tbl) (hRc : R.cells = mc ∧ R.slots = ms) (hd : decode I.1 pc = .ok (.multianewarray ix 2, 4))
    (kk : ∀ h1, h1 = tp_mn h tag tag2 N K → tp_J I R G mc ms out h1.length (tp_dy h1) (h1.length - n0) (tp_tot h1 - q0) lv (pc + 4) (.inr (.inr (h.length : Int)) :: st) (f h1)) : tp_J I R G mc ms out h.length (tp_dy h) (h.length - n0) (tp_tot h - q0) lv pc (.inl y :: .inl x :: st) (if tp_dc n0 q0 mc ms h (1 + N) (N + N * K) = true then tp_hp (tp_mn h tag tag2 N K) f else none) := by
  refine tp_chk (fun hc => ?_)
  obtain ⟨c1, c2, c3, c4⟩ := tp_dc_of hc
  intro r hr p l e s m args below meth cc hC ls H locs hL hn hs hH hS
  subst hx
  subst hy
  have rx : tp_r (N : Int) := by unfold tp_r; omega
  have ry : tp_r (K : Int) := by unfold tp_r; omega
  have cx : (Int32.ofInt (N : Int)).toNatClampNeg = N := by rw [tp_clamp rx (by omega)]; omega
  have cy : (Int32.ofInt (K : Int)).toNatClampNeg = K := by rw [tp_clamp ry (by omega)]; omega
  have hRA1 := (hC.2.2.2.2.2.2.2.1.2.1 _ htag).2
  have hf1 : s.vm.findClass ("[" ++ (FieldType.array ty).toString) = some (G.2.2.2 tag) := hRA1
  have hf2 := hra s _ (hC.2.2.2.2.2.2.2.1.2.1 _ htag2).2
  show W p l e R s m args below meth cc H locs _ _ _ (F0 m pc ls (.int (Int32.ofInt (K : Int)) :: .int (Int32.ofInt (N : Int)) :: st.map (tp_enc G)))
  intro T hT Xs
  obtain ⟨vm₁, cA, comp, -, fA, fC, hO, -, X', step⟩ := Xs.multianewarray2F hC.1 hC.2.2.2.1 (hC.2.2.2.2.1 _ hw rfl) (hC.2.2.2.2.2.2.2.1.2.2.2 _ hover) (hC.2.2.2.2.1 _ harr rfl) (g := F0 m pc ls (.int (Int32.ofInt (K : Int)) :: .int (Int32.ofInt (N : Int)) :: st.map (tp_enc G))) rfl (by rw [hC.2.1]; exact hd) rfl (tp_pos rx (by omega)) (tp_pos ry (by omega)) (by rw [cx]; omega) (by rw [cy]; exact hb2 K hN.2) (by rw [cy]; omega) hdf hdd (by rw [cx, hRc.1]; exact c3) (by rw [cx, cy, hRc.2]; exact c4)
  have eA : cA = G.2.2.2 tag := Option.some.inj (fA.symm.trans hf1)
  have eC : comp = G.2.2.2 tag2 := Option.some.inj (fC.symm.trans hf2)
  subst eA
  subst eC
  rw [cx, cy] at X' step
  generalize hF : Jvm.Free.Multi.fill (T.setVm vm₁) (G.2.2.2 tag) (G.2.2.2 tag2) N K (defaultValue ty) N = F at X' step
  have hTh : (T.setVm vm₁).heap = H := hT
  obtain ⟨f1, f2, -, -⟩ := Jvm.Free.Multi.fill_facts (T.setVm vm₁) (G.2.2.2 tag) (G.2.2.2 tag2) N K (defaultValue ty) N
  rw [hF, hTh] at f1 f2
  have hold : ∀ a : Nat, a < H.size → F.heap[a]? = H[a]? := fun a ha => by
    have := Jvm.Free.Multi.fill_old (T.setVm vm₁) (G.2.2.2 tag) (G.2.2.2 tag2) N K (defaultValue ty) (a := a) (by rw [hTh]; exact ha) N
    rw [hF, hTh] at this
    exact this
  have hrow : ∀ j : Nat, j < N → F.heap[H.size + 1 + j]? = some (arrV (G.2.2.2 tag2) K (fun _ => defaultValue ty)) := fun j hj => by
    have := Jvm.Free.Multi.fill_inner (T.setVm vm₁) (G.2.2.2 tag) (G.2.2.2 tag2) N K (defaultValue ty) N j hj
    rw [hF, hTh] at this
    rw [this, ← arrV_new]
    rfl
  rw [tp_outer] at f2
  have htv : ∀ j y, tp_tv tag j y = .inr (.inr y) := fun j y => by
    unfold tp_tv tp_ty
    rw [if_neg (by omega), if_neg (by omega), if_pos h23]
    rfl
  have hH1 : tp_H G (tp_mn h tag tag2 N K).length (tp_dy (tp_mn h tag tag2 N K)) F.heap := by
    rw [tp_mn_len]
    refine ⟨by rw [f1, hH.1]; omega, fun a ha => ?_⟩
    by_cases a1 : a < h.length
    · have : tp_dy (tp_mn h tag tag2 N K) a = tp_dy h a := by
        unfold tp_dy tp_mn
        rw [List.getD_eq_getElem?_getD, List.getElem?_append_left a1, ← List.getD_eq_getElem?_getD]
      rw [this]
      obtain ⟨g1, g2⟩ := hH.2 a a1
      exact ⟨tp_cellkept g1 (hold _ (by rw [hH.1]; omega)), g2⟩
    · by_cases a2 : a = h.length
      · subst a2
        have : tp_dy (tp_mn h tag tag2 N K) h.length = (tag, (List.range N).map (fun j => ((h.length + 1 + j : Nat) : Int))) := tp_dy_at (by unfold tp_mn; simp)
        rw [this]
        refine ⟨?_, fun j y hy => by rw [htv]; exact trivial⟩
        unfold tp_cell
        rw [tp_cl_arr (by omega)]
        show F.heap[_]? = some (arrV _ ((List.range N).map _).length _)
        rw [← hH.1, f2, List.length_map, List.length_range]
        refine congrArg some ?_
        unfold arrV
        congr 2
        funext j
        show (if j.val < N then Value.ref (H.size + 1 + j.val) else Value.null) = tp_enc G (tp_tv tag j.val (((List.range N).map (fun j => ((h.length + 1 + j : Nat) : Int))).getD j.val 0))
        rw [if_pos j.2, htv]
        have : ((List.range N).map (fun j => ((h.length + 1 + j : Nat) : Int))).getD j.val 0 = ((h.length + 1 + j.val : Nat) : Int) := by
          rw [List.getD_eq_getElem?_getD, List.getElem?_map, List.getElem?_range j.2]; rfl
        rw [this]
        have h00 : (0 : Int) ≤ ((h.length + 1 + j.val : Nat) : Int) := Int.natCast_nonneg _
        show Value.ref (H.size + 1 + j.val) = tp_ref G ((h.length + 1 + j.val : Nat) : Int)
        rw [tp_ref_pos h00, Int.toNat_natCast]
        have hz := hH.1
        have hz2 : H.size + 1 + j.val = G.1 + (h.length + 1 + j.val) := by rw [hz]; simp only [Nat.add_assoc]
        exact congrArg Value.ref hz2
      · have hj : a - (h.length + 1) < N := by omega
        have : tp_dy (tp_mn h tag tag2 N K) a = (tag2, List.replicate K 0) := tp_dy_at (by
          unfold tp_mn
          rw [List.getElem?_append_right (by omega), show a - h.length = (a - (h.length + 1)) + 1 by omega, List.getElem?_cons_succ, List.getElem?_replicate, if_pos hj])
        rw [this]
        refine ⟨?_, fun j y hy => by
          have hy : (List.replicate K (0 : Int))[j]? = some y := hy
          rw [List.getElem?_replicate] at hy
          split at hy
          · cases hy; exact hok j
          · cases hy⟩
        unfold tp_cell
        rw [tp_cl_arr h20]
        show F.heap[_]? = some (arrV _ (List.replicate K (0 : Int)).length _)
        have hr9 := hrow (a - (h.length + 1)) hj
        rw [show H.size + 1 + (a - (h.length + 1)) = G.1 + a by rw [hH.1]; omega] at hr9
        rw [hr9, List.length_replicate]
        refine congrArg some (congrArg (arrV _ _) (funext fun j => ?_))
        rw [hdv G j]
        congr 2
        show 0 = (List.replicate K (0 : Int)).getD j 0
        rw [List.getD_eq_getElem?_getD, List.getElem?_replicate]
        split <;> rfl
  have w := kk _ rfl r hr p l e s m args below meth cc hC ls F.heap locs hL hn (tp_oks tp_okR (tp_okt (tp_okt hs))) hH1 ⟨Nat.le_trans hS.1 (by omega), fun a h1 h2 => (hold a (Nat.lt_of_lt_of_le h1 hS.1)).trans (hS.2.1 a h1 h2), hS.2.2⟩
  rw [tp_mn_len, tp_mn_tot, show h.length + (1 + N) - n0 = h.length - n0 + 1 + N by omega, show tp_tot h + (N + N * K) - q0 = tp_tot h - q0 + N + N * K by omega] at w
  have e9 : tp_ref G (h.length : Int) = .ref H.size := by rw [tp_ref_pos (by omega), hH.1]; congr 1
  have w : W p l e R s m args below meth cc F.heap locs (h.length - n0 + 1 + N) (tp_tot h - q0 + N + N * K) (MQ below (tp_Q G (out r)) args s mc ms (tp_A G)) (F0 m (pc + 4) ls (tp_ref G (h.length : Int) :: st.map (tp_enc G))) := w
  rw [e9] at w
  obtain ⟨t, a1, b1⟩ := w F rfl X'
  rw [show H.size = T.heap.size by rw [hT]] at a1
  exact ⟨t, step t a1, b1⟩
variable {y : MethodName} {I' : tp_I} {rm : Room} {o : tp_O} {mc' ms' ix np : Nat} {avs : List tp_V}
theorem j_callI {c : Int} (hc0 : 0 ≤ c) (hM : ∀ l, Met l y (tp_ws y I') rm (tp_Pc G (.inr (.inr c) :: avs) n g) (tp_Q G o) mc' ms' (tp_A G)) (hret : I'.2.2.1 = none) (hw : tp_CS I.2.1 ix y I' np) (hl : Cond.methodLink I.2.1 ix y ∈ lw_tbl ∨ ∃ host, Cond.methodLinkNest I.2.1 ix y host ∈ tp_nest) (hin : Cond.instanceMethod y ∈ lw_tbl) (hini : y.name = "<init>") (hnp : avs.length = np) (hstk : stk = avs.reverse ++ .inr (.inr c) :: st) (hc4 : st.length ≤ 4) (hrm : rm.cells = mc' ∧ rm.slots = ms') (hR : rm.frames + 1 ≤ R.frames ∧ 8 + (I'.2.2.2.1 + 11) + rm.locals ≤ R.locals) (hf : k + mc' ≤ R.cells ∧ q + ms' ≤ R.slots) (hd : decode I.1 pc = .ok (.invokespecial ix, 3))
    (kk : tp_J I R G mc ms out o.2.1 o.2.2 (k + mc') (q + ms') lv (pc + 3) (o.1.toList ++ st) φ) : tp_J I R G mc ms out n g k q lv pc stk φ := by
  intro r hr p l e s m args below meth cd hC ls H locs hL hn hs hH hS
  have hstk2 : stk = (.inr (.inr c) :: avs).reverse ++ st := by rw [hstk, List.reverse_cons, List.append_assoc]; rfl
  refine tp_after (vs := (.inr (.inr c) :: avs).map (tp_enc G)) hstk2 kk hr hC hL hn hs hS ?_
  have hTs := tp_hts hC
  have hX := hC.2.2.2.2.2.2.2.2.2.2
  have hpre : ∀ U : State, U.heap = H → s.WarmedH U.vm → tp_Pc G (.inr (.inr c) :: avs) n g (Value.ref (G.1 + c.toNat) :: avs.map (tp_enc G)).toArray U := fun U hU hW => ⟨by rw [← tp_ref_pos (G := G) hc0]; rfl, tp_K.warm hW hC.2.2.2.2.2.2.2.1, by rw [hU]; exact Nat.le_trans hC.2.2.2.2.2.2.2.2.2.1 hS.1, by rw [hU]; exact (hX.kept (fun a h1 h2 => hS.2.1 a h1 h2)).warm hW, by rw [hU]; exact hH, fun v hv => hs v (by rw [hstk2]; exact List.mem_append_left _ (List.mem_reverse.mpr hv))⟩
  have e9 : (.inr (.inr c) :: avs : List tp_V).map (tp_enc G) = Value.ref (G.1 + c.toNat) :: avs.map (tp_enc G) := by rw [List.map_cons, ← tp_ref_pos (G := G) hc0]; rfl
  rw [e9]
  have hstv : stk.map (tp_enc G) = (avs.map (tp_enc G)).reverse ++ .ref (G.1 + c.toNat) :: st.map (tp_enc G) := by rw [hstk, List.map_append, List.map_reverse, List.map_cons, ← tp_ref_pos (G := G) hc0]; rfl
  have hM' := hM l
  rcases hl with hl | ⟨host, hl⟩
  · have hB := callB_of (own := I.2.1) (index := ix) (R := R) (ret := I'.2.2.1) (bytes := I'.1) (maxL := I'.2.2.2.1) np hTs (tp_good y I' hw.1) rfl hrm.1 hrm.2 (hC.2.2.2.2.1 _ hw.2.1 rfl) (hC.2.2.2.2.1 _ hl rfl) hw.2.2 hR
    rw [hret] at hB
    exact va_runI (As := avs.map (tp_enc G)) (n := np) (y := y) (bytes := I'.1) (maxL := I'.2.2.2.1) ⟨hC.1, hC.2.1, hC.2.2.1, hC.2.2.2.1, hTs⟩ hM' ⟨hB, hini, hC.2.2.2.2.1 _ hin rfl⟩ ⟨tp_blind, hpre⟩
      rfl (by rw [List.length_map]; exact hnp) (by show ls.size = _; rw [hL.1, hn]) hstv (lv_room (tp_catsum G st hc4)) hd hf
  · have hB := va_cnB (own := I.2.1) (host := host) (index := ix) (R := R) (ret := I'.2.2.1) (bytes := I'.1) (maxL := I'.2.2.2.1) np hTs (tp_good y I' hw.1) rfl hrm.1 hrm.2 (hC.2.2.2.2.2.2.2.1.2.2.1 _ hl) (hC.2.2.2.2.1 _ hw.2.1 rfl) hw.2.2 hR
    rw [hret] at hB
    exact va_runIN (As := avs.map (tp_enc G)) (n := np) (y := y) (bytes := I'.1) (maxL := I'.2.2.2.1) (host := host) ⟨hC.1, hC.2.1, hC.2.2.1, hC.2.2.2.1, hTs⟩ hM' ⟨hB, hini, hC.2.2.2.2.1 _ hin rfl⟩ ⟨tp_blind, hpre⟩
      rfl (by rw [List.length_map]; exact hnp) (by show ls.size = _; rw [hL.1, hn]) hstv (lv_room (tp_catsum G st hc4)) hd hf
/-- a call of a constructor while things are being made -/
theorem k_callI {c : Int} {h' : tp_D} (hM : ∀ l, Met l y (tp_ws y I') rm (tp_Pc G (.inr (.inr c) :: avs) h.length (tp_dy h)) (tp_Q G (none, h'.length, tp_dy h')) mc' ms' (tp_A G)) (hret : I'.2.2.1 = none) (hw : tp_CS I.2.1 ix y I' np) (hl : Cond.methodLink I.2.1 ix y ∈ lw_tbl ∨ ∃ host, Cond.methodLinkNest I.2.1 ix y host ∈ tp_nest) (hin : Cond.instanceMethod y ∈ lw_tbl) (hini : y.name = "<init>") (hnp : avs.length = np) (hstk : stk = avs.reverse ++ .inr (.inr c) :: st) (hc4 : st.length ≤ 4) (hrm : rm.cells = mc' ∧ rm.slots = ms') (hR : rm.frames + 1 ≤ R.frames ∧ 8 + (I'.2.2.2.1 + 11) + rm.locals ≤ R.locals) (hRc : R.cells = mc ∧ R.slots = ms) (hd : decode I.1 pc = .ok (.invokespecial ix, 3))
    (kk : tp_J I R G mc ms out h'.length (tp_dy h') (h'.length - n0) (tp_tot h' - q0) lv (pc + 3) st φ) : tp_J I R G mc ms out h.length (tp_dy h) (h.length - n0) (tp_tot h - q0) lv pc stk (if 0 ≤ c ∧ tp_dk n0 q0 mc ms h h' mc' ms' = true then φ else none) := by
  refine tp_chk (fun hc => ?_)
  obtain ⟨hc0, hc⟩ := hc
  simp only [tp_dk, Bool.and_eq_true, decide_eq_true_eq] at hc
  obtain ⟨⟨hc, e1⟩, e2⟩ := hc
  obtain ⟨c1, c2, c3, c4⟩ := tp_dc_of hc
  refine j_callI (o := (none, h'.length, tp_dy h')) (np := np) hc0 hM hret hw hl hin hini hnp hstk hc4 hrm hR ⟨by rw [hRc.1]; exact c3, by rw [hRc.2]; exact c4⟩ hd ?_
  rw [show h.length - n0 + mc' = h'.length - n0 by omega, show tp_tot h - q0 + ms' = tp_tot h' - q0 by omega]
  exact kk
/-- a call of a method while things are being made: it makes nothing -/
theorem k_callV {c : Int} {h' : tp_D} {t : Nat} (hM : ∀ l, Met l y (tp_ws y I') rm (tp_Pc G (.inr (.inr c) :: avs) h.length (tp_dy h)) (tp_Q G (none, h'.length, tp_dy h')) 0 0 (tp_A G)) (hw : tp_CS I.2.1 ix y I' np) (hl : Cond.methodLink I.2.1 ix y ∈ lw_tbl) (hin : Cond.instanceMethod y ∈ lw_tbl) (hsel : Cond.selects y.cls y y ∈ lw_tbl) (hcl : (vwCl[t]?).map (fun r => r.1) = some y.cls) (hnp : avs.length = np) (hstk : stk = avs.reverse ++ .inr (.inr c) :: st) (hc4 : st.length ≤ 4) (hrm : rm.cells = 0 ∧ rm.slots = 0) (hR : rm.frames + 1 ≤ R.frames ∧ 8 + (I'.2.2.2.1 + 11) + rm.locals ≤ R.locals) (hRc : R.cells = mc ∧ R.slots = ms) (hd : decode I.1 pc = .ok (.invokevirtual ix, 3))
    (kk : tp_J I R G mc ms out h'.length (tp_dy h') (h'.length - n0) (tp_tot h' - q0) lv (pc + 3) st φ) : tp_J I R G mc ms out h.length (tp_dy h) (h.length - n0) (tp_tot h - q0) lv pc stk (if tp_dt h c = t ∧ tp_dk n0 q0 mc ms h h' 0 0 = true then φ else none) := by
  refine tp_chk (fun hc => ?_)
  obtain ⟨ht, hc⟩ := hc
  simp only [tp_dk, Bool.and_eq_true, decide_eq_true_eq] at hc
  obtain ⟨⟨hc, e1⟩, e2⟩ := hc
  obtain ⟨c1, c2, c3, c4⟩ := tp_dc_of hc
  intro r hr p l e s m args below meth cd hC ls H locs hL hn hs hH hS
  have hstk2 : stk = (.inr (.inr c) :: avs).reverse ++ st := by rw [hstk, List.reverse_cons, List.append_assoc]; rfl
  obtain ⟨h0, xs, h1, h2, h3, h4⟩ := tp_dcell hH ht
  refine tp_after (o := (none, h'.length, tp_dy h')) (mc' := 0) (ms' := 0) (vs := (.inr (.inr c) :: avs).map (tp_enc G)) hstk2 (by
    rw [show h.length - n0 + 0 = h'.length - n0 by omega, show tp_tot h - q0 + 0 = tp_tot h' - q0 by omega]; exact kk) hr hC hL hn hs hS ?_
  have hTs := tp_hts hC
  have hX := hC.2.2.2.2.2.2.2.2.2.2
  cases hr2 : vwCl[t]? with
  | none => rw [hr2] at hcl; cases hcl
  | some rr =>
    rw [hr2] at hcl
    have hname : rr.1 = y.cls := Option.some.inj hcl
    have hrc := va_recv (tp_vaK hC.2.2.2.2.2.2.2.1) (tp_vaP (q := (t, xs)) hr2 h3) (ci := t) (q := rr) (q0 := 0) hr2 rfl
    rw [hname] at hrc
    have hpre : ∀ U : State, U.heap = H → s.WarmedH U.vm → tp_Pc G (.inr (.inr c) :: avs) h.length (tp_dy h) (Value.ref (G.1 + c.toNat) :: avs.map (tp_enc G)).toArray U := fun U hU hW => ⟨by rw [← tp_ref_pos (G := G) h0]; rfl, tp_K.warm hW hC.2.2.2.2.2.2.2.1, by rw [hU]; exact Nat.le_trans hC.2.2.2.2.2.2.2.2.2.1 hS.1, by rw [hU]; exact (hX.kept (fun a h1 h2 => hS.2.1 a h1 h2)).warm hW, by rw [hU]; exact hH, fun v hv => hs v (by rw [hstk2]; exact List.mem_append_left _ (List.mem_reverse.mpr hv))⟩
    have e9 : (.inr (.inr c) :: avs : List tp_V).map (tp_enc G) = Value.ref (G.1 + c.toNat) :: avs.map (tp_enc G) := by rw [List.map_cons, ← tp_ref_pos (G := G) h0]; rfl
    rw [e9]
    exact va_runV (As := avs.map (tp_enc G)) (n := np) (y := y) (C := y.cls) (bytes := I'.1) (maxL := I'.2.2.2.1) (ret := I'.2.2.1) ⟨hC.1, hC.2.1, hC.2.2.1, hC.2.2.2.1, hTs⟩ (hM l) ⟨callB_of np hTs (tp_good y I' hw.1) rfl hrm.1 hrm.2 (hC.2.2.2.2.1 _ hw.2.1 rfl) (hC.2.2.2.2.1 _ hl rfl) hw.2.2 hR, hC.2.2.2.2.1 _ hin rfl, hC.2.2.2.2.1 _ hsel rfl⟩
      ⟨tp_blind, hrc, hpre⟩
      rfl (by rw [List.length_map]; exact hnp) (by show ls.size = _; rw [hL.1, hn]) (by show stk.map _ = _; rw [hstk, List.map_append, List.map_reverse, List.map_cons, ← tp_ref_pos (G := G) h0]; rfl) (lv_room (tp_catsum G st hc4)) hd ⟨by rw [hRc.1]; exact c3, by rw [hRc.2]; exact c4⟩
theorem k_vret {r : ρ} (hd : decode I.1 pc = .ok (.return_, 1)) (hret : I.2.2.1 = none) (ho : out r = (none, h.length, tp_dy h)) : tp_J I R G mc ms out h.length (tp_dy h) (h.length - n0) (tp_tot h - q0) lv pc [] (if tp_de n0 q0 mc ms h = true then some r else none) := by
  refine tp_chk (fun hc => ?_)
  simp only [tp_de, Bool.and_eq_true, decide_eq_true_eq] at hc
  exact j_vret hd hret ho hc
end TPE
