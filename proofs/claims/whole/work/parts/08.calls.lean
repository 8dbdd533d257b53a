def tp_lvs : List tp_V → List (Option tp_V)
  | [] => []
  | .inl a :: l => some (.inl a) :: tp_lvs l
  | .inr (.inl a) :: l => some (.inr (.inl a)) :: none :: tp_lvs l
  | .inr (.inr a) :: l => some (.inr (.inr a)) :: tp_lvs l
def tp_Pc (G : tp_G) (avs : List tp_V) (n : Nat) (g : Nat → tp_C) : Array Value → State → Prop := va_Pc (avs.map (tp_enc G)) (fun U => tp_K G U ∧ G.1 ≤ U.heap.size ∧ tp_X G U U.heap ∧ tp_H G n g U.heap ∧ ∀ v ∈ avs, tp_ok v)
theorem tp_blind {G : tp_G} {avs : List tp_V} {n : Nat} {g : Nat → tp_C} : FrameBlind (tp_Pc G avs n g) := fun a U f mk h => by
  obtain ⟨h1, h2, h3, h4, h5, h6⟩ := h
  exact ⟨h1, tp_K.same (s := U) (U := U.calling f mk a) rfl h2, h3, tp_X.same (s := U) (U := U.calling f mk a) rfl h4, h5, h6⟩
theorem tp_lvs_in {G : tp_G} : ∀ (avs : List tp_V) (b i : Nat) (v : tp_V), (tp_lvs avs)[i]? = some (some v) → (b + i, tp_enc G v) ∈ lv_args b (avs.map (tp_enc G)) ∧ v ∈ avs
  | [], b, i, v, h => by simp [tp_lvs] at h
  | .inl a :: l, b, 0, v, h => by
    simp [tp_lvs] at h; subst h
    exact ⟨List.mem_cons_self, List.mem_cons_self⟩
  | .inr (.inl a) :: l, b, 0, v, h => by
    simp [tp_lvs] at h; subst h
    exact ⟨List.mem_cons_self, List.mem_cons_self⟩
  | .inr (.inr a) :: l, b, 0, v, h => by
    simp [tp_lvs] at h; subst h
    exact ⟨List.mem_cons_self, List.mem_cons_self⟩
  | .inl a :: l, b, i + 1, v, h => by
    have h1 : (tp_lvs l)[i]? = some (some v) := by simpa [tp_lvs] using h
    obtain ⟨h2, h3⟩ := tp_lvs_in l (b + 1) i v h1
    refine ⟨List.mem_cons_of_mem _ ?_, List.mem_cons_of_mem _ h3⟩
    rw [show b + (i + 1) = b + 1 + i by omega]
    exact h2
  | .inr (.inr a) :: l, b, i + 1, v, h => by
    have h1 : (tp_lvs l)[i]? = some (some v) := by simpa [tp_lvs] using h
    obtain ⟨h2, h3⟩ := tp_lvs_in l (b + 1) i v h1
    refine ⟨List.mem_cons_of_mem _ ?_, List.mem_cons_of_mem _ h3⟩
    rw [show b + (i + 1) = b + 1 + i by omega]
    have hc : (tp_enc G (.inr (.inr a))).category = 1 := tp_cat G _
    rw [hc]
    exact h2
  | .inr (.inl a) :: l, b, 1, v, h => by simp [tp_lvs] at h
  | .inr (.inl a) :: l, b, i + 2, v, h => by
    have h1 : (tp_lvs l)[i]? = some (some v) := by simpa [tp_lvs] using h
    obtain ⟨h2, h3⟩ := tp_lvs_in l (b + 2) i v h1
    refine ⟨List.mem_cons_of_mem _ ?_, List.mem_cons_of_mem _ h3⟩
    rw [show b + (i + 2) = b + 2 + i by omega]
    exact h2
theorem tp_sl_cons (v : Value) (vs : List Value) : lg_sl (v :: vs) = (if v.category = 2 then [.val v, .second] else [.val v]) ++ lg_sl vs := by simp [lg_sl]
theorem tp_sl_len {G : tp_G} : ∀ avs : List tp_V, (lg_sl (avs.map (tp_enc G))).length = (tp_lvs avs).length
  | [] => rfl
  | .inl a :: l => by
    rw [List.map_cons, tp_sl_cons, List.length_append, tp_sl_len l, if_neg (by rw [tp_cat]; show ¬ 1 = 2; decide)]
    simp [tp_lvs]; omega
  | .inr (.inl a) :: l => by
    rw [List.map_cons, tp_sl_cons, List.length_append, tp_sl_len l, if_pos (by rw [tp_cat])]
    simp [tp_lvs]; omega
  | .inr (.inr a) :: l => by
    rw [List.map_cons, tp_sl_cons, List.length_append, tp_sl_len l, if_neg (by rw [tp_cat]; show ¬ 1 = 2; decide)]
    simp [tp_lvs]; omega
abbrev tp_ws (y : MethodName) (I : tp_I) : List Cond := Cond.code y I.1 I.2.2.2.1 I.2.2.1 :: tp_T
/-- a contract out of the body's walk -/
theorem tp_met {y : MethodName} {I : tp_I} {R : Room} {G : tp_G} {mc ms : Nat} {ρ : Type} {out : ρ → tp_O} {n : Nat} {g : Nat → tp_C} {avs : List tp_V} {lv : List (Option tp_V)} {φ : Option ρ} {r : ρ} (hy : plainName y.cls = true) (hown : y.cls = I.2.1) (hnm : y.name = I.2.2.2.2)
    (hlv : tp_lvs avs ++ List.replicate (I.2.2.2.1 - (tp_lvs avs).length) none = lv) (hle : (tp_lvs avs).length ≤ I.2.2.2.1) (hJ : tp_J I R G mc ms out n g 0 0 lv 0 [] φ) (hr : φ = some r) (l : Launch) : Met l y (tp_ws y I) R (tp_Pc G avs n g) (tp_Q G (out r)) mc ms (tp_A G) := by
  refine Met.ofW (cc := I.1) (maxL := I.2.2.2.1) (ret := I.2.2.1) hy rfl ?_
  intro p e s m args below meth c s₁ B hml hv
  obtain ⟨rfl, hK, hsz, hX, hH, hok⟩ := hv
  have hts := atoms_spec (ws := tp_ws y I) B.pre
  have hC : tp_Cx I G p s m (avs.map (tp_enc G)).toArray meth c := ⟨B.exec, B.bytes, hml, by rw [← hown]; exact findClass_of_methodNamed B.named, fun w h1 h2 => hts w (List.mem_cons_of_mem _ (List.mem_filter.mpr ⟨h1, h2⟩)), B.returns, B.notSynchronized, hK, by rw [← hnm]; exact (name_of_methodNamed B.named B.method).1, hsz, hX⟩
  have hl := lv_entry (avs.map (tp_enc G)) (n := I.2.2.2.1) (by rw [tp_sl_len]; exact hle)
  rw [lg_entry_eq]
  generalize (lg_sl (avs.map (tp_enc G)) ++ List.replicate (I.2.2.2.1 - (lg_sl (avs.map (tp_enc G))).length) Slot.unset).toArray = ls at hl ⊢
  have hlen : lv.length = I.2.2.2.1 := by rw [← hlv, List.length_append, List.length_replicate]; omega
  refine hJ r hr p l e s m _ below meth c hC ls s.heap [] ⟨by rw [hl.1, hlen], hl.2.1, fun i v hi => ?_⟩ hlen (fun v hv => by cases hv) hH va_S.rf
  have hi2 : (tp_lvs avs)[i]? = some (some v) := by
    rw [← hlv] at hi
    by_cases hlt : i < (tp_lvs avs).length
    · rw [List.getElem?_append_left hlt] at hi; exact hi
    · rw [List.getElem?_append_right (by omega), List.getElem?_replicate] at hi
      split at hi <;> cases hi
  obtain ⟨h1, h2⟩ := tp_lvs_in (G := G) avs 0 i v hi2
  exact ⟨by have := hl.2.2 _ h1; rw [Nat.zero_add] at this; exact this, hok v h2⟩
/-- what a call's entry of the pool says -/
def tp_CS (own : String) (ix : Nat) (y : MethodName) (I : tp_I) (n : Nat) : Prop := Cond.code y I.1 I.2.2.2.1 I.2.2.1 ∈ lw_tbl ∧ Cond.initialized y.cls ∈ lw_tbl ∧ (y.cls ≠ "java/lang/invoke/MethodHandle" ∧ y.cls ≠ "java/lang/invoke/VarHandle" ∧ (parseMethodDescriptor y.desc).map (fun d => d.parameters.length) = some n)
theorem tp_good (y : MethodName) (I : tp_I) (h : Cond.code y I.1 I.2.2.2.1 I.2.2.1 ∈ lw_tbl) : GoodIn tp_T (tp_ws y I) := fun w hw => by
  rcases List.mem_cons.mp hw with rfl | hw
  · exact ⟨List.mem_filter.mpr ⟨h, rfl⟩, good_of_word rfl⟩
  · exact ⟨hw, good_of_word (List.mem_filter.mp hw).2⟩
section TPC
variable {I : tp_I} {R : Room} {G : tp_G} {mc ms : Nat} {ρ : Type} {out : ρ → tp_O} {n : Nat} {g : Nat → tp_C} {k q : Nat} {lv : List (Option tp_V)} {pc : Nat} {st stk : List tp_V} {φ : Option ρ}
theorem j_bind {ρ' : Type} {e : Option ρ'} {ψ : ρ' → Option ρ} (h : ∀ r', e = some r' → tp_J I R G mc ms out n g k q lv pc stk (ψ r')) : tp_J I R G mc ms out n g k q lv pc stk (e.bind ψ) := by
  cases e with
  | none => exact tp_none
  | some r' => exact h r' rfl
variable {y : MethodName} {I' : tp_I} {rm : Room} {o : tp_O} {mc' ms' ix np : Nat} {avs : List tp_V}
theorem tp_catsum (G : tp_G) (st : List tp_V) (h : st.length ≤ 4) : ((st.map (tp_enc G)).map fun v => v.category).sum ≤ 8 := by
  have : ∀ l : List tp_V, ((l.map (tp_enc G)).map fun v => v.category).sum ≤ 2 * l.length := fun l => by
    induction l with
    | nil => simp
    | cons v l ih =>
      have : (tp_enc G v).category ≤ 2 := by rcases lv_cat (tp_enc G v) with h | h <;> omega
      simp only [List.map_cons, List.sum_cons, List.length_cons]
      omega
  have := this st
  omega
/-- behind a call -/
theorem tp_after {vs : List Value} (hstk : stk = avs.reverse ++ st) (kk : tp_J I R G mc ms out o.2.1 o.2.2 (k + mc') (q + ms') lv (pc + 3) (o.1.toList ++ st) φ) {r : ρ} (hr : φ = some r) {p : Program} {l : Launch} {e : Env} {s : State} {m : MethodId} {args : Array Value} {below : List Frame} {meth : Method} {c : Code} (hC : tp_Cx I G p s m args meth c) {ls : Array Slot} {H : Heap} {locs : List Loc} (hL : tp_L G ls lv) (hn : lv.length = I.2.2.2.1) (hs : ∀ v ∈ stk, tp_ok v) (hS : va_S (tp_A G) s.heap H locs)
    (hrun : va_Run p l e R s m args below meth c H locs k q mc' ms' (F0 m pc ls (stk.map (tp_enc G))) (st.map (tp_enc G)) (tp_Q G o vs.toArray) (tp_A G)) : W p l e R s m args below meth c H locs k q (MQ below (tp_Q G (out r)) args s mc ms (tp_A G)) (F0 m pc ls (stk.map (tp_enc G))) := by
  intro T hT X
  obtain ⟨v, st₀, t, T', L, h0, X', hLf, e1, e2, ⟨⟨hv, hok, hH1⟩, hz, hk⟩, step⟩ := hrun T hT X
  cases hv
  rw [h0] at hz hk
  have hS1 : va_S (tp_A G) s.heap T'.heap (locs ++ L) := ⟨Nat.le_trans hS.1 (by rw [e1]; exact hz), fun a h1 h2 => by rw [e1, hk a (Nat.lt_of_lt_of_le h1 hS.1) h2]; exact hS.2.1 a h1 h2, fun x hx => by
    rcases List.mem_append.mp hx with h | h
    · exact hS.2.2 x h
    · exact hLf x h⟩
  have w := kk r hr p l e s m args below meth c hC ls T'.heap (locs ++ L) hL hn (fun v hv => by
    rcases List.mem_append.mp hv with h | h
    · cases ho : o.1 with
      | none => rw [ho] at h; cases h
      | some x => rw [ho] at h; rcases List.mem_singleton.mp h with rfl; exact hok _ ho
    · exact hs v (by rw [hstk]; exact List.mem_append_right _ h)) (by rw [e1]; exact hH1) hS1
  have e3 : (o.1.toList ++ st).map (tp_enc G) = (o.1.map (tp_enc G)).toList ++ st.map (tp_enc G) := by cases o.1 <;> rfl
  rw [e3] at w
  obtain ⟨t2, a1, b1⟩ := w T' rfl X'
  exact ⟨t2, step t2 a1, b1⟩
theorem j_callS (hM : ∀ l, Met l y (tp_ws y I') rm (tp_Pc G avs n g) (tp_Q G o) mc' ms' (tp_A G)) (hw : tp_CS I.2.1 ix y I' np) (hl : Cond.methodLink I.2.1 ix y ∈ lw_tbl) (hst : Cond.static y ∈ lw_tbl) (hnp : avs.length = np) (hstk : stk = avs.reverse ++ st) (hc4 : st.length ≤ 4) (hrm : rm.cells = mc' ∧ rm.slots = ms') (hR : rm.frames + 1 ≤ R.frames ∧ 8 + (I'.2.2.2.1 + 11) + rm.locals ≤ R.locals) (hf : k + mc' ≤ R.cells ∧ q + ms' ≤ R.slots) (hd : decode I.1 pc = .ok (.invokestatic ix, 3))
    (kk : tp_J I R G mc ms out o.2.1 o.2.2 (k + mc') (q + ms') lv (pc + 3) (o.1.toList ++ st) φ) : tp_J I R G mc ms out n g k q lv pc stk φ := by
  intro r hr p l e s m args below meth c hC ls H locs hL hn hs hH hS
  refine tp_after (vs := avs.map (tp_enc G)) hstk kk hr hC hL hn hs hS ?_
  have ht := tp_hts hC
  exact va_runS (As := avs.map (tp_enc G)) (n := np) (y := y) (bytes := I'.1) (maxL := I'.2.2.2.1) (ret := I'.2.2.1) ⟨hC.1, hC.2.1, hC.2.2.1, hC.2.2.2.1, ht⟩ (hM l) ⟨callB_of np ht (tp_good y I' hw.1) rfl hrm.1 hrm.2 (hC.2.2.2.2.1 _ hw.2.1 rfl) (hC.2.2.2.2.1 _ hl rfl) hw.2.2 hR, hC.2.2.2.2.1 _ hst rfl⟩
    ⟨tp_blind, fun U hU hW => ⟨rfl, tp_K.warm hW hC.2.2.2.2.2.2.2.1, by rw [hU]; exact Nat.le_trans hC.2.2.2.2.2.2.2.2.2.1 hS.1, by rw [hU]; exact (hC.2.2.2.2.2.2.2.2.2.2.kept (fun a h1 h2 => hS.2.1 a h1 h2)).warm hW, by rw [hU]; exact hH, fun v hv => hs v (by rw [hstk]; exact List.mem_append_left _ (List.mem_reverse.mpr hv))⟩⟩
    rfl (by rw [List.length_map]; exact hnp) (by show ls.size = _; rw [hL.1, hn]) (by show stk.map _ = _; rw [hstk, List.map_append, List.map_reverse]) (lv_room (tp_catsum G st hc4)) hd hf
theorem j_callSN {host : String} (hM : ∀ l, Met l y (tp_ws y I') rm (tp_Pc G avs n g) (tp_Q G o) mc' ms' (tp_A G)) (hw : tp_CS I.2.1 ix y I' np) (hl : Cond.methodLinkNest I.2.1 ix y host ∈ tp_nest) (hst : Cond.static y ∈ lw_tbl) (hnp : avs.length = np) (hstk : stk = avs.reverse ++ st) (hc4 : st.length ≤ 4) (hrm : rm.cells = mc' ∧ rm.slots = ms') (hR : rm.frames + 1 ≤ R.frames ∧ 8 + (I'.2.2.2.1 + 11) + rm.locals ≤ R.locals) (hf : k + mc' ≤ R.cells ∧ q + ms' ≤ R.slots) (hd : decode I.1 pc = .ok (.invokestatic ix, 3))
    (kk : tp_J I R G mc ms out o.2.1 o.2.2 (k + mc') (q + ms') lv (pc + 3) (o.1.toList ++ st) φ) : tp_J I R G mc ms out n g k q lv pc stk φ := by
  intro r hr p l e s m args below meth c hC ls H locs hL hn hs hH hS
  refine tp_after (vs := avs.map (tp_enc G)) hstk kk hr hC hL hn hs hS ?_
  have ht := tp_hts hC
  exact va_runSN (As := avs.map (tp_enc G)) (n := np) (y := y) (bytes := I'.1) (maxL := I'.2.2.2.1) (ret := I'.2.2.1) (host := host) ⟨hC.1, hC.2.1, hC.2.2.1, hC.2.2.2.1, ht⟩ (hM l) ⟨va_cnB np ht (tp_good y I' hw.1) rfl hrm.1 hrm.2 (hC.2.2.2.2.2.2.2.1.2.2.1 _ hl) (hC.2.2.2.2.1 _ hw.2.1 rfl) hw.2.2 hR, hC.2.2.2.2.1 _ hst rfl, trivial⟩
    ⟨tp_blind, fun U hU hW => ⟨rfl, tp_K.warm hW hC.2.2.2.2.2.2.2.1, by rw [hU]; exact Nat.le_trans hC.2.2.2.2.2.2.2.2.2.1 hS.1, by rw [hU]; exact (hC.2.2.2.2.2.2.2.2.2.2.kept (fun a h1 h2 => hS.2.1 a h1 h2)).warm hW, by rw [hU]; exact hH, fun v hv => hs v (by rw [hstk]; exact List.mem_append_left _ (List.mem_reverse.mpr hv))⟩⟩
    rfl (by rw [List.length_map]; exact hnp) (by show ls.size = _; rw [hL.1, hn]) (by show stk.map _ = _; rw [hstk, List.map_append, List.map_reverse]) (lv_room (tp_catsum G st hc4)) hd hf
theorem j_callV {M : tp_M} {c : Int} {t : Nat} (hM : ∀ l, Met l y (tp_ws y I') rm (tp_Pc G (.inr (.inr c) :: avs) tp_NC (tp_st M)) (tp_Q G o) mc' ms' (tp_A G)) (hw : tp_CS I.2.1 ix y I' np) (hl : Cond.methodLink I.2.1 ix y ∈ lw_tbl) (hin : Cond.instanceMethod y ∈ lw_tbl) (hsel : Cond.selects y.cls y y ∈ lw_tbl) (ht : tp_tg c = t) (hcl : (vwCl[t]?).map (fun r => r.1) = some y.cls) (hnp : avs.length = np) (hstk : stk = avs.reverse ++ .inr (.inr c) :: st) (hc4 : st.length ≤ 4) (hrm : rm.cells = mc' ∧ rm.slots = ms') (hR : rm.frames + 1 ≤ R.frames ∧ 8 + (I'.2.2.2.1 + 11) + rm.locals ≤ R.locals) (hf : k + mc' ≤ R.cells ∧ q + ms' ≤ R.slots) (hd : decode I.1 pc = .ok (.invokevirtual ix, 3))
    (kk : tp_J I R G mc ms out o.2.1 o.2.2 (k + mc') (q + ms') lv (pc + 3) (o.1.toList ++ st) φ) : tp_J I R G mc ms out tp_NC (tp_st M) k q lv pc stk φ := by
  intro r hr p l e s m args below meth cd hC ls H locs hL hn hs hH hS
  have hstk2 : stk = (.inr (.inr c) :: avs).reverse ++ st := by rw [hstk, List.reverse_cons, List.append_assoc]; rfl
  refine tp_after (vs := (.inr (.inr c) :: avs).map (tp_enc G)) hstk2 kk hr hC hL hn hs hS ?_
  obtain ⟨h0, xs, h1, h2, h3, h4⟩ := tp_cellat hH ht
  have hTs := tp_hts hC
  cases hr2 : vwCl[t]? with
  | none => rw [hr2] at hcl; cases hcl
  | some rr =>
    rw [hr2] at hcl
    have hname : rr.1 = y.cls := Option.some.inj hcl
    have htag := tp_st_tag (M := M) h1
    have hrc := va_recv (tp_vaK hC.2.2.2.2.2.2.2.1) (tp_vaP (by rw [htag]; exact hr2) h3) (ci := (tp_st M c.toNat).1) (q := rr) (q0 := 0) (by rw [htag]; exact hr2) rfl
    rw [hname] at hrc
    have hpre : ∀ U : State, U.heap = H → s.WarmedH U.vm → tp_Pc G (.inr (.inr c) :: avs) tp_NC (tp_st M) (Value.ref (G.1 + c.toNat) :: avs.map (tp_enc G)).toArray U := fun U hU hW => ⟨by rw [← tp_ref_pos (G := G) h0]; rfl, tp_K.warm hW hC.2.2.2.2.2.2.2.1, by rw [hU]; exact Nat.le_trans hC.2.2.2.2.2.2.2.2.2.1 hS.1, by rw [hU]; exact (hC.2.2.2.2.2.2.2.2.2.2.kept (fun a h1 h2 => hS.2.1 a h1 h2)).warm hW, by rw [hU]; exact hH, fun v hv => hs v (by rw [hstk2]; exact List.mem_append_left _ (List.mem_reverse.mpr hv))⟩
    have e9 : (.inr (.inr c) :: avs : List tp_V).map (tp_enc G) = Value.ref (G.1 + c.toNat) :: avs.map (tp_enc G) := by rw [List.map_cons, ← tp_ref_pos (G := G) h0]; rfl
    rw [e9]
    exact va_runV (As := avs.map (tp_enc G)) (n := np) (y := y) (C := y.cls) (bytes := I'.1) (maxL := I'.2.2.2.1) (ret := I'.2.2.1) ⟨hC.1, hC.2.1, hC.2.2.1, hC.2.2.2.1, hTs⟩ (hM l) ⟨callB_of np hTs (tp_good y I' hw.1) rfl hrm.1 hrm.2 (hC.2.2.2.2.1 _ hw.2.1 rfl) (hC.2.2.2.2.1 _ hl rfl) hw.2.2 hR, hC.2.2.2.2.1 _ hin rfl, hC.2.2.2.2.1 _ hsel rfl⟩
      ⟨tp_blind, hrc, hpre⟩
      rfl (by rw [List.length_map]; exact hnp) (by show ls.size = _; rw [hL.1, hn]) (by show stk.map _ = _; rw [hstk, List.map_append, List.map_reverse, List.map_cons, ← tp_ref_pos (G := G) h0]; rfl) (lv_room (tp_catsum G st hc4)) hd hf
end TPC
