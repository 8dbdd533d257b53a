theorem tp_refx (G : tp_G) (e : Nat) {r : Int} (h : r = -2 - (e : Int)) : tp_ref G r = .ref (G.2.1 e) := by
  subst h
  unfold tp_ref
  rw [if_neg (by omega), if_neg (by omega), show (-2 - (-2 - (e : Int))).toNat = e by omega]
section TPX
variable {I : tp_I} {R : Room} {G : tp_G} {mc ms : Nat} {ρ : Type} {out : ρ → tp_O} {n : Nat} {g : Nat → tp_C} {k q : Nat} {lv : List (Option tp_V)} {pc : Nat} {st : List tp_V} {φ : Option ρ}
theorem j_gstN {C nm ds host : String} {ix : Nat} {v : tp_V} (hZ : ∀ s : State, tp_X G s s.heap → va_Z C nm ds (tp_enc G v) (tp_A G) s s.heap) (hv : tp_ok v) (hl : Cond.fieldLinkNest I.2.1 ix C nm ds host ∈ tp_nest) (hd : decode I.1 pc = .ok (.getstatic ix, 3)) (kk : tp_J I R G mc ms out n g k q lv (pc + 3) (v :: st) φ) : tp_J I R G mc ms out n g k q lv pc st φ := by
  intro r hr p l e s m args below meth c hC ls H locs hL hn hs hH hS
  have hX := hC.2.2.2.2.2.2.2.2.2.2
  exact va_getsN hC.1 hC.2.1 (hZ s hX) hS hC.2.2.2.1 (va_Nw.use rfl (hC.2.2.2.2.2.2.2.1.2.2.1 _ hl)) (fun _ h => h) hd (kk r hr p l e s m args below meth c hC ls H locs hL hn (tp_oks hv hs) hH hS)
theorem j_gst {C nm ds : String} {ix : Nat} {v : tp_V} (hZ : ∀ s : State, tp_X G s s.heap → va_Z C nm ds (tp_enc G v) (tp_A G) s s.heap) (hv : tp_ok v) (hl : Cond.fieldLink I.2.1 ix C nm ds ∈ lw_tbl) (hd : decode I.1 pc = .ok (.getstatic ix, 3)) (kk : tp_J I R G mc ms out n g k q lv (pc + 3) (v :: st) φ) : tp_J I R G mc ms out n g k q lv pc st φ := by
  intro r hr p l e s m args below meth c hC ls H locs hL hn hs hH hS
  have hX := hC.2.2.2.2.2.2.2.2.2.2
  exact va_gets hC.1 hC.2.1 (hZ s hX) hS hC.2.2.2.1 (hC.2.2.2.2.1 _ hl rfl) (fun _ h => h) hd (kk r hr p l e s m args below meth c hC ls H locs hL hn (tp_oks hv hs) hH hS)
theorem j_xlen {e N : Nat} {x : Int} {ty : FieldType} {f : Nat → Value} (hT : ∀ s : State, tp_X G s s.heap → va_T ty (G.2.1 e) N f (tp_A G) s s.heap) (hx : x = -2 - (e : Int)) (hN : N < 2 ^ 31) (hd : decode I.1 pc = .ok (.arraylength, 1)) (kk : tp_J I R G mc ms out n g k q lv (pc + 1) (.inl (N : Int) :: st) φ) : tp_J I R G mc ms out n g k q lv pc (.inr (.inr x) :: st) φ := by
  intro r hr p l e' s m args below meth c hC ls H locs hL hn hs hH hS
  have hX := hC.2.2.2.2.2.2.2.2.2.2
  have hNr : tp_r (N : Int) := by unfold tp_r; omega
  have w := kk r hr p l e' s m args below meth c hC ls H locs hL hn (tp_oks (tp_okI hNr) (tp_okt hs)) hH hS
  show W p l e' R s m args below meth c H locs k q _ (F0 m pc ls (tp_ref G x :: st.map (tp_enc G)))
  rw [tp_refx G e hx]
  refine va_tlen hC.1 hC.2.1 (hT s hX) hS (v := Int32.ofInt (N : Int)) ?_ hd w
  apply Int32.toInt_inj.mp
  rw [tp_i_rt hNr, show Int32.ofNat N = nI N from rfl, nI_toInt hN]
theorem j_xiald {e N : Nat} {x i : Int} {xs : List Int} (hT : ∀ s : State, tp_X G s s.heap → va_T .int (G.2.1 e) N (fun j => .int (Int32.ofInt (xs.getD j 0))) (tp_A G) s s.heap) (hx : x = -2 - (e : Int)) (hr0 : ∀ j, tp_r (xs.getD j 0)) (hd : decode I.1 pc = .ok (.iaload, 1)) (kk : tp_J I R G mc ms out n g k q lv (pc + 1) (.inl (xs.getD i.toNat 0) :: st) φ) : tp_J I R G mc ms out n g k q lv pc (.inl i :: .inr (.inr x) :: st) (if 0 ≤ i ∧ i < (N : Int) then φ else none) := by
  refine tp_chk (fun hi => ?_)
  intro r hr p l e' s m args below meth c hC ls H locs hL hn hs hH hS
  have hX := hC.2.2.2.2.2.2.2.2.2.2
  have hri := tp_unI (tp_ok1 hs)
  have hcl := tp_clamp hri hi.1
  have w := kk r hr p l e' s m args below meth c hC ls H locs hL hn (tp_oks (tp_okI (hr0 _)) (tp_okt (tp_okt hs))) hH hS
  show W p l e' R s m args below meth c H locs k q _ (F0 m pc ls (.int (Int32.ofInt i) :: tp_ref G x :: st.map (tp_enc G)))
  rw [tp_refx G e hx]
  refine va_ti hC.1 hC.2.1 (hT s hX) hS (fun z => ?_) (v := .int (Int32.ofInt (xs.getD i.toNat 0))) (by rw [hcl]) hd w
  rcases z with z | z
  · exact tp_pos hri hi.1 z
  · omega
theorem j_xbald {e N : Nat} {x i : Int} {xs : List Int} (hT : ∀ s : State, tp_X G s s.heap → va_T .byte (G.2.1 e) N (fun j => .int (Int32.ofInt (xs.getD j 0))) (tp_A G) s s.heap) (hx : x = -2 - (e : Int)) (hr0 : ∀ j, tp_r (xs.getD j 0)) (hi : 0 ≤ i ∧ i < (N : Int)) (hd : decode I.1 pc = .ok (.baload, 1)) (kk : tp_J I R G mc ms out n g k q lv (pc + 1) (.inl (xs.getD i.toNat 0) :: st) φ) : tp_J I R G mc ms out n g k q lv pc (.inl i :: .inr (.inr x) :: st) φ := by
  intro r hr p l e' s m args below meth c hC ls H locs hL hn hs hH hS
  have hX := hC.2.2.2.2.2.2.2.2.2.2
  have hri := tp_unI (tp_ok1 hs)
  have hcl := tp_clamp hri hi.1
  have w := kk r hr p l e' s m args below meth c hC ls H locs hL hn (tp_oks (tp_okI (hr0 _)) (tp_okt (tp_okt hs))) hH hS
  show W p l e' R s m args below meth c H locs k q _ (F0 m pc ls (.int (Int32.ofInt i) :: tp_ref G x :: st.map (tp_enc G)))
  rw [tp_refx G e hx]
  refine va_tb hC.1 hC.2.1 (hT s hX) hS (fun z => ?_) (v := .int (Int32.ofInt (xs.getD i.toNat 0))) (by rw [hcl]) hd w
  rcases z with z | z
  · exact tp_pos hri hi.1 z
  · omega
theorem j_xget {o nm ds : String} {ix e : Nat} {x : Int} {v : tp_V} (hE : ∀ s : State, tp_X G s s.heap → va_OF o nm ds (tp_enc G v) (G.2.1 e) (tp_A G) s s.heap) (hx : x = -2 - (e : Int)) (hv : tp_ok v) (hl : Cond.fieldLink I.2.1 ix o nm ds ∈ lw_tbl) (hd : decode I.1 pc = .ok (.getfield ix, 3)) (kk : tp_J I R G mc ms out n g k q lv (pc + 3) (v :: st) φ) : tp_J I R G mc ms out n g k q lv pc (.inr (.inr x) :: st) φ := by
  intro r hr p l e' s m args below meth c hC ls H locs hL hn hs hH hS
  have hX := hC.2.2.2.2.2.2.2.2.2.2
  show W p l e' R s m args below meth c H locs k q _ (F0 m pc ls (tp_ref G x :: st.map (tp_enc G)))
  rw [tp_refx G e hx]
  exact vk_getf hC.1 hC.2.1 (hE s hX) hS hC.2.2.2.1 (hC.2.2.2.2.1 _ hl rfl) (fun _ h => h) hd (kk r hr p l e' s m args below meth c hC ls H locs hL hn (tp_oks hv (tp_okt hs)) hH hS)
theorem j_ldcS {ix i : Nat} (hi : i < 9) (hix : tp_txk.getD i 0 = ix) (hown : I.2.1 = "TypesAtPrime") (hd : decode I.1 pc = .ok (.ldc_w ix, 3)) (kk : tp_J I R G mc ms out n g k q lv (pc + 3) (.inr (.inr (-4 - (i : Int))) :: st) φ) : tp_J I R G mc ms out n g k q lv pc st φ := by
  intro r hr p l e s m args below meth c hC ls H locs hL hn hs hH hS
  have hX := hC.2.2.2.2.2.2.2.2.2.2
  have hZ := hX.2.2.2.2.2.1 i hi
  rw [hix] at hZ
  have w := kk r hr p l e s m args below meth c hC ls H locs hL hn (tp_oks tp_okR hs) hH hS
  have w : W p l e R s m args below meth c H locs k q (MQ below (tp_Q G (out r)) args s mc ms (tp_A G)) (F0 m (pc + 3) ls (tp_ref G (-4 - (i : Int)) :: st.map (tp_enc G))) := w
  rw [tp_refx G (2 + i) (by omega)] at w
  have hown2 : s.vm.findClass "TypesAtPrime" = some m.cls := by rw [← hown]; exact hC.2.2.2.1
  intro T hT X
  obtain ⟨t, a1, b1⟩ := w T hT X
  refine ⟨t, ?_, b1⟩
  obtain ⟨kc, cf, i', a', hk, hcf, hcp, -, hr2, hev'⟩ := Cond.stringRef_spec hown2 hZ.1
  cases hZ.2.symm.trans hev'
  obtain ⟨k', hk', he⟩ := X.warmed.alike.2.2 _ _ hk
  have hr' : k'.resolved[ix]? = some (some (.string (G.2.1 (2 + i)))) := by
    rcases X.warmed.entry hk hk' ix with h | ⟨h, -⟩
    · rw [h]; exact hr2
    · rw [hr2] at h; cases h
  have hdg : decode c.code pc = .ok (.ldc_w ix, 3) := by rw [hC.2.1]; exact hd
  have hexec := hC.1
  jvm_step X.here [hexec, hdg, ldc_w.wp_string (e := e) (s := T) (f := F0 m pc ls (st.map (tp_enc G))) X.here.top hk' (by rw [he]; exact hcf) hcp hr']
  exact a1
theorem j_callX {y : MethodName} {I' : tp_I} {rm : Room} {o : tp_O} {mc' ms' ix np i : Nat} {avs : List tp_V} {x : Int} {stk : List tp_V} (hi : i < 9) (hx : x = -4 - (i : Int)) (hM : ∀ l, Met l y (tp_ws y I') rm (tp_Pc G (.inr (.inr x) :: avs) n g) (tp_Q G o) mc' ms' (tp_A G)) (hcls : y.cls = "java/lang/String") (hw : tp_CS I.2.1 ix y I' np) (hl : Cond.methodLink I.2.1 ix y ∈ lw_tbl) (hin : Cond.instanceMethod y ∈ lw_tbl) (hsel : Cond.selects y.cls y y ∈ lw_tbl) (hnp : avs.length = np) (hstk : stk = avs.reverse ++ .inr (.inr x) :: st) (hc4 : st.length ≤ 4) (hrm : rm.cells = mc' ∧ rm.slots = ms') (hR : rm.frames + 1 ≤ R.frames ∧ 8 + (I'.2.2.2.1 + 11) + rm.locals ≤ R.locals) (hf : k + mc' ≤ R.cells ∧ q + ms' ≤ R.slots) (hd : decode I.1 pc = .ok (.invokevirtual ix, 3))
    (kk : tp_J I R G mc ms out o.2.1 o.2.2 (k + mc') (q + ms') lv (pc + 3) (o.1.toList ++ st) φ) : tp_J I R G mc ms out n g k q lv pc stk φ := by
  intro r hr p l e s m args below meth cd hC ls H locs hL hn hs hH hS
  have hstk2 : stk = (.inr (.inr x) :: avs).reverse ++ st := by rw [hstk, List.reverse_cons, List.append_assoc]; rfl
  refine tp_after (vs := (.inr (.inr x) :: avs).map (tp_enc G)) hstk2 kk hr hC hL hn hs hS ?_
  have hTs := tp_hts hC
  have hX := hC.2.2.2.2.2.2.2.2.2.2
  have hrc := vk_recv hX.2.2.1 hi hS
  rw [← hcls] at hrc
  have hxr : tp_ref G x = .ref (G.2.1 (2 + i)) := tp_refx G (2 + i) (by omega)
  have hpre : ∀ U : State, U.heap = H → s.WarmedH U.vm → tp_Pc G (.inr (.inr x) :: avs) n g (Value.ref (G.2.1 (2 + i)) :: avs.map (tp_enc G)).toArray U := fun U hU hW => ⟨by rw [← hxr]; rfl, tp_K.warm hW hC.2.2.2.2.2.2.2.1, by rw [hU]; exact Nat.le_trans hC.2.2.2.2.2.2.2.2.2.1 hS.1, by rw [hU]; exact (hX.kept (fun a h1 h2 => hS.2.1 a h1 h2)).warm hW, by rw [hU]; exact hH, fun v hv => hs v (by rw [hstk2]; exact List.mem_append_left _ (List.mem_reverse.mpr hv))⟩
  have e9 : (.inr (.inr x) :: avs : List tp_V).map (tp_enc G) = Value.ref (G.2.1 (2 + i)) :: avs.map (tp_enc G) := by rw [List.map_cons, ← hxr]; rfl
  rw [e9]
  exact va_runV (As := avs.map (tp_enc G)) (n := np) (y := y) (C := y.cls) (bytes := I'.1) (maxL := I'.2.2.2.1) (ret := I'.2.2.1) ⟨hC.1, hC.2.1, hC.2.2.1, hC.2.2.2.1, hTs⟩ (hM l) ⟨callB_of np hTs (tp_good y I' hw.1) rfl hrm.1 hrm.2 (hC.2.2.2.2.1 _ hw.2.1 rfl) (hC.2.2.2.2.1 _ hl rfl) hw.2.2 hR, hC.2.2.2.2.1 _ hin rfl, hC.2.2.2.2.1 _ hsel rfl⟩
    ⟨tp_blind, hrc, hpre⟩
    rfl (by rw [List.length_map]; exact hnp) (by show ls.size = _; rw [hL.1, hn]) (by show stk.map _ = _; rw [hstk, List.map_append, List.map_reverse, List.map_cons, ← hxr]; rfl) (lv_room (tp_catsum G st hc4)) hd hf
theorem j_nret {x : Int} {r : ρ} {ty : FieldType} (hd : decode I.1 pc = .ok (.ireturn, 1)) (hret : I.2.2.1 = some ty) (hx : narrow ty (.int (Int32.ofInt x)) = .int (Int32.ofInt x)) (ho : out r = (some (.inl x), n, g)) (hk : mc = k ∧ ms = q) : tp_J I R G mc ms out n g k q lv pc [.inl x] (some r) := by
  intro r' hr p l e s m args below meth c hC ls H locs hL hn hs hH hS
  cases hr
  have hq : ∀ t : State, t.heap = H → s.WarmedH t.vm → tp_Q G (out r) args s (.returned (some (.int (Int32.ofInt x)))) t := fun t ht hW => by
    rw [ho]
    exact ⟨⟨rfl, fun v hv => (by cases hv; exact tp_ok1 hs), by rw [ht]; exact hH⟩, hS.F ht⟩
  cases hk.1
  cases hk.2
  exact W.zret hC.1 hC.2.1 (by rw [hC.2.2.2.2.2.1, hret]) hx hq hS.2.2 hd hC.2.2.2.2.2.2.1
theorem j_sld {i x : Int} (hx : x = -302) (hd : decode I.1 pc = .ok (.iaload, 1)) (kk : tp_J I R G mc ms out n g k q lv (pc + 1) (.inl (Int32.ofNat (G.2.1 (302 + i.toNat))).toInt :: st) φ) : tp_J I R G mc ms out n g k q lv pc (.inl i :: .inr (.inr x) :: st) (if 0 ≤ i ∧ i < (G.2.1 301 : Int) then φ else none) := by
  refine tp_chk (fun hi => ?_)
  intro r hr p l e' s m args below meth c hC ls H locs hL hn hs hH hS
  have hX := hC.2.2.2.2.2.2.2.2.2.2.2.2.2.2.2.2
  have hri := tp_unI (tp_ok1 hs)
  have hcl := tp_clamp hri hi.1
  have hb : G.2.1 300 < s.heap.size := by
    obtain ⟨c0, hc0, -⟩ := hX.1
    exact (Array.getElem?_eq_some_iff.mp hc0).1
  have w := kk r hr p l e' s m args below meth c hC ls H locs hL hn (tp_oks (tp_okI (tp_rt _)) (tp_okt (tp_okt hs))) hH hS
  have w : W p l e' R s m args below meth c H locs k q (MQ below (tp_Q G (out r)) args s mc ms (tp_A G)) (F0 m (pc + 1) ls (.int (Int32.ofInt (Int32.ofNat (G.2.1 (302 + i.toNat))).toInt) :: st.map (tp_enc G))) := w
  rw [Int32.ofInt_toInt] at w
  show W p l e' R s m args below meth c H locs k q _ (F0 m pc ls (.int (Int32.ofInt i) :: tp_ref G x :: st.map (tp_enc G)))
  rw [tp_refx G 300 (by omega)]
  refine va_sld hC.1 hC.2.1 hX.1 hb hX.2 hS (fun z => ?_) hd (by rw [hcl]; exact w)
  rcases z with z | z
  · exact tp_pos hri hi.1 z
  · omega
theorem j_slen {x : Int} (hx : x = -302) (hL0 : G.2.1 301 ≤ 3072) (hd : decode I.1 pc = .ok (.arraylength, 1)) (kk : tp_J I R G mc ms out n g k q lv (pc + 1) (.inl (G.2.1 301 : Int) :: st) φ) : tp_J I R G mc ms out n g k q lv pc (.inr (.inr x) :: st) φ := by
  intro r hr p l e' s m args below meth c hC ls H locs hL hn hs hH hS
  have hX := hC.2.2.2.2.2.2.2.2.2.2.2.2.2.2.2.2
  have hb : G.2.1 300 < s.heap.size := by
    obtain ⟨c0, hc0, -⟩ := hX.1
    exact (Array.getElem?_eq_some_iff.mp hc0).1
  have hNr : tp_r (G.2.1 301 : Int) := by unfold tp_r; omega
  have w := kk r hr p l e' s m args below meth c hC ls H locs hL hn (tp_oks (tp_okI hNr) (tp_okt hs)) hH hS
  have w : W p l e' R s m args below meth c H locs k q (MQ below (tp_Q G (out r)) args s mc ms (tp_A G)) (F0 m (pc + 1) ls (.int (Int32.ofInt (G.2.1 301 : Int)) :: st.map (tp_enc G))) := w
  have e9 : Int32.ofInt (G.2.1 301 : Int) = Int32.ofNat (G.2.1 301) := by
    apply Int32.toInt_inj.mp
    rw [tp_i_rt hNr, show Int32.ofNat (G.2.1 301) = nI (G.2.1 301) from rfl, nI_toInt (by omega)]
  rw [e9] at w
  show W p l e' R s m args below meth c H locs k q _ (F0 m pc ls (tp_ref G x :: st.map (tp_enc G)))
  rw [tp_refx G 300 (by omega)]
  exact va_slen hC.1 hC.2.1 hX.1 hb hX.2 hS hd w
end TPX
