/-! THE CLAIM OUT OF ONE WALK OF THE LAW'S BODY. Your part is whole_start (and what it stands on); all else here is the same for every law, but numbers. -/
def R_law : String := "TypesAtPrimeLaw"
def lw_P (b : Addr) (xs : List Int32) (args : Array Value) (s : State) : Prop := args = #[.ref b] ∧ s.IntsAt b xs ∧ xs.length ≤ 3072 ∧ (Jvm.Cond.and given_1 narrow_1).before args s = true
def lw_Q (_ : Array Value) (s : State) (o : Outcome) (t : State) : Prop := o = .returned (some (.int 1)) ∧ Framed s o t [] 600000 7302250
def lw_Z (below : List Frame) (a : Array Value) (s : State) : State → Prop := fun t => ∃ o, t.status = .running ∧ Ended t below o ∧ lw_Q a s o t
/-- the law's own end, with 1 on the stack, nothing written that was there before, its room as the claim has it -/
theorem lw_ret {p : Program} {l : Launch} {e : Env} {s : State} {m : MethodId} {below : List Frame} {meth : Method} {c : Code} {b : Nat} (hx : p.tables.exec = Jvm.exec) (hb : c.code = code) (hr : meth.sig.returnType = ret) (hlocks : meth.locks = false) {pc : Nat} {H : Heap} {ls : Array Slot} (hdg : decode code pc = .ok (.ireturn, 1)) : W p l e room_1 s m #[Value.ref b] below meth c H [] 600000 7302250 (lw_Z below #[Value.ref b] s) (F0 m pc ls [.int 1]) := by
  intro T hT X
  obtain ⟨fs, hret, hrun, hended, hW, hframe⟩ := X.leave (v := some (.int 1)) (hlocks := hlocks) (fun h => by rw [hr] at h; cases h)
  have hmeth' : T.vm.method? m = some meth := X.method'
  refine ⟨T.setFrames fs, ?_, .returned (some (.int 1)), hrun, hended, rfl, ⟨_, rfl⟩, hW, hframe⟩
  jvm_step X.here [X.here.top, hx, hb, hdg, hmeth', hr, ret, narrow_b1]
  (try refine ⟨rfl, ?_⟩); (try refine ⟨rfl, ?_⟩)
  first | (intro acts; rw [hret _ acts rfl rfl rfl]) | rw [hret _ _ rfl rfl rfl]
  exact Steps.refl _
/-- what holds at the law's entry: the machine, the code, the tables' words (any of lw_tbl by 'hts w (by decide +kernel)'), the script of L ints xs at the cell b, what the Statement gives of the start (any of its parts by flat_of_before) -/
def lw_At (p : Program) (s : State) (m : MethodId) (meth : Method) (c : Code) (b L : Nat) (xs : Nat → Int32) : Prop :=
  p.tables.exec = Jvm.exec ∧ c.code = code ∧ meth.sig.returnType = ret ∧ c.maxLocals = 4 ∧ s.vm.findClass R_law = some m.cls ∧ (∀ w ∈ lw_tbl, w.before #[Value.ref b] s = true) ∧ va_X b L xs s s.heap ∧ b < s.heap.size ∧ meth.locks = false ∧ (Jvm.Cond.and given_1 narrow_1).before #[Value.ref b] s = true ∧ meth.name = "law"
-- ===== YOUR PART BEGINS =====
theorem tp_bits (x : Int32) : Int32.ofNat x.toBitVec.toNat = x := by
  apply Int32.toBitVec_inj.mp
  apply BitVec.eq_of_toNat_eq
  exact pk_tn x.toBitVec.isLt
theorem tp_inst : ∀ r ∈ vwCl, Cond.instantiable r.1 r.2.2 ∈ lw_tbl := by decide +kernel
theorem tp_ats_inj : ∀ a ∈ tp_ats, ∀ b ∈ tp_ats, a.1 = b.1 → a.2 = b.2 := by decide +kernel
theorem tp_over_in : ∀ t ∈ tp_over, Cond.arrayOver t ∈ lw_tbl := by decide +kernel
theorem tp_nest_tab : tp_nest.all (fun w => w.onTables) = true := by decide +kernel
def tp_atom : FieldType → Cond
  | .array t => .arrayOver (.array t)
  | .object C => .arrayOver (.object C)
  | t => .arrayClass t
theorem tp_ats_in : ∀ q ∈ tp_ats, tp_atom q.2 ∈ lw_tbl := by decide +kernel
theorem tp_atc {args : Array Value} {s : State} (ty : FieldType) (h : (tp_atom ty).before args s = true) : ∃ cA, ArrOfT s cA ty ∧ va_RA s cA ty := by
  cases ty with
  | object C =>
    obtain ⟨comp, c, k, h1, -, h3, h4, h5⟩ := Cond.arrayOver_spec (show (Cond.arrayOver (.object C)).before args s = true from h)
    exact ⟨c, fun n z => ⟨fun k h => (by cases h), k, h3, comp, h4⟩, k, comp, h3, h4, h1, h5⟩
  | array t =>
    obtain ⟨comp, c, k, h1, h3, h4, h5⟩ := Cond.arrayOver_specA (show (Cond.arrayOver (.array t)).before args s = true from h)
    exact ⟨c, fun n z => ⟨fun k h => (by cases h), k, h3, comp, h4⟩, h5⟩
  | _ =>
    obtain ⟨c, k, comp, h1, h3, h4⟩ := Cond.arrayClass_spec h
    exact ⟨c, fun n z => ⟨fun k h => (by cases h), k, h3, comp, h4⟩, h1⟩
def tp_tm (i : Nat) : Term := .string "TypesAtPrime" (tp_txk.getD i 0)
abbrev tp_flC : List Cond := flatC (Jvm.Cond.and given_1 narrow_1)
theorem tp_s1 : ∀ i, i < 9 → Cond.exactly (tp_tm i) "java/lang/String" ∈ tp_flC := by decide +kernel
theorem tp_s2 : ∀ i, i < 9 → Cond.eq (.field (tp_tm i) "java/lang/String" "coder" "B") (.int 0) ∈ tp_flC := by decide +kernel
theorem tp_s3 : ∀ i, i < 9 → Cond.arrayOf (.field (tp_tm i) "java/lang/String" "value" "[B") .byte ∈ tp_flC := by decide +kernel
theorem tp_s4 : ∀ i, i < 9 → Cond.eq (.length (.field (tp_tm i) "java/lang/String" "value" "[B")) (.int (Int32.ofNat (tp_txl.getD i 0))) ∈ tp_flC := by decide +kernel
theorem tp_s5 : ∀ i, i < 9 → ∀ j, j < tp_txl.getD i 0 → Cond.eq (.elem (.field (tp_tm i) "java/lang/String" "value" "[B") (.int (Int32.ofNat j))) (.int ((tp_txb.getD i []).getD j 0)) ∈ tp_flC := by decide +kernel
theorem tp_s6 : ∀ i, i < 9 → ∀ j, j < 9 → i ≠ j → Cond.not (Cond.eq (tp_tm i) (tp_tm j)) ∈ tp_flC ∨ Cond.not (Cond.eq (tp_tm j) (tp_tm i)) ∈ tp_flC := by decide +kernel
theorem tp_s7 : ∀ i, i < 9 → Cond.stringRef "TypesAtPrime" (tp_txk.getD i 0) (tp_txt.getD i "") ∈ lw_tbl := by decide +kernel
theorem tp_a1 : ∀ j, j < 4 → Cond.eq (.elem (.static "TypesAtPrime" "PRIMES" "[I") (.int (Int32.ofNat j))) (.int (([2, 3, 5, 7] : List Int32).getD j 0)) ∈ tp_flC := by decide +kernel
theorem tp_a2 : ∀ j, j < 4 → Cond.eq (.elem (.static "TypesAtPrime" "LIMITS" "[I") (.int (Int32.ofNat j))) (.int (([28, 18, 12, 10] : List Int32).getD j 0)) ∈ tp_flC := by decide +kernel
theorem tp_fin {s : State} {below : List Frame} {a : Array Value} {G : tp_G} {M1 : tp_M} (hG : G.1 = s.heap.size) {t : State} (h : MQ below (tp_Q G (o_L_law (1, M1))) a s 600000 7302250 (tp_A G) t) : lw_Z below a s t := by
  obtain ⟨o, h1, h2, ⟨⟨ho, -, -⟩, -⟩, L0, ⟨hF1, hF2, hF3⟩, hfree⟩ := h
  refine ⟨o, h1, h2, ho, hF1, hF2, ?_⟩
  exact hF3.weaken (fun y hy hlt => absurd hlt (Nat.not_lt.mpr (by have := hfree y hy; rw [← hG]; exact this))) (Nat.le_refl _) (Nat.le_refl _)
set_option maxHeartbeats 4000000 in
set_option maxRecDepth 100000 in
theorem whole_start {p : Program} {e : Env} {s : State} {m : MethodId} {below : List Frame} {meth : Method} {c : Code} (l : Launch) (hflags : l.flags = flags0) {b L : Nat} {xs : Nat → Int32} (hL : L ≤ 3072) (C0 : lw_At p s m meth c b L xs) : W p l e room_1 s m #[Value.ref b] below meth c s.heap [] 0 0 (lw_Z below #[Value.ref b] s) (entryFrame m ([Value.ref b] : List Value).toArray 4) := by
  obtain ⟨hx, hb, hr, hml, hown, hts, hX, hbl, hlocks, hgv, hname⟩ := C0
  have hA : ∀ a : Nat, a < s.heap.size → ¬ (fun a => s.heap.size ≤ a) a := fun a h => Nat.not_le.mpr h
  have hs := flat_of_before _ hgv
  have htsg : ∀ w ∈ tp_T, w.before #[Value.ref b] s = true := fun w hw => hts w (List.mem_filter.mp hw).1
  -- classes
  have hcl : ∀ t : Nat, ∃ q : ClassId × (Nat → Nat), ∀ r : vw_C, vwCl[t]? = some r → u_Kn s r.1 r.2.1 r.2.2 q.1 q.2 := by
    intro t
    cases h : vwCl[t]? with
    | none => exact ⟨(0, fun _ => 0), fun r hr => by cases hr⟩
    | some r =>
      obtain ⟨cC, iS, hk⟩ := u_known (C := r.1) (T := r.2.1) (N := r.2.2) (n := r.2.2) htsg (tp_ws_in t r h) (hts _ (tp_inst r (List.mem_of_getElem? h)))
      exact ⟨(cC, iS), fun r' hr' => by cases hr'; exact hk⟩
  obtain ⟨D, hD⟩ := Classical.axiomOfChoice hcl
  have har : ∀ t : Nat, ∃ cA : ClassId, ∀ ty, (t, ty) ∈ tp_ats → ArrOfT s cA ty ∧ va_RA s cA ty := by
    intro t
    by_cases h : ∃ ty, (t, ty) ∈ tp_ats
    · obtain ⟨ty, hty⟩ := h
      obtain ⟨cA, hc⟩ := tp_atc ty (hts _ (tp_ats_in _ hty))
      exact ⟨cA, fun ty' h' => by have := tp_ats_inj _ h' _ hty rfl; cases this; exact hc⟩
    · exact ⟨0, fun ty h' => absurd ⟨ty, h'⟩ h⟩
  obtain ⟨ca, hca⟩ := Classical.axiomOfChoice har
  -- outside
  obtain ⟨adK, adV, hS9, hev⟩ := vk_Sof (N := 9) (tm := tp_tm) (len := tp_txl) (byt := tp_txb) (A := fun a => s.heap.size ≤ a) (fun i hi => tp_txl_lt hi) (fun i hi => hs _ (tp_s1 i hi)) (fun i hi => hs _ (tp_s2 i hi)) (fun i hi => hs _ (tp_s3 i hi)) (fun i hi => hs _ (tp_s4 i hi)) (fun i hi j hj => hs _ (tp_s5 i hi j hj)) (fun i j hi hj hne => (tp_s6 i hi j hj hne).imp (fun h => hs _ h) (fun h => hs _ h)) hA
  obtain ⟨pr, hpe, hpT⟩ := va_Tof (tm := .static "TypesAtPrime" "PRIMES" "[I") (ty := .int) (N := 4) (f := fun j => .int (([2, 3, 5, 7] : List Int32).getD j 0)) (A := fun a => s.heap.size ≤ a) (by decide) (hs _ (by decide +kernel)) (va_eqt (z := Int32.ofNat 4) (hs _ (by decide +kernel))) (fun j hj => va_eqt (hs _ (tp_a1 j hj))) hA
  obtain ⟨li, hle, hlT⟩ := va_Tof (tm := .static "TypesAtPrime" "LIMITS" "[I") (ty := .int) (N := 4) (f := fun j => .int (([28, 18, 12, 10] : List Int32).getD j 0)) (A := fun a => s.heap.size ≤ a) (by decide) (hs _ (by decide +kernel)) (va_eqt (z := Int32.ofNat 4) (hs _ (by decide +kernel))) (fun j hj => va_eqt (hs _ (tp_a2 j hj))) hA
  have hpZ := va_Zof (A := fun a => s.heap.size ≤ a) (hts (.laysStatic "TypesAtPrime" "PRIMES" "[I") (by decide +kernel)) (hts (.initialized "TypesAtPrime") (by decide +kernel)) hpe hA
  have hlZ := va_Zof (A := fun a => s.heap.size ≤ a) (hts (.laysStatic "TypesAtPrime" "LIMITS" "[I") (by decide +kernel)) (hts (.initialized "TypesAtPrime") (by decide +kernel)) hle hA
  have hcZ := va_Zof (A := fun a => s.heap.size ≤ a) (v := .int 1) (hts (.laysStatic "java/lang/String" "COMPACT_STRINGS" "Z") (by decide +kernel)) (hts (.initialized "java/lang/String") (by decide +kernel)) (va_eqi (hs _ (by decide +kernel))) hA
  have hsZ := va_Zqof (A := fun a => s.heap.size ≤ a) (hts (.laysStatic "jdk/internal/util/Preconditions" "SIOOBE_FORMATTER" "Ljava/util/function/BiFunction;") (by decide +kernel)) (hts (.initialized "jdk/internal/util/Preconditions") (by decide +kernel)) (hs _ (by decide +kernel)) hA
  obtain ⟨si, hsi⟩ : ∃ si : Nat, va_Z "jdk/internal/util/Preconditions" "SIOOBE_FORMATTER" "Ljava/util/function/BiFunction;" .null (fun a => s.heap.size ≤ a) s s.heap ∨ va_Z "jdk/internal/util/Preconditions" "SIOOBE_FORMATTER" "Ljava/util/function/BiFunction;" (.ref si) (fun a => s.heap.size ≤ a) s s.heap := by
    rcases hsZ with h | ⟨t, h⟩
    · exact ⟨0, Or.inl h⟩
    · exact ⟨t, Or.inr h⟩
  obtain ⟨ext, hext⟩ : ∃ ext : Nat → Nat, ext = fun n => if n = 0 then pr else if n = 1 then li else if n < 100 then adK (n - 2) else if n < 200 then adV (n - 100) else if n = 200 then si else if n = 300 then b else if n = 301 then L else (xs (n - 302)).toBitVec.toNat := ⟨_, rfl⟩
  have e0 : ext 0 = pr := by rw [hext]; rfl
  have e1 : ext 1 = li := by rw [hext]; rfl
  have eK : ∀ i, i < 9 → ext (2 + i) = adK i := fun i hi => by rw [hext]; simp only []; rw [if_neg (by omega), if_neg (by omega), if_pos (by omega)]; congr 1; omega
  have eV : ∀ i, i < 9 → ext (100 + i) = adV i := fun i hi => by rw [hext]; simp only []; rw [if_neg (by omega), if_neg (by omega), if_neg (by omega), if_pos (by omega)]; congr 1; omega
  have e200 : ext 200 = si := by rw [hext]; rfl
  have e300 : ext 300 = b := by rw [hext]; rfl
  have e301 : ext 301 = L := by rw [hext]; rfl
  have eX : ∀ j, ext (302 + j) = (xs j).toBitVec.toNat := fun j => by rw [hext]; simp only []; rw [if_neg (by omega), if_neg (by omega), if_neg (by omega), if_neg (by omega), if_neg (by omega), if_neg (by omega), if_neg (by omega)]; congr 2; congr 1; omega
  obtain ⟨G, hG⟩ : ∃ G : tp_G, G = (s.heap.size, ext, (fun t => (D t).1, fun t => (D t).2), ca) := ⟨_, rfl⟩
  have hXX : tp_X G s s.heap := by
    subst hG
    unfold tp_X
    dsimp only
    rw [e0, e1, e200, e300, e301]
    refine ⟨⟨hpZ, hpT⟩, ⟨hlZ, hlT⟩, ⟨fun i hi => ?_, fun i j hi hj h => hS9.2 i j hi hj (by rw [← eK i hi, ← eK j hj]; exact h)⟩, hcZ, hsi, fun i hi => ?_, ?_, Nat.not_le.mpr hbl⟩
    · have h9 := hS9.1 i hi
      rw [← eK i hi, ← eV i hi] at h9
      exact h9
    · rw [eK i hi]
      exact vk_R.of (hts _ (tp_s7 i hi)) (hev i hi)
    · have : (fun j => Int32.ofNat (ext (302 + j))) = xs := funext fun j => by rw [eX, tp_bits]
      rw [this]
      exact hX
  have hKK : tp_K G s := by
    subst hG
    refine ⟨fun t r hr => hD t r hr, fun q hq => hca q.1 q.2 hq, fun w hw => ?_, fun t ht => hts _ (tp_over_in t ht)⟩
    exact va_Nw.of (List.all_eq_true.mp tp_nest_tab w hw) (hts w (tp_nest_in w hw))
  have hC : tp_Cx i_L_law G p s m #[Value.ref b] meth c := ⟨hx, hb, hml, hown, fun w hw _ => hts w hw, hr, hlocks, hKK, hname, by rw [hG]; exact Nat.le_refl _, hXX⟩
  have hG1 : G.1 = s.heap.size := by rw [hG]
  have hGe : G.2.1 = ext := by rw [hG]
  obtain ⟨M1, hp⟩ := tp_pure (L : Int) (fun i => (xs i.toNat).toInt) (by omega) (by omega) (fun i => tp_rt _)
  have hJ := T_law G (L : Int) (fun i => (xs i.toNat).toInt) ⟨by rw [hGe, e301], by rw [hGe, e301]; exact hL⟩ (fun i => by rw [hGe, eX, tp_bits]) M1 hp
  have hl := lv_entry ([.ref b]) (n := 4) (Nat.le_of_ble_eq_true rfl)
  rw [lg_entry_eq]
  generalize (lg_sl ([.ref b]) ++ List.replicate (4 - (lg_sl ([.ref b])).length) Slot.unset).toArray = ls at hl ⊢
  have hLL : tp_L G ls [some (.inr (.inr (-302))), none, none, none] := by
    refine ⟨hl.1, hl.2.1, fun i v hv => ?_⟩
    match i, hv with
    | 0, hv =>
      cases hv
      refine ⟨?_, trivial⟩
      show ls[0]? = some (.val (tp_ref G (-302)))
      rw [tp_refx G 300 (by omega), hGe, e300]
      exact hl.2.2 (0, .ref b) (by simp [lv_args])
    | 1, hv => cases hv
    | 2, hv => cases hv
    | 3, hv => cases hv
    | i + 4, hv => simp at hv
  have w := hJ _ rfl p l e s m #[Value.ref b] below meth c hC ls s.heap [] hLL rfl (fun v hv => by cases hv) ⟨by rw [hG1]; rfl, fun c hc => absurd hc (Nat.not_lt_zero c)⟩ va_S.rf
  intro T hT X
  obtain ⟨t, a1, b1⟩ := w T hT X
  exact ⟨t, a1, tp_fin hG1 b1⟩
-- ===== YOUR PART ENDS =====
set_option maxHeartbeats 4000000 in
theorem lw_walk (l : Launch) (hflags : l.flags = flags0) (b : Addr) (xs : List Int32) : MetFree l x (headSpec (Jvm.Cond.code x code maxLocals ret :: tables_1) room_1) (lw_P b xs) (fun _ _ _ _ _ => True) lw_Q := by
  refine MetFree.of_bodyS (code := code) (maxLocals := maxLocals) (ret := ret) (by decide) ?_ ?_
  · intro args s m h hn
    obtain ⟨meth, c, h1, h2, h3, h4, h5, h6, -, -⟩ := Cond.code_spec hn (atoms_spec (ws := Jvm.Cond.code x code maxLocals ret :: tables_1) h _ List.mem_cons_self)
    exact ⟨meth, c, h1, h2, h3, h4, h5, h6⟩
  · intro p e s m args below meth c s₁ B hml0 hP _
    obtain ⟨rfl, hx, hbd, hgv⟩ := hP
    obtain ⟨scr, harrAt, hlist, hof, hsmall⟩ := hx
    obtain ⟨hcb, hkn, -, -⟩ := State.arrayAt?_spec harrAt
    have hown : s.vm.findClass R_law = some m.cls := findClass_of_methodNamed B.named
    have hts0 : ∀ c ∈ (Jvm.Cond.code x code maxLocals ret :: tables_1), c.before #[Value.ref b] s = true := atoms_spec (ws := Jvm.Cond.code x code maxLocals ret :: tables_1) B.pre
    have hts : ∀ w ∈ lw_tbl, w.before #[Value.ref b] s = true := k2_hts_sels lw_privs (fun w hw => hts0 w (List.mem_cons_of_mem _ hw)) lw_privs_ok
    have hml : c.maxLocals = 4 := B.maxLocals_eq (hts0 _ List.mem_cons_self)
    have X₀ : Stand p l e room_1 s m #[Value.ref b] below meth c s₁ [] 0 0 := Stand.of_body B
    have hh0 : s₁.heap = s.heap := by rw [B.state]; rfl
    have hsz : scr.slots.size = xs.length := by rw [← Array.length_toList, hlist, List.length_map]
    have hval : ∀ j : Nat, j < xs.length → scr.slots[j]? = some (.int (xs.getD j 0)) := fun j hj => by
      rw [← Array.getElem?_toList, hlist]
      simp [hj]
    have hbl : b < s.heap.size := (Array.getElem?_eq_some_iff.mp hcb).1
    have hX : va_X b xs.length (fun j => xs.getD j 0) s s.heap := ⟨scr, hcb, hof, hkn, hsz, hval⟩
    have K : W p l e room_1 s m #[Value.ref b] below meth c s₁.heap [] 0 0 (lw_Z below #[Value.ref b] s) (entryFrame m ([Value.ref b] : List Value).toArray 4) := by
      rw [hh0]
      exact whole_start l hflags hbd ⟨B.exec, B.bytes, B.returns, hml, hown, hts, hX, hbl, B.notSynchronized, hgv, (name_of_methodNamed B.named B.method).1⟩
    obtain ⟨t, a1, o, b1, b2, b3⟩ := K s₁ rfl X₀
    exact ⟨t, o, a1, b1, b2, b3⟩
theorem lw_pre_spec {args : Array Value} {s : State} (h : (Jvm.Cond.and given_1 narrow_1).before args s = true) (hr : rest_1_c.before args s = true) : ∃ (b : Addr) (xs : List Int32), lw_P b xs args s := by
  have hs := flat_of_before _ h
  have hq := flat_of_before _ hr
  have hc : (Cond.count 1).before args s = true := hs _ (by decide +kernel)
  have harr : (Cond.arrayOf (.arg 0) .int).before args s = true := hs _ (by decide +kernel)
  have hle : (Cond.le (.length (.arg 0)) (.int 3072)).before args s = true := hs _ (by decide +kernel)
  have hlen : (Cond.isInt (.length (.arg 0))).before args s = true := hq _ (by decide +kernel)
  have hall : (Cond.all (.arg 0) (.isInt (.elem (.arg 0) (.index 0)))).before args s = true := hq _ (by decide +kernel)
  obtain ⟨b, xs, hb, hx⟩ := State.ints_of_pre rfl harr hlen hall
  have hsm : xs.length < 2 ^ 31 := hx.choose_spec.2.2.2
  have hev : (Term.length (.arg 0)).eval args s none [] s = some (.int xs.length.toInt32) := hx.length_eval hb
  have hv := Cond.le_ints hev (show (Term.int 3072).eval args s none [] s = some (.int 3072) from rfl)
  have hd : xs.length.toInt32 ≤ 3072 := by
    simpa [Cond.before, Cond.holds, hv] using hle
  have hN : xs.length ≤ 3072 := (Int32.ofNat_le_ofNat hsm (by decide)).mp (show Int32.ofNat xs.length ≤ Int32.ofNat 3072 from hd)
  exact ⟨b, xs, Cond.one_arg hc (show args[0]? = some (.ref b) from hb), hx, hN, h⟩
theorem lw_comes (l : Launch) (hflags : l.flags = flags0) : Comes l x (Jvm.Cond.code x code maxLocals ret :: tables_1) room_1 (fun tb e args s => Calls_1 tb e args s ∧ rest_1 tb e args s ∧ Pre_1 tb e args s)
    (fun _ _ args s o t => lw_Q args s o t) := by
  intro p e ha hc hk s m args below hf hfit hheap happ hpre
  obtain ⟨b, xs, hP⟩ := lw_pre_spec hpre.2.2 hpre.2.1
  obtain ⟨k, o, h1, h2, h3, hQ⟩ := lw_walk l hflags b xs p e ha hc hk s m args below hf ((Spec.applies_iff_loose hf).mp happ).1 hP trivial
  exact ⟨k, o, h1, h2, h3, hQ⟩
theorem lw_frame {s t : State} {o : Outcome} {args : Array Value} (h : Framed s o t [] 600000 7302250) :
    Framed s o t (fieldLocs frame_1_writes args s ++ arrayLocs frame_1_arrays args s ++ staticLocs frame_1_statics s) 600000 7302250 := h
theorem lw_limb (L : Cond) (hL : ∀ (args : Array Value) (s t : State), L.after args s (.returned (some (.int 1))) t = true) :
    ArmFor flags0 classFile x code maxLocals ret World_1 tables_1 room_1 Calls_1 rest_1 Pre_1
      (fun tb e a s o t => postC L tb e a s o t ∧ Framed s o t (fieldLocs frame_1_writes a s ++ arrayLocs frame_1_arrays a s ++ staticLocs frame_1_statics s) 600000 7302250) := by
  intro l hflags _ _ p e ha hc hk s m args below hf hfit hheap happ hpre
  obtain ⟨k, o, h1, h2, h3, rfl, hF⟩ := lw_comes l hflags p e ha hc hk s m args below hf hfit hheap happ hpre
  exact ⟨k, _, h1, h2, h3, hL args s _, lw_frame hF⟩
theorem i_vc : Claimed_1_1 ∧ Claimed_1_2 := ⟨lw_limb limb_1_1 (fun args s t => by simp [limb_1_1, Cond.after, Cond.holds, Cond.value]), lw_limb limb_1_2 (fun args s t => Cond.after_iff.mpr (by
  first | (rw [show limb_1_2 = Cond.eq .result (.int 1) from rfl, Cond.eq_ints (x := 1) (y := 1) rfl rfl]; simp; done) | (simp [limb_1_2, Cond.value, Term.eval]; done)))⟩
