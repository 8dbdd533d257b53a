abbrev tp_M : Type := Int → Int → Int
abbrev tp_V : Type := Int ⊕ (Int ⊕ Int)
abbrev tp_C : Type := Nat × List Int
/-- base, external addresses, classes and slots, array classes -/
abbrev tp_G : Type := Nat × (Nat → Nat) × va_G × (Nat → ClassId)
def tp_ref (G : tp_G) (r : Int) : Value := if 0 ≤ r then .ref (G.1 + r.toNat) else if r = -1 then .null else .ref (G.2.1 (-2 - r).toNat)
def tp_enc (G : tp_G) : tp_V → Value
  | .inl a => .int (Int32.ofInt a)
  | .inr (.inl a) => .long (Int64.ofInt a)
  | .inr (.inr r) => tp_ref G r
def tp_ok : tp_V → Prop
  | .inl a => tp_r a
  | .inr (.inl a) => tp_rl a
  | .inr (.inr _) => True
def tp_zv (z : Nat) (x : Int) : tp_V := match z with
  | 0 => .inl x
  | 1 => .inr (.inl x)
  | _ => .inr (.inr x)
def tp_tv (t k : Nat) (x : Int) : tp_V := tp_zv (tp_ty t k) x
def tp_cell (G : tp_G) (q : tp_C) (a : Nat) (H : Heap) : Prop := match vwCl[q.1]? with
  | some r => q.2.length = r.2.2 ∧ t_OB a (G.2.2.1.1 q.1) r.2.2 (G.2.2.1.2 q.1) H (fun k => tp_enc G (tp_tv q.1 k (q.2.getD k 0)))
  | none => H[a]? = some (arrV (G.2.2.2 q.1) q.2.length (fun k => tp_enc G (tp_tv q.1 k (q.2.getD k 0))))
def tp_okc (q : tp_C) : Prop := ∀ k x, q.2[k]? = some x → tp_ok (tp_tv q.1 k x)
def tp_H (G : tp_G) (n : Nat) (g : Nat → tp_C) (H : Heap) : Prop := H.size = G.1 + n ∧ ∀ c, c < n → tp_cell G (g c) (G.1 + c) H ∧ tp_okc (g c)
/-- what the tables say, at a state -/
def tp_K (G : tp_G) (U : State) : Prop := (∀ t r, vwCl[t]? = some r → u_Kn U r.1 r.2.1 r.2.2 (G.2.2.1.1 t) (G.2.2.1.2 t)) ∧ (∀ q ∈ tp_ats, ArrOfT U (G.2.2.2 q.1) q.2 ∧ va_RA U (G.2.2.2 q.1) q.2) ∧ (∀ w ∈ tp_nest, va_Nw w U) ∧ ∀ t ∈ tp_over, (Cond.arrayOver t).before #[] U = true
abbrev tp_A (G : tp_G) : Nat → Prop := fun a => G.1 ≤ a
def tp_txk : List Nat := [349, 351, 353, 354, 356, 358, 360, 361, 362]
def tp_txt : List String := ["knots", "leaves", "index", "open", "wild", "levels", "size", "degree", "prime"]
def tp_txl : List Nat := [5, 6, 5, 4, 4, 6, 4, 6, 5]
def tp_txb : List (List Int32) := [[107, 110, 111, 116, 115], [108, 101, 97, 118, 101, 115], [105, 110, 100, 101, 120], [111, 112, 101, 110], [119, 105, 108, 100], [108, 101, 118, 101, 108, 115], [115, 105, 122, 101], [100, 101, 103, 114, 101, 101], [112, 114, 105, 109, 101]]
/-- what lies outside: static arrays, texts -/
def tp_X (G : tp_G) (U : State) (H : Heap) : Prop :=
  (va_Z "TypesAtPrime" "PRIMES" "[I" (.ref (G.2.1 0)) (tp_A G) U H ∧ va_T .int (G.2.1 0) 4 (fun j => .int (([2, 3, 5, 7] : List Int32).getD j 0)) (tp_A G) U H) ∧
  (va_Z "TypesAtPrime" "LIMITS" "[I" (.ref (G.2.1 1)) (tp_A G) U H ∧ va_T .int (G.2.1 1) 4 (fun j => .int (([28, 18, 12, 10] : List Int32).getD j 0)) (tp_A G) U H) ∧
  vk_S 9 tp_txl tp_txb (fun i => G.2.1 (2 + i)) (fun i => G.2.1 (100 + i)) (tp_A G) U H ∧ va_Z "java/lang/String" "COMPACT_STRINGS" "Z" (.int 1) (tp_A G) U H ∧ (va_Z "jdk/internal/util/Preconditions" "SIOOBE_FORMATTER" "Ljava/util/function/BiFunction;" .null (tp_A G) U H ∨ va_Z "jdk/internal/util/Preconditions" "SIOOBE_FORMATTER" "Ljava/util/function/BiFunction;" (.ref (G.2.1 200)) (tp_A G) U H) ∧
  (∀ i, i < 9 → vk_R "TypesAtPrime" (tp_txk.getD i 0) (tp_txt.getD i "") (G.2.1 (2 + i)) U) ∧
  va_X (G.2.1 300) (G.2.1 301) (fun j => Int32.ofNat (G.2.1 (302 + j))) U H ∧ ¬ tp_A G (G.2.1 300)
theorem tp_X.kept {G : tp_G} {U : State} {H H1 : Heap} (h : tp_X G U H) (hq : ∀ a : Nat, a < H.size → ¬ tp_A G a → H1[a]? = H[a]?) : tp_X G U H1 := ⟨⟨h.1.1.kept hq, h.1.2.kept hq⟩, ⟨h.2.1.1.kept hq, h.2.1.2.kept hq⟩, h.2.2.1.kept hq, h.2.2.2.1.kept hq, h.2.2.2.2.1.imp (fun z => z.kept hq) (fun z => z.kept hq), h.2.2.2.2.2.1, h.2.2.2.2.2.2.1.kept (hq _ (by obtain ⟨c, hc, -⟩ := h.2.2.2.2.2.2.1; exact (Array.getElem?_eq_some_iff.mp hc).1) h.2.2.2.2.2.2.2), h.2.2.2.2.2.2.2⟩
theorem tp_X.warm {G : tp_G} {s U : State} {H : Heap} (hW : s.WarmedH U.vm) (h : tp_X G s H) : tp_X G U H := ⟨⟨h.1.1.moved hW.alike, h.1.2.moved hW.alike⟩, ⟨h.2.1.1.moved hW.alike, h.2.1.2.moved hW.alike⟩, h.2.2.1.moved hW.alike, h.2.2.2.1.moved hW.alike, h.2.2.2.2.1.imp (fun z => z.moved hW.alike) (fun z => z.moved hW.alike), fun i hi => (h.2.2.2.2.2.1 i hi).warm hW, h.2.2.2.2.2.2.1.moved hW.alike, h.2.2.2.2.2.2.2⟩
theorem tp_X.same {G : tp_G} {s U : State} {H : Heap} (hv : U.vm = s.vm) (h : tp_X G s H) : tp_X G U H := by
  have ha : s.vm.Alike U.vm := by rw [hv]; exact Vm.Alike.refl _
  exact ⟨⟨h.1.1.moved ha, h.1.2.moved ha⟩, ⟨h.2.1.1.moved ha, h.2.1.2.moved ha⟩, h.2.2.1.moved ha, h.2.2.2.1.moved ha, h.2.2.2.2.1.imp (fun z => z.moved ha) (fun z => z.moved ha), fun i hi => (h.2.2.2.2.2.1 i hi).same hv, h.2.2.2.2.2.2.1.moved ha, h.2.2.2.2.2.2.2⟩
theorem tp_ov {args : Array Value} {s U : State} {t : FieldType} (ha : s.vm.Alike U.vm) (h : (Cond.arrayOver t).before args s = true) : (Cond.arrayOver t).before args U = true := by
  have h1 := Cond.overAtom_setVm (args := args) ha (.arrayOver t) rfl h
  exact h1
theorem tp_K.warm {G : tp_G} {s U : State} (hW : s.WarmedH U.vm) (h : tp_K G s) : tp_K G U := by
  refine ⟨fun t r hr => u_Kn_moved hW.alike (h.1 t r hr), fun q hq => ⟨arrOfT_moved hW.alike (h.2.1 q hq).1, (h.2.1 q hq).2.moved hW.alike⟩, fun w hw => ?_, fun t ht => tp_ov hW.alike (h.2.2.2 t ht)⟩
  have h0 := h.2.2.1 w hw
  have hk := List.all_eq_true.mp tp_nest_ok w hw
  cases w <;> first | exact va_Nw.warmF hW h0 | exact va_Nw.warmM hW h0 | (cases hk)
theorem tp_K.same {G : tp_G} {s U : State} (hv : s.vm = U.vm) (h : tp_K G s) : tp_K G U := by
  have ha : s.vm.Alike U.vm := by rw [hv]; exact Vm.Alike.refl _
  refine ⟨fun t r hr => u_Kn_moved ha (h.1 t r hr), fun q hq => ⟨arrOfT_moved ha (h.2.1 q hq).1, (h.2.1 q hq).2.moved ha⟩, fun w hw => ?_, fun t ht => tp_ov ha (h.2.2.2 t ht)⟩
  have h0 := h.2.2.1 w hw
  have hk := List.all_eq_true.mp tp_nest_ok w hw
  exact va_Nw.same (by cases w <;> first | rfl | (cases hk)) hv h0
/-- a method: bytes, class, return, locals, name -/
abbrev tp_I : Type := ByteArray × String × Option FieldType × Nat × String
def tp_Cx (I : tp_I) (G : tp_G) (p : Program) (s : State) (m : MethodId) (args : Array Value) (meth : Method) (c : Code) : Prop :=
  p.tables.exec = Jvm.exec ∧ c.code = I.1 ∧ c.maxLocals = I.2.2.2.1 ∧ s.vm.findClass I.2.1 = some m.cls ∧ (∀ w ∈ lw_tbl, goodWord w = true → w.before args s = true) ∧ meth.sig.returnType = I.2.2.1 ∧ meth.locks = false ∧ tp_K G s ∧ meth.name = I.2.2.2.2 ∧ G.1 ≤ s.heap.size ∧ tp_X G s s.heap
def tp_L (G : tp_G) (ls : Array Slot) (lv : List (Option tp_V)) : Prop := ls.size = lv.length ∧ lv_wf ls ∧ ∀ (i : Nat) (v : tp_V), lv[i]? = some (some v) → ls[i]? = some (Slot.val (tp_enc G v)) ∧ tp_ok v
/-- the end: answer and memory -/
abbrev tp_O : Type := Option tp_V × Nat × (Nat → tp_C)
def tp_Q (G : tp_G) (o : tp_O) : Array Value → State → Outcome → State → Prop := fun _ st oc t => (oc = .returned (o.1.map (tp_enc G)) ∧ (∀ v, o.1 = some v → tp_ok v) ∧ tp_H G o.2.1 o.2.2 t.heap) ∧ va_F (tp_A G) st t
def tp_J (I : tp_I) (R : Room) (G : tp_G) (mc ms : Nat) {ρ : Type} (out : ρ → tp_O) (n : Nat) (g : Nat → tp_C) (k q : Nat) (lv : List (Option tp_V)) (pc : Nat) (st : List tp_V) (φ : Option ρ) : Prop :=
  ∀ r, φ = some r → ∀ (p : Program) (l : Launch) (e : Env) (s : State) (m : MethodId) (args : Array Value) (below : List Frame) (meth : Method) (c : Code), tp_Cx I G p s m args meth c →
    ∀ (ls : Array Slot) (H : Heap) (locs : List Loc), tp_L G ls lv → lv.length = I.2.2.2.1 → (∀ v ∈ st, tp_ok v) → tp_H G n g H → va_S (tp_A G) s.heap H locs →
      W p l e R s m args below meth c H locs k q (MQ below (tp_Q G (out r)) args s mc ms (tp_A G)) (F0 m pc ls (st.map (tp_enc G)))
section TPJ
variable {I : tp_I} {R : Room} {G : tp_G} {mc ms : Nat} {ρ : Type} {out : ρ → tp_O} {n : Nat} {g : Nat → tp_C} {k q : Nat} {lv : List (Option tp_V)} {pc : Nat} {st : List tp_V} {φ φ1 φ2 : Option ρ}
/-- a step that leaves heap and locals -/
theorem tp_step {pc' : Nat} {st' : List tp_V} (hok : (∀ v ∈ st, tp_ok v) → ∀ v ∈ st', tp_ok v)
    (h : ∀ (p : Program) (l : Launch) (e : Env) (s : State) (m : MethodId) (args : Array Value) (below : List Frame) (meth : Method) (c : Code) (H : Heap) (locs : List Loc) (Q : State → Prop) (ls : Array Slot), tp_Cx I G p s m args meth c → tp_L G ls lv → (∀ v ∈ st, tp_ok v) →
      W p l e R s m args below meth c H locs k q Q (F0 m pc' ls (st'.map (tp_enc G))) → W p l e R s m args below meth c H locs k q Q (F0 m pc ls (st.map (tp_enc G))))
    (kk : tp_J I R G mc ms out n g k q lv pc' st' φ) : tp_J I R G mc ms out n g k q lv pc st φ := by
  intro r hr p l e s m args below meth c hC ls H locs hL hn hs hH hS
  exact h p l e s m args below meth c H locs _ ls hC hL hs (kk r hr p l e s m args below meth c hC ls H locs hL hn (hok hs) hH hS)
theorem tp_none : tp_J I R G mc ms out n g k q lv pc st none := fun _ h => by cases h
theorem tp_ite {b : Prop} [Decidable b] (h1 : b → tp_J I R G mc ms out n g k q lv pc st φ1) (h2 : ¬ b → tp_J I R G mc ms out n g k q lv pc st φ2) : tp_J I R G mc ms out n g k q lv pc st (if b then φ1 else φ2) := by
  by_cases h : b
  · rw [if_pos h]; exact h1 h
  · rw [if_neg h]; exact h2 h
/-- something is looked at: what fails has no end -/
theorem tp_chk {b : Prop} [Decidable b] (h1 : b → tp_J I R G mc ms out n g k q lv pc st φ1) : tp_J I R G mc ms out n g k q lv pc st (if b then φ1 else none) := tp_ite h1 (fun _ => tp_none)
theorem tp_oks {v : tp_V} {st : List tp_V} (hv : tp_ok v) (h : ∀ x ∈ st, tp_ok x) : ∀ x ∈ v :: st, tp_ok x := fun x hx => by
  rcases List.mem_cons.mp hx with rfl | hx
  · exact hv
  · exact h x hx
theorem tp_ok1 {v : tp_V} {st : List tp_V} (h : ∀ x ∈ v :: st, tp_ok x) : tp_ok v := h v List.mem_cons_self
theorem tp_okt {v : tp_V} {st : List tp_V} (h : ∀ x ∈ v :: st, tp_ok x) : ∀ x ∈ st, tp_ok x := fun x hx => h x (List.mem_cons_of_mem _ hx)
end TPJ
def tp_lp {σ ρ : Type} (body : (σ → Option ρ) → σ → Option ρ) : Nat → σ → Option ρ
  | 0, _ => none
  | n + 1, s => body (tp_lp body n) s
def tp_lt {α : Type} (x : Int) (f : Int → α) : α := f x
def tp_up (M : tp_M) (c k v : Int) : tp_M := fun a b => if a = c ∧ b = k then v else M a b
def tp_st (M : tp_M) (c : Nat) : tp_C := match tp_lay[c]? with
  | some (t, xs) => (t, xs.mapIdx (fun k x => if tp_ty t k = 2 then x else M c k))
  | none => (99, [])
