theorem tp_cl_arr {t : Nat} (h : 20 ≤ t) : vwCl[t]? = none := List.getElem?_eq_none (by show 12 ≤ t; omega)
theorem tp_clamp {i : Int} (hr : tp_r i) (h : 0 ≤ i) : (Int32.ofInt i).toNatClampNeg = i.toNat := by
  show (Int32.ofInt i).toInt.toNat = _
  rw [tp_i_rt hr]
theorem tp_zero : tp_r 0 := by constructor <;> decide
theorem tp_pos {i : Int} (hr : tp_r i) (h : 0 ≤ i) : ¬ Int32.ofInt i < 0 := fun z => by
  have z : Int32.ofInt i < Int32.ofInt 0 := z
  rw [tp_ilt hr tp_zero] at z; omega
section TPM
variable {I : tp_I} {R : Room} {G : tp_G} {mc ms : Nat} {ρ : Type} {out : ρ → tp_O} {M : tp_M} {k q : Nat} {lv : List (Option tp_V)} {pc : Nat} {st : List tp_V} {φ φ1 φ2 : Option ρ}
theorem tp_arrat {H : Heap} {c : Int} {t : Nat} (h20 : 20 ≤ t) (hH : tp_H G tp_NC (tp_st M) H) (ht : tp_tg c = t) : 0 ≤ c ∧ ∃ xs, tp_lay[c.toNat]? = some (t, xs) ∧ c.toNat < tp_NC ∧ tp_al c = xs.length ∧ H[G.1 + c.toNat]? = some (arrV (G.2.2.2 t) xs.length (fun j => tp_enc G (tp_zv (tp_ty t j) ((tp_st M c.toNat).2.getD j 0)))) ∧ tp_okc (tp_st M c.toNat) := by
  obtain ⟨h0, xs, h1, h2, h3, h4⟩ := tp_cellat hH ht
  refine ⟨h0, xs, h1, h2, tp_al_at h1, ?_, h4⟩
  unfold tp_cell at h3
  rw [tp_st_tag h1, tp_cl_arr h20, tp_st_len h1] at h3
  exact h3
theorem j_iald {c i N : Int} (ht : tp_tg c = 21) (hal : tp_al c = N) (hd : decode I.1 pc = .ok (.iaload, 1)) (kk : tp_J I R G mc ms out tp_NC (tp_st M) k q lv (pc + 1) (.inl (M c i) :: st) φ) : tp_J I R G mc ms out tp_NC (tp_st M) k q lv pc (.inl i :: .inr (.inr c) :: st) (if 0 ≤ i ∧ i < N then φ else none) := by
  refine tp_chk (fun hi => ?_)
  intro r hr p l e s m args below meth cc hC ls H locs hL hn hs hH hS
  obtain ⟨h0, xs, h1, h2, h3, h4, h5⟩ := tp_arrat (by decide) hH ht
  have hri := tp_unI (tp_ok1 hs)
  have hcl := tp_clamp hri hi.1
  have hlt : i.toNat < xs.length := by omega
  have hv := tp_tv_get (M := M) h1 hlt
  have hcc : ((c.toNat : Nat) : Int) = c := by omega
  have hii : ((i.toNat : Nat) : Int) = i := by omega
  rw [if_neg (show ¬ tp_ty 21 i.toNat = 2 by show ¬ 0 = 2; decide), hcc, hii] at hv
  have hvd : (tp_st M c.toNat).2.getD i.toNat 0 = M c i := by rw [List.getD_eq_getElem?_getD, hv, Option.getD_some]
  have hok : tp_ok (.inl (M c i)) := by
    have := h5 i.toNat _ hv
    rw [tp_st_tag h1] at this
    exact this
  have w := kk r hr p l e s m args below meth cc hC ls H locs hL hn (tp_oks hok (tp_okt (tp_okt hs))) hH hS
  show W p l e R s m args below meth cc H locs k q _ (F0 m pc ls (.int (Int32.ofInt i) :: tp_ref G c :: st.map (tp_enc G)))
  rw [tp_ref_pos h0]
  exact W.iald (v := tp_enc G (.inl (M c i))) hC.1 hC.2.1 h4 ((hC.2.2.2.2.2.2.2.1.2.1 (21, .int) (by decide)).1 _ _) (fun z => by cases z) (by
    show ¬ (_ ∨ (arrV _ _ _).slots.size ≤ _)
    rw [arrV_size, hcl]
    intro z
    rcases z with z | z
    · exact tp_pos hri hi.1 z
    · omega) (by
    show (arrV _ _ _).slots[_]? = _
    rw [hcl, arrV_read _ _ hlt, hvd]
    rfl) rfl rfl hd w
theorem j_bald {c i N : Int} (ht : tp_tg c = 20) (hal : tp_al c = N) (hd : decode I.1 pc = .ok (.baload, 1)) (kk : tp_J I R G mc ms out tp_NC (tp_st M) k q lv (pc + 1) (.inl (M c i) :: st) φ) : tp_J I R G mc ms out tp_NC (tp_st M) k q lv pc (.inl i :: .inr (.inr c) :: st) (if 0 ≤ i ∧ i < N then φ else none) := by
  refine tp_chk (fun hi => ?_)
  intro r hr p l e s m args below meth cc hC ls H locs hL hn hs hH hS
  obtain ⟨h0, xs, h1, h2, h3, h4, h5⟩ := tp_arrat (by decide) hH ht
  have hri := tp_unI (tp_ok1 hs)
  have hcl := tp_clamp hri hi.1
  have hlt : i.toNat < xs.length := by omega
  have hv := tp_tv_get (M := M) h1 hlt
  have hcc : ((c.toNat : Nat) : Int) = c := by omega
  have hii : ((i.toNat : Nat) : Int) = i := by omega
  rw [if_neg (show ¬ tp_ty 20 i.toNat = 2 by show ¬ 0 = 2; decide), hcc, hii] at hv
  have hvd : (tp_st M c.toNat).2.getD i.toNat 0 = M c i := by rw [List.getD_eq_getElem?_getD, hv, Option.getD_some]
  have hok : tp_ok (.inl (M c i)) := by
    have := h5 i.toNat _ hv
    rw [tp_st_tag h1] at this
    exact this
  have w := kk r hr p l e s m args below meth cc hC ls H locs hL hn (tp_oks hok (tp_okt (tp_okt hs))) hH hS
  show W p l e R s m args below meth cc H locs k q _ (F0 m pc ls (.int (Int32.ofInt i) :: tp_ref G c :: st.map (tp_enc G)))
  rw [tp_ref_pos h0]
  exact W.bald (v := tp_enc G (.inl (M c i))) hC.1 hC.2.1 h4 ((hC.2.2.2.2.2.2.2.1.2.1 (20, .byte) (by decide)).1 _ _) (fun z => by cases z) (by
    show ¬ (_ ∨ (arrV _ _ _).slots.size ≤ _)
    rw [arrV_size, hcl]
    intro z
    rcases z with z | z
    · exact tp_pos hri hi.1 z
    · omega) (by
    show (arrV _ _ _).slots[_]? = _
    rw [hcl, arrV_read _ _ hlt, hvd]
    rfl) rfl rfl hd w
theorem j_lald {c i N : Int} (ht : tp_tg c = 22) (hal : tp_al c = N) (hd : decode I.1 pc = .ok (.laload, 1)) (kk : tp_J I R G mc ms out tp_NC (tp_st M) k q lv (pc + 1) (.inr (.inl (M c i)) :: st) φ) : tp_J I R G mc ms out tp_NC (tp_st M) k q lv pc (.inl i :: .inr (.inr c) :: st) (if 0 ≤ i ∧ i < N then φ else none) := by
  refine tp_chk (fun hi => ?_)
  intro r hr p l e s m args below meth cc hC ls H locs hL hn hs hH hS
  obtain ⟨h0, xs, h1, h2, h3, h4, h5⟩ := tp_arrat (by decide) hH ht
  have hri := tp_unI (tp_ok1 hs)
  have hcl := tp_clamp hri hi.1
  have hlt : i.toNat < xs.length := by omega
  have hv := tp_tv_get (M := M) h1 hlt
  have hcc : ((c.toNat : Nat) : Int) = c := by omega
  have hii : ((i.toNat : Nat) : Int) = i := by omega
  rw [if_neg (show ¬ tp_ty 22 i.toNat = 2 by show ¬ 1 = 2; decide), hcc, hii] at hv
  have hvd : (tp_st M c.toNat).2.getD i.toNat 0 = M c i := by rw [List.getD_eq_getElem?_getD, hv, Option.getD_some]
  have hok : tp_ok (.inr (.inl (M c i))) := by
    have := h5 i.toNat _ hv
    rw [tp_st_tag h1] at this
    exact this
  have w := kk r hr p l e s m args below meth cc hC ls H locs hL hn (tp_oks hok (tp_okt (tp_okt hs))) hH hS
  show W p l e R s m args below meth cc H locs k q _ (F0 m pc ls (.int (Int32.ofInt i) :: tp_ref G c :: st.map (tp_enc G)))
  rw [tp_ref_pos h0]
  exact W.lald (v := tp_enc G (.inr (.inl (M c i)))) hC.1 hC.2.1 h4 ((hC.2.2.2.2.2.2.2.1.2.1 (22, .long) (by decide)).1 _ _) (fun z => by cases z) (by
    show ¬ (_ ∨ (arrV _ _ _).slots.size ≤ _)
    rw [arrV_size, hcl]
    intro z
    rcases z with z | z
    · exact tp_pos hri hi.1 z
    · omega) (by
    show (arrV _ _ _).slots[_]? = _
    rw [hcl, arrV_read _ _ hlt, hvd]
    rfl) rfl rfl hd w
theorem j_aald {c i N v : Int} {t : Nat} {ty : FieldType} (ht : tp_tg c = t) (h23 : 23 ≤ t) (hal : tp_al c = N) (hin : (t, ty) ∈ tp_ats) (hty : ty.isReference = true) (hd : decode I.1 pc = .ok (.aaload, 1)) (hv0 : 0 ≤ i → i < N → tp_rv c i.toNat = v) (kk : 0 ≤ i ∧ i < N → tp_J I R G mc ms out tp_NC (tp_st M) k q lv (pc + 1) (.inr (.inr v) :: st) φ) : tp_J I R G mc ms out tp_NC (tp_st M) k q lv pc (.inl i :: .inr (.inr c) :: st) (if 0 ≤ i ∧ i < N then φ else none) := by
  refine tp_chk (fun hi => ?_)
  intro r hr p l e s m args below meth cc hC ls H locs hL hn hs hH hS
  obtain ⟨h0, xs, h1, h2, h3, h4, h5⟩ := tp_arrat (by omega) hH ht
  have hri := tp_unI (tp_ok1 hs)
  have hcl := tp_clamp hri hi.1
  have hlt : i.toNat < xs.length := by omega
  have hv := tp_tv_get (M := M) h1 hlt
  have hty2 : tp_ty t i.toNat = 2 := by
    unfold tp_ty
    rw [if_neg (by omega), if_neg (by omega), if_pos h23]
  rw [if_pos hty2, ← show tp_rv c i.toNat = xs.getD i.toNat 0 from tp_rv_at h1, hv0 hi.1 hi.2] at hv
  have hvd : (tp_st M c.toNat).2.getD i.toNat 0 = v := by rw [List.getD_eq_getElem?_getD, hv, Option.getD_some]
  have w := kk hi r hr p l e s m args below meth cc hC ls H locs hL hn (tp_oks tp_okR (tp_okt (tp_okt hs))) hH hS
  show W p l e R s m args below meth cc H locs k q _ (F0 m pc ls (.int (Int32.ofInt i) :: tp_ref G c :: st.map (tp_enc G)))
  rw [tp_ref_pos h0]
  exact W.aald (v := tp_enc G (.inr (.inr v))) (ty := ty) hC.1 hC.2.1 h4 ((hC.2.2.2.2.2.2.2.1.2.1 (t, ty) hin).1 _ _) hty (fun z => by cases z) (by
    show ¬ (_ ∨ (arrV _ _ _).slots.size ≤ _)
    rw [arrV_size, hcl]
    intro z
    rcases z with z | z
    · exact tp_pos hri hi.1 z
    · omega) (by
    show (arrV _ _ _).slots[_]? = _
    rw [hcl, arrV_read _ _ hlt, hvd, hty2]
    rfl) rfl rfl hd w
theorem j_alen {c N : Int} {t : Nat} {ty : FieldType} (ht : tp_tg c = t) (h20 : 20 ≤ t) (hal : tp_al c = N) (hN : tp_r N) (hin : (t, ty) ∈ tp_ats) (hd : decode I.1 pc = .ok (.arraylength, 1)) (kk : tp_J I R G mc ms out tp_NC (tp_st M) k q lv (pc + 1) (.inl N :: st) φ) : tp_J I R G mc ms out tp_NC (tp_st M) k q lv pc (.inr (.inr c) :: st) φ := by
  intro r hr p l e s m args below meth cc hC ls H locs hL hn hs hH hS
  obtain ⟨h0, xs, h1, h2, h3, h4, h5⟩ := tp_arrat h20 hH ht
  have w := kk r hr p l e s m args below meth cc hC ls H locs hL hn (tp_oks hN (tp_okt hs)) hH hS
  show W p l e R s m args below meth cc H locs k q _ (F0 m pc ls (tp_ref G c :: st.map (tp_enc G)))
  rw [tp_ref_pos h0]
  refine W.alen (n := Int32.ofInt N) hC.1 hC.2.1 h4 ((hC.2.2.2.2.2.2.2.1.2.1 (t, ty) hin).1 _ _) ?_ rfl rfl hd w
  rw [arrV_size]
  apply Int32.toInt_inj.mp
  rw [tp_i_rt hN]
  have hx : (xs.length : Int) = N := by omega
  unfold tp_r at hN
  show (Int32.ofNat xs.length).toInt = N
  rw [show Int32.ofNat xs.length = nI xs.length from rfl, nI_toInt (by omega)]
  exact hx
/-- a write into the memory: the cells that the write leaves, and the one that it changes -/
theorem tp_Hup {H H1 : Heap} {c j v : Int} (hH : tp_H G tp_NC (tp_st M) H) (h0 : 0 ≤ c) (hc : c.toNat < tp_NC) (hz : H1.size = H.size) (ho : ∀ a, a ≠ G.1 + c.toNat → H1[a]? = H[a]?) (h1 : tp_cell G (tp_st (tp_up M c j v) c.toNat) (G.1 + c.toNat) H1) (h2 : tp_okc (tp_st (tp_up M c j v) c.toNat)) : tp_H G tp_NC (tp_st (tp_up M c j v)) H1 := by
  refine ⟨by rw [hz]; exact hH.1, fun c' hc' => ?_⟩
  by_cases e : c' = c.toNat
  · subst e; exact ⟨h1, h2⟩
  · rw [tp_st_ne (by omega)]
    obtain ⟨g1, g2⟩ := hH.2 c' hc'
    refine ⟨?_, g2⟩
    have hk : H1[G.1 + c']? = H[G.1 + c']? := ho _ (by omega)
    unfold tp_cell at g1 ⊢
    cases hr : vwCl[(tp_st M c').1]? with
    | none => rw [hr] at g1; exact hk.trans g1
    | some r => rw [hr] at g1; exact ⟨g1.1, g1.2.kept hk⟩
theorem tp_okup {c j v : Int} {t : Nat} {xs : List Int} (h0 : 0 ≤ c) (h1 : tp_lay[c.toNat]? = some (t, xs)) (hj : 0 ≤ j) (h : tp_okc (tp_st M c.toNat)) (hv : tp_ok (tp_tv t j.toNat v)) : tp_okc (tp_st (tp_up M c j v) c.toNat) := by
  intro i x hx
  have hi : i < xs.length := by
    have := (List.getElem?_eq_some_iff.mp hx).1
    rw [tp_st_len h1] at this; exact this
  rw [tp_tv_get h1 hi] at hx
  have h9 := h i _ (tp_tv_get h1 hi)
  rw [tp_st_tag h1] at h9 ⊢
  have hx2 := Option.some.inj hx
  clear hx
  by_cases e : tp_ty t i = 2
  · rw [if_pos e] at hx2 h9; rw [← hx2]; exact h9
  · rw [if_neg e] at hx2 h9
    unfold tp_up at hx2
    by_cases e2 : (i : Int) = j
    · rw [if_pos ⟨by omega, e2⟩] at hx2
      have e3 : i = j.toNat := by omega
      rw [← hx2, e3]; exact hv
    · rw [if_neg (fun z => e2 z.2)] at hx2
      rw [← hx2]; exact h9
theorem tp_upget {c j v : Int} {t i : Nat} {xs : List Int} (h0 : 0 ≤ c) (h1 : tp_lay[c.toNat]? = some (t, xs)) (hj : 0 ≤ j) (hi : i < xs.length) (hty : tp_ty t j.toNat ≠ 2) : (tp_st (tp_up M c j v) c.toNat).2.getD i 0 = if i = j.toNat then v else (tp_st M c.toNat).2.getD i 0 := by
  rw [tp_st_get h1 hi, tp_st_get h1 hi]
  have hcc : ((c.toNat : Nat) : Int) = c := by omega
  rw [hcc]
  by_cases e : i = j.toNat
  · subst e
    rw [if_pos rfl, if_neg hty]
    unfold tp_up
    rw [if_pos ⟨rfl, by omega⟩]
  · rw [if_neg e]
    by_cases e2 : tp_ty t i = 2
    · rw [if_pos e2, if_pos e2]
    · rw [if_neg e2, if_neg e2]
      unfold tp_up
      rw [if_neg (fun z => e (by have := z.2; omega))]
theorem j_iast {c i N v : Int} {f : tp_M → Option ρ} (ht : tp_tg c = 21) (hal : tp_al c = N) (hd : decode I.1 pc = .ok (.iastore, 1)) (kk : ∀ M1, M1 = tp_up M c i (v) → tp_J I R G mc ms out tp_NC (tp_st M1) k q lv (pc + 1) st (f M1)) : tp_J I R G mc ms out tp_NC (tp_st M) k q lv pc (.inl v :: .inl i :: .inr (.inr c) :: st) (if 0 ≤ i ∧ i < N then tp_mp (tp_up M c i (v)) f else none) := by
  refine tp_chk (fun hi => ?_)
  intro r hr p l e s m args below meth cc hC ls H locs hL hn hs hH hS
  obtain ⟨h0, xs, h1, h2, h3, h4, h5⟩ := tp_arrat (by decide) hH ht
  have hri := tp_unI (tp_ok1 (tp_okt hs))
  have hrv := tp_ok1 hs
  have hcl := tp_clamp hri hi.1
  have hlt : i.toNat < xs.length := by omega
  show W p l e R s m args below meth cc H locs k q _ (F0 m pc ls (tp_enc G (.inl v) :: .int (Int32.ofInt i) :: tp_ref G c :: st.map (tp_enc G)))
  rw [tp_ref_pos h0]
  refine W.iast hC.1 hC.2.1 h4 ((hC.2.2.2.2.2.2.2.1.2.1 (21, .int) (by decide)).1 _ _) (fun z => by cases z) (by
    show ¬ (_ ∨ (arrV _ _ _).slots.size ≤ _)
    rw [arrV_size, hcl]
    intro z
    rcases z with z | z
    · exact tp_pos hri hi.1 z
    · omega) rfl rfl hd fun H1 e1 z1 o1 => ?_
  rw [hcl] at e1 ⊢
  have hH1 := tp_Hup (M := M) (j := i) (v := v) hH h0 h2 z1 o1 (by
    unfold tp_cell
    rw [tp_st_tag h1, tp_cl_arr (by decide), tp_st_len h1]
    show H1[_]? = _
    rw [e1, arrV_store]
    refine congrArg some (congrArg (arrV _ _) (funext fun j => ?_))
    unfold updV
    by_cases ej : j = i.toNat
    · subst ej
      rw [if_pos rfl, tp_upget h0 h1 hi.1 hlt (by show ¬ 0 = 2; decide), if_pos rfl]
      rfl
    · rw [if_neg ej]
      by_cases hjl : j < xs.length
      · rw [tp_upget h0 h1 hi.1 hjl (by show ¬ 0 = 2; decide), if_neg ej]
        rfl
      · have g1 : ∀ M2, (tp_st M2 c.toNat).2.getD j 0 = 0 := fun M2 => by
          rw [List.getD_eq_getElem?_getD, List.getElem?_eq_none (by rw [tp_st_len h1]; omega)]; rfl
        show tp_enc G (tp_zv (tp_ty 21 j) ((tp_st M c.toNat).2.getD j 0)) = _
        rw [g1 M, g1]
        rfl) (tp_okup h0 h1 hi.1 h5 (hrv))
  exact kk _ rfl r hr p l e s m args below meth cc hC ls H1 _ hL hn (tp_okt (tp_okt (tp_okt hs))) hH1 (hS.put z1 o1 (Nat.le_add_right _ _))
theorem j_last {c i N v : Int} {f : tp_M → Option ρ} (ht : tp_tg c = 22) (hal : tp_al c = N) (hd : decode I.1 pc = .ok (.lastore, 1)) (kk : ∀ M1, M1 = tp_up M c i (v) → tp_J I R G mc ms out tp_NC (tp_st M1) k q lv (pc + 1) st (f M1)) : tp_J I R G mc ms out tp_NC (tp_st M) k q lv pc (.inr (.inl v) :: .inl i :: .inr (.inr c) :: st) (if 0 ≤ i ∧ i < N then tp_mp (tp_up M c i (v)) f else none) := by
  refine tp_chk (fun hi => ?_)
  intro r hr p l e s m args below meth cc hC ls H locs hL hn hs hH hS
  obtain ⟨h0, xs, h1, h2, h3, h4, h5⟩ := tp_arrat (by decide) hH ht
  have hri := tp_unI (tp_ok1 (tp_okt hs))
  have hrv := tp_ok1 hs
  have hcl := tp_clamp hri hi.1
  have hlt : i.toNat < xs.length := by omega
  show W p l e R s m args below meth cc H locs k q _ (F0 m pc ls (tp_enc G (.inr (.inl v)) :: .int (Int32.ofInt i) :: tp_ref G c :: st.map (tp_enc G)))
  rw [tp_ref_pos h0]
  refine W.last hC.1 hC.2.1 h4 ((hC.2.2.2.2.2.2.2.1.2.1 (22, .long) (by decide)).1 _ _) (fun z => by cases z) (by
    show ¬ (_ ∨ (arrV _ _ _).slots.size ≤ _)
    rw [arrV_size, hcl]
    intro z
    rcases z with z | z
    · exact tp_pos hri hi.1 z
    · omega) rfl rfl hd fun H1 e1 z1 o1 => ?_
  rw [hcl] at e1 ⊢
  have hH1 := tp_Hup (M := M) (j := i) (v := v) hH h0 h2 z1 o1 (by
    unfold tp_cell
    rw [tp_st_tag h1, tp_cl_arr (by decide), tp_st_len h1]
    show H1[_]? = _
    rw [e1, arrV_store]
    refine congrArg some (congrArg (arrV _ _) (funext fun j => ?_))
    unfold updV
    by_cases ej : j = i.toNat
    · subst ej
      rw [if_pos rfl, tp_upget h0 h1 hi.1 hlt (by show ¬ 1 = 2; decide), if_pos rfl]
      rfl
    · rw [if_neg ej]
      by_cases hjl : j < xs.length
      · rw [tp_upget h0 h1 hi.1 hjl (by show ¬ 1 = 2; decide), if_neg ej]
        rfl
      · have g1 : ∀ M2, (tp_st M2 c.toNat).2.getD j 0 = 0 := fun M2 => by
          rw [List.getD_eq_getElem?_getD, List.getElem?_eq_none (by rw [tp_st_len h1]; omega)]; rfl
        show tp_enc G (tp_zv (tp_ty 22 j) ((tp_st M c.toNat).2.getD j 0)) = _
        rw [g1 M, g1]
        rfl) (tp_okup h0 h1 hi.1 h5 (hrv))
  exact kk _ rfl r hr p l e s m args below meth cc hC ls H1 _ hL hn (tp_okt (tp_okt (tp_okt hs))) hH1 (hS.put z1 o1 (Nat.le_add_right _ _))
theorem j_bast {c i N v : Int} {f : tp_M → Option ρ} (ht : tp_tg c = 20) (hal : tp_al c = N) (hd : decode I.1 pc = .ok (.bastore, 1)) (kk : ∀ M1, M1 = tp_up M c i (tp_b v) → tp_J I R G mc ms out tp_NC (tp_st M1) k q lv (pc + 1) st (f M1)) : tp_J I R G mc ms out tp_NC (tp_st M) k q lv pc (.inl v :: .inl i :: .inr (.inr c) :: st) (if 0 ≤ i ∧ i < N then tp_mp (tp_up M c i (tp_b v)) f else none) := by
  refine tp_chk (fun hi => ?_)
  intro r hr p l e s m args below meth cc hC ls H locs hL hn hs hH hS
  obtain ⟨h0, xs, h1, h2, h3, h4, h5⟩ := tp_arrat (by decide) hH ht
  have hri := tp_unI (tp_ok1 (tp_okt hs))
  have hrv := tp_ok1 hs
  have hcl := tp_clamp hri hi.1
  have hlt : i.toNat < xs.length := by omega
  show W p l e R s m args below meth cc H locs k q _ (F0 m pc ls (tp_enc G (.inl v) :: .int (Int32.ofInt i) :: tp_ref G c :: st.map (tp_enc G)))
  rw [tp_ref_pos h0]
  refine W.bast hC.1 hC.2.1 h4 ((hC.2.2.2.2.2.2.2.1.2.1 (20, .byte) (by decide)).1 _ _) (fun z => by cases z) (by
    show ¬ (_ ∨ (arrV _ _ _).slots.size ≤ _)
    rw [arrV_size, hcl]
    intro z
    rcases z with z | z
    · exact tp_pos hri hi.1 z
    · omega) rfl rfl hd fun H1 e1 z1 o1 => ?_
  rw [hcl] at e1 ⊢
  have hH1 := tp_Hup (M := M) (j := i) (v := tp_b v) hH h0 h2 z1 o1 (by
    unfold tp_cell
    rw [tp_st_tag h1, tp_cl_arr (by decide), tp_st_len h1]
    show H1[_]? = _
    rw [e1, arrV_store]
    refine congrArg some (congrArg (arrV _ _) (funext fun j => ?_))
    unfold updV
    by_cases ej : j = i.toNat
    · subst ej
      rw [if_pos rfl, tp_upget h0 h1 hi.1 hlt (by show ¬ 0 = 2; decide), if_pos rfl]
      show _ = Value.int (Int32.ofInt (tp_b v))
      rw [← tp_i2b]
      rfl
    · rw [if_neg ej]
      by_cases hjl : j < xs.length
      · rw [tp_upget h0 h1 hi.1 hjl (by show ¬ 0 = 2; decide), if_neg ej]
        rfl
      · have g1 : ∀ M2, (tp_st M2 c.toNat).2.getD j 0 = 0 := fun M2 => by
          rw [List.getD_eq_getElem?_getD, List.getElem?_eq_none (by rw [tp_st_len h1]; omega)]; rfl
        show tp_enc G (tp_zv (tp_ty 20 j) ((tp_st M c.toNat).2.getD j 0)) = _
        rw [g1 M, g1]
        rfl) (tp_okup h0 h1 hi.1 h5 (by show tp_r (tp_b v); unfold tp_r tp_b; omega))
  exact kk _ rfl r hr p l e s m args below meth cc hC ls H1 _ hL hn (tp_okt (tp_okt (tp_okt hs))) hH1 (hS.put z1 o1 (Nat.le_add_right _ _))
theorem j_put {ix t j z : Nat} {c v : Int} {f : tp_M → Option ρ} (hF : tp_F I.2.1 ix t j z) (hz2 : z ≠ 2) (ht : tp_tg c = t) (hn0 : ∀ (C : String) (T : u_T) (N : Nat), vwCl[t]? = some (C, T, N) → (T j).2.2.2 = false ∧ ∀ G : tp_G, ∃ ty, parseFieldDescriptor (T j).2.2.1 = some ty ∧ narrow ty (tp_enc G (tp_zv z v)) = tp_enc G (tp_zv z v) ∧ fits ty (tp_enc G (tp_zv z v)) = true) (hty0 : ∃ ty0 : Nat → FieldType, ∀ (C : String) (T : u_T) (N : Nat), vwCl[t]? = some (C, T, N) → (∀ k, k < N → parseFieldDescriptor (T k).2.2.1 = some (ty0 k)) ∧ ∀ a, a < N → ∀ b, b < N → a ≠ b → (T a).2.1 ≠ (T b).2.1) (hd : decode I.1 pc = .ok (.putfield ix, 3)) (kk : ∀ M1, M1 = tp_up M c j v → tp_J I R G mc ms out tp_NC (tp_st M1) k q lv (pc + 3) st (f M1)) : tp_J I R G mc ms out tp_NC (tp_st M) k q lv pc (tp_zv z v :: .inr (.inr c) :: st) (tp_mp (tp_up M c j v) f) := by
  intro r hr p l e s m args below meth cc hC ls H locs hL hn hs hH hS
  obtain ⟨C, T, N, hcl, hk, hz, hw, hT, -⟩ := hF
  obtain ⟨h0, xs, h1, h2, h3, h4⟩ := tp_cellat hH ht
  have htag := tp_st_tag (M := M) h1
  have h3' := h3
  unfold tp_cell at h3'
  rw [htag, hcl] at h3'
  obtain ⟨hlen, hob⟩ := h3'
  have hlx : xs.length = N := by rw [← tp_st_len (M := M) h1]; exact hlen
  have hj : j < xs.length := by rw [hlx]; exact hk
  obtain ⟨hfin, hn1⟩ := hn0 C T N hcl
  obtain ⟨ty, hp, hnar, hfit⟩ := hn1 G
  obtain ⟨ty0, hty1⟩ := hty0
  obtain ⟨hty, hnm⟩ := hty1 C T N hcl
  have hts := tp_hts hC
  have hin := tp_ws_in _ _ hcl
  have hK := tp_vaK hC.2.2.2.2.2.2.2.1
  have hap := va_apart (own := I.2.1) hts hin ty0 hty hnm hK hcl
  obtain ⟨cell, q1, q2, q3, q4⟩ := hob
  obtain ⟨hSl, hfc, kC, hkC, hkind⟩ := hK.1 t _ hcl
  obtain ⟨cf, kf, fi, fd, hi, hsl⟩ := hSl j hk
  have hlay := hts _ (hin _ (u_in_lay hk))
  unfold u_lay at hlay
  rw [if_neg (by rw [hfin]; decide)] at hlay
  have hst := (u_facts hfc hkC (u_lays hts hin hk) hi).1
  have h6 := u_store hfc hkC hkind hlay hi hp hnar hfit
  show W p l e R s m args below meth cc H locs k q _ (F0 m pc ls (tp_enc G (tp_zv z v) :: tp_ref G c :: st.map (tp_enc G)))
  rw [tp_ref_pos h0]
  refine W.putK hC.1 hC.2.1 (f := fd) ⟨hC.2.2.2.1, hC.2.2.2.2.1 _ hw rfl, ⟨_, _, _, by rw [← hT]; exact hi⟩, hst⟩ (by rw [q2]; exact h6) q1 q3 (by rw [hsl]; exact k2_hasslot (q4 j hk)) rfl rfl hd fun H1 e1 e2 e3 => ?_
  rw [hsl] at e1 ⊢
  have hH1 := tp_Hup (M := M) (j := (j : Int)) (v := v) hH h0 h2 e2 e3 (by
    unfold tp_cell
    rw [tp_st_tag h1, hcl]
    refine ⟨by rw [tp_st_len h1]; exact hlx, t_OB.to ⟨_, e1, q2, q3, t_set q4 hap hk _⟩ (fun i hi2 => ?_)⟩
    have hil : i < xs.length := by rw [hlx]; exact hi2
    rw [tp_upget h0 h1 (by omega) hil (by show tp_ty t j ≠ 2; rw [hz]; exact hz2)]
    unfold updV
    by_cases ej : i = j
    · subst ej
      rw [if_pos rfl, if_pos (by omega)]
      unfold tp_tv
      rw [hz]
    · rw [if_neg ej, if_neg (by omega)]) (tp_okup h0 h1 (by omega) h4 (by
      show tp_ok (tp_tv t j v)
      unfold tp_tv
      rw [hz]
      exact tp_ok1 hs))
  exact kk _ rfl r hr p l e s m args below meth cc hC ls H1 _ hL hn (tp_okt (tp_okt hs)) hH1 (hS.put e2 e3 (Nat.le_add_right _ _))
end TPM
