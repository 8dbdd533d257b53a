def cB62 : (Int × Int × tp_M → Option (Int × tp_M)) → Int × Int × tp_M → Option (Int × tp_M) := fun rec_ u => f_X8_read_62B (fun x3' x4' M0' => rec_ (x3', x4', M0')) u.1 u.2.1 u.2.2
def mB47 : (Int × tp_M → Option (Int × tp_M)) → Int × tp_M → Option (Int × tp_M) := fun rec_ u => f_X11_readsAll_47B (fun x2' M0' => rec_ (x2', M0')) u.1 u.2
theorem lp_1 {σ ρ : Type} {body : (σ → Option ρ) → σ → Option ρ} {s : σ} {N : Nat} (h : 1 ≤ N) : tp_lp body N s = body (tp_lp body (N - 1)) s := by
  obtain ⟨N, rfl⟩ : ∃ k, N = k + 1 := ⟨N - 1, by omega⟩
  rfl
theorem okS_mono {S : Int → Int} {a b : Int} (h : okS S a) (hab : a ≤ b) : okS S b := fun k k0 k1 => by have := h k k0 k1; omega
set_option maxHeartbeats 4000000 in
set_option maxRecDepth 100000 in
theorem lock {A B : tp_M} {n : Int} (h : okA A n) (hB : okB A B n) : ∀ (m N1 N2 : Nat) (sg a x4 : Int) (S : Int → Int), n - a < (m : Int) → m ≤ N1 → m ≤ N2 → 0 ≤ a → a ≤ n → 0 ≤ x4 → x4 ≤ a → (sg = 1 ∨ sg = -1) → okS S a → ∃ (r r' a' : Int) (S' : Int → Int), tp_lp cB62 N1 (sg, x4, memA A a S) = some (r, memA A a' S') ∧ ((f_X11_readsTerm sg (memB B a S)).bind fun q => tp_lp mB47 N2 (q.1, q.2)) = some (r', memB B a' S') ∧ okS S' 100 ∧ 0 ≤ a' ∧ a' ≤ n ∧ ((r = -1 ∧ r' = 1) ∨ (r = a' ∧ r' = 0)) := by
  have h4 := h.2.2.2.1
  have h18 := h.2.1
  have hB5 := hB.1
  intro m
  induction m with
  | zero => intro N1 N2 sg a x4 S hm; omega
  | succ m ih =>
    intro N1 N2 sg a x4 S hm hN1 hN2 a0 a1 x0 x1 hsg hS
    have hS1 := okS_mono hS (show a ≤ 100 by omega)
    have tr := tm_r h ⟨a0, a1⟩
    rw [lp_1 (N := N1) (by omega)]
    have key1 := fun sg a x4 S => ih (N1 - 1) (N2 - 1) sg a x4 S
    rw [s_readsTerm h hB ⟨a0, a1⟩ hS1 hsg]
    have e1 := s_readTerm h ⟨a0, a1⟩ hS1 hsg
    generalize tp_lp cB62 (N1 - 1) = R1 at key1 ⊢
    generalize hR2 : tp_lp mB47 (N2 - 1) = R2 at key1
    have e2 : ∀ s, tp_lp mB47 N2 s = mB47 R2 s := fun s => by rw [← hR2]; exact lp_1 (by omega)
    simp only [cB62, f_X8_read_62B, e1]
    by_cases c : (tm (A 2) n a).1 < 0
    · rw [if_pos c, if_pos c]
      refine ⟨(tm (A 2) n a).2.2, 0, (tm (A 2) n a).2.2, S, ?_, ?_, hS1, by omega, by omega, Or.inr ⟨rfl, rfl⟩⟩
      · rw [if_neg (by omega)]
        simp only [Option.bind_some, mA_3]
        simp
      · simp only [Option.bind_some, e2, mB47, f_X11_readsAll_47B, f_X11_readsAll_103]
        simp
    · rw [if_neg c, if_neg c]
      have tr5 := tr.2.2.2.2.2 (by omega)
      have hS2 : okS (udS S (tm (A 2) n a).1 (S (tm (A 2) n a).1 + sg * (tm (A 2) n a).2.1)) (tm (A 2) n a).2.2 := by
        intro k k0 k1
        unfold udS
        have q := hS (tm (A 2) n a).1 (by omega) (by omega)
        have q' := hS k k0 k1
        by_cases e : k = (tm (A 2) n a).1
        · rw [if_pos e]
          rcases hsg with rfl | rfl <;> omega
        · rw [if_neg e]; omega
      generalize (tm (A 2) n a).2.2 = b at *
      generalize udS S (tm (A 2) n a).1 (S (tm (A 2) n a).1 + sg * (tm (A 2) n a).2.1) = S2 at *
      have hS3 := okS_mono hS2 (show b ≤ 100 by omega)
      have n1 := s_next (S := S2) h (show 0 ≤ b by omega)
      have n2 := s_here (S := S2) h hB (show 0 ≤ b by omega)
      have rr := rhr_r h (show 0 ≤ b by omega)
      have wb := ho_w (x := b + 1) (by omega) (by omega)
      have wx := ho_w (x := x4 + 1) (by omega) (by omega)
      have g2 : memA A b S2 18 2 = n := by rw [mA_o (by omega)]; exact h18
      have g5 : memB B b S2 483 5 = n := by rw [mB_o (by omega)]; exact hB5
      simp only [Option.bind_some, e2, mB47, f_X11_readsAll_47B, f_X11_readsAll_103, f_X11_readsAll_69, f_X11_readsAll_83, f_X8_read_118, f_X8_read_132, n1, n2, mA_3, mB_6, g2, g5, tp_mp, tp_lt, wb, wx, mA_up, mB_up]
      by_cases cn : b = n
      · refine ⟨-1, 1, b, S2, ?_, ?_, hS3, by omega, by omega, Or.inl ⟨rfl, rfl⟩⟩
        · repeat (first | rw [if_pos (by omega)] | rw [if_neg (by omega)] | simp only [Option.bind_some, not_true_eq_false, not_false_eq_true, if_true, if_false])
        · repeat (first | rw [if_pos (by omega)] | rw [if_neg (by omega)] | simp only [Option.bind_some, not_true_eq_false, not_false_eq_true, if_true, if_false])
      · generalize rhr (A 2) n b = ch at *
        by_cases c43 : ch = 43
        · obtain ⟨r, r', a', S', q1, q2, q3⟩ := key1 1 (b + 1) (x4 + 1) S2 (by omega) (by omega) (by omega) (by omega) (by omega) (by omega) (by omega) (Or.inl rfl) (okS_mono hS2 (by omega))
          refine ⟨r, r', a', S', ?_, ?_, q3⟩
          · repeat (first | rw [if_pos (by omega)] | rw [if_neg (by omega)] | simp only [Option.bind_some, not_true_eq_false, not_false_eq_true, if_true, if_false])
            exact q1
          · repeat (first | rw [if_pos (by omega)] | rw [if_neg (by omega)] | simp only [Option.bind_some, not_true_eq_false, not_false_eq_true, if_true, if_false])
            exact q2
        · by_cases c45 : ch = 45
          · obtain ⟨r, r', a', S', q1, q2, q3⟩ := key1 (-1) (b + 1) (x4 + 1) S2 (by omega) (by omega) (by omega) (by omega) (by omega) (by omega) (by omega) (Or.inr rfl) (okS_mono hS2 (by omega))
            refine ⟨r, r', a', S', ?_, ?_, q3⟩
            · repeat (first | rw [if_pos (by omega)] | rw [if_neg (by omega)] | simp only [Option.bind_some, not_true_eq_false, not_false_eq_true, if_true, if_false])
              exact q1
            · repeat (first | rw [if_pos (by omega)] | rw [if_neg (by omega)] | simp only [Option.bind_some, not_true_eq_false, not_false_eq_true, if_true, if_false])
              exact q2
          · refine ⟨b, 0, b, S2, ?_, ?_, hS3, by omega, by omega, Or.inr ⟨rfl, rfl⟩⟩
            · repeat (first | rw [if_pos (by omega)] | rw [if_neg (by omega)] | simp only [Option.bind_some, not_true_eq_false, not_false_eq_true, if_true, if_false])
            · repeat (first | rw [if_pos (by omega)] | rw [if_neg (by omega)] | simp only [Option.bind_some, not_true_eq_false, not_false_eq_true, if_true, if_false])
set_option maxHeartbeats 4000000 in
set_option maxRecDepth 100000 in
theorem s_reads {M B : tp_M} {n : Int} (h2 : iv_tape M) (hn : M 0 2 = n) (hB : okB M B n) : ∃ (r r' a' : Int) (S' : Int → Int), f_X8_read 2 n M = some (r, memA (tp_up (tp_up M 18 1 2) 18 2 n) a' S') ∧ f_X11_readsAll B = some (r', memB B a' S') ∧ okS S' 100 ∧ 0 ≤ a' ∧ a' ≤ n ∧ ((r = -1 ∧ r' = 1) ∨ (r = a' ∧ r' = 0)) := by
  unfold iv_tape at h2
  have eA : ∀ i, tp_up (tp_up M 18 1 2) 18 2 n 2 i = M 2 i := fun i => by simp (disch := omega) only [up_eq, up_ne, ho_w, ho_wl, ho_b]
  have hA : okA (tp_up (tp_up M 18 1 2) 18 2 n) n := ⟨by simp (disch := omega) only [up_eq, up_ne, ho_w, ho_wl, ho_b], by simp (disch := omega) only [up_eq, up_ne, ho_w, ho_wl, ho_b], by omega, by omega, fun i i0 i1 => by rw [eA]; exact (h2.2.2.2 i i0 (by omega)).2⟩
  have hB' : okB (tp_up (tp_up M 18 1 2) 18 2 n) B n := ⟨hB.1, fun i i0 i1 => by rw [eA]; exact hB.2 i i0 i1⟩
  have z : okS (fun _ => 0) 0 := fun k k0 k1 => by simp only; omega
  have L := fun sg a (h0 : 0 ≤ a) (h1 : a ≤ n) (hsg : sg = 1 ∨ sg = -1) => lock hA hB' 100 tp_N tp_N sg a 0 (fun _ => 0) (by omega) (by unfold tp_N; omega) (by unfold tp_N; omega) h0 h1 (by omega) h0 hsg (okS_mono z h0)
  have e7 : f_X11_readsAll B = (f_X11_takes 45 (memB B 0 (fun _ => 0))).bind fun r3 => if r3.1 = 0 then f_X11_readsAll_40 1 r3.2 else f_X11_readsAll_40 (-1) r3.2 := by
    unfold f_X11_readsAll f_X11_readsAll_7
    simp only [tp_mp]
    have e0 : ((0 : Int), tp_up B 483 6 0) = (((0 : Nat) : Int), tp_wr (tp_up B 483 6 0) 486 0 ((0 : Nat) : Int) (fun _ => 0)) := by rw [show ((0 : Nat) : Int) = 0 from rfl, wr_zero]
    rw [e0]
    refine lp_seq (fun j => ((j : Int), tp_wr (tp_up B 483 6 0) 486 0 j (fun _ => 0))) 9 (fun j hj rc => ?_) (fun rc => ?_) tp_N (by unfold tp_N; omega)
    · simp only [f_X11_readsAll_7B, tp_lt, tp_mp, w_succ (show j < 1000000 by omega)]
      rw [if_neg (by omega), if_pos (by omega), ← wr_succ0]
    · simp only [f_X11_readsAll_7B]
      rw [if_pos (by omega)]; rfl
  have e8 : f_X8_read 2 n M = (f_X8_next (memA (tp_up (tp_up M 18 1 2) 18 2 n) 0 (fun _ => 0))).bind fun r8 => if ¬ r8 = 45 then tp_lp cB62 tp_N (1, 0, memA (tp_up (tp_up M 18 1 2) 18 2 n) 0 (fun _ => 0)) else tp_lp cB62 tp_N (-1, 0, memA (tp_up (tp_up M 18 1 2) 18 2 n) 1 (fun _ => 0)) := by
    unfold f_X8_read f_X8_read_20 f_X8_read_59 f_X8_read_62
    simp only [tp_mp]
    rw [if_pos tg2.1, if_neg (by omega), tg2.2, show min n 80 = n by omega, s_fill (n := 9) (by decide +kernel) (by decide +kernel) (by omega)]
    simp only [Option.bind_some]
    rw [fl_wr]
    show (f_X8_next (memA (tp_up (tp_up M 18 1 2) 18 2 n) 0 (fun _ => 0))).bind _ = _
    refine congrArg _ ?_
    funext r8
    rw [show tp_wr (tp_up (tp_up (tp_up M 18 1 2) 18 2 n) 18 3 0) 19 0 9 (fun _ => 0) = memA (tp_up (tp_up M 18 1 2) 18 2 n) 0 (fun _ => 0) from rfl, mA_up, mA_3]
    rfl
  rw [e7, e8, s_next hA (by omega), s_takes hA hB' (by omega)]
  simp only [Option.bind_some]
  have rr := rhr_r hA (show (0 : Int) ≤ 0 by omega)
  by_cases c : rhr (tp_up (tp_up M 18 1 2) 18 2 n 2) n 0 = 45
  · obtain ⟨r, r', a', S', q1, q2, q3⟩ := L (-1) 1 (by omega) (by omega) (Or.inr rfl)
    refine ⟨r, r', a', S', ?_, ?_, q3⟩
    · rw [if_neg (by omega)]; exact q1
    · rw [if_pos c]
      simp only [Option.bind_some]
      rw [if_neg (by omega)]; exact q2
  · obtain ⟨r, r', a', S', q1, q2, q3⟩ := L 1 0 (by omega) (by omega) (Or.inl rfl)
    refine ⟨r, r', a', S', ?_, ?_, q3⟩
    · rw [if_pos c]; exact q1
    · rw [if_neg c]
      simp only [Option.bind_some]
      rw [if_pos trivial]; exact q2
theorem inv_empty {M : tp_M} (hI : Inv M) : Inv (tp_up (tp_up M 0 2 0) 483 5 0) := by
  obtain ⟨h1, h2, h3, h4, h5⟩ := hI
  refine ⟨fr_prime (fun k k0 k1 => by simp (disch := omega) only [up_eq, up_ne, ho_w, ho_wl, ho_b]) (fun k k0 k1 => by simp (disch := omega) only [up_eq, up_ne, ho_w, ho_wl, ho_b]) h1, ?_, fr_slots (fun c k c0 c1 => by simp (disch := omega) only [up_eq, up_ne, ho_w, ho_wl, ho_b]) (fun i => by simp (disch := omega) only [up_eq, up_ne, ho_w, ho_wl, ho_b]) h3, fun s s0 s1 => fr_sheet (fun k => by simp (disch := omega) only [up_eq, up_ne, ho_w, ho_wl, ho_b]) (fun k => by simp (disch := omega) only [up_eq, up_ne, ho_w, ho_wl, ho_b]) (by simp (disch := omega) only [up_eq, up_ne, ho_w, ho_wl, ho_b]) (by simp (disch := omega) only [up_eq, up_ne, ho_w, ho_wl, ho_b]) (fun i i0 i1 => by simp (disch := omega) only [up_eq, up_ne, ho_w, ho_wl, ho_b]) (h4 s s0 s1), fr_tree (fun c k hc => by unfold tset at hc; simp (disch := omega) only [up_eq, up_ne, ho_w, ho_wl, ho_b]) h5⟩
  unfold iv_tape
  simp (disch := omega) only [up_eq, up_ne, ho_w, ho_wl, ho_b]
  exact ⟨by omega, by omega, trivial, fun i i0 i1 => by omega⟩
set_option maxHeartbeats 4000000 in
set_option maxRecDepth 100000 in
theorem s_text41 {M : tp_M} {s : Int} {S : Int → Int} (h : ∀ k, 0 ≤ k → k < 9 → M 19 k = S k) : f_X10_text_41 s 0 M = (f_X10_store s (tp_wr M 481 0 9 S)).bind fun r9 => if ¬ r9.1 = 0 then (f_X10_toldDegree s r9.2).bind fun r12 => some (r12, r9.2) else some ((-3), r9.2) := by
  unfold f_X10_text_41
  have e0 : ((0 : Int), M) = (((0 : Nat) : Int), tp_wr M 481 0 ((0 : Nat) : Int) S) := by rw [show ((0 : Nat) : Int) = 0 from rfl, wr_zero]
  rw [e0]
  refine lp_seq (fun j => ((j : Int), tp_wr M 481 0 j S)) 9 (fun j hj rc => ?_) (fun rc => ?_) tp_N (by unfold tp_N; omega)
  · simp only [f_X10_text_41B, tp_lt, tp_mp, w_succ (show j < 1000000 by omega)]
    rw [if_neg (by omega), if_pos (by omega), if_pos (by omega), wr_out (x := 19) (by omega), h j (by omega) (by omega), ← wr_succ0]
  · simp only [f_X10_text_41B]
    rw [if_pos (by omega)]; rfl
set_option maxHeartbeats 4000000 in
set_option maxRecDepth 100000 in
theorem ok_text : op_text Inv := by
  intro M hI a0 r0
  have hI' := hI
  obtain ⟨h1, h2, h3, h4, h5⟩ := hI
  have h2' := h2
  unfold iv_tape at h2
  by_cases hs : 0 ≤ a0 ∧ a0 < 5
  · obtain ⟨r, r', a', S', q1, -, q3, q4, q5, q6⟩ := s_reads (B := M) h2' rfl ⟨h2.2.2.1, fun i i0 i1 => (h2.2.2.2 i i0 i1).1⟩
    have hE := inv_empty hI'
    have tgs := tg_slot hs
    -- what the model answers from where the class has come to
    have mod : ∀ M1 : tp_M, (∀ c k, (c = 483 ∧ k = 5) ∨ c = 485 → M1 c k = M c k) → f_X11_readsAll M1 = some (r', memB M1 a' S') ∨ ∃ S2, f_X11_readsAll M1 = some (r', memB M1 a' S2) ∧ ∀ k, 0 ≤ k → k < 9 → S2 k = S' k := by
      intro M1 hM1
      obtain ⟨t, t', b', S2, p1, p2, p3, p4, p5, p6⟩ := s_reads (B := M1) h2' rfl ⟨by rw [hM1 _ _ (by omega)]; exact h2.2.2.1, fun i i0 i1 => by rw [hM1 _ _ (by omega)]; exact (h2.2.2.2 i i0 i1).1⟩
      rw [q1] at p1
      have p1 := Option.some.inj p1
      have e1 : r = t := congrArg Prod.fst p1
      have e2 : memA (tp_up (tp_up M 18 1 2) 18 2 (M 0 2)) a' S' = memA (tp_up (tp_up M 18 1 2) 18 2 (M 0 2)) b' S2 := congrArg Prod.snd p1
      have e3 : a' = b' := by
        have := congrFun (congrFun e2 18) 3
        rw [mA_3, mA_3] at this
        exact this
      have e4 : ∀ k, 0 ≤ k → k < 9 → S2 k = S' k := fun k k0 k1 => by
        have := congrFun (congrFun e2 19) k
        rw [mA_19 ⟨k0, k1⟩, mA_19 ⟨k0, k1⟩] at this
        exact this.symm
      have e5 : r' = t' := by omega
      exact Or.inr ⟨S2, by rw [p2, e3, e5], e4⟩
    have isx : f_X10_isSlot a0 M = some 1 := by unfold f_X10_isSlot; repeat (first | rw [if_pos (by omega)] | rw [if_neg (by omega)] | simp only [Option.bind_some, not_true_eq_false, not_false_eq_true, if_true, if_false])
    have ism : ∀ N, f_X11_isSlot a0 N = some 1 := fun N => by unfold f_X11_isSlot; repeat (first | rw [if_pos (by omega)] | rw [if_neg (by omega)] | simp only [Option.bind_some, not_true_eq_false, not_false_eq_true, if_true, if_false])
    have mod2 : ∀ M1 : tp_M, (∀ c k, (c = 483 ∧ k = 5) ∨ c = 485 → M1 c k = M c k) → ∃ S2, f_X11_readsAll M1 = some (r', memB M1 a' S2) ∧ ∀ k, 0 ≤ k → k < 9 → S2 k = S' k := fun M1 hM1 => by
      rcases mod M1 hM1 with h | h
      · exact ⟨S', h, fun _ _ _ => rfl⟩
      · exact h
    generalize hA : tp_up (tp_up M 18 1 2) 18 2 (M 0 2) = A at q1
    have eA : ∀ c k, c ≠ 18 → A c k = M c k := fun c k hc => by rw [← hA]; simp (disch := omega) only [up_eq, up_ne, ho_w, ho_wl, ho_b]
    rcases q6 with ⟨c1, c2⟩ | ⟨c1, c2⟩
    · -- read
      have e41 := s_text41 (M := tp_up (memA A a' S') 0 2 0) (s := a0) (S := S') (fun k k0 k1 => by rw [up_ne (by omega), mA_19 ⟨k0, k1⟩])
      have eN : ∀ k, 0 ≤ k → k < 9 → tp_wr (tp_up (memA A a' S') 0 2 0) 481 0 9 S' 481 k = S' k := fun k k0 k1 => by rw [wr_in (by omega), show k - 0 = k by omega]
      have eO : ∀ c k, iset c k → ¬ (c = 0 ∧ k = 2) → tp_wr (tp_up (memA A a' S') 0 2 0) 481 0 9 S' c k = M c k := fun c k hc hk => by
        unfold iset tset at hc
        rw [wr_out (by omega), up_ne (by omega), mA_o (by omega), eA _ _ (by omega)]
      have e02 : tp_wr (tp_up (memA A a' S') 0 2 0) 481 0 9 S' 0 2 = 0 := by rw [wr_out (by omega), up_eq ⟨rfl, rfl⟩]
      generalize tp_wr (tp_up (memA A a' S') 0 2 0) 481 0 9 S' = N at *
      by_cases hf : fit S'
      · have f1 : fit (N 481) := fun k k0 k1 => by rw [eN k k0 k1]; exact hf k k0 k1
        obtain ⟨S2, m1, m2⟩ := mod2 (tp_wr N (4 + a0) 0 9 (N 481)) (fun c k hc => by rw [wr_out (by omega), eO _ _ (by unfold iset; omega) (by omega)])
        have f2 : fit (tp_up (memB (tp_wr N (4 + a0) 0 9 (N 481)) a' S2) 483 5 0 486) := fun k k0 k1 => by rw [up_ne (by omega), mB_486 ⟨k0, k1⟩, m2 k k0 k1]; exact hf k k0 k1
        have d1 : f_X10_degreeOf (4 + a0) (tp_wr N (4 + a0) 0 9 (N 481)) = some (tp_dg S' 9) := by
          rw [s_degreeOf tgs.1 tgs.2, tp_dg_cong (b := S') 9 (fun k k0 k1 => by rw [wr_in (by omega), show k - 0 = k by omega]; exact eN k k0 (by omega))]
        have st2 := s_read1 (s := a0) hs f2
        have d2 : f_X11_degreeOf a0 (tp_wr (tp_up (memB (tp_wr N (4 + a0) 0 9 (N 481)) a' S2) 483 5 0) 484 (9 * a0) 9 (tp_up (memB (tp_wr N (4 + a0) 0 9 (N 481)) a' S2) 483 5 0 486)) = some (tp_dg S' 9) := by
          rw [s_degreeOf2 hs, tp_dg_cong (b := S') 9 (fun k k0 k1 => by rw [wr_in (by omega), show 9 * a0 + k - 9 * a0 = k by omega, up_ne (by omega), mB_486 ⟨k0, by omega⟩]; exact m2 k k0 (by omega))]
        refine ⟨if 0 ≤ tp_dg S' 9 then tp_dg S' 9 else -10, tp_wr N (4 + a0) 0 9 (N 481), tp_wr (tp_up (memB (tp_wr N (4 + a0) 0 9 (N 481)) a' S2) 483 5 0) 484 (9 * a0) 9 (tp_up (memB (tp_wr N (4 + a0) 0 9 (N 481)) a' S2) 483 5 0 486), ?_, ?_, ?_⟩
        · unfold f_X10_text
          rw [isx]
          simp only [Option.bind_some, tp_mp]
          rw [q1]
          simp only [Option.bind_some]
          rw [c1, e41, s_store1 hs f1]
          simp only [Option.bind_some, f_X10_toldDegree, d1]
          by_cases cd : 0 ≤ tp_dg S' 9
          · repeat (first | rw [if_pos (by omega)] | rw [if_neg (by omega)] | simp only [Option.bind_some, not_true_eq_false, not_false_eq_true, if_true, if_false])
          · repeat (first | rw [if_pos (by omega)] | rw [if_neg (by omega)] | simp only [Option.bind_some, not_true_eq_false, not_false_eq_true, if_true, if_false])
        · unfold f_X11_text
          rw [ism]
          simp only [Option.bind_some, tp_mp]
          rw [m1]
          simp only [Option.bind_some]
          rw [c2, st2]
          simp only [Option.bind_some, f_X11_toldDegree, d2]
          by_cases cd : 0 ≤ tp_dg S' 9
          · repeat (first | rw [if_pos (by omega)] | rw [if_neg (by omega)] | simp only [Option.bind_some, not_true_eq_false, not_false_eq_true, if_true, if_false])
          · repeat (first | rw [if_pos (by omega)] | rw [if_neg (by omega)] | simp only [Option.bind_some, not_true_eq_false, not_false_eq_true, if_true, if_false])
        · refine inv_store (s := a0) S' hf hE (fun k k0 k1 => ?_) (fun k k0 k1 => ?_) (fun c k c0 c1 c2 => ?_) (fun k hk => ?_) (fun c k h1 h2 h3 => ?_)
          · rw [wr_out (by omega), up_ne (by omega), mB_o (by omega), wr_in (by omega), show k - 0 = k by omega, eN k k0 k1]
          · rw [wr_in (by omega), show 9 * a0 + k - 9 * a0 = k by omega, up_ne (by omega), mB_486 ⟨k0, k1⟩, m2 k k0 k1]
          · rw [wr_out (by omega), up_ne (by omega), mB_o (by omega), wr_out (by omega), eO _ _ (by unfold iset; omega) (by omega), up_ne (by omega), up_ne (by omega)]
          · rw [wr_out (by omega), up_ne (by omega), mB_o (by omega), wr_out (by omega), eO _ _ (by unfold iset; omega) (by omega), up_ne (by omega), up_ne (by omega)]
          · rw [wr_out (by omega)]
            by_cases e5 : c = 483 ∧ k = 5
            · rw [up_eq e5, up_eq e5]
            · rw [up_ne e5, up_ne e5, mB_o (by unfold iset tset at h1; omega), wr_out (by omega)]
              by_cases e0 : c = 0 ∧ k = 2
              · rw [up_eq e0, e0.1, e0.2, e02]
              · rw [up_ne e0, eO _ _ h1 e0]
      · have f1 : ¬ fit (N 481) := fun h => hf (fun k k0 k1 => by rw [← eN k k0 k1]; exact h k k0 k1)
        obtain ⟨S2, m1, m2⟩ := mod2 N (fun c k hc => by rw [eO _ _ (by unfold iset; omega) (by omega)])
        have f2 : ¬ fit (tp_up (memB N a' S2) 483 5 0 486) := fun h => hf (fun k k0 k1 => by
          have := h k k0 k1
          rw [up_ne (by omega), mB_486 ⟨k0, k1⟩, m2 k k0 k1] at this
          exact this)
        have st2 := s_read0 (s := a0) f2
        refine ⟨-3, N, tp_up (memB N a' S2) 483 5 0, ?_, ?_, ?_⟩
        · unfold f_X10_text
          rw [isx]
          simp only [Option.bind_some, tp_mp]
          rw [q1]
          simp only [Option.bind_some]
          rw [c1, e41, s_store0 f1]
          repeat (first | rw [if_pos (by omega)] | rw [if_neg (by omega)] | simp only [Option.bind_some, not_true_eq_false, not_false_eq_true, if_true, if_false])
        · unfold f_X11_text
          rw [ism]
          simp only [Option.bind_some, tp_mp]
          rw [m1]
          simp only [Option.bind_some]
          rw [c2, st2]
          repeat (first | rw [if_pos (by omega)] | rw [if_neg (by omega)] | simp only [Option.bind_some, not_true_eq_false, not_false_eq_true, if_true, if_false])
        · refine fr_inv (fun c k h1 => ?_) hE
          by_cases e5 : c = 483 ∧ k = 5
          · rw [up_eq e5, up_eq e5]
          · rw [up_ne e5, up_ne e5, mB_o (by unfold iset tset at h1; omega)]
            by_cases e0 : c = 0 ∧ k = 2
            · rw [up_eq e0, e0.1, e0.2, e02]
            · rw [up_ne e0, eO _ _ h1 e0]
    · -- a fault
      obtain ⟨S2, m1, m2⟩ := mod2 (tp_up (memA A a' S') 0 2 0) (fun c k hc => by rw [up_ne (by omega), mA_o (by omega), eA _ _ (by omega)])
      refine ⟨tp_w (-100 - a'), tp_up (memA A a' S') 0 2 0, tp_up (memB (tp_up (memA A a' S') 0 2 0) a' S2) 483 5 0, ?_, ?_, ?_⟩
      · unfold f_X10_text
        rw [isx]
        simp only [Option.bind_some, tp_mp]
        rw [q1]
        simp only [Option.bind_some]
        rw [c1]
        repeat (first | rw [if_pos (by omega)] | rw [if_neg (by omega)] | simp only [Option.bind_some, not_true_eq_false, not_false_eq_true, if_true, if_false])
      · unfold f_X11_text
        rw [ism]
        simp only [Option.bind_some, tp_mp]
        rw [m1]
        simp only [Option.bind_some]
        rw [c2, up_ne (c' := 483) (k' := 6) (by omega), mB_6]
        repeat (first | rw [if_pos (by omega)] | rw [if_neg (by omega)] | simp only [Option.bind_some, not_true_eq_false, not_false_eq_true, if_true, if_false])
      · refine fr_inv (fun c k h1 => ?_) hE
        by_cases e5 : c = 483 ∧ k = 5
        · rw [up_eq e5, up_eq e5]
        · rw [up_ne e5, up_ne e5, mB_o (by unfold iset tset at h1; omega)]
          by_cases e0 : c = 0 ∧ k = 2
          · rw [up_eq e0, up_eq e0]
          · rw [up_ne e0, up_ne e0, mA_o (by unfold iset tset at h1; omega), eA _ _ (by unfold iset tset at h1; omega)]
  · refine ⟨-1, M, M, ?_, ?_, hI'⟩
    · unfold f_X10_text f_X10_isSlot
      by_cases c : a0 < 0
      · repeat (first | rw [if_pos (by omega)] | rw [if_neg (by omega)] | simp only [Option.bind_some, not_true_eq_false, not_false_eq_true, if_true, if_false])
      · repeat (first | rw [if_pos (by omega)] | rw [if_neg (by omega)] | simp only [Option.bind_some, not_true_eq_false, not_false_eq_true, if_true, if_false])
    · unfold f_X11_text f_X11_isSlot
      by_cases c : a0 < 0
      · repeat (first | rw [if_pos (by omega)] | rw [if_neg (by omega)] | simp only [Option.bind_some, not_true_eq_false, not_false_eq_true, if_true, if_false])
      · repeat (first | rw [if_pos (by omega)] | rw [if_neg (by omega)] | simp only [Option.bind_some, not_true_eq_false, not_false_eq_true, if_true, if_false])
