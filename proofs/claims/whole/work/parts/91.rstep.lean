/-- what a step does when the residual is taken apart -/
def stE (x1 x2 : Int) (r5 : tp_M) : Option tp_M :=
    if 0 ≤ (r5 483 61) ∧ (r5 483 61) < 8 then
      tp_lt ((r5 530 (r5 483 61))) fun y7 =>
      if ¬ y7 = (r5 483 12) then
        if 0 ≤ (r5 483 61) ∧ (r5 483 61) < 8 then
          if 0 ≤ (r5 483 61) ∧ (r5 483 61) < 8 then
            tp_mp (tp_up r5 530 (r5 483 61) (tp_w ((r5 530 (r5 483 61)) + 1))) fun M9 =>
            if ¬ (M9 483 61) = 0 then
              (f_X11_takesKnot x1 M9).bind fun r11 =>
              (f_X11_takesFactor x1 x2 y7 r11).bind fun r13 =>
              some r13
            else
              (f_X11_takesFirst y7 M9).bind fun r15 =>
              some r15 else none else none
      else
        if 0 ≤ (r5 483 61) ∧ (r5 483 61) < 8 then
          if 0 ≤ (r5 483 61) ∧ (r5 483 61) < 8 then
            tp_mp (tp_up r5 529 (r5 483 61) (tp_w ((r5 529 (r5 483 61)) + 1))) fun M17 =>
            if 0 ≤ (M17 483 61) ∧ (M17 483 61) < 8 then
              tp_mp (tp_up M17 530 (M17 483 61) 0) fun M18 =>
              if ¬ (M18 483 61) = 0 then
                tp_mp (tp_up M18 483 61 (tp_w ((M18 483 61) - 0))) fun M20 =>
                some M20
              else
                tp_mp (tp_up M18 483 61 (tp_w ((M18 483 61) - 1))) fun M21 =>
                some M21 else none else none else none else none
/-- the reference stands at a residual -/
def stR (R : tp_M) (p r x kn j i : Int) (Res : Int → Int) : Prop := R 483 0 = p ∧ R 483 61 = r ∧ R 529 r = j ∧ R 530 r = i ∧ (r = 0 → x = 0 ∧ R 528 0 = kn ∧ ∀ k, 0 ≤ k → k < 9 → 0 ≤ R 495 k ∧ R 495 k % p = Res k) ∧ (1 ≤ r → R 528 r = kn ∧ (0 ≤ kn ∧ kn < 40) ∧ R 499 kn + j = x ∧ j < R 500 kn ∧ (0 ≤ x ∧ x < 60) ∧ ∀ k, 0 ≤ k → k < 9 → R 515 (9 * x + k) = Res k)
set_option maxHeartbeats 4000000 in
set_option maxRecDepth 100000 in
theorem s_st76 {R : tp_M} {p r x kn j i y : Int} {Res : Int → Int} (hpm : Pm p) (hr : 0 ≤ r ∧ r ≤ 6) (hRo : Ro p Res) (hdg : 0 ≤ tp_dg Res 9) (hS : stR R p r x kn j i Res) : ∃ V, f_X11_steps_76 y x 0 R = stE y x V ∧ Rl V (fzl p (mon p Res)) ∧ frR R V := by
  obtain ⟨h1, h2, h3, h4, h5, h6⟩ := hS
  have hp2 := pm_2 hpm
  have key : f_X11_steps_76 y x 0 R = (f_X11_takesApart (tp_wr R 489 0 9 Res)).bind fun r5 => stE y x r5 := by
    unfold f_X11_steps_76
    have e0 : ((0 : Int), R) = (((0 : Nat) : Int), tp_wr R 489 0 ((0 : Nat) : Int) Res) := by rw [show ((0 : Nat) : Int) = 0 from rfl, wr_zero]
    rw [e0]
    refine lp_seq (fun n => ((n : Int), tp_wr R 489 0 n Res)) 9 (fun n hn rc => ?_) (fun rc => ?_) tp_N (by unfold tp_N; omega)
    · have u := wr_succ0 R 489 n Res
      have o : ∀ c k, c ≠ 489 → tp_wr R 489 0 n Res c k = R c k := fun c k hc => wr_out (fun hh => hc hh.1)
      have e61 : tp_wr R 489 0 n Res 483 61 = r := by rw [o _ _ (by decide)]; exact h2
      have n9 : 0 ≤ (n : Int) ∧ (n : Int) < 9 := by omega
      simp only [f_X11_steps_76B, f_X11_steps_118, tp_mp, tp_lt, e61]
      rw [if_neg (by omega), w_succ (show n < 1000000 by omega)]
      by_cases c : r = 0
      · have q := (h5 c).2.2 n n9.1 n9.2
        have sr : f_X11_residue (R 495 n) (tp_wr R 489 0 n Res) = some (Res n) := by
          rw [s_residue1 (p := p) (by rw [o _ _ (by decide)]; exact h1) hp2, q.2]
        rw [if_pos (by omega), if_pos n9, o _ _ (by decide), sr, Option.bind_some, if_pos n9, u]
      · obtain ⟨q1, q2, q3, q4, q5, q6⟩ := h6 (by omega)
        have b1 : 0 ≤ 9 * x + (n : Int) ∧ 9 * x + (n : Int) < 576 := by omega
        rw [if_neg (by omega), ho_w (x := 9 * x) (by omega) (by omega), ho_w (x := 9 * x + n) (by omega) (by omega), if_pos b1, if_pos n9, o _ _ (by decide), q6 n n9.1 n9.2, u]
    · simp only [f_X11_steps_76B]
      rw [if_pos (by omega)]
      rfl
  have rd9 : rd (tp_wr R 489 0 9 Res 489) = Res := by
    funext k
    by_cases c : 0 ≤ k ∧ k < 9
    · rw [rd_in c, wr_in ⟨rfl, by omega, by omega⟩, show k - 0 = k by omega]
    · rw [rd_out c, hRo.2 k c]
  obtain ⟨V, v1, v2, v3⟩ := s_takesApart (M := tp_wr R 489 0 9 Res) hpm (by rw [wr_out (fun hh => absurd hh.1 (by decide))]; exact h1) (by rw [rd9]; exact hRo) (by rw [rd9]; exact hdg)
  rw [rd9] at v2
  exact ⟨V, by rw [key, v1, Option.bind_some], v2, fun c k g1 g2 => by rw [v3 c k g1 g2, wr_out (fun hh => g1 (by omega))]⟩
set_option maxHeartbeats 4000000 in
set_option maxRecDepth 100000 in
theorem s_stepV {R : tp_M} {p r x kn j i : Int} {Res : Int → Int} (hpm : Pm p) (hr : 0 ≤ r ∧ r ≤ 6) (hRo : Ro p Res) (hdg : 0 ≤ tp_dg Res 9) (hj : 0 ≤ j ∧ j ≤ 100) (hS : stR R p r x kn j i Res) : ∃ V, f_X11_steps R = stE kn x V ∧ Rl V (fzl p (mon p Res)) ∧ frR R V := by
  obtain ⟨V, v1, v2, v3⟩ := s_st76 (y := kn) hpm hr hRo hdg hS
  obtain ⟨h1, h2, h3, h4, h5, h6⟩ := hS
  refine ⟨V, ?_, v2, v3⟩
  rw [← v1]
  have r8 : 0 ≤ r ∧ r < 8 := by omega
  unfold f_X11_steps f_X11_steps_46 f_X11_steps_73
  simp only [tp_lt, h2]
  rw [if_pos r8]
  by_cases c : r = 0
  · obtain ⟨q1, q2, q3⟩ := h5 c
    rw [if_pos (by omega), if_pos (by omega), c, q2, q1]
  · obtain ⟨q1, q2, q3, q4, q5, q6⟩ := h6 (by omega)
    rw [if_neg (by omega), if_pos r8, q1, if_pos q2, h3, if_pos (by omega), if_neg (by omega), if_pos q2, if_pos r8, q3, ho_w (by omega) (by omega)]
set_option maxHeartbeats 4000000 in
set_option maxRecDepth 100000 in
theorem s_stepEnd {R : tp_M} {p r x kn j : Int} {Res : Int → Int} (hpm : Pm p) (hr : 0 ≤ r ∧ r ≤ 6) (hRo : Ro p Res) (hdg : 0 ≤ tp_dg Res 9) (hj : 0 ≤ j ∧ j ≤ 100) (hS : stR R p r x kn j (fzl p (mon p Res)).length Res) : ∃ R', f_X11_steps R = some R' ∧ R' 529 r = j + 1 ∧ R' 530 r = 0 ∧ R' 483 61 = (if r = 0 then -1 else r) ∧ ∀ c k, ¬ (489 ≤ c ∧ c ≤ 494) → ¬ (c = 483 ∧ (k = 11 ∨ k = 12 ∨ k = 61)) → ¬ ((c = 529 ∨ c = 530) ∧ k = r) → R' c k = R c k := by
  obtain ⟨V, v1, v2, v3⟩ := s_stepV hpm hr hRo hdg hj hS
  obtain ⟨h1, h2, h3, h4, h5, h6⟩ := hS
  have r8 : 0 ≤ r ∧ r < 8 := by omega
  have e61 : V 483 61 = r := by rw [v3 _ _ (by omega) (by omega)]; exact h2
  have e30 : V 530 r = (fzl p (mon p Res)).length := by rw [v3 _ _ (by omega) (by omega)]; exact h4
  have e29 : V 529 r = j := by rw [v3 _ _ (by omega) (by omega)]; exact h3
  have e12 := v2.1
  refine ⟨tp_up (tp_up (tp_up V 529 r (j + 1)) 530 r 0) 483 61 (if r = 0 then -1 else r), ?_, ?_, ?_, ?_, fun c k g1 g2 g3 => ?_⟩
  · rw [v1]
    unfold stE
    have f1 : tp_up V 529 r (j + 1) 483 61 = r := by rw [up_ne (fun hh => absurd hh.1 (by decide))]; exact e61
    have f2 : tp_up (tp_up V 529 r (j + 1)) 530 r 0 483 61 = r := by rw [up_ne (fun hh => absurd hh.1 (by decide))]; exact f1
    simp only [tp_lt, tp_mp, e61, e30, e12, e29]
    rw [if_pos r8, if_neg (fun hh => hh trivial), if_pos r8, if_pos r8, ho_w (x := j + 1) (by omega) (by omega)]
    simp only [f1, f2]
    rw [if_pos r8]
    by_cases c : r = 0
    · rw [if_neg (fun hh => hh c), if_pos c, c, ho_w (by omega) (by omega)]; rfl
    · rw [if_pos c, if_neg c, ho_w (by omega) (by omega), Int.sub_zero]
  · rw [up_ne (fun hh => absurd hh.1 (by decide)), up_ne (fun hh => absurd hh.1 (by decide)), up_eq ⟨rfl, rfl⟩]
  · rw [up_ne (fun hh => absurd hh.1 (by decide)), up_eq ⟨rfl, rfl⟩]
  · rw [up_eq ⟨rfl, rfl⟩]
  · rw [up_ne (by omega), up_ne (by omega), up_ne (by omega), v3 c k g1 (by omega)]
/-- the leaf of a factor, where it has one -/
def lfO (r E kn deg tm : Int) : Option (Int × Int × Int × Int × Int) := if tm = 1 then some (0, E, deg, E * deg, kn) else if 2 ≤ deg then some (2, 0, 0, deg * tm * E, kn) else if r = 6 then some (3, 0, 0, tm * E, kn) else none
set_option maxHeartbeats 4000000 in
set_option maxRecDepth 100000 in
theorem s_stepLeaf {R : tp_M} {p P r x kn j E nl : Int} {i : Nat} {Res : Int → Int} {D e s rt kf : Int → Int} {mo q : Int → Int → Int} {fe : Fent} {a : Int × Int × Int × Int × Int} (hpm : Pm p) (hr : 0 ≤ r ∧ r ≤ 6) (hRo : Ro p Res) (hdg : 0 ≤ tp_dg Res 9) (hj : 0 ≤ j ∧ j ≤ 100) (hS : stR R p r x kn j i Res) (hi : (fzl p (mon p Res))[i]? = some fe) (hi8 : i < 9) (hfe : (1 ≤ fe.1 ∧ fe.1 ≤ 8) ∧ (1 ≤ fe.2.1 ∧ fe.2.1 ≤ 8)) (hg : 1 ≤ r → cxg p P r D e s rt mo q ∧ WyR R r e s rt kf mo q ∧ kf r = kn ∧ E = D r * R 511 x) (hE : (r = 0 → E = 1) ∧ 1 ≤ E ∧ E ≤ 8) (hl : lfO r E (if r = 0 then -2 else kn) fe.1 fe.2.1 = some a) (h23 : R 483 23 = nl) (hnl : 0 ≤ nl ∧ nl < 20) : ∃ R', f_X11_steps R = some R' ∧ R' 530 r = i + 1 ∧ R' 483 23 = nl + 1 ∧ LfR R' nl a.1 a.2.1 a.2.2.1 a.2.2.2.1 a.2.2.2.2 ∧ ∀ c k, ¬ (489 ≤ c ∧ c ≤ 494) → ¬ (c = 483 ∧ (k = 11 ∨ k = 12 ∨ k = 23 ∨ k = 49)) → ¬ (c = 530 ∧ k = r) → ¬ (521 ≤ c ∧ c ≤ 525) → ¬ (516 ≤ c ∧ c ≤ 520 ∧ k = nl) → R' c k = R c k := by
  obtain ⟨V, v1, v2, v3⟩ := s_stepV hpm hr hRo hdg hj hS
  obtain ⟨h1, h2, h3, h4, h5, h6⟩ := hS
  have r8 : 0 ≤ r ∧ r < 8 := by omega
  have i9 : 0 ≤ (i : Int) ∧ (i : Int) < 9 := by omega
  have il : i < (fzl p (mon p Res)).length := by obtain ⟨q1, _⟩ := List.getElem?_eq_some_iff.mp hi; exact q1
  have e61 : V 483 61 = r := by rw [v3 _ _ (by omega) (by omega)]; exact h2
  have e30 : V 530 r = i := by rw [v3 _ _ (by omega) (by omega)]; exact h4
  have e12 := v2.1
  obtain ⟨l1, l2, l3⟩ := v2.2 i fe hi
  generalize hM9 : tp_up V 530 r ((i : Int) + 1) = M9
  have f9 : ∀ c k, ¬ (c = 530 ∧ k = r) → M9 c k = V c k := fun c k g => by rw [← hM9, up_ne g]
  have f61 : M9 483 61 = r := by rw [f9 _ _ (by omega)]; exact e61
  have est : stE kn x V = if ¬ r = 0 then (f_X11_takesKnot kn M9).bind fun r11 => (f_X11_takesFactor kn x i r11).bind fun r13 => some r13 else (f_X11_takesFirst i M9).bind fun r15 => some r15 := by
    unfold stE
    simp only [tp_lt, tp_mp, e61, e30, e12]
    rw [if_pos r8, if_pos (by omega), if_pos r8, if_pos r8, ho_w (x := (i : Int) + 1) (by omega) (by omega), hM9, f61]
  have m1 := mulB (x := (fe.1 : Int)) (y := (fe.2.1 : Int)) (a := 8) (b := 8) (by omega) (by omega)
  have m2 := mulB (x := E) (y := (fe.1 : Int)) (a := 8) (b := 8) (by omega) (by omega)
  have m3 := mulB (x := (fe.2.1 : Int)) (y := E) (a := 8) (b := 8) (by omega) (by omega)
  have m4 := mulB (x := (fe.1 : Int) * (fe.2.1 : Int)) (y := E) (a := 64) (b := 8) (by omega) (by omega)
  by_cases c : r = 0
  · have E1 := hE.1 c
    obtain ⟨N, n1, n2, n3, n4⟩ := s_addsLeaf (M := M9) (n := nl) a.1 a.2.1 a.2.2.1 a.2.2.2.1 a.2.2.2.2 (by rw [f9 _ _ (by omega), v3 _ _ (by omega) (by omega)]; exact h23) hnl
    refine ⟨N, ?_, ?_, n2, n3, fun c k g1 g2 g3 g4 g5 => by rw [n4 c k (by omega) g5, f9 c k g3, v3 c k g1 (by omega)]⟩
    · rw [v1, est, if_neg (fun hh => hh c)]
      unfold f_X11_takesFirst
      have d1 : M9 490 i = fe.1 := by rw [f9 _ _ (by omega)]; exact l1
      have d2 : M9 491 i = fe.2.1 := by rw [f9 _ _ (by omega)]; exact l2
      simp only [tp_lt, d1, d2]
      rw [if_pos i9, if_pos i9]
      unfold lfO at hl
      rw [if_pos c] at hl
      by_cases c1 : (fe.2.1 : Int) = 1
      · rw [if_pos c1] at hl
        rw [if_neg (fun hh => hh c1)]
        have ea := Option.some.inj hl
        rw [← ea, E1] at n1
        simp only [Int.one_mul] at n1
        rw [n1]; rfl
      · rw [if_neg c1] at hl
        rw [if_pos c1]
        by_cases c2 : 2 ≤ (fe.1 : Int)
        · rw [if_pos c2] at hl
          have ea := Option.some.inj hl
          rw [← ea, E1] at n1
          simp only [Int.mul_one] at n1
          rw [if_pos (by omega), ho_w (by omega) (by omega), n1]; rfl
        · rw [if_neg c2, if_neg (by omega)] at hl
          exact absurd hl (by simp)
    · rw [n4 _ _ (by omega) (by omega), ← hM9, up_eq ⟨rfl, rfl⟩]
  · obtain ⟨g1, g2, g3, g4⟩ := hg (by omega)
    obtain ⟨q1, q2, q3, q4, q5, q6⟩ := h6 (by omega)
    obtain ⟨cb, cc, co, cd⟩ := cxg_b g1 (by omega)
    have fR : ∀ c k, c < 483 ∨ c = 488 ∨ (495 ≤ c ∧ c ≤ 520) → M9 c k = R c k := fun c k hc => by rw [f9 _ _ (by omega), v3 _ _ (by omega) (by omega)]
    obtain ⟨T, t1, t2, t3, t4⟩ := s_takesKnotW (R := M9) cb g1.1 (by omega) (WyR_fr g2 (fun c i hc _ => fR c i (by omega)) (fun k j _ _ _ _ => fR _ _ (by omega)) (fun k j _ _ _ _ => fR _ _ (by omega)))
    rw [g3] at t1
    have d1 : T 490 i = fe.1 := by rw [t4 _ _ (by omega) (by omega), f9 _ _ (by omega)]; exact l1
    have d2 : T 491 i = fe.2.1 := by rw [t4 _ _ (by omega) (by omega), f9 _ _ (by omega)]; exact l2
    have d3 : T 483 49 = r := t2.1
    have d4 : T 522 r = D r := (t2.2.1 r (by omega) (Int.le_refl _)).1
    have d5 : T 511 x = R 511 x := by rw [t4 _ _ (by omega) (by omega), fR _ _ (by omega)]
    have x64 : 0 ≤ x ∧ x < 64 := by omega
    obtain ⟨N, n1, n2, n3, n4⟩ := s_addsLeaf (M := T) (n := nl) a.1 a.2.1 a.2.2.1 a.2.2.2.1 a.2.2.2.2 (by rw [t4 _ _ (by omega) (by omega), f9 _ _ (by omega), v3 _ _ (by omega) (by omega)]; exact h23) hnl
    refine ⟨N, ?_, ?_, n2, n3, fun c k y1 y2 y3 y4 y5 => by rw [n4 c k (by omega) y5, t4 c k (by omega) y4, f9 c k y3, v3 c k y1 (by omega)]⟩
    · rw [v1, est, if_pos c, t1, Option.bind_some]
      unfold f_X11_takesFactor
      simp only [tp_lt, d1, d2, d3, d4, d5, ← g4]
      rw [if_pos i9, if_pos i9, if_pos r8, if_pos x64, ho_w (x := E) (by omega) (by omega)]
      unfold lfO at hl
      rw [if_neg c] at hl
      by_cases c1 : (fe.2.1 : Int) = 1
      · rw [if_pos c1] at hl
        rw [if_neg (fun hh => hh c1), ho_w (by omega) (by omega)]
        have ea := Option.some.inj hl
        rw [← ea] at n1
        rw [n1]; rfl
      · rw [if_neg c1] at hl
        rw [if_pos c1]
        by_cases c2 : 2 ≤ (fe.1 : Int)
        · rw [if_pos c2] at hl
          have ea := Option.some.inj hl
          rw [← ea] at n1
          rw [if_neg (by omega), ho_w (x := (fe.1 : Int) * fe.2.1) (by omega) (by omega), ho_w (by omega) (by omega), n1]; rfl
        · rw [if_neg c2] at hl
          by_cases c3 : r = 6
          · rw [if_pos c3] at hl
            have ea := Option.some.inj hl
            rw [← ea] at n1
            rw [if_pos (by omega), if_neg (fun hh => hh c3), ho_w (by omega) (by omega), n1]; rfl
          · rw [if_neg c3] at hl
            exact absurd hl (by simp)
    · rw [n4 _ _ (by omega) (by omega), t4 _ _ (by omega) (by omega), ← hM9, up_eq ⟨rfl, rfl⟩]
