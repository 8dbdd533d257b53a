/-- the two constructors, run on their own -/
theorem tp_mk1 : df_X10_init 1 12 0 [(10, bl_10)] = some (tp_lay.take 483) := by decide +kernel
theorem tp_mk2 : df_X11_init 484 4716 483 (tp_lay.take 483 ++ [(11, bl_11)]) = some tp_lay := by decide +kernel
/-- the memory at first -/
def tp_M0 : tp_M := fun c k => tp_rv c k.toNat
theorem tp_M0_st : ∀ c, c < tp_NC → tp_st tp_M0 c = tp_dy tp_lay c := by
  intro c hc
  have hl : c < tp_lay.length := by rw [tp_lay_len]; exact hc
  have hq : tp_lay[c]? = some tp_lay[c] := List.getElem?_eq_getElem hl
  rw [tp_dy_at hq]
  unfold tp_st
  rw [hq]
  show (tp_lay[c].1, _) = tp_lay[c]
  have : List.mapIdx (fun k x => if tp_ty tp_lay[c].1 k = 2 then x else tp_M0 c k) tp_lay[c].2 = tp_lay[c].2 := by
    apply List.ext_getElem?
    intro j
    rw [List.getElem?_mapIdx]
    cases hj : tp_lay[c].2[j]? with
    | none => rfl
    | some x =>
      have : tp_M0 (c : Int) (j : Int) = x := by
        unfold tp_M0 tp_rv
        rw [show ((c : Int)).toNat = c by omega, hq, show ((j : Int)).toNat = j by omega]
        show tp_lay[c].2.getD j 0 = x
        rw [List.getD_eq_getElem?_getD, hj]; rfl
      rw [Option.map_some, this]
      split <;> rfl
  exact Prod.ext rfl this
theorem tp_M0_H {G : tp_G} {H : Heap} (h : tp_H G tp_lay.length (tp_dy tp_lay) H) : tp_H G tp_NC (tp_st tp_M0) H := by
  rw [tp_lay_len] at h
  refine ⟨h.1, fun c hc => ?_⟩
  rw [tp_M0_st c hc]
  exact h.2 c hc
