section RT
variable {k : Nat} {hv : HV} {N f m kd pu ti : Nat → Int32}
theorem rem20 {x : Int32} (h : ¬ x < 0) : x - x / 20 * 20 = nI (x.toNatClampNeg % 20) := by
  obtain ⟨j, hj, rfl⟩ := nI_of h
  rw [nI_clamp hj]
  exact pk_rem (a := j) (d := 20) hj (by omega) (by omega)
theorem shiftF_step (f : Nat → Int32) (a v : Nat) : shiftF (upd f (a + (v + 1)) (f (a + (v + 1) - 1))) a (v + 1) = shiftF f a (v + 1 + 1) := by
  funext j
  unfold shiftF
  by_cases e : j = a + (v + 1)
  · subst e
    rw [if_neg (by omega), if_pos ⟨by omega, by omega⟩, upd_s]
  · by_cases z : a < j ∧ j < a + (v + 1)
    · rw [if_pos z, if_pos ⟨z.1, by omega⟩, upd_n _ _ (by omega)]
    · rw [if_neg z, if_neg (by omega), upd_n _ _ e]
theorem shiftF_1 (f : Nat → Int32) (a : Nat) : shiftF f a 1 = f := by
  funext j
  unfold shiftF
  rw [if_neg (by omega)]
theorem shiftF_o (f : Nat → Int32) (a n j : Nat) (h : j ≤ a ∨ a + n ≤ j) : shiftF f a n j = f j := if_neg (by omega)
end RT

