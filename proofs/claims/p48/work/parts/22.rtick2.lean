section RT2
variable {k : Nat} {hv : HV} {N f m kd pu ti : Nat → Int32} {st : Bool} {a2 : Int32}
theorem airF_c {f g : Nat → Int32} (h1 : f 11 = g 11) (h2 : f 12 = g 12) (h3 : f 14 = g 14) : airF f = airF g := by unfold airF; rw [h1, h2, h3]
theorem ivF_o (t : Int32) (f : Nat → Int32) (j : Nat) (h : j < 22) : ivF t f j = f j := by
  unfold ivF
  rw [upd_n _ _ (by omega), upd_n _ _ (by omega), upd_n _ _ (by omega), shiftF_o _ _ _ _ (Or.inl (by omega))]
theorem fa_same {f : Nat → Int32} {i : Nat} {x : Int32} (h : f i = x) : upd f i x = f := by
  funext j
  by_cases e : j = i
  · subst e; rw [upd_s, h]
  · rw [upd_n _ _ e]
end RT2

