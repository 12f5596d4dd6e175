section RT3
variable {k : Nat} {hv : HV} {N f m kd pu ti : Nat → Int32} {a2 : Int32}
theorem iM_0 (m : Nat → Int32) : iM 0 m = m := rfl
theorem iK_0 (m r : Nat → Int32) (v : Int32) : iK 0 m r v = r := rfl
theorem iM_6 {m : Nat → Int32} (kind : Int32) (i : Nat) (h : ¬ i = 6) : iM kind m i = m i := by
  unfold iM
  by_cases c : kind = 0
  · rw [if_pos c]
  · rw [if_neg c, upd_n _ _ h]
theorem iK_v {kind v : Int32} (h : kind = 0 ∨ kind = v) (m r : Nat → Int32) : iK kind m r v = iK kind m r kind := by
  rcases h with rfl | rfl
  · rfl
  · rfl
theorem mS_6 (f m : Nat → Int32) (i : Nat) (h : ¬ i = 7) : mS f m i = m i := by
  unfold mS
  by_cases c : f 7 = 0 ∧ slamsF (gain1F f (flowF f))
  · rw [if_pos c, upd_n _ _ h]
  · rw [if_neg c]
theorem iK_c (kind : Int32) (m m2 r : Nat → Int32) (v : Int32) (h : m 6 = m2 6) : iK kind m r v = iK kind m2 r v := by unfold iK plI; rw [h]
theorem slamF_f (t t2 : Int32) (f : Nat → Int32) : slamF false t f = slamF false t2 f := rfl
theorem midF_f (t t2 : Int32) (f : Nat → Int32) : midF false t f = midF false t2 f := rfl
theorem iM_n6 {m : Nat → Int32} (kind : Int32) (h : 0 ≤ (m 6).toInt) (h2 : (m 6).toInt < 2147483647) : ¬ iM kind m 6 < 0 := by
  unfold iM
  by_cases c : kind = 0
  · rw [if_pos c, Int32.lt_iff_toInt_lt]
    show ¬ (m 6).toInt < 0
    omega
  · rw [if_neg c, upd_s, Int32.lt_iff_toInt_lt, Int32.toInt_add]
    show ¬ ((m 6).toInt + 1).bmod _ < 0
    rw [Int.bmod_eq_of_le (by show -(4294967296 / 2 : Int) ≤ _; omega) (by show _ < ((4294967296 + 1) / 2 : Int); omega)]
    omega
end RT3

