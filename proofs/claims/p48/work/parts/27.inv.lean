/-! What always holds of a pump's numbers. -/
def PI (f : Nat → Int32) : Prop :=
  (10 ≤ (f 0).toInt ∧ (f 0).toInt ≤ 99) ∧ (10 ≤ (f 1).toInt ∧ (f 1).toInt ≤ 400) ∧ (1 ≤ (f 2).toInt ∧ (f 2).toInt ≤ 20) ∧ (0 ≤ (f 3).toInt ∧ (f 3).toInt ≤ 100) ∧ (0 ≤ (f 4).toInt ∧ (f 4).toInt ≤ 500) ∧
  (f 5 = 0 ∨ f 5 = 1) ∧ (0 ≤ (f 6).toInt ∧ (f 6).toInt ≤ 2000) ∧ (f 7 = 0 ∨ f 7 = 1) ∧ (0 ≤ (f 9).toInt ∧ (f 9).toInt ≤ 2) ∧ (1 ≤ (f 10).toInt ∧ (f 10).toInt ≤ 500) ∧ (50 ≤ (f 11).toInt ∧ (f 11).toInt ≤ 2000) ∧ (f 12 = 0 ∨ f 12 = 1) ∧
  (0 ≤ (f 13).toInt ∧ (f 13).toInt ≤ (f 11).toInt - (f 11).toInt / 10) ∧ ((f 11).toInt / 10 ≤ (f 14).toInt ∧ (f 14).toInt ≤ (f 11).toInt) ∧ (0 ≤ (f 15).toInt ∧ (f 15).toInt ≤ 30000)
theorem PI_c {f g : Nat → Int32} (h : ∀ j, j < 16 → ¬ j = 8 → g j = f j) (hf : PI f) : PI g := by
  unfold PI
  rw [h 0 (by omega) (by omega), h 1 (by omega) (by omega), h 2 (by omega) (by omega), h 3 (by omega) (by omega), h 4 (by omega) (by omega), h 5 (by omega) (by omega), h 6 (by omega) (by omega), h 7 (by omega) (by omega), h 9 (by omega) (by omega), h 10 (by omega) (by omega), h 11 (by omega) (by omega), h 12 (by omega) (by omega), h 13 (by omega) (by omega), h 14 (by omega) (by omega), h 15 (by omega) (by omega)]
  exact hf
theorem PI_u {f : Nat → Int32} (j : Nat) (v : Int32) (h : 16 ≤ j ∨ j = 8) (hf : PI f) : PI (upd f j v) := PI_c (fun i h1 h2 => upd_n _ _ (by omega)) hf
theorem PI_6 {f : Nat → Int32} {v : Int32} (h : 0 ≤ v.toInt ∧ v.toInt ≤ 2000) (hf : PI f) : PI (upd f 6 v) := by
  unfold PI at hf ⊢
  simp (decide := true) only [upd_r, if_true, if_false]
  obtain ⟨a0, a1, a2, a3, a4, a5, a6, a7⟩ := hf
  exact ⟨a0, a1, a2, a3, a4, a5, h, a7⟩
theorem PI_7 {f : Nat → Int32} {v : Int32} (h : v = 0 ∨ v = 1) (hf : PI f) : PI (upd f 7 v) := by
  unfold PI at hf ⊢
  simp (decide := true) only [upd_r, if_true, if_false]
  obtain ⟨a0, a1, a2, a3, a4, a5, a6, a7, a8⟩ := hf
  exact ⟨a0, a1, a2, a3, a4, a5, a6, h, a8⟩
theorem PI_13 {f : Nat → Int32} {v : Int32} (h : 0 ≤ v.toInt ∧ v.toInt ≤ (f 11).toInt - (f 11).toInt / 10) (hf : PI f) : PI (upd f 13 v) := by
  unfold PI at hf ⊢
  simp (decide := true) only [upd_r, if_true, if_false]
  obtain ⟨a0, a1, a2, a3, a4, a5, a6, a7, a9, a10, a11, a12, a13, a14⟩ := hf
  exact ⟨a0, a1, a2, a3, a4, a5, a6, a7, a9, a10, a11, a12, h, a14⟩
theorem PI_14 {f : Nat → Int32} {v : Int32} (h : (f 11).toInt / 10 ≤ v.toInt ∧ v.toInt ≤ (f 11).toInt) (hf : PI f) : PI (upd f 14 v) := by
  unfold PI at hf ⊢
  simp (decide := true) only [upd_r, if_true, if_false]
  obtain ⟨a0, a1, a2, a3, a4, a5, a6, a7, a9, a10, a11, a12, a13, a14, a15⟩ := hf
  exact ⟨a0, a1, a2, a3, a4, a5, a6, a7, a9, a10, a11, a12, a13, h, a15⟩
theorem PI_15 {f : Nat → Int32} {v : Int32} (h : 0 ≤ v.toInt ∧ v.toInt ≤ 30000) (hf : PI f) : PI (upd f 15 v) := by
  unfold PI at hf ⊢
  simp (decide := true) only [upd_r, if_true, if_false]
  obtain ⟨a0, a1, a2, a3, a4, a5, a6, a7, a9, a10, a11, a12, a13, a14, a15⟩ := hf
  exact ⟨a0, a1, a2, a3, a4, a5, a6, a7, a9, a10, a11, a12, a13, a14, h⟩
section PIL
variable {f : Nat → Int32}
theorem PI.h0 (h : PI f) : 10 ≤ (f 0).toInt ∧ (f 0).toInt ≤ 99 := h.1
theorem PI.h1 (h : PI f) : 10 ≤ (f 1).toInt ∧ (f 1).toInt ≤ 400 := h.2.1
theorem PI.h2 (h : PI f) : 1 ≤ (f 2).toInt ∧ (f 2).toInt ≤ 20 := h.2.2.1
theorem PI.h3 (h : PI f) : 0 ≤ (f 3).toInt ∧ (f 3).toInt ≤ 100 := h.2.2.2.1
theorem PI.h4 (h : PI f) : 0 ≤ (f 4).toInt ∧ (f 4).toInt ≤ 500 := h.2.2.2.2.1
theorem PI.h5 (h : PI f) : f 5 = 0 ∨ f 5 = 1 := h.2.2.2.2.2.1
theorem PI.h6 (h : PI f) : 0 ≤ (f 6).toInt ∧ (f 6).toInt ≤ 2000 := h.2.2.2.2.2.2.1
theorem PI.h7 (h : PI f) : f 7 = 0 ∨ f 7 = 1 := h.2.2.2.2.2.2.2.1
theorem PI.h9 (h : PI f) : 0 ≤ (f 9).toInt ∧ (f 9).toInt ≤ 2 := h.2.2.2.2.2.2.2.2.1
theorem PI.h10 (h : PI f) : 1 ≤ (f 10).toInt ∧ (f 10).toInt ≤ 500 := h.2.2.2.2.2.2.2.2.2.1
theorem PI.h11 (h : PI f) : 50 ≤ (f 11).toInt ∧ (f 11).toInt ≤ 2000 := h.2.2.2.2.2.2.2.2.2.2.1
theorem PI.h12 (h : PI f) : f 12 = 0 ∨ f 12 = 1 := h.2.2.2.2.2.2.2.2.2.2.2.1
theorem PI.h13 (h : PI f) : 0 ≤ (f 13).toInt ∧ (f 13).toInt ≤ (f 11).toInt - (f 11).toInt / 10 := h.2.2.2.2.2.2.2.2.2.2.2.2.1
theorem PI.h14 (h : PI f) : (f 11).toInt / 10 ≤ (f 14).toInt ∧ (f 14).toInt ≤ (f 11).toInt := h.2.2.2.2.2.2.2.2.2.2.2.2.2.1
theorem PI.h15 (h : PI f) : 0 ≤ (f 15).toInt ∧ (f 15).toInt ≤ 30000 := h.2.2.2.2.2.2.2.2.2.2.2.2.2.2
theorem i10 : (10 : Int32).toInt = 10 := rfl
theorem i100 : (100 : Int32).toInt = 100 := rfl
theorem i0 : (0 : Int32).toInt = 0 := rfl
theorem i1 : (1 : Int32).toInt = 1 := rfl
theorem i2 : (2 : Int32).toInt = 2 := rfl
theorem PI.n1 (h : PI f) : ¬ f 1 = 0 := by
  have := h.h1
  intro z; rw [z, i0] at this; omega
theorem PI.le1 (h : PI f) : 1 ≤ f 1 := by rw [i_le, i1]; have := h.h1; omega
theorem PI.least (h : PI f) : (f 11 / 10).toInt = (f 11).toInt / 10 := by
  have := h.h11
  rw [i_div (by omega) (by rw [i10]; omega), i10]
theorem PI.flow (h : PI f) : 0 ≤ (flowF f).toInt ∧ (flowF f).toInt ≤ 4000 := by
  have h2 := h.h2
  have h6 := h.h6
  have m1 : 0 ≤ (f 2).toInt * (f 6).toInt := Int.mul_nonneg (by omega) (by omega)
  have m2 : (f 2).toInt * (f 6).toInt ≤ 20 * 2000 := Int.mul_le_mul (by omega) (by omega) (by omega) (by omega)
  unfold flowF
  have e := i_mul (a := f 2) (b := f 6) (by omega) (by omega)
  rw [i_div (by rw [e]; omega) (by rw [i10]; omega), e, i10]
  omega
theorem PI.space (h : PI f) : (f 11 - f 13).toInt = (f 11).toInt - (f 13).toInt ∧ 5 ≤ (f 11).toInt - (f 13).toInt := by
  have h11 := h.h11
  have h13 := h.h13
  refine ⟨i_sub (by omega) (by omega), by omega⟩
theorem PI.sp1 (h : PI f) : 1 ≤ f 11 - f 13 := by rw [i_le, h.space.1, i1]; have := h.space.2; omega
theorem PI.sp0 (h : PI f) : ¬ f 11 - f 13 = 0 := by
  intro z
  have := h.sp1
  rw [z] at this
  exact absurd this (by decide)
theorem PI.room (h : PI f) : (roomF f).toInt = (f 11).toInt - (f 11).toInt / 10 - (f 13).toInt := by
  have h11 := h.h11
  have h13 := h.h13
  unfold roomF
  have e : (f 11 - f 11 / 10).toInt = (f 11).toInt - (f 11).toInt / 10 := by
    rw [i_sub (by rw [h.least]; omega) (by rw [h.least]; omega), h.least]
  rw [i_sub (by rw [e]; omega) (by rw [e]; omega), e]
theorem PI.take (h : PI f) {w : Int32} (hw : 0 ≤ w.toInt) : 0 ≤ (takeF f w).toInt ∧ (takeF f w).toInt ≤ (roomF f).toInt ∧ (takeF f w).toInt ≤ w.toInt := by
  have h13 := h.h13
  have hr := h.room
  unfold takeF
  by_cases c : roomF f ≤ w
  · rw [if_pos c]; rw [i_le] at c; omega
  · rw [if_neg c]; rw [i_nle, i_lt] at c; omega
theorem PI.t13 (h : PI f) {w : Int32} (hw : 0 ≤ w.toInt) : (f 13 + takeF f w).toInt = (f 13).toInt + (takeF f w).toInt ∧ (f 13 + takeF f w).toInt ≤ (f 11).toInt - (f 11).toInt / 10 := by
  have h11 := h.h11
  have h13 := h.h13
  have hr := h.room
  have ht := h.take hw
  have e := i_add (a := f 13) (b := takeF f w) (by omega) (by omega)
  exact ⟨e, by rw [e]; omega⟩
theorem PI.head (h : PI f) : 0 ≤ (headF f).toInt ∧ (headF f).toInt ≤ 40000 := by
  have h11 := h.h11
  have h14 := h.h14
  have hs := h.space
  have e1 : (100 * f 14).toInt = 100 * (f 14).toInt := by rw [i_mul (by rw [i100]; omega) (by rw [i100]; omega), i100]
  have e2 : (100 * f 14 / (f 11 - f 13)).toInt = 100 * (f 14).toInt / ((f 11).toInt - (f 13).toInt) := by
    rw [i_div (by rw [e1]; omega) (by rw [hs.1]; omega), e1, hs.1]
  have m0 : 0 ≤ 100 * (f 14).toInt / ((f 11).toInt - (f 13).toInt) := Int.ediv_nonneg (by omega) (by omega)
  have m1 : 100 * (f 14).toInt / ((f 11).toInt - (f 13).toInt) ≤ 40000 := by
    refine Int.ediv_le_of_le_mul (by omega) ?_
    have : 40000 * 5 ≤ 40000 * ((f 11).toInt - (f 13).toInt) := Int.mul_le_mul_of_nonneg_left (by omega) (by omega)
    omega
  have e3 : (100 * f 14 / (f 11 - f 13) - 100).toInt = 100 * (f 14).toInt / ((f 11).toInt - (f 13).toInt) - 100 := by
    rw [i_sub (by rw [e2, i100]; omega) (by rw [e2, i100]; omega), e2, i100]
  unfold headF
  by_cases c : 0 ≤ 100 * f 14 / (f 11 - f 13) - 100
  · rw [if_pos c]; rw [i_le, i0] at c; omega
  · rw [if_neg c, i0]; omega
theorem PI.over (h : PI f) : (headF f - f 4).toInt = (headF f).toInt - (f 4).toInt ∧ (headF f - f 0).toInt = (headF f).toInt - (f 0).toInt := by
  have h0 := h.h0
  have h4 := h.h4
  have hh := h.head
  exact ⟨i_sub (by omega) (by omega), i_sub (by omega) (by omega)⟩
theorem PI.lit (h : PI f) : 0 ≤ (litF f).toInt ∧ (litF f).toInt ≤ (f 13).toInt := by
  have h13 := h.h13
  have ho := h.over
  have hh := h.head
  have h4 := h.h4
  unfold litF
  by_cases c : 0 < headF f - f 4
  · rw [if_pos c]
    rw [i_lt, i0, ho.1] at c
    have e1 : ((headF f - f 4) / 10).toInt = ((headF f).toInt - (f 4).toInt) / 10 := by rw [i_div (by rw [ho.1]; omega) (by rw [i10]; omega), ho.1, i10]
    have e2 : (mostF f).toInt = 1 + ((headF f).toInt - (f 4).toInt) / 10 := by
      unfold mostF
      rw [i_add (by rw [e1, i1]; omega) (by rw [e1, i1]; omega), e1, i1]
    by_cases d : mostF f ≤ f 13
    · rw [if_pos d]; rw [i_le] at d; omega
    · rw [if_neg d]; omega
  · rw [if_neg c, i0]; omega
end PIL

