/-! A PUMP OF THE CLASS by its 73 numbers f (scalars: below 23), its two rings' cells (I: count, next; J: places), the report rp. -/
def encP (f J : Nat → Int32) : Nat → Int32 := fun k => if k ≤ 10 then f k else if k = 11 then f 15 else if k = 12 then f 22 else J k
def encC (f J : Nat → Int32) : Nat → Int32 := fun k => if k = 0 then f 11 else if k = 1 then f 11 / 10 else if k = 2 then f 12 else if k = 3 then f 13 else if k = 4 then f 14 else J k
def encO (f J : Nat → Int32) : Nat → Int32 := fun k => if k < 6 then f (16 + k) else J k
def mkC (hv : HV) (q : Nat) (f : Nat → Int32) (J : Nat → Nat → Int32) (rp I1 J1 I2 J2 : Nat → Int32) : HV := fun c i =>
  if c = 4 ∧ i = q then encP f (J 4) else if c = 0 ∧ i = q then encC f (J 0) else if c = 2 ∧ i = q then encO f (J 2) else if c = 5 ∧ i = 0 then rp
  else if c = 6 ∧ i = 2 * q then I1 else if c = 10 ∧ i = 2 * q then J1 else if c = 6 ∧ i = 2 * q + 1 then I2 else if c = 10 ∧ i = 2 * q + 1 then J2 else hv c i
section MKC
variable (hv : HV) (q : Nat) (f : Nat → Int32) (J : Nat → Nat → Int32) (rp I1 J1 I2 J2 X : Nat → Int32) (v : Int32)
theorem encP_0 (J : Nat → Int32) : encP f J 0 = f 0 := rfl
theorem encP_1 (J : Nat → Int32) : encP f J 1 = f 1 := rfl
theorem encP_2 (J : Nat → Int32) : encP f J 2 = f 2 := rfl
theorem encP_3 (J : Nat → Int32) : encP f J 3 = f 3 := rfl
theorem encP_4 (J : Nat → Int32) : encP f J 4 = f 4 := rfl
theorem encP_5 (J : Nat → Int32) : encP f J 5 = f 5 := rfl
theorem encP_6 (J : Nat → Int32) : encP f J 6 = f 6 := rfl
theorem encP_7 (J : Nat → Int32) : encP f J 7 = f 7 := rfl
theorem encP_8 (J : Nat → Int32) : encP f J 8 = f 8 := rfl
theorem encP_9 (J : Nat → Int32) : encP f J 9 = f 9 := rfl
theorem encP_10 (J : Nat → Int32) : encP f J 10 = f 10 := rfl
theorem encP_11 (J : Nat → Int32) : encP f J 11 = f 15 := rfl
theorem encP_12 (J : Nat → Int32) : encP f J 12 = f 22 := rfl
theorem encC_0 (J : Nat → Int32) : encC f J 0 = f 11 := rfl
theorem encC_1 (J : Nat → Int32) : encC f J 1 = f 11 / 10 := rfl
theorem encC_2 (J : Nat → Int32) : encC f J 2 = f 12 := rfl
theorem encC_3 (J : Nat → Int32) : encC f J 3 = f 13 := rfl
theorem encC_4 (J : Nat → Int32) : encC f J 4 = f 14 := rfl
theorem encO_0 (J : Nat → Int32) : encO f J 0 = f 16 := rfl
theorem encO_1 (J : Nat → Int32) : encO f J 1 = f 17 := rfl
theorem encO_2 (J : Nat → Int32) : encO f J 2 = f 18 := rfl
theorem encO_3 (J : Nat → Int32) : encO f J 3 = f 19 := rfl
theorem encO_4 (J : Nat → Int32) : encO f J 4 = f 20 := rfl
theorem encO_5 (J : Nat → Int32) : encO f J 5 = f 21 := rfl
theorem mkC_4 : mkC hv q f J rp I1 J1 I2 J2 4 q = encP f (J 4) := by unfold mkC; simp
theorem mkC_0 : mkC hv q f J rp I1 J1 I2 J2 0 q = encC f (J 0) := by unfold mkC; simp
theorem mkC_2 : mkC hv q f J rp I1 J1 I2 J2 2 q = encO f (J 2) := by unfold mkC; simp
theorem mkC_5 : mkC hv q f J rp I1 J1 I2 J2 5 0 = rp := by unfold mkC; simp
theorem mkC_6 : mkC hv q f J rp I1 J1 I2 J2 6 (2 * q) = I1 := by unfold mkC; simp
theorem mkC_10 : mkC hv q f J rp I1 J1 I2 J2 10 (2 * q) = J1 := by unfold mkC; simp
theorem mkC_6t : mkC hv q f J rp I1 J1 I2 J2 6 (2 * q + 1) = I2 := by unfold mkC; simp
theorem mkC_10t : mkC hv q f J rp I1 J1 I2 J2 10 (2 * q + 1) = J2 := by unfold mkC; simp
theorem mkC_w5 : up (mkC hv q f J rp I1 J1 I2 J2) 5 0 X = mkC hv q f J X I1 J1 I2 J2 := by
  funext c i; unfold up mkC
  by_cases h : c = 5 ∧ i = 0
  · obtain ⟨rfl, rfl⟩ := h; simp
  · simp only [h, if_false]
theorem mkC_w6 : up (mkC hv q f J rp I1 J1 I2 J2) 6 (2 * q) X = mkC hv q f J rp X J1 I2 J2 := by
  funext c i; unfold up mkC
  by_cases h : c = 6 ∧ i = 2 * q
  · obtain ⟨rfl, rfl⟩ := h; simp
  · simp only [h, if_false]
theorem mkC_w10 : up (mkC hv q f J rp I1 J1 I2 J2) 10 (2 * q) X = mkC hv q f J rp I1 X I2 J2 := by
  funext c i; unfold up mkC
  by_cases h : c = 10 ∧ i = 2 * q
  · obtain ⟨rfl, rfl⟩ := h; simp
  · simp only [h, if_false]
theorem mkC_w6t : up (mkC hv q f J rp I1 J1 I2 J2) 6 (2 * q + 1) X = mkC hv q f J rp I1 J1 X J2 := by
  funext c i; unfold up mkC
  by_cases h : c = 6 ∧ i = 2 * q + 1
  · obtain ⟨rfl, rfl⟩ := h; simp
  · simp only [h, if_false]
theorem mkC_w10t : up (mkC hv q f J rp I1 J1 I2 J2) 10 (2 * q + 1) X = mkC hv q f J rp I1 J1 I2 X := by
  funext c i; unfold up mkC
  by_cases h : c = 10 ∧ i = 2 * q + 1
  · obtain ⟨rfl, rfl⟩ := h; simp
  · simp only [h, if_false]
theorem mkC_w4 (g : Nat → Int32) (hP : encP g (J 4) = X) (hC : encC g (J 0) = encC f (J 0)) (hO : encO g (J 2) = encO f (J 2)) : up (mkC hv q f J rp I1 J1 I2 J2) 4 q X = mkC hv q g J rp I1 J1 I2 J2 := by
  funext c i; unfold up mkC
  by_cases h : c = 4 ∧ i = q
  · obtain ⟨rfl, rfl⟩ := h; simp [hP]
  · simp only [h, if_false, hC, hO]
theorem mkC_w0 (g : Nat → Int32) (hP : encP g (J 4) = encP f (J 4)) (hC : encC g (J 0) = X) (hO : encO g (J 2) = encO f (J 2)) : up (mkC hv q f J rp I1 J1 I2 J2) 0 q X = mkC hv q g J rp I1 J1 I2 J2 := by
  funext c i; unfold up mkC
  by_cases h : c = 0 ∧ i = q
  · obtain ⟨rfl, rfl⟩ := h; simp [hC]
  · simp only [h, if_false, hP, hO]
theorem mkC_w2 (g : Nat → Int32) (hP : encP g (J 4) = encP f (J 4)) (hC : encC g (J 0) = encC f (J 0)) (hO : encO g (J 2) = X) : up (mkC hv q f J rp I1 J1 I2 J2) 2 q X = mkC hv q g J rp I1 J1 I2 J2 := by
  funext c i; unfold up mkC
  by_cases h : c = 2 ∧ i = q
  · obtain ⟨rfl, rfl⟩ := h; simp [hO]
  · simp only [h, if_false, hP, hC]
theorem encP_u (J : Nat → Int32) (j : Nat) (h : ¬ j ≤ 10) (h1 : ¬ j = 15) (h2 : ¬ j = 22) : encP (upd f j v) J = encP f J := by
  funext k; unfold encP
  by_cases a : k ≤ 10
  · rw [if_pos a, if_pos a, upd_n _ _ (by omega)]
  · rw [if_neg a, if_neg a, upd_n _ _ (by omega), upd_n _ _ (by omega)]
theorem encP_s (J : Nat → Int32) (j : Nat) (h : j ≤ 10) : encP (upd f j v) J = upd (encP f J) j v := by
  funext k
  by_cases e : k = j
  · subst e; rw [upd_s]; unfold encP; rw [if_pos h, upd_s]
  · rw [upd_n _ _ e]; unfold encP
    by_cases a : k ≤ 10
    · rw [if_pos a, if_pos a, upd_n _ _ e]
    · rw [if_neg a, if_neg a, upd_n _ _ (by omega), upd_n _ _ (by omega)]
theorem encP_s15 (J : Nat → Int32) : encP (upd f 15 v) J = upd (encP f J) 11 v := by
  funext k
  by_cases e : k = 11
  · subst e; rfl
  · rw [upd_n _ _ e]; unfold encP
    by_cases a : k ≤ 10
    · rw [if_pos a, if_pos a, upd_n _ _ (by omega)]
    · rw [if_neg a, if_neg a, if_neg e, if_neg e, upd_n _ _ (by omega)]
theorem encP_s22 (J : Nat → Int32) : encP (upd f 22 v) J = upd (encP f J) 12 v := by
  funext k
  by_cases e : k = 12
  · subst e; rfl
  · rw [upd_n _ _ e]; unfold encP
    by_cases a : k ≤ 10
    · rw [if_pos a, if_pos a, upd_n _ _ (by omega)]
    · rw [if_neg a, if_neg a, upd_n _ _ (by omega), if_neg e, if_neg e]
theorem encC_u (J : Nat → Int32) (j : Nat) (h : j < 11 ∨ 14 < j) : encC (upd f j v) J = encC f J := by
  funext k; unfold encC
  rw [upd_n _ _ (by omega), upd_n _ _ (by omega), upd_n _ _ (by omega), upd_n _ _ (by omega)]
theorem encC_s13 (J : Nat → Int32) : encC (upd f 13 v) J = upd (encC f J) 3 v := by
  funext k
  by_cases e : k = 3
  · subst e; rfl
  · rw [upd_n _ _ e]; unfold encC
    rw [upd_n _ _ (by omega), upd_n _ _ (by omega), if_neg e, if_neg e, upd_n _ _ (by omega)]
theorem encC_s14 (J : Nat → Int32) : encC (upd f 14 v) J = upd (encC f J) 4 v := by
  funext k
  by_cases e : k = 4
  · subst e; rfl
  · rw [upd_n _ _ e]; unfold encC
    rw [upd_n _ _ (by omega), upd_n _ _ (by omega), upd_n _ _ (by omega), if_neg e, if_neg e]
theorem encO_u (J : Nat → Int32) (j : Nat) (h : j < 16 ∨ 21 < j) : encO (upd f j v) J = encO f J := by
  funext k; unfold encO
  by_cases a : k < 6
  · rw [if_pos a, if_pos a, upd_n _ _ (by omega)]
  · rw [if_neg a, if_neg a]
theorem encO_s (J : Nat → Int32) (j : Nat) (h : j < 6) : encO (upd f (16 + j) v) J = upd (encO f J) j v := by
  funext k
  by_cases e : k = j
  · subst e; rw [upd_s]; unfold encO; rw [if_pos h, upd_s]
  · rw [upd_n _ _ e]; unfold encO
    by_cases a : k < 6
    · rw [if_pos a, if_pos a, upd_n _ _ (by omega)]
    · rw [if_neg a, if_neg a]
theorem mkC_p6 : up (mkC hv q f J rp I1 J1 I2 J2) 4 q (upd (encP f (J 4)) 6 v) = mkC hv q (upd f 6 v) J rp I1 J1 I2 J2 := mkC_w4 _ _ _ _ _ _ _ _ _ _ _ (encP_s _ _ _ _ (by omega)) (encC_u _ _ _ _ (Or.inl (by omega))) (encO_u _ _ _ _ (Or.inl (by omega)))
theorem mkC_p7 : up (mkC hv q f J rp I1 J1 I2 J2) 4 q (upd (encP f (J 4)) 7 v) = mkC hv q (upd f 7 v) J rp I1 J1 I2 J2 := mkC_w4 _ _ _ _ _ _ _ _ _ _ _ (encP_s _ _ _ _ (by omega)) (encC_u _ _ _ _ (Or.inl (by omega))) (encO_u _ _ _ _ (Or.inl (by omega)))
theorem mkC_p8 : up (mkC hv q f J rp I1 J1 I2 J2) 4 q (upd (encP f (J 4)) 8 v) = mkC hv q (upd f 8 v) J rp I1 J1 I2 J2 := mkC_w4 _ _ _ _ _ _ _ _ _ _ _ (encP_s _ _ _ _ (by omega)) (encC_u _ _ _ _ (Or.inl (by omega))) (encO_u _ _ _ _ (Or.inl (by omega)))
theorem mkC_p11 : up (mkC hv q f J rp I1 J1 I2 J2) 4 q (upd (encP f (J 4)) 11 v) = mkC hv q (upd f 15 v) J rp I1 J1 I2 J2 := mkC_w4 _ _ _ _ _ _ _ _ _ _ _ (encP_s15 _ _ _) (encC_u _ _ _ _ (Or.inr (by omega))) (encO_u _ _ _ _ (Or.inl (by omega)))
theorem mkC_p12 : up (mkC hv q f J rp I1 J1 I2 J2) 4 q (upd (encP f (J 4)) 12 v) = mkC hv q (upd f 22 v) J rp I1 J1 I2 J2 := mkC_w4 _ _ _ _ _ _ _ _ _ _ _ (encP_s22 _ _ _) (encC_u _ _ _ _ (Or.inr (by omega))) (encO_u _ _ _ _ (Or.inr (by omega)))
theorem mkC_c3 : up (mkC hv q f J rp I1 J1 I2 J2) 0 q (upd (encC f (J 0)) 3 v) = mkC hv q (upd f 13 v) J rp I1 J1 I2 J2 := mkC_w0 _ _ _ _ _ _ _ _ _ _ _ (encP_u _ _ _ _ (by omega) (by omega) (by omega)) (encC_s13 _ _ _) (encO_u _ _ _ _ (Or.inl (by omega)))
theorem mkC_c4 : up (mkC hv q f J rp I1 J1 I2 J2) 0 q (upd (encC f (J 0)) 4 v) = mkC hv q (upd f 14 v) J rp I1 J1 I2 J2 := mkC_w0 _ _ _ _ _ _ _ _ _ _ _ (encP_u _ _ _ _ (by omega) (by omega) (by omega)) (encC_s14 _ _ _) (encO_u _ _ _ _ (Or.inl (by omega)))
theorem mkC_o0 : up (mkC hv q f J rp I1 J1 I2 J2) 2 q (upd (encO f (J 2)) 0 v) = mkC hv q (upd f 16 v) J rp I1 J1 I2 J2 := mkC_w2 _ _ _ _ _ _ _ _ _ _ _ (encP_u _ _ _ _ (by omega) (by omega) (by omega)) (encC_u _ _ _ _ (Or.inr (by omega))) (encO_s _ _ _ 0 (by omega))
theorem mkC_o1 : up (mkC hv q f J rp I1 J1 I2 J2) 2 q (upd (encO f (J 2)) 1 v) = mkC hv q (upd f 17 v) J rp I1 J1 I2 J2 := mkC_w2 _ _ _ _ _ _ _ _ _ _ _ (encP_u _ _ _ _ (by omega) (by omega) (by omega)) (encC_u _ _ _ _ (Or.inr (by omega))) (encO_s _ _ _ 1 (by omega))
theorem mkC_o2 : up (mkC hv q f J rp I1 J1 I2 J2) 2 q (upd (encO f (J 2)) 2 v) = mkC hv q (upd f 18 v) J rp I1 J1 I2 J2 := mkC_w2 _ _ _ _ _ _ _ _ _ _ _ (encP_u _ _ _ _ (by omega) (by omega) (by omega)) (encC_u _ _ _ _ (Or.inr (by omega))) (encO_s _ _ _ 2 (by omega))
theorem mkC_o3 : up (mkC hv q f J rp I1 J1 I2 J2) 2 q (upd (encO f (J 2)) 3 v) = mkC hv q (upd f 19 v) J rp I1 J1 I2 J2 := mkC_w2 _ _ _ _ _ _ _ _ _ _ _ (encP_u _ _ _ _ (by omega) (by omega) (by omega)) (encC_u _ _ _ _ (Or.inr (by omega))) (encO_s _ _ _ 3 (by omega))
theorem mkC_o4 : up (mkC hv q f J rp I1 J1 I2 J2) 2 q (upd (encO f (J 2)) 4 v) = mkC hv q (upd f 20 v) J rp I1 J1 I2 J2 := mkC_w2 _ _ _ _ _ _ _ _ _ _ _ (encP_u _ _ _ _ (by omega) (by omega) (by omega)) (encC_u _ _ _ _ (Or.inr (by omega))) (encO_s _ _ _ 4 (by omega))
theorem mkC_o5 : up (mkC hv q f J rp I1 J1 I2 J2) 2 q (upd (encO f (J 2)) 5 v) = mkC hv q (upd f 21 v) J rp I1 J1 I2 J2 := mkC_w2 _ _ _ _ _ _ _ _ _ _ _ (encP_u _ _ _ _ (by omega) (by omega) (by omega)) (encC_u _ _ _ _ (Or.inr (by omega))) (encO_s _ _ _ 5 (by omega))
end MKC

