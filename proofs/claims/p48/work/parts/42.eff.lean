/-! The efficiency, the best pump. -/
theorem q64_add {a b : Int64} (h1 : -9223372036854775808 ≤ a.toInt + b.toInt) (h2 : a.toInt + b.toInt < 9223372036854775808) : (a + b).toInt = a.toInt + b.toInt := by
  rw [Int64.toInt_add]
  exact Int.bmod_eq_of_le (by show -(18446744073709551616 / 2 : Int) ≤ _; omega) (by show _ < ((18446744073709551616 + 1) / 2 : Int); omega)
theorem q64_mul {a b : Int64} (h1 : -9223372036854775808 ≤ a.toInt * b.toInt) (h2 : a.toInt * b.toInt < 9223372036854775808) : (a * b).toInt = a.toInt * b.toInt := by
  rw [Int64.toInt_mul]
  exact Int.bmod_eq_of_le (by show -(18446744073709551616 / 2 : Int) ≤ _; omega) (by show _ < ((18446744073709551616 + 1) / 2 : Int); omega)
theorem q64_div {a b : Int64} (ha : 0 ≤ a.toInt) (hb : 0 < b.toInt) : (a / b).toInt = a.toInt / b.toInt := by
  rw [Int64.toInt_div, Int.tdiv_eq_ediv_of_nonneg ha]
  have h1 : 0 ≤ a.toInt / b.toInt := Int.ediv_nonneg ha (by omega)
  have h2 : a.toInt / b.toInt ≤ a.toInt := Int.ediv_le_self _ ha
  have h3 := Int64.toInt_lt a
  exact Int.bmod_eq_of_le (by show -(18446744073709551616 / 2 : Int) ≤ _; omega) (by show _ < ((18446744073709551616 + 1) / 2 : Int); omega)
theorem q64_32 {a : Int64} (h1 : -2147483648 ≤ a.toInt) (h2 : a.toInt < 2147483648) : a.toInt32.toInt = a.toInt := by
  rw [Int64.toInt_toInt32]
  exact Int.bmod_eq_of_le (by show -(4294967296 / 2 : Int) ≤ _; omega) (by show _ < ((4294967296 + 1) / 2 : Int); omega)
def allF (f : Nat → Int32) : Int64 := Int32.toInt64 (f 17) + Int32.toInt64 (f 18) + Int32.toInt64 (f 19)
def efF (f : Nat → Int32) : Int32 := if allF f = 0 then -1005 else Int64.toInt32 (((1000 * (Int32.toInt64 (f 19))) * (Int32.toInt64 (f 4))) / (allF f * Int32.toInt64 (f 0)))
theorem ef_b {t : Int} {f : Nat → Int32} (h : PI f) (hc : CI t f) (ht : 0 ≤ t ∧ t ≤ 20000) : (allF f).toInt = (f 17).toInt + (f 18).toInt + (f 19).toInt ∧ (allF f * Int32.toInt64 (f 0)).toInt = (allF f).toInt * (f 0).toInt ∧ ((1000 * (Int32.toInt64 (f 19))) * (Int32.toInt64 (f 4))).toInt = 1000 * (f 19).toInt * (f 4).toInt := by
  obtain ⟨h17, h18, h19⟩ := hc
  have e17 := Int32.toInt_toInt64 (f 17)
  have e18 := Int32.toInt_toInt64 (f 18)
  have e19 := Int32.toInt_toInt64 (f 19)
  have e0 := Int32.toInt_toInt64 (f 0)
  have e4 := Int32.toInt_toInt64 (f 4)
  have hh0 := h.h0
  have hh4 := h.2.2.2.2.1
  have a1 : (Int32.toInt64 (f 17) + Int32.toInt64 (f 18)).toInt = (f 17).toInt + (f 18).toInt := by rw [q64_add (by omega) (by omega), e17, e18]
  have a2 : (allF f).toInt = (f 17).toInt + (f 18).toInt + (f 19).toInt := by
    unfold allF
    rw [q64_add (by omega) (by omega), a1, e19]
  have b1 : 0 ≤ (allF f).toInt * (f 0).toInt := Int.mul_nonneg (by omega) (by omega)
  have b2 : (allF f).toInt * (f 0).toInt ≤ 200000000 * 99 := Int.mul_le_mul (by omega) (by omega) (by omega) (by omega)
  have c1 : (1000 * Int32.toInt64 (f 19)).toInt = 1000 * (f 19).toInt := by
    have e : (1000 : Int64).toInt = 1000 := rfl
    rw [q64_mul (by rw [e, e19]; omega) (by rw [e, e19]; omega), e, e19]
  have d1 : 0 ≤ (1000 * (f 19).toInt) * (f 4).toInt := Int.mul_nonneg (by omega) (by omega)
  have d2 : (1000 * (f 19).toInt) * (f 4).toInt ≤ 40000000000 * 500 := Int.mul_le_mul (by omega) (by omega) (by omega) (by omega)
  refine ⟨a2, ?_, ?_⟩
  · rw [q64_mul (by rw [e0]; omega) (by rw [e0]; omega), e0]
  · rw [q64_mul (by rw [c1, e4]; omega) (by rw [c1, e4]; omega), c1, e4]
theorem ef_nz {t : Int} {f : Nat → Int32} (h : PI f) (hc : CI t f) (ht : 0 ≤ t ∧ t ≤ 20000) (ha : ¬ allF f = 0) : 1 ≤ (allF f).toInt ∧ 10 ≤ (allF f * Int32.toInt64 (f 0)).toInt := by
  obtain ⟨e1, e2, _⟩ := ef_b h hc ht
  obtain ⟨h17, h18, h19⟩ := hc
  have hh0 := h.h0
  have a1 : 1 ≤ (allF f).toInt := by
    have : ¬ (allF f).toInt = 0 := fun z => ha (Int64.toInt_inj.mp z)
    omega
  refine ⟨a1, ?_⟩
  rw [e2]
  have : 1 * 10 ≤ (allF f).toInt * (f 0).toInt := Int.mul_le_mul a1 hh0.1 (by omega) (by omega)
  omega
theorem ef_pos {t : Int} {f : Nat → Int32} (h : PI f) (hc : CI t f) (ht : 0 ≤ t ∧ t ≤ 20000) : efF f = -1005 ∨ 0 ≤ (efF f).toInt := by
  unfold efF
  by_cases c : allF f = 0
  · exact Or.inl (if_pos c)
  · rw [if_neg c]
    refine Or.inr ?_
    obtain ⟨e1, e2, e3⟩ := ef_b h hc ht
    obtain ⟨n1, n2⟩ := ef_nz h hc ht c
    obtain ⟨h17, h18, h19⟩ := hc
    have hh0 := h.h0
    have hh4 := h.2.2.2.2.1
    have d1 : 0 ≤ (1000 * (f 19).toInt) * (f 4).toInt := Int.mul_nonneg (by omega) (by omega)
    have q := q64_div (a := (1000 * (Int32.toInt64 (f 19))) * (Int32.toInt64 (f 4))) (b := allF f * Int32.toInt64 (f 0)) (by rw [e3]; exact d1) (by omega)
    have q0 : 0 ≤ 1000 * (f 19).toInt * (f 4).toInt / (allF f * Int32.toInt64 (f 0)).toInt := Int.ediv_nonneg d1 (by omega)
    have q1 : 1000 * (f 19).toInt * (f 4).toInt / (allF f * Int32.toInt64 (f 0)).toInt ≤ 50000 := by
      refine Int.ediv_le_of_le_mul (by omega) ?_
      have m1 : (1000 * (f 19).toInt) * (f 4).toInt ≤ (1000 * (f 19).toInt) * 500 := Int.mul_le_mul_of_nonneg_left (by omega) (by omega)
      have m2 : (allF f).toInt * 10 ≤ (allF f).toInt * (f 0).toInt := Int.mul_le_mul_of_nonneg_left (by omega) (by omega)
      rw [e2]
      omega
    rw [e3] at q
    rw [q64_32 (by rw [q]; omega) (by rw [q]; omega), q]
    exact q0
theorem C_eff {p : Nat} {hv : HV} {ex : Int32} {v : Nat → Int32} {K : KS} {post : Int32 → HV → Prop} (h : CR hv ex v K) (hI : IV v K) (hp : p < cntN v) (q : post (efF (sl v p)) hv) : V_X4_thousandths p hv post := by
  obtain ⟨hPI, hCI⟩ := hI.1.2.1 p hp
  have ht := hI.1.2.2.2.2
  have hS := CR_PS h hp
  unfold V_X4_thousandths
  rw [PS_2 hS (show 1 < 6 by omega), PS_2 hS (show 2 < 6 by omega), PS_2 hS (show 3 < 6 by omega), PS_4 hS (show 0 ≤ 10 by omega), PS_4 hS (show 4 ≤ 10 by omega)]
  intro x1 e1 x2 e2
  have e3 : x1 = allF (sl v p) := e1
  rw [e3] at e2
  rw [e2, lg_cmp_ge]
  unfold efF at q
  by_cases c : allF (sl v p) = 0
  · rw [if_pos c] at q
    refine ⟨fun z => ?_, fun _ => q⟩
    rw [c, Int64.zero_mul] at z
    exact absurd z (by decide)
  · rw [if_neg c] at q
    have n := (ef_nz hPI hCI ht c).2
    refine ⟨fun _ => ⟨fun z => ?_, q⟩, fun z => ?_⟩
    · rw [z] at n; exact absurd n (by decide)
    · refine absurd ?_ z
      rw [Int64.le_iff_toInt_le]
      show (1 : Int) ≤ _
      omega
/-- the best of the pumps from number p on; none yet: most is below 0 -/
def bestF (v : Nat → Int32) : Nat → Nat → Int32 → Int32 → Int32
  | 0, _, best, _ => best
  | m + 1, p, best, most => if efF (sl v p) ≤ most then bestF v m (p + 1) best most else bestF v m (p + 1) (nI p) (efF (sl v p))
theorem C_bestL {v : Nat → Int32} {K : KS} {hv : HV} {post : Int32 → HV → Prop} (h : CR hv 0 v K) (hI : IV v K) : ∀ (m n p : Nat) (best most : Int32), m < n → p + m = cntN v → post (bestF v m p best most) hv → V_X8_bestPump_8 post n best most (nI p) hv
  | 0, n + 1, p, best, most, _, hm, q => by
    have hn := hI.1.1.1
    rw [V_X8_bestPump_8, h.1.1.2.2.2.2, hI.1.1.2]
    exact ⟨fun _ => q, fun c => absurd (nI_le (by omega) (by omega)) c⟩
  | m + 1, n + 1, p, best, most, hlt, hm, q => by
    have hn := hI.1.1.1
    rw [V_X8_bestPump_8, h.1.1.2.2.2.2, hI.1.1.2]
    refine ⟨fun c => by rw [nI_leI (by omega) (by omega)] at c; omega, fun _ => ?_⟩
    unfold V_X8_efficiency
    refine C_yes h hI (p := p) (by omega) rfl (C_eff h hI (by omega) ?_)
    unfold bestF at q
    refine ⟨fun c x e => ?_, fun c x e => ?_⟩
    · rw [if_pos c] at q
      rw [e, nI_1]; exact C_bestL h hI m n (p + 1) _ _ (by omega) (by omega) q
    · rw [if_neg c] at q
      rw [e, nI_1]; exact C_bestL h hI m n (p + 1) _ _ (by omega) (by omega) q
/-- beginning with -1 or with -1005 comes to the same -/
theorem bestF_eq {v : Nat → Int32} (hV : VI v) : ∀ (m p : Nat) (best : Int32), p + m = cntN v → bestF v m p best (-1) = bestF v m p best (-1005)
  | 0, _, _, _ => rfl
  | m + 1, p, best, hm => by
    obtain ⟨h1, h2⟩ := hV.2.1 p (by omega)
    unfold bestF
    rcases ef_pos h1 h2 hV.2.2.2.2 with e | e
    · rw [e, if_pos (by decide), if_pos (by decide)]
      exact bestF_eq hV m (p + 1) best (by omega)
    · have m1 : (-1 : Int32).toInt = -1 := by decide
      have m2 : (-1005 : Int32).toInt = -1005 := by decide
      rw [if_neg (by rw [i_le, m1]; omega), if_neg (by rw [i_le, m2]; omega)]
