/-- the reference's incidents -/
def RLm (m kd pu ti : Nat → Int32) (L : LG) : Prop := m 6 = nI L.1 ∧ kd = L.2.1 ∧ pu = L.2.2.1 ∧ ti = L.2.2.2
abbrev RH (hv : HV) (L : LG) : Prop := RLm (hv 9 0) (hv 17 0) (hv 18 0) (hv 19 0) L
theorem RLm_m {m m2 kd pu ti : Nat → Int32} {L : LG} (h : m2 6 = m 6) (hr : RLm m kd pu ti L) : RLm m2 kd pu ti L := ⟨h.trans hr.1, hr.2⟩
theorem RLm_add {m kd pu ti : Nat → Int32} {L : LG} (k p t : Int32) (hL : L.1 < 2 ^ 31) (hr : RLm m kd pu ti L) : RLm (iM k m) (iK k m kd k) (iK k m pu p) (iK k m ti t) (addL k p t L) := by
  obtain ⟨h1, h2, h3, h4⟩ := hr
  have e : plI m = L.1 % 20 := by unfold plI; rw [h1, nI_clamp hL]
  unfold iM iK addL
  by_cases c : k = 0
  · rw [if_pos c, if_pos c, if_pos c, if_pos c, if_pos c]; exact ⟨h1, h2, h3, h4⟩
  · rw [if_neg c, if_neg c, if_neg c, if_neg c, if_neg c, e, h2, h3, h4]
    exact ⟨by rw [upd_s, h1, nI_1], rfl, rfl, rfl⟩
/-- the cells that the reference's tick may change, and which of its fields stay -/
def rkey (c i : Nat) : Prop := i = 0 ∧ (c = 15 ∨ c = 9 ∨ c = 17 ∨ c = 18 ∨ c = 19)
def mst (m m2 : Nat → Int32) : Prop := ∀ i, ¬ i = 6 → ¬ i = 7 → ¬ i = 8 → ¬ i = 9 → m2 i = m i
theorem mkR_k {hv : HV} {N m kd pu ti : Nat → Int32} {c i : Nat} (h : ¬ rkey c i) : mkR hv N m kd pu ti c i = hv c i := by
  unfold rkey at h
  unfold mkR
  by_cases hi : i = 0
  · rw [if_pos hi, if_neg (fun z => h ⟨hi, Or.inl z⟩), if_neg (fun z => h ⟨hi, Or.inr (Or.inl z)⟩), if_neg (fun z => h ⟨hi, Or.inr (Or.inr (Or.inl z))⟩), if_neg (fun z => h ⟨hi, Or.inr (Or.inr (Or.inr (Or.inl z)))⟩), if_neg (fun z => h ⟨hi, Or.inr (Or.inr (Or.inr (Or.inr z)))⟩)]
  · rw [if_neg hi]
theorem mkR_sl {hv : HV} (k : Nat) : mkR hv (putW (hv 15 0) k (fun j => hv 15 0 (k + j))) (hv 9 0) (hv 17 0) (hv 18 0) (hv 19 0) = hv := by rw [pw_id, mkR_id]
theorem st1M_o (b : Int32) (f m : Nat → Int32) (i : Nat) (h7 : ¬ i = 7) (h8 : ¬ i = 8) : st1M b f m i = m i := by
  unfold st1M
  by_cases c : flowF f ≤ b
  · rw [if_pos c, mS_6 _ _ _ h7, upd_n _ _ h8]
  · rw [if_neg c]
theorem PI.mid {f : Nat → Int32} (h : PI f) : f 7 = 0 ∨ ¬ f 11 - (f 13 + takeF f (flowF f)) = 0 := Or.inr (by
  have hw := h.flow
  have ht := h.t13 hw.1
  have h11 := h.h11
  intro z
  have e := i_sub (a := f 11) (b := f 13 + takeF f (flowF f)) (by have := h.h13; have := h.take hw.1; omega) (by have := h.h13; have := h.take hw.1; omega)
  rw [z, i0] at e
  omega)
