/-! What was recorded: the class's ring of states, the reference's row; H j is the j-th newest. -/
def bN (b : Nat) : Nat := min (b + 1) 8
def pushH (v : Nat → Int32) (H : Nat → Nat → Int32) : Nat → Nat → Int32 := fun j => if j = 0 then v else H (j - 1)
def HC (hv : HV) (b : Nat) (H : Nat → Nat → Int32) : Prop := ∃ nx : Nat, nx ≤ 8 ∧ hv 8 0 2 = nI b ∧ hv 8 0 3 = nI nx ∧ ∀ j, j < b → CS hv (1 + (nx + 7 - j) % 8) (H j)
def HRr (hv : HV) (b : Nat) (H : Nat → Nat → Int32) : Prop := hv 9 0 2 = nI b ∧ ∀ j, j < b → ∀ i, i < 297 → hv 16 0 (297 * (b - 1 - j) + i) = H j i
def hkey (c i : Nat) : Prop := (c = 8 ∧ i = 0) ∨ (c = 7 ∧ 1 ≤ i ∧ i ≤ 8) ∨ ((c = 4 ∨ c = 0 ∨ c = 2) ∧ 4 ≤ i ∧ i < 36) ∨ ((c = 6 ∨ c = 10) ∧ 8 ≤ i ∧ i < 72)
theorem skey_h {s c i : Nat} (h1 : 1 ≤ s) (h8 : s ≤ 8) (h : skey s c i) : hkey c i := by
  unfold skey at h
  unfold hkey
  omega
theorem skey_d {s s2 c i : Nat} (h : ¬ s = s2) (h1 : skey s c i) : ¬ skey s2 c i := by
  unfold skey at h1 ⊢
  omega
theorem skey_8 {s c i : Nat} (h1 : skey s c i) : ¬ c = 8 := by
  unfold skey at h1
  omega
theorem C_keep1 {nx b : Nat} {v : Nat → Int32} {H : Nat → Nat → Int32} {hv : HV} {post : HV → Prop} (hnx : nx < 8) (e3 : hv 8 0 3 = nI nx) (e2 : hv 8 0 2 = nI b) (hb : b ≤ 8) (hV : VI v) (hc : CS hv 0 v) (hH : ∀ j, j < b → VI (H j)) (hC : ∀ j, j < b → CS hv (1 + (nx + 7 - j) % 8) (H j))
    (hp : ∀ hv', HC hv' (bN b) (pushH v H) → (∀ k, ¬ k = 2 → ¬ k = 3 → hv' 8 0 k = hv 8 0 k) → (∀ c i, ¬ hkey c i → hv' c i = hv c i) → post hv') :
    vp_in (hv 8 0 3) 8 ∧ V_X7_copyFrom (1 + Int32.toNatClampNeg (hv 8 0 3)) 0 hv (fun hv5 => (∀ hv6 : HV, hv6 = up hv5 8 0 (upd (hv5 8 0) 3 ((hv5 8 0 3) + 1)) → ((8 ≤ (hv6 8 0 2) → post hv6) ∧ (¬ (8 ≤ (hv6 8 0 2)) → (∀ hv8 : HV, hv8 = up hv6 8 0 (upd (hv6 8 0) 2 ((hv6 8 0 2) + 1)) → post hv8))))) := by
  rw [e3, nI_clamp (by omega)]
  refine ⟨vp_in_nI hnx (by omega), C_copyState (by omega) (by omega) (by omega) hV hc ?_⟩
  intro hv5 k1 k2 hv6 e6
  have q8 : hv5 8 0 = hv 8 0 := k2 8 0 (fun z => skey_8 z rfl)
  have f6 : ∀ c i, ¬ (c = 8 ∧ i = 0) → hv6 c i = hv5 c i := fun c i h => by rw [e6]; exact up_n _ _ h
  have e62 : hv6 8 0 2 = nI b := by rw [e6, up_s, upd_n _ _ (by omega), q8, e2]
  have e63 : hv6 8 0 3 = nI (nx + 1) := by rw [e6, up_s, upd_s, q8, e3, nI_1]
  -- what holds of every later world that differs in the object's own fields alone
  have key : ∀ hv', (∀ c i, ¬ (c = 8 ∧ i = 0) → hv' c i = hv5 c i) → hv' 8 0 2 = nI (bN b) → hv' 8 0 3 = nI (nx + 1) → (∀ k, ¬ k = 2 → ¬ k = 3 → hv' 8 0 k = hv 8 0 k) → post hv' := by
    intro hv' f e2' e3' ek
    refine hp hv' ⟨nx + 1, by omega, e2', e3', fun j hj => ?_⟩ ek (fun c i h => ?_)
    · have hj8 : j < b + 1 ∧ j < 8 := by unfold bN at hj; omega
      have fS : ∀ s w, cntN w ≤ 4 → CS hv5 s w → CS hv' s w := fun s w hw h => CS_fr hw (fun c i z => f c i (fun y => skey_8 z y.1)) h
      unfold pushH
      by_cases h0 : j = 0
      · rw [if_pos h0, h0, show (nx + 1 + 7 - 0) % 8 = nx by omega]
        exact fS _ _ hV.1.1 k1
      · rw [if_neg h0, show (nx + 1 + 7 - j) % 8 = (nx + 7 - (j - 1)) % 8 by omega]
        have hv1 := hH (j - 1) (by omega)
        refine fS _ _ hv1.1.1 (CS_fr hv1.1.1 (fun c i z => k2 c i (skey_d ?_ z)) (hC (j - 1) (by omega)))
        omega
    · rw [f c i (fun z => h (Or.inl z))]
      exact k2 c i (fun z => h (skey_h (by omega) (by omega) z))
  refine ⟨fun c => ?_, fun c hv8 e8 => ?_⟩
  · rw [e62] at c
    have c2 : nI 8 ≤ nI b := c
    rw [nI_leI (by omega) (by omega)] at c2
    refine key hv6 f6 (by rw [e62]; unfold bN; congr 1; omega) e63 (fun k a1 a2 => ?_)
    rw [e6, up_s, upd_n _ _ a2, q8]
  · rw [e62] at c
    have c2 : ¬ nI 8 ≤ nI b := c
    rw [nI_leI (by omega) (by omega)] at c2
    refine key hv8 (fun c i h => by rw [e8, up_n _ _ h]; exact f6 c i h) ?_ ?_ (fun k a1 a2 => ?_)
    · rw [e8, up_s, upd_s, e62, nI_1]; unfold bN; congr 1; omega
    · rw [e8, up_s, upd_n _ _ (by omega), e63]
    · rw [e8, up_s, upd_n _ _ a1, e6, up_s, upd_n _ _ a2, q8]
theorem C_keep {b : Nat} {v : Nat → Int32} {H : Nat → Nat → Int32} {hv : HV} {post : HV → Prop} (e4 : hv 8 0 4 = 0) (hb : b ≤ 8) (hV : VI v) (hc : CS hv 0 v) (hH : ∀ j, j < b → VI (H j)) (hC : HC hv b H)
    (hp : ∀ hv', HC hv' (bN b) (pushH v H) → (∀ k, ¬ k = 2 → ¬ k = 3 → hv' 8 0 k = hv 8 0 k) → (∀ c i, ¬ hkey c i → hv' c i = hv c i) → post hv') : V_X8_keepState hv post := by
  obtain ⟨nx, h8, e2, e3, hS⟩ := hC
  unfold V_X8_keepState
  refine ⟨fun _ => ?_, fun c => absurd e4 c⟩
  rw [C_outside]
  have n0 : ¬ nI nx < 0 := nI_pos (by omega)
  by_cases c : nx < 8
  · have ei : (if hv 8 0 3 < 0 then (1 : Int32) else if hv 8 0 3 ≤ 7 then 0 else 1) = 0 := by rw [e3, if_neg n0, if_pos (show nI nx ≤ 7 from nI_le (a := nx) (b := 7) (by omega) (by omega))]
    rw [ei]
    refine ⟨fun _ => ?_, fun z => absurd rfl z⟩
    exact C_keep1 c e3 e2 hb hV hc hH hS hp
  · have e8 : nx = 8 := by omega
    subst e8
    have ei : (if hv 8 0 3 < 0 then (1 : Int32) else if hv 8 0 3 ≤ 7 then 0 else 1) = 1 := by rw [e3, if_neg n0, if_neg (show ¬ nI 8 ≤ 7 by decide)]
    rw [ei]
    refine ⟨fun z => absurd z (by decide), fun _ hv9 e9 => ?_⟩
    have f9 : ∀ c i, ¬ (c = 8 ∧ i = 0) → hv9 c i = hv c i := fun c i h => by rw [e9]; exact up_n _ _ h
    have fS : ∀ s w, cntN w ≤ 4 → CS hv s w → CS hv9 s w := fun s w hw h => CS_fr hw (fun c i z => f9 c i (fun y => skey_8 z y.1)) h
    refine C_keep1 (nx := 0) (by omega) (by rw [e9, up_s, upd_s]; rfl) (by rw [e9, up_s, upd_n _ _ (by omega), e2]) hb hV (fS _ _ hV.1.1 hc) hH (fun j hj => ?_) ?_
    · have z := fS _ _ (hH j hj).1.1 (hS j hj)
      rwa [show (8 + 7 - j) % 8 = (0 + 7 - j) % 8 by omega] at z
    · intro hv' k1 k2 k3
      refine hp hv' k1 (fun k a1 a2 => ?_) (fun c i h => ?_)
      · rw [k2 k a1 a2, e9, up_s, upd_n _ _ a2]
      · rw [k3 c i h]; exact f9 c i (fun z => h (Or.inl z))
theorem C_undo1 {nx b : Nat} {H : Nat → Nat → Int32} {hv : HV} {post : Int32 → HV → Prop} (hnx : nx < 8) (hb : b < 8) (e3 : hv 8 0 3 = nI (nx + 1)) (e2 : hv 8 0 2 = nI (b + 1)) (hH : ∀ j, j < b + 1 → VI (H j)) (hC : ∀ j, j < b + 1 → CS hv (1 + (nx + 1 + 7 - j) % 8) (H j))
    (hp : ∀ hv', CS hv' 0 (H 0) → HC hv' b (fun j => H (j + 1)) → (∀ k, ¬ k = 2 → ¬ k = 3 → hv' 8 0 k = hv 8 0 k) → (∀ c i, ¬ skey 0 c i → ¬ (c = 8 ∧ i = 0) → hv' c i = hv c i) → post (nI b) hv') :
    (∀ hv4 : HV, hv4 = up hv 8 0 (upd (hv 8 0) 3 ((hv 8 0 3) - 1)) → (∀ hv5 : HV, hv5 = up hv4 8 0 (upd (hv4 8 0) 2 ((hv4 8 0 2) - 1)) → (vp_in (hv5 8 0 3) 8 ∧ (V_X7_copyFrom 0 (1 + Int32.toNatClampNeg (hv5 8 0 3)) hv5 (fun hv7 => post (hv7 8 0 2) hv7))))) := by
  intro hv4 e4 hv5 e5
  have s1 : ∀ k, nI (k + 1) - 1 = nI k := fun k => by rw [← nI_1]; exact Int32.add_sub_cancel _ _
  have f5 : ∀ c i, ¬ (c = 8 ∧ i = 0) → hv5 c i = hv c i := fun c i h => by rw [e5, up_n _ _ h, e4, up_n _ _ h]
  have g3 : hv5 8 0 3 = nI nx := by rw [e5, up_s, upd_n _ _ (by omega), e4, up_s, upd_s, e3, s1]
  have g2 : hv5 8 0 2 = nI b := by rw [e5, up_s, upd_s, e4, up_s, upd_n _ _ (by omega), e2, s1]
  have gk : ∀ k, ¬ k = 2 → ¬ k = 3 → hv5 8 0 k = hv 8 0 k := fun k a1 a2 => by rw [e5, up_s, upd_n _ _ a1, e4, up_s, upd_n _ _ a2]
  have fS : ∀ s w, cntN w ≤ 4 → CS hv s w → CS hv5 s w := fun s w hw h => CS_fr hw (fun c i z => f5 c i (fun y => skey_8 z y.1)) h
  rw [g3, nI_clamp (by omega)]
  have h0 := hC 0 (by omega)
  rw [show (nx + 1 + 7 - 0) % 8 = nx by omega] at h0
  refine ⟨vp_in_nI hnx (by omega), C_copyState (by omega) (by omega) (by omega) (hH 0 (by omega)) (fS _ _ (hH 0 (by omega)).1.1 h0) ?_⟩
  intro hv7 k1 k2
  have q8 : hv7 8 0 = hv5 8 0 := k2 8 0 (fun z => skey_8 z rfl)
  rw [q8, g2]
  refine hp hv7 k1 ⟨nx, by omega, by rw [q8, g2], by rw [q8, g3], fun j hj => ?_⟩ (fun k a1 a2 => by rw [q8]; exact gk k a1 a2) (fun c i a1 a2 => by rw [k2 c i a1]; exact f5 c i a2)
  have z := hC (j + 1) (by omega)
  have w := (hH (j + 1) (by omega)).1.1
  rw [show (nx + 1 + 7 - (j + 1)) % 8 = (nx + 7 - j) % 8 by omega] at z
  exact CS_fr w (fun c i y => k2 c i (skey_d (by omega) y)) (fS _ _ w z)
theorem C_undo {b : Nat} {H : Nat → Nat → Int32} {hv : HV} {post : Int32 → HV → Prop} (hb : b ≤ 8) (hH : ∀ j, j < b → VI (H j)) (hC : HC hv b H)
    (h0 : b = 0 → post (-1005) hv)
    (hp : ∀ c, b = c + 1 → ∀ hv', CS hv' 0 (H 0) → HC hv' c (fun j => H (j + 1)) → (∀ k, ¬ k = 2 → ¬ k = 3 → hv' 8 0 k = hv 8 0 k) → (∀ c i, ¬ skey 0 c i → ¬ (c = 8 ∧ i = 0) → hv' c i = hv c i) → post (nI c) hv') : V_X8_undo hv post := by
  obtain ⟨nx, h8, e2, e3, hS⟩ := hC
  unfold V_X8_undo
  rw [e2]
  cases b with
  | zero => exact ⟨fun z => absurd z (by decide), fun _ => h0 rfl⟩
  | succ c =>
    refine ⟨fun _ => ?_, fun z => absurd (show (1 : Int32) ≤ nI (c + 1) from nI_le (a := 1) (by omega) (by omega)) z⟩
    rw [C_outside]
    cases nx with
    | zero =>
      have ei : (if hv 8 0 3 < 1 then (1 : Int32) else if hv 8 0 3 ≤ 8 then 0 else 1) = 1 := by rw [e3, if_pos (show nI 0 < 1 by decide)]
      rw [ei]
      refine ⟨fun z => absurd z (by decide), fun _ hv8 e8 => ?_⟩
      have f9 : ∀ c i, ¬ (c = 8 ∧ i = 0) → hv8 c i = hv c i := fun c i h => by rw [e8]; exact up_n _ _ h
      have fS : ∀ s w, cntN w ≤ 4 → CS hv s w → CS hv8 s w := fun s w hw h => CS_fr hw (fun c i z => f9 c i (fun y => skey_8 z y.1)) h
      refine C_undo1 (nx := 7) (by omega) (by omega) (by rw [e8, up_s, upd_s]; rfl) (by rw [e8, up_s, upd_n _ _ (by omega), e2]) hH (fun j hj => ?_) ?_
      · have z := fS _ _ (hH j hj).1.1 (hS j hj)
        rwa [show (0 + 7 - j) % 8 = (7 + 1 + 7 - j) % 8 by omega] at z
      · intro hv' k1 k2 k3 k4
        exact hp c rfl hv' k1 k2 (fun k a1 a2 => by rw [k3 k a1 a2, e8, up_s, upd_n _ _ a2]) (fun c i a1 a2 => by rw [k4 c i a1 a2]; exact f9 c i a2)
    | succ n =>
      have ei : (if hv 8 0 3 < 1 then (1 : Int32) else if hv 8 0 3 ≤ 8 then 0 else 1) = 0 := by rw [e3, if_neg (show ¬ nI (n + 1) < 1 from fun z => absurd ((nI_ltI (a := n + 1) (b := 1) (by omega) (by omega)).mp z) (by omega)), if_pos (show nI (n + 1) ≤ 8 from nI_le (b := 8) (by omega) (by omega))]
      rw [ei]
      refine ⟨fun _ => ?_, fun z => absurd rfl z⟩
      exact C_undo1 (by omega) (by omega) e3 e2 hH hS (fun hv' k1 k2 k3 k4 => hp c rfl hv' k1 k2 k3 k4)

