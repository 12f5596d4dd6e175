theorem pumpsS_lo : ∀ (m p : Nat) (S : ST) (j : Nat), j < 5 → ¬ j = 0 → (pumpsS p m S).1 j = S.1 j
  | 0, _, _, _, _, _ => rfl
  | m + 1, p, S, j, h, h0 => by
    show (pumpsS (p + 1) m (pumpS p S)).1 j = S.1 j
    rw [pumpsS_lo m (p + 1) _ j h h0, pumpS_lo j h h0]
theorem pumpsS_L : ∀ (m p : Nat) (S : ST), (pumpsS p m S).2.1.1 ≤ S.2.1.1 + 2 * m
  | 0, _, _ => by show _ ≤ _ + 0; exact Nat.le_refl _
  | m + 1, p, S => by
    have h1 := pumpsS_L m (p + 1) (pumpS p S)
    have h2 := @pumpS_L p S
    show (pumpsS (p + 1) m (pumpS p S)).2.1.1 ≤ _
    omega
theorem VM_all : ∀ (m p : Nat) (S : ST), VM p S.1 → p + m ≤ cntN S.1 → VM (p + m) (pumpsS p m S).1
  | 0, _, _, h, _ => h
  | m + 1, p, S, h, hp => by
    have := VM_all m (p + 1) (pumpS p S) (VM_step h (by omega)) (by rw [pumpS_cnt]; omega)
    rw [show p + (m + 1) = p + 1 + m by omega]
    exact this
theorem C_stLoop {post K : Int32 → HV → Prop} : ∀ (m n p : Nat) (S : ST) (hv : HV) (d D : Int32), m < n → p + m = cntN S.1 → VM p S.1 → CS hv 0 S.1 → CL hv S.2.1 → S.2.1.1 + 2 * m + 2 < 2 ^ 31 → S.2.2 = D + d →
    (∀ hv' d', CS hv' 0 (pumpsS p m S).1 → CL hv' (pumpsS p m S).2.1 → (pumpsS p m S).2.2 = D + d' → (∀ c i, ¬ ckey c i → hv' c i = hv c i) → K d' hv') → V_X8_tickStation_18 post K n d (nI p) hv
  | 0, n + 1, p, S, hv, d, D, _, hm, hV, hC, hL, _, hD, hp => by
    rw [V_X8_tickStation_18]
    refine ⟨fun _ => hp hv d hC hL hD (fun _ _ _ => rfl), fun c => ?_⟩
    rw [hC.1.2.2.2.2, hV.1.2] at c
    exact absurd (nI_le (by omega) (by have := hV.1.1; omega)) c
  | m + 1, n + 1, p, S, hv, d, D, hn, hm, hV, hC, hL, hLb, hD, hp => by
    have h4 := hV.1.1
    rw [V_X8_tickStation_18]
    have e4 : hv 7 0 4 = nI (cntN S.1) := by rw [hC.1.2.2.2.2]; exact hV.1.2
    refine ⟨fun c => ?_, fun _ => ?_⟩
    · rw [e4, nI_leI (by omega) (by omega)] at c; omega
    refine C_pumpAt e4 h4 ?_ (fun z => absurd rfl (z p (by omega)))
    intro q hq e
    rw [nI_eq (by omega) (by omega)] at e
    subst e
    rw [show 4 * 0 + p = p by omega]
    refine ⟨(fun z => by cases z), ?_⟩
    intro r hr hr37
    cases hr
    have hcn : cntN (pumpS p S).1 = cntN S.1 := pumpS_cnt
    have hLs := @pumpS_L p S
    refine ⟨fun c x6 e6 => ?_, fun c => ?_⟩
    · have e5 : S.1 (5 + 73 * p + 5) = 0 := by
        have z := (hC.2 p (by omega)).1.1
        rw [show 4 * 0 + p = p by omega] at z
        rw [z, encP_5] at c
        exact c
      have eS : pumpS p S = S := if_pos e5
      rw [e6, nI_1]
      refine C_stLoop m n (p + 1) S hv d D (by omega) (by omega) (by have z := VM_step hV (by omega); rw [eS] at z; exact z) hC hL (by omega) hD ?_
      intro hv' d' g1 g2 g3 g4
      have ez : pumpsS p (m + 1) S = pumpsS (p + 1) m S := by show pumpsS (p + 1) m (pumpS p S) = _; rw [eS]
      exact hp hv' d' (by rw [ez]; exact g1) (by rw [ez]; exact g2) (by rw [ez]; exact g3) g4
    · refine C_onePump (d := d) (D := D) (S := S) (post := fun x9 hv10 => ∀ x11 : Int32, x11 = nI p + 1 → V_X8_tickStation_18 post K n x9 x11 hv10) (by omega) hV hC hL (by omega) hD c ?_
      intro hv1 d1 g1 g2 g3 g4 x11 e11
      rw [e11, nI_1]
      refine C_stLoop m n (p + 1) (pumpS p S) hv1 d1 D (by omega) (by rw [hcn]; omega) (VM_step hV (by omega)) g1 g2 (by omega) g3 ?_
      intro hv' d' k1 k2 k3 k4
      exact hp hv' d' k1 k2 k3 (fun c i h => (k4 c i h).trans (g4 c i h))
/-- a tick of the station -/
def tickSt (S : ST) : ST :=
  (upd (pumpsS 0 (cntN S.1) (fillS (S.1 1) S.1, S.2)).1 2 (S.1 2 + 1), (pumpsS 0 (cntN S.1) (fillS (S.1 1) S.1, S.2)).2)
theorem VI_tick {S : ST} (h : VI S.1) (ht : (S.1 2).toInt < 20000) : VI (tickSt S).1 := by
  have hf := VI_fill (l := S.1 1) ⟨h.2.2.2.1.1, by have := h.2.2.2.1.2; omega⟩ h
  have e2 : fillS (S.1 1) S.1 2 = S.1 2 := fillS_hi _ _ _ (by omega) (by omega)
  have ecn : cntN (fillS (S.1 1) S.1) = cntN S.1 := by unfold cntN; rw [fillS_hi _ _ _ (by omega) (by omega)]
  have hV := VM_all (cntN S.1) 0 (fillS (S.1 1) S.1, S.2) (VM_0 hf (by show (fillS (S.1 1) S.1 2).toInt < 20000; rw [e2]; exact ht)) (by show 0 + _ ≤ cntN (fillS _ _); rw [ecn]; omega)
  generalize hS2 : pumpsS 0 (cntN S.1) (fillS (S.1 1) S.1, S.2) = S2 at hV
  have l2 : S2.1 2 = S.1 2 := by rw [← hS2, pumpsS_lo _ _ _ _ (by omega) (by omega)]; exact e2
  have l4 : S2.1 4 = S.1 4 := by rw [← hS2, pumpsS_lo _ _ _ _ (by omega) (by omega)]; exact fillS_hi _ _ _ (by omega) (by omega)
  have ecn2 : cntN S2.1 = cntN S.1 := by unfold cntN; rw [l4]
  have e1 : (S.1 2 + 1).toInt = (S.1 2).toInt + 1 := i_add (by rw [i1]; have := h.2.2.2.2; omega) (by rw [i1]; omega)
  obtain ⟨h1, h2, h3, h4, h5⟩ := hV
  have hE : (tickSt S).1 = upd S2.1 2 (S.1 2 + 1) := by show upd (pumpsS 0 (cntN S.1) (fillS (S.1 1) S.1, S.2)).1 2 _ = _; rw [hS2]
  rw [hE]
  have ecu : cntN (upd S2.1 2 (S.1 2 + 1)) = cntN S2.1 := by unfold cntN; rw [upd_n _ _ (by omega)]
  unfold VI
  rw [ecu, upd_n _ _ (show ¬ 4 = 2 by omega), upd_s, upd_n _ _ (show ¬ 0 = 2 by omega), upd_n _ _ (show ¬ 1 = 2 by omega), e1]
  refine ⟨h1, fun p hp => ?_, h3, h4, ⟨by have := h.2.2.2.2; omega, by omega⟩⟩
  obtain ⟨a, b⟩ := h2 p hp
  rw [if_pos (by omega), l2] at b
  exact ⟨PI_c (fun j hj _ => sl_upd _ _ _ _ _ (by omega)) a, CI_c (fun j _ hj => sl_upd _ _ _ _ _ (by omega)) b⟩
theorem tickSt_L (S : ST) (h : cntN S.1 ≤ 4) : (tickSt S).2.1.1 ≤ S.2.1.1 + 8 := by
  have := pumpsS_L (cntN S.1) 0 (fillS (S.1 1) S.1, S.2)
  show (pumpsS 0 (cntN S.1) (fillS (S.1 1) S.1, S.2)).2.1.1 ≤ _
  have e : ((fillS (S.1 1) S.1, S.2) : ST).2.1.1 = S.2.1.1 := rfl
  omega
theorem tickSt_lo (S : ST) (j : Nat) (h : j = 1 ∨ j = 4) : (tickSt S).1 j = S.1 j := by
  show upd (pumpsS 0 (cntN S.1) (fillS (S.1 1) S.1, S.2)).1 2 _ j = _
  rw [upd_n _ _ (by omega), pumpsS_lo _ _ _ _ (by omega) (by omega)]
  exact fillS_hi _ _ _ (by omega) (by omega)
theorem C_tickStation {S : ST} {hv : HV} {post : Int32 → HV → Prop} (hV : VI S.1) (ht : (S.1 2).toInt < 20000) (hC : CS hv 0 S.1) (hL : CL hv S.2.1) (hLb : S.2.1.1 + 10 < 2 ^ 31)
    (hp : ∀ hv' d', CS hv' 0 (tickSt S).1 → CL hv' (tickSt S).2.1 → (tickSt S).2.2 = S.2.2 + d' → (∀ c i, ¬ ckey c i → hv' c i = hv c i) → post d' hv') : V_X8_tickStation hv post := by
  unfold V_X8_tickStation
  have h4 := hV.1.1
  have ecn : cntN (fillS (S.1 1) S.1) = cntN S.1 := by unfold cntN; rw [fillS_hi _ _ _ (by omega) (by omega)]
  rw [hC.1.2.2.2.1]
  refine C_fill ⟨hV.2.2.2.1.1, by have := hV.2.2.2.1.2; omega⟩ hV.2.2.1 hC ?_
  intro hv1 hC1 hf1
  have hL1 : CL hv1 S.2.1 := CL_fr (fun c i h => hf1 c i (by unfold lkey at h; omega)) hL
  have hVf := VI_fill (l := S.1 1) ⟨hV.2.2.2.1.1, by have := hV.2.2.2.1.2; omega⟩ hV
  refine ⟨cntN S.1 + 1, C_stLoop (cntN S.1) (cntN S.1 + 1) 0 (fillS (S.1 1) S.1, S.2) hv1 0 S.2.2 (by omega) (by show 0 + _ = cntN (fillS _ _); rw [ecn]; omega) (VM_0 hVf (by show (fillS _ _ 2).toInt < _; rw [fillS_hi _ _ _ (by omega) (by omega)]; exact ht)) hC1 hL1 (by show S.2.1.1 + _ + 2 < _; omega) (Int32.add_zero _).symm ?_⟩
  intro hv2 d' hC2 hL2 hD2 hf2 hv13 e13
  have l2 : (pumpsS 0 (cntN S.1) (fillS (S.1 1) S.1, S.2)).1 2 = S.1 2 := by rw [pumpsS_lo _ _ _ _ (by omega) (by omega)]; exact fillS_hi _ _ _ (by omega) (by omega)
  generalize hS2 : pumpsS 0 (cntN S.1) (fillS (S.1 1) S.1, S.2) = S2 at hC2 hL2 hD2 l2
  have hE : tickSt S = (upd S2.1 2 (S.1 2 + 1), S2.2) := by unfold tickSt; rw [hS2]
  have r13 : ∀ c i, ¬ (c = 7 ∧ i = 0) → hv13 c i = hv2 c i := fun c i h => by rw [e13]; exact up_n _ _ h
  obtain ⟨⟨a0, a1, a2, a3, a4⟩, hq⟩ := hC2
  refine hp hv13 d' ?_ (by rw [hE]; exact CL_fr (fun c i h => r13 c i (by unfold lkey at h; omega)) hL2) (by rw [hE]; exact hD2) ?_
  · rw [hE]
    refine ⟨?_, ?_⟩
    · show hv13 7 0 0 = upd S2.1 2 (S.1 2 + 1) 2 ∧ hv13 7 0 1 = upd S2.1 2 (S.1 2 + 1) 0 ∧ hv13 7 0 2 = upd S2.1 2 (S.1 2 + 1) 3 ∧ hv13 7 0 3 = upd S2.1 2 (S.1 2 + 1) 1 ∧ hv13 7 0 4 = upd S2.1 2 (S.1 2 + 1) 4
      rw [e13, up_s, upd_s, upd_s, upd_n _ _ (show ¬ 1 = 0 by omega), upd_n _ _ (show ¬ 2 = 0 by omega), upd_n _ _ (show ¬ 3 = 0 by omega), upd_n _ _ (show ¬ 4 = 0 by omega), upd_n _ _ (show ¬ 0 = 2 by omega), upd_n _ _ (show ¬ 3 = 2 by omega), upd_n _ _ (show ¬ 1 = 2 by omega), upd_n _ _ (show ¬ 4 = 2 by omega), a0, l2]
      exact ⟨rfl, a1, a2, a3, a4⟩
    · intro p hp2
      have ecu : cntN (upd S2.1 2 (S.1 2 + 1)) = cntN S2.1 := by unfold cntN; rw [upd_n _ _ (by omega)]
      have hp3 : p < cntN S2.1 := by rw [← ecu]; exact hp2
      obtain ⟨b1, b2⟩ := hq p hp3
      have esl : ∀ j, j < 73 → sl S2.1 p j = sl (upd S2.1 2 (S.1 2 + 1)) p j := fun j _ => (sl_upd S2.1 p 2 (S.1 2 + 1) j (by omega)).symm
      exact ⟨PS_cg (fun j hj => esl j (by omega)) (PS_fr (r13 _ _ (by omega)) (r13 _ _ (by omega)) (r13 _ _ (by omega)) b1), PG_cg esl (PG_fr (fun i _ => r13 _ _ (by omega)) (fun i _ => r13 _ _ (by omega)) b2)⟩
  · intro c i h
    rw [r13 c i (fun z => h (Or.inl z)), hf2 c i h, hf1 c i (fun z => h (Or.inl z))]
def passS : Nat → ST → ST
  | 0, S => S
  | m + 1, S => passS m (tickSt S)
theorem tickSt_2 (S : ST) : (tickSt S).1 2 = S.1 2 + 1 := by
  show upd (pumpsS 0 (cntN S.1) (fillS (S.1 1) S.1, S.2)).1 2 (S.1 2 + 1) 2 = S.1 2 + 1
  exact upd_s _ _ _
theorem C_passLoop {a1 : Int32} {T : Nat} {post : Int32 → HV → Prop} (ha : a1 = nI T) (hT : T ≤ 200) : ∀ (m n i : Nat) (S : ST) (hv : HV), m < n → i + m = T → VI S.1 → (S.1 2).toInt + m ≤ 20000 → CS hv 0 S.1 → CL hv S.2.1 → S.2.1.1 + 8 * m + 10 < 2 ^ 31 →
    (∀ hv', VI (passS m S).1 → CS hv' 0 (passS m S).1 → CL hv' (passS m S).2.1 → (∀ c i, ¬ ckey c i → hv' c i = hv c i) → post (passS m S).2.2 hv') → V_X8_pass_42 a1 post n S.2.2 (nI i) hv
  | 0, n + 1, i, S, hv, _, hm, hV, _, hC, hL, _, hp => by
    rw [V_X8_pass_42]
    refine ⟨fun _ => hp hv hV hC hL (fun _ _ _ => rfl), fun c => ?_⟩
    rw [ha] at c
    exact absurd (nI_le (by omega) (by omega)) c
  | m + 1, n + 1, i, S, hv, hn, hm, hV, ht, hC, hL, hLb, hp => by
    rw [V_X8_pass_42]
    refine ⟨fun c => ?_, fun _ => ?_⟩
    · rw [ha, nI_leI (by omega) (by omega)] at c; omega
    refine C_tickStation hV (by omega) hC hL (by omega) ?_
    intro hv1 d1 g1 g2 g3 g4 x7 e7 x8 e8
    rw [e8, nI_1, e7, ← g3]
    have h2 := tickSt_L S hV.1.1
    have e1 : (tickSt S).1 2 = S.1 2 + 1 := tickSt_2 S
    have e2 : (S.1 2 + 1).toInt = (S.1 2).toInt + 1 := i_add (by rw [i1]; have := hV.2.2.2.2; omega) (by rw [i1]; omega)
    refine C_passLoop ha hT m n (i + 1) (tickSt S) hv1 (by omega) (by omega) (VI_tick hV (by omega)) (by rw [e1, e2]; omega) g1 g2 (by omega) ?_
    intro hv' k0 k1 k2 k3
    exact hp hv' k0 k1 k2 (fun c i h => (k3 c i h).trans (g4 c i h))

