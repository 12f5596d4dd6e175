/-- the reference's incidents -/
def RLm (m kd pu ti : Nat → Int32) (L : LG) : Prop := m 6 = nI L.1 ∧ kd = L.2.1 ∧ pu = L.2.2.1 ∧ ti = L.2.2.2
abbrev RH (hv : HV) (L : LG) : Prop := RLm (hv 9 0) (hv 17 0) (hv 18 0) (hv 19 0) L
theorem RLm_m {m m2 kd pu ti : Nat → Int32} {L : LG} (h : m2 6 = m 6) (hr : RLm m kd pu ti L) : RLm m2 kd pu ti L := ⟨h.trans hr.1, hr.2⟩
theorem RLm_add {m kd pu ti : Nat → Int32} {L : LG} (k p t : Int32) (hL : L.1 < 2 ^ 31) (hr : RLm m kd pu ti L) : RLm (iM k m) (iK k m kd k) (iK k m pu p) (iK k m ti t) (addL k p t L) := by
  obtain ⟨h1, h2, h3, h4⟩ := hr
  have e : plI m = L.1 % 20 := by unfold plI; rw [h1, nI_clamp hL]
  unfold iM iK addL
  by_cases c : k = 0
  · rw [if_pos c, if_pos c, if_pos c, if_pos c, if_pos c]; exact ⟨h1, h2, h3, h4⟩
  · rw [if_neg c, if_neg c, if_neg c, if_neg c, if_neg c, e, h2, h3, h4]
    exact ⟨by rw [upd_s, h1, nI_1], rfl, rfl, rfl⟩
/-- the cells that the reference's tick may change, and which of its fields stay -/
def rkey (c i : Nat) : Prop := i = 0 ∧ (c = 15 ∨ c = 9 ∨ c = 17 ∨ c = 18 ∨ c = 19)
def mst (m m2 : Nat → Int32) : Prop := ∀ i, ¬ i = 6 → ¬ i = 7 → ¬ i = 8 → ¬ i = 9 → m2 i = m i
theorem mkR_k {hv : HV} {N m kd pu ti : Nat → Int32} {c i : Nat} (h : ¬ rkey c i) : mkR hv N m kd pu ti c i = hv c i := by
  unfold rkey at h
  unfold mkR
  by_cases hi : i = 0
  · rw [if_pos hi, if_neg (fun z => h ⟨hi, Or.inl z⟩), if_neg (fun z => h ⟨hi, Or.inr (Or.inl z)⟩), if_neg (fun z => h ⟨hi, Or.inr (Or.inr (Or.inl z))⟩), if_neg (fun z => h ⟨hi, Or.inr (Or.inr (Or.inr (Or.inl z)))⟩), if_neg (fun z => h ⟨hi, Or.inr (Or.inr (Or.inr (Or.inr z)))⟩)]
  · rw [if_neg hi]
theorem mkR_sl {hv : HV} (k : Nat) : mkR hv (putW (hv 15 0) k (fun j => hv 15 0 (k + j))) (hv 9 0) (hv 17 0) (hv 18 0) (hv 19 0) = hv := by rw [pw_id, mkR_id]
theorem st1M_o (b : Int32) (f m : Nat → Int32) (i : Nat) (h7 : ¬ i = 7) (h8 : ¬ i = 8) : st1M b f m i = m i := by
  unfold st1M
  by_cases c : flowF f ≤ b
  · rw [if_pos c, mS_6 _ _ _ h7, upd_n _ _ h8]
  · rw [if_neg c]
theorem PI.mid {f : Nat → Int32} (h : PI f) : f 7 = 0 ∨ ¬ f 11 - (f 13 + takeF f (flowF f)) = 0 := Or.inr (by
  have hw := h.flow
  have ht := h.t13 hw.1
  have h11 := h.h11
  intro z
  have e := i_sub (a := f 11) (b := f 13 + takeF f (flowF f)) (by have := h.h13; have := h.take hw.1; omega) (by have := h.h13; have := h.take hw.1; omega)
  rw [z, i0] at e
  omega)
theorem R_at {p : Nat} {hv : HV} {post : Int32 → HV → Prop} (h : post (nI (5 + 73 * p)) hv) : V_X9_at (nI p) hv post := by
  unfold V_X9_at
  have e : (5 : Int32) + 73 * nI p = nI (5 + 73 * p) := by
    show nI 5 + nI 73 * nI p = _
    rw [pk_mul, nI_add]
  rw [e]
  exact h
/-- one pump of the reference's loop -/
theorem R_onePump {p : Nat} {S : ST} {hv : HV} {post : HV → Prop} (hp4 : p < cntN S.1) (hV : VM p S.1) (hN : hv 15 0 = S.1) (hL : RH hv S.2.1) (hLb : S.2.1.1 + 2 < 2 ^ 31) (hD : hv 9 0 9 = S.2.2) (hrun : S.1 (5 + 73 * p + 5) = 1)
    (hp : ∀ hv', hv' 15 0 = (pumpS p S).1 → RH hv' (pumpS p S).2.1 → hv' 9 0 9 = (pumpS p S).2.2 → mst (hv 9 0) (hv' 9 0) → (∀ c i, ¬ rkey c i → hv' c i = hv c i) → post hv') : V_X9_tick (5 + 73 * p) (nI p) hv post := by
  have hn := hV.1.1
  have hPI := (hV.2.1 p hp4).1
  have hsl : (fun j => hv 15 0 (5 + 73 * p + j)) = sl S.1 p := by rw [hN]; rfl
  have e6 : (hv 9 0 6).toInt = S.2.1.1 := by rw [hL.1, nI_toInt (by omega)]
  have emk : mkR hv (putW (hv 15 0) (5 + 73 * p) (sl S.1 p)) (hv 9 0) (hv 17 0) (hv 18 0) (hv 19 0) = hv := by rw [← hsl]; exact mkR_sl _
  have T := R_tickS (k := 5 + 73 * p) (hv := hv) (N := hv 15 0) (f := sl S.1 p) (m := hv 9 0) (kd := hv 17 0) (pu := hv 18 0) (ti := hv 19 0) (a2 := nI p) (post := post) (by omega) (nI_pos (by omega)) (by rw [e6]; omega) (by rw [e6]; omega)
    hPI.n1 hPI.mid (PI_st1 hPI _ _).sp0 ?_
  · rw [emk] at T; exact T
  rw [hN]
  have eS : pumpS p S = (putW (upd S.1 0 (basF (S.1 0) (sl S.1 p))) (5 + 73 * p) (tickF (S.1 2) (S.1 0) (sl S.1 p)), addL (delI true (st1F (S.1 2) (S.1 0) (sl S.1 p))) (nI p) (S.1 2) (addL (st1I (S.1 0) (sl S.1 p)) (nI p) (S.1 2) S.2.1), S.2.2 + litF (st1F (S.1 2) (S.1 0) (sl S.1 p))) := if_neg (by rw [hrun]; decide)
  have r1 : RLm (st1M (S.1 0) (sl S.1 p) (hv 9 0)) (hv 17 0) (hv 18 0) (hv 19 0) S.2.1 := RLm_m (st1M_o _ _ _ _ (by omega) (by omega)) hL
  have r2 := RLm_add (st1I (S.1 0) (sl S.1 p)) (nI p) (S.1 2) (by omega) r1
  have r3 : RLm (tkM (S.1 2) (S.1 0) (sl S.1 p) (hv 9 0)) _ _ _ _ := RLm_m (by unfold tkM; rw [upd_n _ _ (by omega)]) r2
  have hle := addL_le (st1I (S.1 0) (sl S.1 p)) (nI p) (S.1 2) S.2.1
  have r4 := RLm_add (delI true (st1F (S.1 2) (S.1 0) (sl S.1 p))) (nI p) (S.1 2) (by omega) r3
  have m9 : ∀ i, ¬ i = 6 → ¬ i = 7 → ¬ i = 8 → iM (delI true (st1F (S.1 2) (S.1 0) (sl S.1 p))) (tkM (S.1 2) (S.1 0) (sl S.1 p) (hv 9 0)) i = upd (hv 9 0) 9 (hv 9 0 9 + litF (st1F (S.1 2) (S.1 0) (sl S.1 p))) i := by
    intro i h6 h7 h8
    rw [iM_6 _ _ h6]
    unfold tkM
    by_cases h9 : i = 9
    · subst h9; rw [upd_s, upd_s, iM_6 _ _ (by omega), st1M_o _ _ _ _ (by omega) (by omega)]
    · rw [upd_n _ _ h9, upd_n _ _ h9, iM_6 _ _ h6, st1M_o _ _ _ _ h7 h8]
  refine hp _ (by rw [eS]; rfl) ?_ ?_ ?_ (fun c i h => mkR_k h)
  · rw [eS]
    show RLm _ _ _ _ _
    unfold tkK
    rw [iK_v (kind := delI true (st1F (S.1 2) (S.1 0) (sl S.1 p))) (v := 3) (by unfold delI; split <;> simp)]
    exact r4
  · rw [eS]
    show iM _ _ 9 = _
    rw [m9 9 (by omega) (by omega) (by omega), upd_s, hD]
  · intro i h6 h7 h8 h9
    show iM _ _ i = _
    rw [m9 i h6 h7 h8, upd_n _ _ h9]
theorem R_psLoop {a1 f2 : Int32} {post : Int32 → HV → Prop} {K : HV → Prop} : ∀ (m n p : Nat) (S : ST) (hv : HV), m < n → p + m = cntN S.1 → VM p S.1 → hv 15 0 = S.1 → RH hv S.2.1 → S.2.1.1 + 2 * m + 2 < 2 ^ 31 → hv 9 0 9 = S.2.2 →
    (∀ hv', hv' 15 0 = (pumpsS p m S).1 → RH hv' (pumpsS p m S).2.1 → hv' 9 0 9 = (pumpsS p m S).2.2 → mst (hv 9 0) (hv' 9 0) → (∀ c i, ¬ rkey c i → hv' c i = hv c i) → K hv') → V_X9_passNow_24 a1 f2 post K n (nI p) hv
  | 0, n + 1, p, S, hv, _, hm, hV, hN, hL, _, hD, hp => by
    rw [V_X9_passNow_24]
    refine ⟨fun _ => hp hv hN hL hD (fun _ _ _ _ _ => rfl) (fun _ _ _ => rfl), fun c => ?_⟩
    rw [hN, hV.1.2] at c
    exact absurd (nI_le (by omega) (by have := hV.1.1; omega)) c
  | m + 1, n + 1, p, S, hv, hn, hm, hV, hN, hL, hLb, hD, hp => by
    have h4 := hV.1.1
    rw [V_X9_passNow_24]
    refine ⟨fun c => ?_, fun _ => ?_⟩
    · rw [hN, hV.1.2, nI_leI (by omega) (by omega)] at c; omega
    refine R_at ⟨5 + 73 * p, rfl, by omega, ?_, ?_⟩
    · intro hr
      rw [hN] at hr
      refine R_at ⟨5 + 73 * p, rfl, by omega, ?_⟩
      refine R_onePump (by omega) hV hN hL (by omega) hD hr ?_
      intro hv1 g1 g2 g3 g4 g5 x10 e10
      rw [e10, nI_1]
      have hLs := @pumpS_L p S
      refine R_psLoop m n (p + 1) (pumpS p S) hv1 (by omega) (by rw [pumpS_cnt]; omega) (VM_step hV (by omega)) g1 g2 (by omega) g3 ?_
      intro hv' k1 k2 k3 k4 k5
      exact hp hv' k1 k2 k3 (fun i a b c d => (k4 i a b c d).trans (g4 i a b c d)) (fun c i h => (k5 c i h).trans (g5 c i h))
    · intro hr x7 e7
      rw [hN] at hr
      have e5 : S.1 (5 + 73 * p + 5) = 0 := (hV.2.1 p (by omega)).1.h5.resolve_right hr
      have eS : pumpS p S = S := if_pos e5
      have ez : pumpsS p (m + 1) S = pumpsS (p + 1) m S := by show pumpsS (p + 1) m (pumpS p S) = _; rw [eS]
      rw [e7, nI_1]
      rw [ez] at hp
      exact R_psLoop m n (p + 1) S hv (by omega) (by omega) (by have z := VM_step hV (by omega); rw [eS] at z; exact z) hN hL (by omega) hD hp
theorem R_fill {l : Int32} {hv : HV} {post : HV → Prop} (hp : post (up hv 15 0 (fillS l (hv 15 0)))) : V_X9_fill l hv post := by
  unfold V_X9_fill
  simp only [forall_eq, up_s, up_up, upd_s, upd_n _ _ (show ¬ 3 = 0 by omega)]
  unfold fillS at hp
  refine ⟨fun c => ?_, fun c => ?_⟩
  · rwa [if_pos c] at hp
  · rw [if_neg c] at hp
    have e : upd (upd (upd (hv 15 0) 0 (hv 15 0 0 + l)) 3 (hv 15 0 3 + (hv 15 0 0 + l - 20000))) 0 20000 = upd (upd (hv 15 0) 3 (hv 15 0 3 + (hv 15 0 0 + l - 20000))) 0 20000 := by
      rw [upd_cm _ _ _ (show ¬ 0 = 3 by omega), upd_up]
    rw [e]
    exact hp
theorem R_passLoop {a1 : Int32} {T : Nat} {post : Int32 → HV → Prop} (ha : a1 = nI T) (hT : T ≤ 200) : ∀ (m n i : Nat) (S : ST) (hv : HV), m < n → i + m = T → VI S.1 → (S.1 2).toInt + m ≤ 20000 → hv 15 0 = S.1 → RH hv S.2.1 → S.2.1.1 + 8 * m + 10 < 2 ^ 31 → hv 9 0 9 = S.2.2 →
    (∀ hv', hv' 15 0 = (passS m S).1 → RH hv' (passS m S).2.1 → hv' 9 0 9 = (passS m S).2.2 → mst (hv 9 0) (hv' 9 0) → (∀ c i, ¬ rkey c i → hv' c i = hv c i) → post (passS m S).2.2 hv') → V_X9_passNow_7 a1 post n (nI i) hv
  | 0, n + 1, i, S, hv, _, hm, hV, _, hN, hL, _, hD, hp => by
    rw [V_X9_passNow_7]
    refine ⟨fun _ => by rw [hD]; exact hp hv hN hL hD (fun _ _ _ _ _ => rfl) (fun _ _ _ => rfl), fun c => ?_⟩
    rw [ha] at c
    exact absurd (nI_le (by omega) (by omega)) c
  | m + 1, n + 1, i, S, hv, hn, hm, hV, ht, hN, hL, hLb, hD, hp => by
    rw [V_X9_passNow_7]
    refine ⟨fun c => ?_, fun _ => ?_⟩
    · rw [ha, nI_leI (by omega) (by omega)] at c; omega
    refine R_fill ?_
    have h4 := hV.1.1
    have ecn : cntN (fillS (S.1 1) S.1) = cntN S.1 := by unfold cntN; rw [fillS_hi _ _ _ (by omega) (by omega)]
    have hVf := VI_fill (l := S.1 1) ⟨hV.2.2.2.1.1, by have := hV.2.2.2.1.2; omega⟩ hV
    rw [hN]
    have f15 : (up hv 15 0 (fillS (S.1 1) S.1)) 15 0 = fillS (S.1 1) S.1 := up_s _ _ _ _
    have fo : ∀ c i, ¬ rkey c i ∨ ¬ c = 15 → (up hv 15 0 (fillS (S.1 1) S.1)) c i = hv c i := fun c i h => up_n _ _ (fun z => by
      rcases h with h | h
      · exact h ⟨z.2, Or.inl z.1⟩
      · exact h z.1)
    refine ⟨cntN S.1 + 1, R_psLoop (cntN S.1) (cntN S.1 + 1) 0 (fillS (S.1 1) S.1, S.2) _ (by omega) (by show 0 + _ = cntN (fillS _ _); rw [ecn]; omega) (VM_0 hVf (by show (fillS _ _ 2).toInt < _; rw [fillS_hi _ _ _ (by omega) (by omega)]; omega)) f15 (by
        show RLm _ _ _ _ _
        rw [fo 9 0 (Or.inr (by omega)), fo 17 0 (Or.inr (by omega)), fo 18 0 (Or.inr (by omega)), fo 19 0 (Or.inr (by omega))]; exact hL) (by show S.2.1.1 + _ + 2 < _; omega) (by rw [fo 9 0 (Or.inr (by omega))]; exact hD) ?_⟩
    intro hv2 g1 g2 g3 g4 g5 hv12 e12 x13 e13
    rw [e13, nI_1]
    rw [fo 9 0 (Or.inr (by omega))] at g4
    have l2 : (pumpsS 0 (cntN S.1) (fillS (S.1 1) S.1, S.2)).1 2 = S.1 2 := by rw [pumpsS_lo _ _ _ _ (by omega) (by omega)]; exact fillS_hi _ _ _ (by omega) (by omega)
    have hE : tickSt S = (upd (pumpsS 0 (cntN S.1) (fillS (S.1 1) S.1, S.2)).1 2 (S.1 2 + 1), (pumpsS 0 (cntN S.1) (fillS (S.1 1) S.1, S.2)).2) := rfl
    have h2 := tickSt_L S hV.1.1
    have e1 : (tickSt S).1 2 = S.1 2 + 1 := tickSt_2 S
    have e2 : (S.1 2 + 1).toInt = (S.1 2).toInt + 1 := i_add (by rw [i1]; have := hV.2.2.2.2; omega) (by rw [i1]; omega)
    have r12 : ∀ c i, ¬ (c = 15 ∧ i = 0) → hv12 c i = hv2 c i := fun c i h => by rw [e12]; exact up_n _ _ h
    refine R_passLoop ha hT m n (i + 1) (tickSt S) hv12 (by omega) (by omega) (VI_tick hV (by omega)) (by rw [e1, e2]; omega) ?_ ?_ (by omega) ?_ ?_
    · rw [e12, up_s, g1, hE, l2]
    · show RLm _ _ _ _ _
      rw [r12 9 0 (by omega), r12 17 0 (by omega), r12 18 0 (by omega), r12 19 0 (by omega)]
      exact g2
    · rw [r12 9 0 (by omega)]; exact g3
    · intro hv' k1 k2 k3 k4 k5
      rw [r12 9 0 (by omega)] at k4
      refine hp hv' k1 k2 k3 (fun i a b c d => (k4 i a b c d).trans (g4 i a b c d)) (fun c i h => ?_)
      rw [k5 c i h, r12 c i (fun z => h ⟨z.2, Or.inl z.1⟩), g5 c i h, fo c i (Or.inl h)]
