/-! The law's change: whatever it does, what must hold holds. -/
/-- what holds between two steps: B bounds the incidents, T the time -/
def INV (B T : Nat) (hv : HV) (v : Nat → Int32) (K : KS) : Prop := CR hv 0 v K ∧ IV v K ∧ BK (hv 9 0) v ∧ LOK K.1 ∧ K.1.1 ≤ B ∧ (v 2).toInt ≤ T
def IN (B T : Nat) (hv : HV) : Prop := ∃ v K, INV B T hv v K
theorem rfr_9 {hv : HV} (X : Nat → Int32) : rfr hv (up hv 9 0 X) := fun c i h => up_n _ _ (fun z => h (Or.inl z.1))
theorem IN_up {B B2 T T2 : Nat} {hv : HV} (h1 : B ≤ B2) (h2 : T ≤ T2) (h : IN B T hv) : IN B2 T2 hv := by
  obtain ⟨v, K, a, b, c, d, e, f⟩ := h
  exact ⟨v, K, a, b, c, d, by omega, by omega⟩
section CHG
variable {B T : Nat} {hv : HV} {v : Nat → Int32} {K : KS} {post : Int32 → HV → Prop} {a a2 a3 : Int32}
theorem INV_of {hv' : HV} {v' : Nat → Int32} (hN : INV B T hv v K) (hC : CR hv' 0 v' (keepK 0 v K)) (hV : VI v') (hB : BK (hv' 9 0) v') (e2 : v' 2 = v 2) : IN (B + 1600) (T + 70) hv' := by
  obtain ⟨h1, h2, h3, h4, h5, h6⟩ := hN
  refine ⟨v', keepK 0 v K, hC, ⟨hV, (IV_keep 0 h2).2⟩, hB, ?_, ?_, ?_⟩
  · rw [keepK_L]; exact h4
  · rw [keepK_L]; omega
  · rw [e2]; omega
theorem INV_same (hN : INV B T hv v K) : IN (B + 1600) (T + 70) hv := IN_up (by omega) (by omega) ⟨v, K, hN⟩
/-- which pump is meant: one of those that are there, or none is there -/
def whP (v : Nat → Int32) (a : Int32) : Prop := (∃ p, p < cntN v ∧ a = nI p) ∨ (cntN v = 0 ∧ a = 0)
theorem ch_start (hN : INV B T hv v K) (ha : whP v a) (hq : ∀ hv', IN (B + 1600) (T + 70) hv' → post 1 hv') : V_L_change_569 a2 a3 post a hv := by
  obtain ⟨h1, h2, h3, h4, h5, h6⟩ := id hN
  have hn := h2.1.1.1
  unfold V_L_change_569
  rcases ha with ⟨p, hp, ea⟩ | ⟨e0, ea⟩
  · subst ea
    have epn := pn_in h2.1 hp
    have hpn : pn v (nI p) < cntN v := by rw [epn]; exact hp
    refine g_phase h1 h2 hp ?_
    rcases ph_c (h2.1.2.1 p hp).1 with ⟨e5, ep⟩ | ⟨e5, ep⟩
    · have er : rfRun 1 (nI p) v = 0 := by unfold rfRun; rw [epn, if_neg (by omega), e5, if_neg (by decide)]
      rw [ep]
      refine C_start h2 h1 (fun z => absurd er z) (fun _ hv' k1 k2 => ⟨fun _ => ⟨fun _ => ?_, fun z => absurd (by decide) z⟩, fun z => absurd (by decide) z⟩)
      have hV := VI_start h2.1 hpn
      refine L_many k1 ⟨hV, (IV_keep 0 h2).2⟩ ⟨fun _ => hq _ (INV_of hN k1 hV ?_ (onP_lo _ _ _ _ (by omega))), fun z => absurd rfl z⟩
      rw [k2 9 0 (Or.inl rfl)]
      exact BK_start h2.1 hpn h3
    · have er : rfRun 1 (nI p) v = -1003 := by unfold rfRun; rw [epn, if_neg (by omega), e5, if_pos rfl]
      refine C_start h2 h1 (fun _ => ?_) (fun z => absurd (er.symm.trans z) (by decide))
      rw [er]
      rcases ep with ep | ep
      · rw [ep]; exact ⟨fun _ => ⟨fun z => absurd z (by decide), fun _ => ⟨fun _ => hq _ (INV_same hN), fun z => absurd rfl z⟩⟩, fun z => absurd (by decide) z⟩
      · rw [ep]; exact ⟨fun _ => ⟨fun z => absurd z (by decide), fun _ => ⟨fun _ => hq _ (INV_same hN), fun z => absurd rfl z⟩⟩, fun z => absurd (by decide) z⟩
  · have er : rfRun 1 a v = -1001 := if_pos (pn_no h2.1 e0 a)
    refine n_phase h1 h2 e0 (C_start h2 h1 (fun _ => ?_) (fun z => absurd (er.symm.trans z) (by decide)))
    rw [er]
    exact ⟨fun z => absurd z (by decide), fun _ => ⟨fun _ => hq _ (INV_same hN), fun z => absurd rfl z⟩⟩
theorem ch_stop (hN : INV B T hv v K) (ha : whP v a) (hq : ∀ hv', IN (B + 1600) (T + 70) hv' → post 1 hv') : V_L_change_495 a2 a3 post a hv := by
  obtain ⟨h1, h2, h3, h4, h5, h6⟩ := id hN
  have hn := h2.1.1.1
  unfold V_L_change_495
  rcases ha with ⟨p, hp, ea⟩ | ⟨e0, ea⟩
  · subst ea
    have epn := pn_in h2.1 hp
    have hpn : pn v (nI p) < cntN v := by rw [epn]; exact hp
    refine g_phase h1 h2 hp ?_
    rcases ph_c (h2.1.2.1 p hp).1 with ⟨e5, ep⟩ | ⟨e5, ep⟩
    · have er : rfRun 0 (nI p) v = -1003 := by unfold rfRun; rw [epn, if_neg (by omega), e5, if_pos rfl]
      rw [ep]
      refine C_stop h2 h1 (fun _ => ?_) (fun z => absurd (er.symm.trans z) (by decide))
      rw [er]
      exact ⟨fun _ => ⟨fun _ => ⟨fun _ => hq _ (INV_same hN), fun z => absurd rfl z⟩, fun z => absurd rfl z⟩, fun z => absurd (by decide) z⟩
    · have er : rfRun 0 (nI p) v = 0 := by unfold rfRun; rw [epn, if_neg (by omega), e5, if_neg (by decide)]
      refine C_stop h2 h1 (fun z => absurd er z) (fun _ hv' k1 k2 => ?_)
      have hV := VI_stop h2.1 hpn
      have fin : V_L_many 1 hv' (fun r65 hv65 => ((runN (stopV (nI p) v) = r65 → post 1 hv65) ∧ (¬ (runN (stopV (nI p) v) = r65) → post 0 hv65))) := by
        refine L_many k1 ⟨hV, (IV_keep 0 h2).2⟩ ⟨fun _ => hq _ (INV_of hN k1 hV ?_ (onP_lo _ _ _ _ (by omega))), fun z => absurd rfl z⟩
        rw [k2 9 0 (Or.inl rfl)]
        exact BK_stop hpn h3
      rcases ep with ep | ep
      · rw [ep]; exact ⟨fun _ => ⟨fun z => absurd z (by decide), fun _ => fin⟩, fun z => absurd (by decide) z⟩
      · rw [ep]; exact ⟨fun _ => ⟨fun z => absurd z (by decide), fun _ => fin⟩, fun z => absurd (by decide) z⟩
  · have er : rfRun 0 a v = -1001 := if_pos (pn_no h2.1 e0 a)
    refine n_phase h1 h2 e0 (C_stop h2 h1 (fun _ => ?_) (fun z => absurd (er.symm.trans z) (by decide)))
    rw [er]
    exact ⟨fun z => absurd z (by decide), fun _ => ⟨fun _ => hq _ (INV_same hN), fun z => absurd rfl z⟩⟩
theorem ch_valve (hN : INV B T hv v K) (ha : whP v a) (hq : ∀ hv', IN (B + 1600) (T + 70) hv' → post 1 hv') : V_L_change_186 a2 a3 post a hv := by
  obtain ⟨h1, h2, h3, h4, h5, h6⟩ := id hN
  have hn := h2.1.1.1
  unfold V_L_change_186
  rcases ha with ⟨p, hp, ea⟩ | ⟨e0, ea⟩
  · subst ea
    have epn := pn_in h2.1 hp
    have hpn : pn v (nI p) < cntN v := by rw [epn]; exact hp
    refine g_phase h1 h2 hp (L_low (N := 3) rfl (by omega) (by omega) (fun j hj => L_low (N := 200) rfl (by omega) (by omega) (fun j2 hj2 => ?_)))
    have es : 1 + nI j2 = nI (1 + j2) := nI_add 1 j2
    rw [es]
    have rf : rfValve (nI p) (nI j) (nI (1 + j2)) v = if sl v p 5 = 1 then -1003 else 0 := by
      unfold rfValve
      rw [epn, if_neg (by omega), if_neg (nI_pos (by omega)), if_neg (show ¬ (2 : Int32) < nI j from nI_nlt (a := 2) (by omega) (by omega)), if_neg (show ¬ nI (1 + j2) < 1 from nI_nlt (b := 1) (by omega) (by omega)), if_neg (show ¬ (500 : Int32) < nI (1 + j2) from nI_nlt (a := 500) (by omega) (by omega))]
    rcases ph_c (h2.1.2.1 p hp).1 with ⟨e5, ep⟩ | ⟨e5, ep⟩
    · have er : rfValve (nI p) (nI j) (nI (1 + j2)) v = 0 := by rw [rf, e5, if_neg (by decide)]
      rw [ep]
      have h10 := (h2.1.2.1 p hp).1.h10
      refine C_valve h2 h1 (fun z => absurd er z) (fun _ hv' k1 k2 => ⟨fun _ => ⟨fun _ => ⟨fun z => ?_, fun _ => hq _ (INV_of hN k1 (VI_valve h2.1 er).1 ?_ (onP_lo _ _ _ _ (by omega)))⟩, fun z => absurd (by decide) z⟩, fun z => absurd (by decide) z⟩)
      · rw [epn, i_le, i0] at z; omega
      · rw [k2 9 0 (Or.inl rfl)]; exact BK_valve hpn h3
    · have er : rfValve (nI p) (nI j) (nI (1 + j2)) v = -1003 := by rw [rf, if_pos e5]
      refine C_valve h2 h1 (fun _ => ?_) (fun z => absurd (er.symm.trans z) (by decide))
      rw [er]
      rcases ep with ep | ep
      · rw [ep]; exact ⟨fun _ => ⟨fun z => absurd z (by decide), fun _ => ⟨fun _ => hq _ (INV_same hN), fun z => absurd rfl z⟩⟩, fun z => absurd (by decide) z⟩
      · rw [ep]; exact ⟨fun _ => ⟨fun z => absurd z (by decide), fun _ => ⟨fun _ => hq _ (INV_same hN), fun z => absurd rfl z⟩⟩, fun z => absurd (by decide) z⟩
  · refine n_phase h1 h2 e0 (L_low (N := 3) rfl (by omega) (by omega) (fun j hj => L_low (N := 200) rfl (by omega) (by omega) (fun j2 hj2 => ?_)))
    have er : rfValve a (nI j) (1 + nI j2) v = -1001 := if_pos (pn_no h2.1 e0 a)
    refine C_valve h2 h1 (fun _ => ?_) (fun z => absurd (er.symm.trans z) (by decide))
    rw [er]
    exact ⟨fun z => absurd z (by decide), fun _ => ⟨fun _ => hq _ (INV_same hN), fun z => absurd rfl z⟩⟩
theorem ch_333 {p s : Nat} {n : Int32} (hN : INV B T hv v K) (hp : p < cntN v) (hs : 50 ≤ s ∧ s ≤ 2000) (hb : n = 0 ∨ n = 1) (hq : ∀ hv', IN (B + 1600) (T + 70) hv' → post 1 hv') :
    V_L_change_333 a2 a3 post (sl v p 13) (phF (sl v p)) n (nI s) (nI p) hv := by
  obtain ⟨h1, h2, h3, h4, h5, h6⟩ := id hN
  have hn := h2.1.1.1
  have epn := pn_in h2.1 hp
  have hpn : pn v (nI p) < cntN v := by rw [epn]; exact hp
  unfold V_L_change_333
  have rf : rfCh (nI p) (nI s) v = if sl v p 5 = 1 then -1003 else 0 := by
    unfold rfCh
    rw [epn, if_neg (by omega), if_neg (show ¬ nI s < 50 from nI_nlt (b := 50) hs.1 (by omega)), if_neg (show ¬ (2000 : Int32) < nI s from nI_nlt (a := 2000) hs.2 (by omega))]
  rcases ph_c (h2.1.2.1 p hp).1 with ⟨e5, ep⟩ | ⟨e5, ep⟩
  · have er : rfCh (nI p) (nI s) v = 0 := by rw [rf, e5, if_neg (by decide)]
    rw [ep]
    refine C_chamber hb h2 h1 (fun z => absurd er z) (fun _ hv' k1 k2 => ⟨fun _ => ⟨fun _ => hq _ (INV_of hN k1 (VI_ch h2.1 hb er) ?_ ?_), fun z => absurd ?_ z⟩, fun z => absurd (by decide) z⟩)
    · rw [k2 9 0 (Or.inl rfl)]; exact BK_ch hpn h3
    · unfold chV; rw [onP_lo _ _ _ _ (by omega)]; exact fillS_hi _ _ _ (by omega) (by omega)
    · rw [epn]
  · have er : rfCh (nI p) (nI s) v = -1003 := by rw [rf, if_pos e5]
    refine C_chamber hb h2 h1 (fun _ => ?_) (fun z => absurd (er.symm.trans z) (by decide))
    rw [er]
    rcases ep with ep | ep
    · rw [ep]; exact ⟨fun z => absurd z (by decide), fun _ => ⟨fun _ => hq _ (INV_same hN), fun z => absurd rfl z⟩⟩
    · rw [ep]; exact ⟨fun z => absurd z (by decide), fun _ => ⟨fun _ => hq _ (INV_same hN), fun z => absurd rfl z⟩⟩
theorem ch_333n {s : Nat} {n : Int32} (hN : INV B T hv v K) (e0 : cntN v = 0) (hb : n = 0 ∨ n = 1) (hq : ∀ hv', IN (B + 1600) (T + 70) hv' → post 1 hv') :
    V_L_change_333 a2 a3 post (-1001) (-1001) n (nI s) a hv := by
  obtain ⟨h1, h2, h3, h4, h5, h6⟩ := id hN
  unfold V_L_change_333
  have er : rfCh a (nI s) v = -1001 := if_pos (pn_no h2.1 e0 a)
  refine C_chamber hb h2 h1 (fun _ => ?_) (fun z => absurd (er.symm.trans z) (by decide))
  rw [er]
  exact ⟨fun _ => ⟨fun _ => hq _ (INV_same hN), fun z => absurd rfl z⟩, fun z => absurd (by decide) z⟩
theorem ch_flow (hN : INV B T hv v K) (hq : ∀ hv', IN (B + 1600) (T + 70) hv' → post 1 hv') : V_L_change_372 a2 a3 post hv := by
  obtain ⟨h1, h2, h3, h4, h5, h6⟩ := id hN
  unfold V_L_change_372
  intro x43 e43
  refine L_low (N := 501) rfl (by omega) (by omega) (fun j hj => ?_)
  intro hv45 e45
  have c1 : CR hv45 0 v K := by rw [e45]; exact CR_fr h2 (rfr_9 _) h1
  have e9 : hv45 9 0 = upd (hv 9 0) 0 (nI j) := by rw [e45, up_s]
  have ex : hv45 9 0 0 = nI j := by rw [e9, upd_s]
  have er : rfFlow (nI j) = 0 := by
    unfold rfFlow
    rw [if_neg (nI_pos (by omega)), if_neg (show ¬ (500 : Int32) < nI j from nI_nlt (a := 500) (by omega) (by omega))]
  rw [ex]
  refine C_flow h2 c1 (fun z => absurd er z) (fun _ hv' k1 k2 => ⟨fun _ => hq _ (INV_of hN k1 (VI_flow h2.1 er) ?_ (upd_n _ _ (by omega))), fun z => absurd ?_ z⟩)
  · rw [k2 9 0 (Or.inl rfl), e9]; exact BK_flow h3
  · rw [e43]; exact h3.1
theorem ch_tank (hN : INV B T hv v K) (ha : whP v a) (hq : ∀ hv', IN (B + 1600) (T + 70) hv' → post 1 hv') : V_L_change_405 a2 a3 post a hv := by
  obtain ⟨h1, h2, h3, h4, h5, h6⟩ := id hN
  have hn := h2.1.1.1
  unfold V_L_change_405
  rcases ha with ⟨p, hp, ea⟩ | ⟨e0, ea⟩
  · subst ea
    have epn := pn_in h2.1 hp
    have hpn : pn v (nI p) < cntN v := by rw [epn]; exact hp
    have h15 := (h2.1.2.1 p hp).1.h15
    have e2 : (2 : Int32) + nI p = nI (2 + p) := nI_add 2 p
    refine g_tank h1 h2 hp ?_
    rw [e2, nI_clamp (by omega)]
    unfold V_L_change_449
    rw [nI_clamp (by omega)]
    by_cases c : sl v p 15 = 0
    · have er : rfTank (nI p) v = -1003 := by unfold rfTank; rw [epn, if_neg (by omega), if_pos c]
      refine C_tank h2 h1 (fun _ => ?_) (fun z => absurd (er.symm.trans z) (by decide))
      rw [er, c]
      refine ⟨fun _ => ⟨vp_in_nI (by omega) (by omega), vp_in_nI (by omega) (by omega), fun hv53 e53 => ?_⟩, fun z => absurd (by decide) z⟩
      rw [fa_same rfl, up_id] at e53
      rw [e53]
      exact ⟨fun _ => ⟨fun _ => ⟨fun _ => hq _ (INV_same hN), fun z => absurd rfl z⟩, fun z => absurd rfl z⟩, fun z => absurd (by decide) z⟩
    · have er : rfTank (nI p) v = 0 := by unfold rfTank; rw [epn, if_neg (by omega), if_neg c]
      refine C_tank h2 h1 (fun z => absurd er z) (fun _ hv' k1 k2 => ?_)
      have hk := IV_keep 0 h2
      have hV := VI_tank h2.1 hpn
      rw [epn]
      refine ⟨fun z => ?_, fun _ => ⟨vp_in_nI (by omega) (by omega), vp_in_nI (by omega) (by omega), fun hv53 e53 => ?_⟩⟩
      · exfalso
        apply c
        rw [i_le, i0] at z
        rw [i_eq, i0]; omega
      · have k9 := k2 9 0 (Or.inl rfl)
        have c1 : CR hv53 0 (tankV (nI p) v) (keepK 0 v K) := by rw [e53]; exact CR_fr ⟨hV, hk.2⟩ (rfr_9 _) k1
        have e9 : hv53 9 0 = upd (hv 9 0) (2 + p) (hv 9 0 (2 + p) + sl v p 15) := by rw [e53, up_s, k9]
        refine ⟨fun _ => ⟨fun z => absurd z c, fun _ => ⟨fun _ => hq _ (INV_of hN c1 hV ?_ (onP_lo _ _ _ _ (by omega))), fun z => absurd rfl z⟩⟩, fun z => ?_⟩
        · have hb := BK_tank hpn h3
          rw [epn] at hb
          rw [e9]; exact hb
        · exfalso; apply z; rw [i_le, i0]; omega
  · have er : rfTank a v = -1001 := if_pos (pn_no h2.1 e0 a)
    have e2 : (2 : Int32) + a = nI 2 := by rw [ea]; decide
    refine n_tank h1 h2 e0 ?_
    rw [e2, nI_clamp (by omega)]
    unfold V_L_change_449
    rw [nI_clamp (by omega)]
    refine C_tank h2 h1 (fun _ => ?_) (fun z => absurd (er.symm.trans z) (by decide))
    rw [er]
    refine ⟨fun _ => ⟨vp_in_nI (by omega) (by omega), vp_in_nI (by omega) (by omega), fun hv53 e53 => ?_⟩, fun z => absurd (by decide) z⟩
    rw [fa_same rfl, up_id] at e53
    rw [e53]
    exact ⟨fun z => absurd z (by decide), fun _ => ⟨fun _ => hq _ (INV_same hN), fun z => absurd rfl z⟩⟩
theorem ch_pass (hN : INV B T hv v K) (hBb : B ≤ 1000000) (hTb : T ≤ 10000) (hq : ∀ hv', IN (B + 1600) (T + 70) hv' → post 1 hv') : V_L_change_643 a2 a3 post hv := by
  obtain ⟨h1, h2, h3, h4, h5, h6⟩ := id hN
  have ht := h2.1.2.2.2.2
  unfold V_L_change_643
  refine L_low (N := 70) rfl (by omega) (by omega) (fun j hj => ?_)
  intro x81 e81
  have ex : x81 = nI (1 + j) := by rw [e81]; exact nI_add 1 j
  subst ex
  refine g_time h1 (L_lifted h1 h2 ?_)
  intro hv84 e84
  have hk := IV_keep 0 h2
  have c1 : CR hv84 0 v K := by rw [e84]; exact CR_fr h2 (rfr_9 _) h1
  have e9 : hv84 9 0 = upd (hv 9 0) 1 (hv 9 0 1 + hv 9 0 0 * nI (1 + j)) := by rw [e84, up_s]
  have er : rfPass (nI (1 + j)) v = 0 := rfPass_ok (by omega) (by omega) ⟨ht.1, by omega⟩
  obtain ⟨p1, p2, p3, p4⟩ := BK_pass hk er h3 (by rw [keepK_L]; exact h4)
  have hkL : (keepK 0 v K).1.1 ≤ B := by rw [keepK_L]; exact h5
  obtain ⟨i1', i2'⟩ := IV_pass hk er hkL
  refine C_pass (B := B) (by omega) (by omega) h2 c1 (fun z => absurd er z) (fun _ hv' k1 k2 => ?_)
  refine L_lifted k1 i1' ⟨fun _ => g_time k1 ⟨fun _ => hq _ ⟨_, _, k1, i1', ?_, p2, i2', ?_⟩, fun z => absurd p4 z⟩, fun z => absurd p3 z⟩
  · rw [k2 9 0 (Or.inl rfl), e9]; exact p1
  · rw [p4]
    have e70 := nI_toInt (n := 1 + j) (by omega)
    rw [i_add (by omega) (by omega), e70]
    omega
theorem ch_add {x7 s0 s1 s2 : Int32} {hd N : Nat} (hN : INV B T hv v K) (h7 : x7 = nI hd) (hhd : 10 ≤ hd ∧ hd ≤ 99) (hs0 : s0 = nI N) (hN1 : 0 < N ∧ N + hd ≤ 500) (hs2 : s2 = nI (hd + 1)) (hq : ∀ hv', IN (B + 1600) (T + 70) hv' → post 1 hv') : V_L_change_118 a2 a3 post (nI (cntN v)) x7 s0 s1 s2 hv := by
  obtain ⟨h1, h2, h3, h4, h5, h6⟩ := id hN
  have hn := h2.1.1.1
  unfold V_L_change_118
  refine L_low (N := N) hs0 hN1.1 (by omega) (fun j hj => ?_)
  intro x11 e11
  have e11b : x11 = nI (hd + 1 + j) := by rw [e11, hs2]; exact nI_add _ _
  refine L_low (N := 91) rfl (by omega) (by omega) (fun j1 hj1 => L_low (N := 20) rfl (by omega) (by omega) (fun j2 hj2 => L_low (N := 101) rfl (by omega) (by omega) (fun j3 hj3 => ?_)))
  have ea : (10 : Int32) + nI j1 = nI (10 + j1) := nI_add 10 j1
  have eb : (1 : Int32) + nI j2 = nI (1 + j2) := nI_add 1 j2
  rw [ea, eb, e11b, h7]
  have g : gd5 (nI hd) (nI (10 + j1)) (nI (1 + j2)) (nI j3) (nI (hd + 1 + j)) := by
    refine ⟨⟨nI_nlt (b := 10) (by omega) (by omega), nI_nlt (a := 99) (by omega) (by omega)⟩, ⟨nI_nlt (b := 10) (by omega) (by omega), nI_nlt (a := 400) (by omega) (by omega)⟩, ⟨nI_nlt (b := 1) (by omega) (by omega), nI_nlt (a := 20) (by omega) (by omega)⟩, ⟨nI_pos (by omega), nI_nlt (a := 100) (by omega) (by omega)⟩, ⟨?_, nI_nlt (a := 500) (by omega) (by omega)⟩⟩
    rw [nI_1]; exact nI_nlt (by omega) (by omega)
  have e4 := h2.1.1.2
  by_cases c : v 4 = 4
  · have er : rfAdd (nI hd) (nI (10 + j1)) (nI (1 + j2)) (nI j3) (nI (hd + 1 + j)) v = -1004 := by unfold rfAdd; rw [if_pos g, if_pos c]
    refine C_add5 h2 h1 (fun _ => ?_) (fun z => absurd (er.symm.trans z) (by decide))
    rw [er, ← e4]
    exact ⟨fun _ => ⟨fun _ => hq _ (INV_same hN), fun z => absurd rfl z⟩, fun z => absurd c z⟩
  · have er : rfAdd (nI hd) (nI (10 + j1)) (nI (1 + j2)) (nI j3) (nI (hd + 1 + j)) v = 0 := by unfold rfAdd; rw [if_pos g, if_neg c]
    refine C_add5 h2 h1 (fun z => absurd er z) (fun _ hv' k1 k2 => ?_)
    rw [← e4]
    refine ⟨fun z => absurd z c, fun _ => ⟨fun _ => hq _ (INV_of hN k1 (VI_add h2.1 er) ?_ (addV_lo (by omega))), fun z => absurd rfl z⟩⟩
    rw [k2 9 0 (Or.inl rfl)]
    exact BK_add h2.1 (rfAdd_b h2.1 er).2 h3
theorem ch_add0 (hN : INV B T hv v K) (hq : ∀ hv', IN (B + 1600) (T + 70) hv' → post 1 hv') : V_L_change_80 a2 a3 post (nI (cntN v)) hv := by
  unfold V_L_change_80
  refine L_low (N := 90) rfl (by omega) (by omega) (fun j hj => ?_)
  intro x7 e7
  have e7b : x7 = nI (10 + j) := by rw [e7]; exact nI_add 10 j
  refine L_low (N := 3) rfl (by omega) (by omega) (fun j1 hj1 => ⟨fun _ => ?_, fun _ => ?_⟩)
  · refine ch_add (hd := 10 + j) (N := 500 - (10 + j)) hN e7b (by omega) ?_ (by omega) (by rw [e7b]; exact nI_1 _) hq
    rw [e7b]; exact nI_sub (a := 500) (by omega) (by omega)
  · exact ch_add (hd := 10 + j) (N := 60) hN e7b (by omega) rfl (by omega) (by rw [e7b]; exact nI_1 _) hq
theorem ch_chamber (hN : INV B T hv v K) (ha : whP v a) (hq : ∀ hv', IN (B + 1600) (T + 70) hv' → post 1 hv') : V_L_change_271 a2 a3 post a hv := by
  obtain ⟨h1, h2, h3, h4, h5, h6⟩ := id hN
  have fin : ∀ r31 r32 : Int32, (∀ (s : Nat) (n : Int32), 50 ≤ s ∧ s ≤ 2000 → (n = 0 ∨ n = 1) → V_L_change_333 a2 a3 post r31 r32 n (nI s) a hv) → V_L_low (a3 >>> (12 &&& 31)) 2 hv (fun r33 hv33 => ((r33 = 0 → (V_L_change_313 a2 a3 post r31 r32 200 a3 50 a hv33)) ∧ (¬ (r33 = 0) → (V_L_change_313 a2 a3 post r31 r32 1951 a3 50 a hv33)))) := by
    intro r31 r32 hk
    have one : ∀ N : Nat, 0 < N → N ≤ 1951 → V_L_change_313 a2 a3 post r31 r32 (nI N) a3 50 a hv := by
      intro N hN0 hN1
      unfold V_L_change_313
      refine L_low (N := N) rfl hN0 (by omega) (fun j hj => L_low (N := 2) rfl (by omega) (by omega) (fun j2 hj2 => ?_))
      have e50 : (50 : Int32) + nI j = nI (50 + j) := nI_add 50 j
      rw [e50]
      exact ⟨fun _ => hk _ 1 ⟨by omega, by omega⟩ (Or.inr rfl), fun _ => hk _ 0 ⟨by omega, by omega⟩ (Or.inl rfl)⟩
    exact L_low (N := 2) rfl (by omega) (by omega) (fun j hj => ⟨fun _ => one 200 (by omega) (by omega), fun _ => one 1951 (by omega) (by omega)⟩)
  unfold V_L_change_271
  rcases ha with ⟨p, hp, ea⟩ | ⟨e0, ea⟩
  · subst ea
    exact g_chamberWater h1 h2 hp (g_phase h1 h2 hp (fin _ _ (fun s n hs hb => ch_333 hN hp hs hb hq)))
  · exact n_chamberWater h1 h2 e0 (n_phase h1 h2 e0 (fin _ _ (fun s n hs hb => ch_333n hN e0 hb hq)))
theorem ch_all (hN : INV B T hv v K) (hBb : B ≤ 1000000) (hTb : T ≤ 10000) (hq : ∀ hv', IN (B + 1600) (T + 70) hv' → post 1 hv') : V_L_change a2 a3 hv post := by
  obtain ⟨h1, h2, h3, h4, h5, h6⟩ := id hN
  have hn := h2.1.1.1
  have main : ∀ a, whP v a → V_L_change_23 a2 a3 post (nI (cntN v)) a hv := by
    intro a ha
    unfold V_L_change_23
    refine L_low (N := 12) rfl (by omega) (by omega) (fun j hj => ?_)
    exact ⟨fun _ => ch_add0 hN hq, fun _ => ⟨fun _ => ch_add0 hN hq, fun _ => ⟨fun _ => ch_valve hN ha hq, fun _ => ⟨fun _ => ch_chamber hN ha hq, fun _ => ⟨fun _ => ch_flow hN hq, fun _ => ⟨fun _ => ch_tank hN ha hq, fun _ => ⟨fun _ => ch_stop hN ha hq, fun _ => ⟨fun _ => ch_start hN ha hq, fun _ => ⟨fun _ => ch_start hN ha hq, fun _ => ch_pass hN hBb hTb hq⟩⟩⟩⟩⟩⟩⟩⟩⟩
  unfold V_L_change
  refine g_pumps h1 h2 ⟨fun z => main 0 (Or.inr ⟨?_, rfl⟩), fun z => ?_⟩
  · exact (nI_eq (a := cntN v) (b := 0) (by omega) (by omega)).mp z
  · have hne : 0 < cntN v := by
      rcases Nat.eq_zero_or_pos (cntN v) with e | e
      · exact absurd (by rw [e]; rfl) z
      · exact e
    exact L_low (N := cntN v) rfl hne (by omega) (fun j hj => main _ (Or.inl ⟨j, hj, rfl⟩))
end CHG
