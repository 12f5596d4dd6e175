/-! execute: the reference's acts, with what they leave. -/
def kp13 (hv hv' : HV) : Prop := ∀ k, 13 ≤ k → hv' 9 0 k = hv 9 0 k
theorem kp13_up {hv : HV} (X : Nat → Int32) : kp13 hv (up hv 15 0 X) := fun k _ => by rw [up_n _ _ (show ¬ (9 = 15 ∧ 0 = 0) by omega)]
theorem R_startNow2 {a : Int32} {hv : HV} {v : Nat → Int32} {K : KS} {post : Int32 → HV → Prop} (hI : IV v K) (h : RX hv v K) (hr : rfRun 1 a v = 0) (yes : ∀ hv', RX hv' (startV a v) K → rfr hv hv' → kp13 hv hv' → post (runN (startV a v)) hv') : V_X9_startNow a hv post := by
  have hn := hI.1.1.1
  have hp := rfRun_p hI.1 hr
  have ea : a = nI (pn v a) := by
    rcases pn_cases hI.1 a with z | z
    · exact z.2
    · omega
  unfold V_X9_startNow
  refine R_atm ea (by omega) (fun hv2 e2 => R_atm ea (by omega) (fun hv4 e4 => ?_))
  have q2 : hv2 15 0 = onP v (pn v a) (fun f => upd f 5 1) := by rw [e2, up_s, h.1]; exact onP_up _ _ _ _ (by omega)
  have q4 : hv4 = up hv2 15 0 (startV a v) := by
    rw [e4, q2, onP_lo _ _ _ _ (by omega), onP_w _ _ _ _ _ (by omega)]; rfl
  have q5 : hv4 = up hv 15 0 (startV a v) := by rw [q4, e2, up_up]
  rw [q5]
  exact R_run (up_s _ _ _ _) (VI_start hI.1 hp) (yes _ (RX_up _ h) (rfr_up _) (kp13_up _))
theorem R_stopNow2 {a : Int32} {hv : HV} {v : Nat → Int32} {K : KS} {post : Int32 → HV → Prop} (hI : IV v K) (h : RX hv v K) (hr : rfRun 0 a v = 0) (yes : ∀ hv', RX hv' (stopV a v) K → rfr hv hv' → kp13 hv hv' → post (runN (stopV a v)) hv') : V_X9_stopNow a hv post := by
  have hn := hI.1.1.1
  have hp := rfRun_p hI.1 hr
  have ea : a = nI (pn v a) := by
    rcases pn_cases hI.1 a with z | z
    · exact z.2
    · omega
  unfold V_X9_stopNow
  refine R_atm ea (by omega) (fun hv2 e2 => R_atm ea (by omega) ?_)
  unfold V_X9_open
  intro hv3 e3 hv4 e4 hv5 e5
  have q2 : hv2 15 0 = onP v (pn v a) (fun f => upd f 5 0) := by rw [e2, up_s, h.1]; exact onP_up _ _ _ _ (by omega)
  have q3 : hv3 15 0 = onP v (pn v a) (fun f => upd (upd f 5 0) 6 0) := by rw [e3, up_s, q2]; exact onP_w _ _ _ _ _ (by omega)
  have q4 : hv4 15 0 = onP v (pn v a) (fun f => upd (upd (upd f 5 0) 6 0) 7 0) := by rw [e4, up_s, q3]; exact onP_w _ _ _ _ _ (by omega)
  have q5 : hv5 = up hv 15 0 (stopV a v) := by
    rw [e5, q4, onP_w _ _ _ _ _ (by omega), e4, up_up, e3, up_up, e2, up_up]; rfl
  rw [q5]
  exact R_run (up_s _ _ _ _) (VI_stop hI.1 hp) (yes _ (RX_up _ h) (rfr_up _) (kp13_up _))
theorem R_tankNow2 {a : Int32} {hv : HV} {v : Nat → Int32} {K : KS} {post : Int32 → HV → Prop} (hI : IV v K) (h : RX hv v K) (hr : rfTank a v = 0) (yes : ∀ hv', RX hv' (tankV a v) K → rfr hv hv' → kp13 hv hv' → post (sl v (pn v a) 15) hv') : V_X9_tankNow a hv post := by
  have hn := hI.1.1.1
  have hp := rfTank_p hI.1 hr
  have ea : a = nI (pn v a) := by
    rcases pn_cases hI.1 a with z | z
    · exact z.2
    · omega
  unfold V_X9_tankNow
  refine R_atm ea (by omega) (fun x2 e2 => R_atm ea (by omega) (fun hv4 e4 => ?_))
  have q4 : hv4 = up hv 15 0 (tankV a v) := by rw [e4, h.1, onP_up _ _ _ _ (by omega)]; rfl
  rw [q4, e2, h.1]
  exact yes _ (RX_up _ h) (rfr_up _) (kp13_up _)
theorem R_valveNow2 {a k s : Int32} {hv : HV} {v : Nat → Int32} {K : KS} {post : Int32 → HV → Prop} (hI : IV v K) (h : RX hv v K) (hr : rfValve a k s v = 0) (yes : ∀ hv', RX hv' (valveV a k s v) K → rfr hv hv' → kp13 hv hv' → post (sl v (pn v a) 10) hv') : V_X9_valveNow a k s hv post := by
  have hn := hI.1.1.1
  have hp := (VI_valve hI.1 hr).2
  have ea : a = nI (pn v a) := by
    rcases pn_cases hI.1 a with z | z
    · exact z.2
    · omega
  unfold V_X9_valveNow
  refine R_atm ea (by omega) (fun x2 e2 hv3 e3 hv4 e4 => ?_)
  have q3 : hv3 15 0 = onP v (pn v a) (fun f => upd f 9 k) := by rw [e3, up_s, h.1]; exact onP_up _ _ _ _ (by omega)
  have q4 : hv4 = up hv 15 0 (valveV a k s v) := by rw [e4, q3, onP_w _ _ _ _ _ (by omega), e3, up_up]; rfl
  rw [q4, e2, h.1]
  exact yes _ (RX_up _ h) (rfr_up _) (kp13_up _)
theorem R_flowNow2 {x : Int32} {hv : HV} {v : Nat → Int32} {K : KS} {post : Int32 → HV → Prop} (h : RX hv v K) (yes : ∀ hv', RX hv' (upd v 1 x) K → rfr hv hv' → kp13 hv hv' → post (v 1) hv') : V_X9_inflowNow x hv post := by
  unfold V_X9_inflowNow
  intro x1 e1 hv2 e2
  rw [e1, e2, h.1]
  exact yes _ (RX_up _ h) (rfr_up _) (kp13_up _)
theorem R_passNow2 {B : Nat} {x : Int32} {hv : HV} {v : Nat → Int32} {K : KS} {post : Int32 → HV → Prop} (hB : B + 65000 < 2 ^ 31) (hL : K.1.1 ≤ B + 63000) (hI : IV v K) (h : RX hv v K) (hr : rfPass x v = 0)
    (yes : ∀ hv', RX hv' (passV x v K).1 (passV x v K).2 → rfr hv hv' → kp13 hv hv' → post (passE x v K).2.2 hv') : V_X9_passNow x hv post := by
  obtain ⟨b1, b2, b3⟩ := rfPass_b hI.1 hr
  obtain ⟨h1, h2, h3, ⟨h4, h5⟩, h6⟩ := h
  unfold V_X9_passNow
  intro hv1 e1
  have f1 : ∀ c i, ¬ (c = 9 ∧ i = 0) → hv1 c i = hv c i := fun c i z => by rw [e1]; exact up_n _ _ z
  have q9 : hv1 9 0 = upd (hv 9 0) 9 0 := by rw [e1, up_s]
  refine ⟨x.toNatClampNeg + 1, R_passLoop (T := x.toNatClampNeg) b1 b2 x.toNatClampNeg (x.toNatClampNeg + 1) 0 (v, K.1, 0) hv1 (by omega) (by omega) hI.1 b3 (by rw [f1 15 0 (by omega)]; exact h1) ?_ (by show K.1.1 + _ + 10 < _; omega) (by rw [q9, upd_s]) ?_⟩
  · unfold RH RLm at h2 ⊢
    rw [q9, upd_n _ _ (by omega), f1 17 0 (by omega), f1 18 0 (by omega), f1 19 0 (by omega)]; exact h2
  · intro hv' k1 k2 k3 k4 k5
    have m : ∀ i, ¬ i = 6 → ¬ i = 7 → ¬ i = 8 → ¬ i = 9 → hv' 9 0 i = hv 9 0 i := fun i a b c d => by rw [k4 i a b c d, q9, upd_n _ _ d]
    have g : ∀ c i, ¬ rkey c i → hv' c i = hv c i := fun c i z => by rw [k5 c i z, f1 c i (fun y => z ⟨y.2, Or.inr (Or.inl y.1)⟩)]
    refine yes hv' ⟨k1, k2, ⟨?_, ?_⟩, ⟨?_, ?_⟩, ?_⟩ (fun c i z => g c i (fun y => ?_)) (fun k hk => m k (by omega) (by omega) (by omega) (by omega))
    · rw [m 2 (by omega) (by omega) (by omega) (by omega)]; exact h3.1
    · rw [g 16 0 (by unfold rkey; omega)]; exact h3.2
    · rw [m 11 (by omega) (by omega) (by omega) (by omega)]; exact h4
    · rw [g 20 0 (by unfold rkey; omega)]; exact h5
    · rw [m 12 (by omega) (by omega) (by omega) (by omega)]; exact h6
    · unfold rkey at y; omega
theorem R_perform {B : Nat} {c w x : Int32} {hv : HV} {v : Nat → Int32} {K : KS} {post : Int32 → HV → Prop} (hB : B + 65000 < 2 ^ 31) (hL : K.1.1 ≤ B + 63000) (hI : IV v K) (h : RX hv v K) (hc : let6 c) (e15 : hv 9 0 15 = c) (e16 : hv 9 0 16 = w) (e17 : hv 9 0 17 = x)
    (no : ¬ cmR c w x v = 0 → post (cmR c w x v) hv)
    (yes : cmR c w x v = 0 → ∀ hv', RX hv' (cmS c w x v K).1 (cmS c w x v K).2 → rfr hv hv' → kp13 hv hv' → post (if 0 ≤ cmA c w x v K then 0 else cmA c w x v K) hv') : V_X9_perform hv post := by
  have t279 : ∀ (r : Int32) (hv' : HV), post (if 0 ≤ r then 0 else r) hv' → V_X9_perform_279 post r hv' := by
    intro r hv' q
    unfold V_X9_perform_279
    exact ⟨fun z => by rwa [if_pos z] at q, fun z => by rwa [if_neg z] at q⟩
  have t159 : V_X9_perform_159 post (kdV v w) (cmR c w x v) hv := by
    unfold V_X9_perform_159
    refine ⟨fun z => ?_, fun z => no z⟩
    have yes := yes z
    rw [e15, e16, e17]
    rcases hc with e | e | e | e | e | e <;> subst e
    · rw [cmR_r] at z
      rw [cmS_r, cmA_r] at yes
      exact ⟨fun _ => R_startNow2 hI h z (fun hv' k1 k2 k3 => t279 _ _ (yes hv' k1 k2 k3)), fun q => absurd rfl q⟩
    · rw [cmR_h] at z
      rw [cmS_h, cmA_h] at yes
      exact ⟨fun q => absurd q (by decide), fun _ => ⟨fun _ => R_stopNow2 hI h z (fun hv' k1 k2 k3 => t279 _ _ (yes hv' k1 k2 k3)), fun q => absurd rfl q⟩⟩
    · rw [cmR_e] at z
      rw [cmS_e, cmA_e] at yes
      exact ⟨fun q => absurd q (by decide), fun _ => ⟨fun q => absurd q (by decide), fun _ => ⟨fun _ => R_tankNow2 hI h z (fun hv' k1 k2 k3 => t279 _ _ (yes hv' k1 k2 k3)), fun q => absurd rfl q⟩⟩⟩
    · rw [cmR_s] at z
      rw [cmS_s, cmA_s] at yes
      exact ⟨fun q => absurd q (by decide), fun _ => ⟨fun q => absurd q (by decide), fun _ => ⟨fun q => absurd q (by decide), fun _ => ⟨fun _ => R_valveNow2 hI h z (fun hv' k1 k2 k3 => t279 _ _ (yes hv' k1 k2 k3)), fun q => absurd rfl q⟩⟩⟩⟩
    · rw [cmS_i, cmA_i] at yes
      exact ⟨fun q => absurd q (by decide), fun _ => ⟨fun q => absurd q (by decide), fun _ => ⟨fun q => absurd q (by decide), fun _ => ⟨fun q => absurd q (by decide), fun _ => ⟨fun _ => R_flowNow2 h (fun hv' k1 k2 k3 => t279 _ _ (yes hv' k1 k2 k3)), fun q => absurd rfl q⟩⟩⟩⟩⟩
    · rw [cmR_w] at z
      rw [cmS_w, cmA_w] at yes
      exact ⟨fun q => absurd q (by decide), fun _ => ⟨fun q => absurd q (by decide), fun _ => ⟨fun q => absurd q (by decide), fun _ => ⟨fun q => absurd q (by decide), fun _ => ⟨fun q => absurd q (by decide), fun _ => R_passNow2 hB hL hI h z (fun hv' k1 k2 k3 => t279 _ _ (yes hv' k1 k2 k3))⟩⟩⟩⟩⟩
  have t30 : V_X9_perform_30 post (kdV v w) hv := by
    unfold V_X9_perform_30
    rw [e15, e16, e17]
    clear no yes t279
    rcases hc with e | e | e | e | e | e <;> subst e
    · rw [cmR_r] at t159
      exact ⟨fun _ => R_refRun hI h t159, fun q => absurd rfl q⟩
    · rw [cmR_h] at t159
      exact ⟨fun q => absurd q (by decide), fun _ => ⟨fun _ => R_refRun hI h t159, fun q => absurd rfl q⟩⟩
    · rw [cmR_e] at t159
      exact ⟨fun q => absurd q (by decide), fun _ => ⟨fun q => absurd q (by decide), fun _ => ⟨fun _ => R_refTank hI h t159, fun q => absurd rfl q⟩⟩⟩
    · rw [cmR_s] at t159
      exact ⟨fun q => absurd q (by decide), fun _ => ⟨fun q => absurd q (by decide), fun _ => ⟨fun q => absurd q (by decide), fun _ => ⟨fun _ => R_refValve hI h t159, fun q => absurd rfl q⟩⟩⟩⟩
    · rw [cmR_i] at t159
      refine ⟨fun q => absurd q (by decide), fun _ => ⟨fun q => absurd q (by decide), fun _ => ⟨fun q => absurd q (by decide), fun _ => ⟨fun q => absurd q (by decide), fun _ => ⟨fun _ => ?_, fun q => absurd rfl q⟩⟩⟩⟩⟩
      rw [R_in]
      unfold rfFlow at t159
      by_cases c1 : x < 0
      · rw [if_pos c1] at t159 ⊢
        exact ⟨fun _ => t159, fun z => absurd rfl z⟩
      rw [if_neg c1] at t159 ⊢
      by_cases c2 : 500 < x
      · rw [if_pos c2] at t159 ⊢
        exact ⟨fun _ => t159, fun z => absurd rfl z⟩
      rw [if_neg c2] at t159 ⊢
      exact ⟨fun z => absurd z (by decide), fun _ => t159⟩
    · rw [cmR_w] at t159
      exact ⟨fun q => absurd q (by decide), fun _ => ⟨fun q => absurd q (by decide), fun _ => ⟨fun q => absurd q (by decide), fun _ => ⟨fun q => absurd q (by decide), fun _ => ⟨fun q => absurd q (by decide), fun _ => R_refPass h t159⟩⟩⟩⟩⟩
  unfold V_X9_perform
  rw [e16]
  unfold kdV at t30
  rcases pn_cases hI.1 w with ⟨hp, ea⟩ | ⟨hno, e4⟩
  · have hn := hI.1.1.1
    rw [if_neg (by omega)] at t30
    refine R_yes h hI hp ea ?_
    rw [e16]
    refine R_atm ea (by omega) ?_
    rw [h.1]
    exact t30
  · rw [if_pos e4] at t30
    exact R_no h hI hno t30
