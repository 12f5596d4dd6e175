/-! The class's setValve and setInflow; the reference's acts. -/
theorem nl_le {a b : Int32} (h : ¬ a < b) : b ≤ a := i_nlt.mp h
theorem C_valve {ex a k s : Int32} {hv : HV} {v : Nat → Int32} {K : KS} {post : Int32 → HV → Prop} (hI : IV v K) (h : CR hv ex v K) (no : ¬ rfValve a k s v = 0 → post (rfValve a k s v) hv)
    (yes : rfValve a k s v = 0 → ∀ hv', CR hv' ex (valveV a k s v) (keepK ex v K) → cfr hv hv' → post (sl v (pn v a) 10) hv') : V_X8_setValve a k s hv post := by
  have hn := hI.1.1.1
  unfold V_X8_setValve
  rcases pn_cases hI.1 a with ⟨hp, ea⟩ | ⟨hno, e4⟩
  · refine C_yes h hI hp ea ?_
    have hPI := (hI.1.2.1 _ hp).1
    have n4 : ¬ pn v a = 4 := by omega
    unfold rfValve at no yes
    rw [if_neg n4] at no yes
    rw [C_outside]
    by_cases c1 : k < 0
    · rw [if_pos c1] at no ⊢
      exact ⟨fun z => absurd z (by decide), fun _ => no (by decide)⟩
    rw [if_neg c1] at no yes ⊢
    by_cases c2 : 2 < k
    · rw [if_pos c2] at no
      rw [if_neg (fun z => i_nlt.mpr z c2)]
      exact ⟨fun z => absurd z (by decide), fun _ => no (by decide)⟩
    rw [if_neg c2] at no yes
    rw [if_pos (nl_le c2)]
    refine ⟨fun _ => ?_, fun z => absurd rfl z⟩
    rw [C_outside]
    by_cases c3 : s < 1
    · rw [if_pos c3] at no ⊢
      exact ⟨fun z => absurd z (by decide), fun _ => no (by decide)⟩
    rw [if_neg c3] at no yes ⊢
    by_cases c4 : 500 < s
    · rw [if_pos c4] at no
      rw [if_neg (fun z => i_nlt.mpr z c4)]
      exact ⟨fun z => absurd z (by decide), fun _ => no (by decide)⟩
    rw [if_neg c4] at no yes
    rw [if_pos (nl_le c4)]
    refine ⟨fun _ => ?_, fun z => absurd rfl z⟩
    rw [PS_4 (CR_PS h hp) (show 5 ≤ 10 by omega)]
    refine ⟨fun c => ?_, fun c => ?_⟩
    · rw [c, if_neg (by decide)] at yes
      refine C_keepK hI h ?_
      intro hv3 k1 k2 k3 x8 e8 hv4 e4 hv5 e5
      have hk := IV_keep ex hI
      have f5 : ∀ c i, ¬ ((c = 4 ∨ c = 0 ∨ c = 2) ∧ i = pn v a) → hv5 c i = hv3 c i := fun c i z => by rw [e5, up_n _ _ (fun y => z ⟨Or.inl y.1, y.2⟩), e4, up_n _ _ (fun y => z ⟨Or.inl y.1, y.2⟩)]
      have k5 : CR hv5 ex (valveV a k s v) (keepK ex v K) := by
        refine CR_on hk k1 hp (fun j a b => by rw [upd_n _ _ (by omega), upd_n _ _ (by omega)]) ?_ f5
        rw [e5, e4]
        exact PS_w4 (PS_w4 (CR_PS k1 hp) (by omega)) (by omega)
      rw [e8, PS_4 (CR_PS k1 hp) (show 10 ≤ 10 by omega)]
      exact yes rfl hv5 k5 (cfr_t k2 (cfr_on f5))
    · rw [if_pos (hPI.h5.resolve_left c)] at no
      exact no (by decide)
  · have er : rfValve a k s v = -1001 := if_pos e4
    rw [er] at no
    exact C_no h hI hno (no (by decide))
theorem VI_flow {x : Int32} {v : Nat → Int32} (hV : VI v) (h : rfFlow x = 0) : VI (upd v 1 x) := by
  unfold rfFlow at h
  by_cases c1 : x < 0
  · rw [if_pos c1] at h; exact absurd h (by decide)
  rw [if_neg c1] at h
  by_cases c2 : 500 < x
  · rw [if_pos c2] at h; exact absurd h (by decide)
  have e5 : (500 : Int32).toInt = 500 := rfl
  rw [i_lt, i0] at c1
  rw [i_lt, e5] at c2
  obtain ⟨h1, h2, a0, a1, a2⟩ := hV
  have ec : cntN (upd v 1 x) = cntN v := by unfold cntN; rw [upd_n _ _ (by omega)]
  unfold VI
  rw [ec, upd_n v x (show ¬ 0 = 1 by omega), upd_n v x (show ¬ 2 = 1 by omega), upd_n v x (show ¬ 4 = 1 by omega), upd_s]
  exact ⟨h1, fun p hp => ⟨PI_c (fun j hj _ => sl_upd v p 1 x j (by omega)) (h2 p hp).1, CI_c (fun j _ _ => sl_upd v p 1 x j (by omega)) (h2 p hp).2⟩, a0, by omega, a2⟩
theorem CS_flow {x : Int32} {hv : HV} {v : Nat → Int32} (h : CS hv 0 v) : CS (up hv 7 0 (upd (hv 7 0) 3 x)) 0 (upd v 1 x) := by
  have ec : cntN (upd v 1 x) = cntN v := by unfold cntN; rw [upd_n _ _ (by omega)]
  obtain ⟨⟨b0, b1, b2, b3, b4⟩, h2⟩ := h
  unfold CS
  rw [ec, upd_n v x (show ¬ 0 = 1 by omega), upd_n v x (show ¬ 2 = 1 by omega), upd_n v x (show ¬ 3 = 1 by omega), upd_n v x (show ¬ 4 = 1 by omega), upd_s, up_s, upd_s, upd_n _ _ (show ¬ 0 = 3 by omega), upd_n _ _ (show ¬ 1 = 3 by omega), upd_n _ _ (show ¬ 2 = 3 by omega), upd_n _ _ (show ¬ 4 = 3 by omega)]
  refine ⟨⟨b0, b1, b2, rfl, b4⟩, fun p hp => ⟨PS_cg (fun j hj => (sl_upd v p 1 x j (by omega)).symm) (PS_fr (up_n _ _ (by omega)) (up_n _ _ (by omega)) (up_n _ _ (by omega)) (h2 p hp).1), PG_cg (fun j hj => (sl_upd v p 1 x j (by omega)).symm) (PG_fr (fun i _ => up_n _ _ (by omega)) (fun i _ => up_n _ _ (by omega)) (h2 p hp).2)⟩⟩
theorem C_flow {ex x : Int32} {hv : HV} {v : Nat → Int32} {K : KS} {post : Int32 → HV → Prop} (hI : IV v K) (h : CR hv ex v K) (no : ¬ rfFlow x = 0 → post (rfFlow x) hv)
    (yes : rfFlow x = 0 → ∀ hv', CR hv' ex (upd v 1 x) (keepK ex v K) → cfr hv hv' → post (v 1) hv') : V_X8_setInflow x hv post := by
  unfold V_X8_setInflow
  rw [C_outside]
  unfold rfFlow at no yes
  by_cases c1 : x < 0
  · rw [if_pos c1] at no ⊢
    exact ⟨fun z => absurd z (by decide), fun _ => no (by decide)⟩
  rw [if_neg c1] at no yes ⊢
  by_cases c2 : 500 < x
  · rw [if_pos c2] at no
    rw [if_neg (fun z => i_nlt.mpr z c2)]
    exact ⟨fun z => absurd z (by decide), fun _ => no (by decide)⟩
  rw [if_neg c2] at no yes
  rw [if_pos (nl_le c2)]
  refine ⟨fun _ => ?_, fun z => absurd rfl z⟩
  refine C_keepK hI h ?_
  intro hv3 k1 k2 k3 x4 e4 hv5 e5
  have hk := IV_keep ex hI
  rw [e4, k1.1.1.2.2.2.1, e5]
  refine yes rfl _ (CR_new hk k1 (CS_flow k1.1) (fun c i z => up_n _ _ (fun y => z (Or.inl y)))) (cfr_t k2 (fun c i z => up_n _ _ (by omega)))
theorem R_refRun {a r : Int32} {hv : HV} {v : Nat → Int32} {K : KS} {post : Int32 → HV → Prop} (hI : IV v K) (h : RX hv v K) (q : post (rfRun r a v) hv) : V_X9_runRefused a r hv post := by
  have hn := hI.1.1.1
  unfold V_X9_runRefused
  unfold rfRun at q
  rcases pn_cases hI.1 a with ⟨hp, ea⟩ | ⟨hno, e4⟩
  · rw [if_neg (by omega)] at q
    refine R_yes h hI hp ea (R_atm ea (by omega) ?_)
    rw [h.1]
    exact ⟨fun c => by rwa [if_pos (show sl v (pn v a) 5 = r from c)] at q, fun c => by rwa [if_neg (show ¬ sl v (pn v a) 5 = r from c)] at q⟩
  · rw [if_pos e4] at q
    exact R_no h hI hno q
theorem R_refTank {a : Int32} {hv : HV} {v : Nat → Int32} {K : KS} {post : Int32 → HV → Prop} (hI : IV v K) (h : RX hv v K) (q : post (rfTank a v) hv) : V_X9_tankRefused a hv post := by
  have hn := hI.1.1.1
  unfold V_X9_tankRefused
  unfold rfTank at q
  rcases pn_cases hI.1 a with ⟨hp, ea⟩ | ⟨hno, e4⟩
  · rw [if_neg (by omega)] at q
    refine R_yes h hI hp ea (R_atm ea (by omega) ?_)
    rw [h.1]
    exact ⟨fun c => by rwa [if_pos (show sl v (pn v a) 15 = 0 from c)] at q, fun c => by rwa [if_neg (show ¬ sl v (pn v a) 15 = 0 from c)] at q⟩
  · rw [if_pos e4] at q
    exact R_no h hI hno q
theorem R_refValve {a k s : Int32} {hv : HV} {v : Nat → Int32} {K : KS} {post : Int32 → HV → Prop} (hI : IV v K) (h : RX hv v K) (q : post (rfValve a k s v) hv) : V_X9_valveRefused a k s hv post := by
  have hn := hI.1.1.1
  unfold V_X9_valveRefused
  unfold rfValve at q
  rcases pn_cases hI.1 a with ⟨hp, ea⟩ | ⟨hno, e4⟩
  · rw [if_neg (by omega)] at q
    refine R_yes h hI hp ea ?_
    rw [R_in]
    by_cases c1 : k < 0
    · rw [if_pos c1] at q ⊢
      exact ⟨fun _ => q, fun z => absurd rfl z⟩
    rw [if_neg c1] at q ⊢
    by_cases c2 : 2 < k
    · rw [if_pos c2] at q ⊢
      exact ⟨fun _ => q, fun z => absurd rfl z⟩
    rw [if_neg c2] at q ⊢
    refine ⟨fun z => absurd z (by decide), fun _ => ?_⟩
    rw [R_in]
    by_cases c3 : s < 1
    · rw [if_pos c3] at q ⊢
      exact ⟨fun _ => q, fun z => absurd rfl z⟩
    rw [if_neg c3] at q ⊢
    by_cases c4 : 500 < s
    · rw [if_pos c4] at q ⊢
      exact ⟨fun _ => q, fun z => absurd rfl z⟩
    rw [if_neg c4] at q ⊢
    refine ⟨fun z => absurd z (by decide), fun _ => R_atm ea (by omega) ?_⟩
    rw [h.1]
    exact ⟨fun c => by rwa [if_pos (show sl v (pn v a) 5 = 1 from c)] at q, fun c => by rwa [if_neg (show ¬ sl v (pn v a) 5 = 1 from c)] at q⟩
  · rw [if_pos e4] at q
    exact R_no h hI hno q
theorem R_startNow {a : Int32} {hv : HV} {v : Nat → Int32} {K : KS} {post : Int32 → HV → Prop} (hI : IV v K) (h : RX hv v K) (hr : rfRun 1 a v = 0) (yes : ∀ hv', RX hv' (startV a v) K → rfr hv hv' → post (runN (startV a v)) hv') : V_X9_startNow a hv post := by
  have hn := hI.1.1.1
  have hp := rfRun_p hI.1 hr
  have ea : a = nI (pn v a) := by
    rcases pn_cases hI.1 a with z | z
    · exact z.2
    · omega
  unfold V_X9_startNow
  refine R_atm ea (by omega) (fun hv2 e2 => R_atm ea (by omega) (fun hv4 e4 => ?_))
  have q2 : hv2 15 0 = onP v (pn v a) (fun f => upd f 5 1) := by rw [e2, up_s, h.1]; exact onP_up _ _ _ _ (by omega)
  have q4 : hv4 = up hv2 15 0 (startV a v) := by
    rw [e4, q2, onP_lo _ _ _ _ (by omega), onP_w _ _ _ _ _ (by omega)]; rfl
  have q5 : hv4 = up hv 15 0 (startV a v) := by rw [q4, e2, up_up]
  rw [q5]
  exact R_run (up_s _ _ _ _) (VI_start hI.1 hp) (yes _ (RX_up _ h) (rfr_up _))
theorem R_stopNow {a : Int32} {hv : HV} {v : Nat → Int32} {K : KS} {post : Int32 → HV → Prop} (hI : IV v K) (h : RX hv v K) (hr : rfRun 0 a v = 0) (yes : ∀ hv', RX hv' (stopV a v) K → rfr hv hv' → post (runN (stopV a v)) hv') : V_X9_stopNow a hv post := by
  have hn := hI.1.1.1
  have hp := rfRun_p hI.1 hr
  have ea : a = nI (pn v a) := by
    rcases pn_cases hI.1 a with z | z
    · exact z.2
    · omega
  unfold V_X9_stopNow
  refine R_atm ea (by omega) (fun hv2 e2 => R_atm ea (by omega) ?_)
  unfold V_X9_open
  intro hv3 e3 hv4 e4 hv5 e5
  have q2 : hv2 15 0 = onP v (pn v a) (fun f => upd f 5 0) := by rw [e2, up_s, h.1]; exact onP_up _ _ _ _ (by omega)
  have q3 : hv3 15 0 = onP v (pn v a) (fun f => upd (upd f 5 0) 6 0) := by rw [e3, up_s, q2]; exact onP_w _ _ _ _ _ (by omega)
  have q4 : hv4 15 0 = onP v (pn v a) (fun f => upd (upd (upd f 5 0) 6 0) 7 0) := by rw [e4, up_s, q3]; exact onP_w _ _ _ _ _ (by omega)
  have q5 : hv5 = up hv 15 0 (stopV a v) := by
    rw [e5, q4, onP_w _ _ _ _ _ (by omega), e4, up_up, e3, up_up, e2, up_up]; rfl
  rw [q5]
  exact R_run (up_s _ _ _ _) (VI_stop hI.1 hp) (yes _ (RX_up _ h) (rfr_up _))
theorem R_tankNow {a : Int32} {hv : HV} {v : Nat → Int32} {K : KS} {post : Int32 → HV → Prop} (hI : IV v K) (h : RX hv v K) (hr : rfTank a v = 0) (yes : ∀ hv', RX hv' (tankV a v) K → rfr hv hv' → post (sl v (pn v a) 15) hv') : V_X9_tankNow a hv post := by
  have hn := hI.1.1.1
  have hp := rfTank_p hI.1 hr
  have ea : a = nI (pn v a) := by
    rcases pn_cases hI.1 a with z | z
    · exact z.2
    · omega
  unfold V_X9_tankNow
  refine R_atm ea (by omega) (fun x2 e2 => R_atm ea (by omega) (fun hv4 e4 => ?_))
  have q4 : hv4 = up hv 15 0 (tankV a v) := by rw [e4, h.1, onP_up _ _ _ _ (by omega)]; rfl
  rw [q4, e2, h.1]
  exact yes _ (RX_up _ h) (rfr_up _)
theorem R_valveNow {a k s : Int32} {hv : HV} {v : Nat → Int32} {K : KS} {post : Int32 → HV → Prop} (hI : IV v K) (h : RX hv v K) (hr : rfValve a k s v = 0) (yes : ∀ hv', RX hv' (valveV a k s v) K → rfr hv hv' → post (sl v (pn v a) 10) hv') : V_X9_valveNow a k s hv post := by
  have hn := hI.1.1.1
  have hp := (VI_valve hI.1 hr).2
  have ea : a = nI (pn v a) := by
    rcases pn_cases hI.1 a with z | z
    · exact z.2
    · omega
  unfold V_X9_valveNow
  refine R_atm ea (by omega) (fun x2 e2 hv3 e3 hv4 e4 => ?_)
  have q3 : hv3 15 0 = onP v (pn v a) (fun f => upd f 9 k) := by rw [e3, up_s, h.1]; exact onP_up _ _ _ _ (by omega)
  have q4 : hv4 = up hv 15 0 (valveV a k s v) := by rw [e4, q3, onP_w _ _ _ _ _ (by omega), e3, up_up]; rfl
  rw [q4, e2, h.1]
  exact yes _ (RX_up _ h) (rfr_up _)
theorem R_flowNow {x : Int32} {hv : HV} {v : Nat → Int32} {K : KS} {post : Int32 → HV → Prop} (h : RX hv v K) (yes : ∀ hv', RX hv' (upd v 1 x) K → rfr hv hv' → post (v 1) hv') : V_X9_inflowNow x hv post := by
  unfold V_X9_inflowNow
  intro x1 e1 hv2 e2
  rw [e1, e2, h.1]
  exact yes _ (RX_up _ h) (rfr_up _)
theorem J_start (a : Int32) : JJ (V_X8_start a) (V_X9_start a) :=
  J_act (rfRun 1 a) (fun v K => (startV a v, K)) (fun v _ => runN (startV a v))
    (fun B hv v K _ _ hI h post no yes => C_start hI h no yes)
    (fun B hv v K _ _ hI h post no yes => by
      unfold V_X9_start
      refine R_refRun hI h ⟨fun z => R_keepK hI h (fun hv' k1 k2 => R_startNow (IV_keep 0 hI) k1 z (fun hv2 k3 k4 => yes z hv2 k3 (rfr_t k2 k4))), no⟩)
    (fun B v K _ hB hI hr => ⟨⟨VI_start hI.1 (rfRun_p hI.1 hr), hI.2⟩, by show K.1.1 ≤ _; omega⟩)
theorem J_stop (a : Int32) : JJ (V_X8_stop a) (V_X9_stop a) :=
  J_act (rfRun 0 a) (fun v K => (stopV a v, K)) (fun v _ => runN (stopV a v))
    (fun B hv v K _ _ hI h post no yes => C_stop hI h no yes)
    (fun B hv v K _ _ hI h post no yes => by
      unfold V_X9_stop
      refine R_refRun hI h ⟨fun z => R_keepK hI h (fun hv' k1 k2 => R_stopNow (IV_keep 0 hI) k1 z (fun hv2 k3 k4 => yes z hv2 k3 (rfr_t k2 k4))), no⟩)
    (fun B v K _ hB hI hr => ⟨⟨VI_stop hI.1 (rfRun_p hI.1 hr), hI.2⟩, by show K.1.1 ≤ _; omega⟩)
theorem J_emptyTank (a : Int32) : JJ (V_X8_emptyTank a) (V_X9_emptyTank a) :=
  J_act (rfTank a) (fun v K => (tankV a v, K)) (fun v _ => sl v (pn v a) 15)
    (fun B hv v K _ _ hI h post no yes => C_tank hI h no yes)
    (fun B hv v K _ _ hI h post no yes => by
      unfold V_X9_emptyTank
      refine R_refTank hI h ⟨fun z => R_keepK hI h (fun hv' k1 k2 => R_tankNow (IV_keep 0 hI) k1 z (fun hv2 k3 k4 => yes z hv2 k3 (rfr_t k2 k4))), no⟩)
    (fun B v K _ hB hI hr => ⟨⟨VI_tank hI.1 (rfTank_p hI.1 hr), hI.2⟩, by show K.1.1 ≤ _; omega⟩)
theorem J_setValve (a k s : Int32) : JJ (V_X8_setValve a k s) (V_X9_setValve a k s) :=
  J_act (rfValve a k s) (fun v K => (valveV a k s v, K)) (fun v _ => sl v (pn v a) 10)
    (fun B hv v K _ _ hI h post no yes => C_valve hI h no yes)
    (fun B hv v K _ _ hI h post no yes => by
      unfold V_X9_setValve
      refine R_refValve hI h ⟨fun z => R_keepK hI h (fun hv' k1 k2 => R_valveNow (IV_keep 0 hI) k1 z (fun hv2 k3 k4 => yes z hv2 k3 (rfr_t k2 k4))), no⟩)
    (fun B v K _ hB hI hr => ⟨⟨(VI_valve hI.1 hr).1, hI.2⟩, by show K.1.1 ≤ _; omega⟩)
theorem J_setInflow (x : Int32) : JJ (V_X8_setInflow x) (V_X9_setInflow x) :=
  J_act (fun _ => rfFlow x) (fun v K => (upd v 1 x, K)) (fun v _ => v 1)
    (fun B hv v K _ _ hI h post no yes => C_flow hI h no yes)
    (fun B hv v K _ _ hI h post no yes => by
      unfold V_X9_setInflow
      rw [R_in]
      unfold rfFlow at no yes
      by_cases c1 : x < 0
      · rw [if_pos c1] at no ⊢
        exact ⟨fun _ => no (by decide), fun z => absurd rfl z⟩
      rw [if_neg c1] at no yes ⊢
      by_cases c2 : 500 < x
      · rw [if_pos c2] at no ⊢
        exact ⟨fun _ => no (by decide), fun z => absurd rfl z⟩
      rw [if_neg c2] at no yes ⊢
      refine ⟨fun z => absurd z (by decide), fun _ => R_keepK hI h (fun hv' k1 k2 => R_flowNow k1 (fun hv2 k3 k4 => yes rfl hv2 k3 (rfr_t k2 k4)))⟩)
    (fun B v K _ hB hI hr => ⟨⟨VI_flow hI.1 hr, hI.2⟩, by show K.1.1 ≤ _; omega⟩)
