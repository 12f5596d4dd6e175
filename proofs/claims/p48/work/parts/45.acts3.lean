/-! The class's setValve and setInflow; the reference's acts. -/
theorem nl_le {a b : Int32} (h : ¬ a < b) : b ≤ a := i_nlt.mp h
theorem C_valve {ex a k s : Int32} {hv : HV} {v : Nat → Int32} {K : KS} {post : Int32 → HV → Prop} (hI : IV v K) (h : CR hv ex v K) (no : ¬ rfValve a k s v = 0 → post (rfValve a k s v) hv)
    (yes : rfValve a k s v = 0 → ∀ hv', CR hv' ex (valveV a k s v) (keepK ex v K) → cfr hv hv' → post (sl v (pn v a) 10) hv') : V_X8_setValve a k s hv post := by
  have hn := hI.1.1.1
  unfold V_X8_setValve
  rcases pn_cases hI.1 a with ⟨hp, ea⟩ | ⟨hno, e4⟩
  · refine C_yes h hI hp ea ?_
    have hPI := (hI.1.2.1 _ hp).1
    have n4 : ¬ pn v a = 4 := by omega
    unfold rfValve at no yes
    rw [if_neg n4] at no yes
    rw [C_outside]
    by_cases c1 : k < 0
    · rw [if_pos c1] at no ⊢
      exact ⟨fun z => absurd z (by decide), fun _ => no (by decide)⟩
    rw [if_neg c1] at no yes ⊢
    by_cases c2 : 2 < k
    · rw [if_pos c2] at no
      rw [if_neg (fun z => i_nlt.mpr z c2)]
      exact ⟨fun z => absurd z (by decide), fun _ => no (by decide)⟩
    rw [if_neg c2] at no yes
    rw [if_pos (nl_le c2)]
    refine ⟨fun _ => ?_, fun z => absurd rfl z⟩
    rw [C_outside]
    by_cases c3 : s < 1
    · rw [if_pos c3] at no ⊢
      exact ⟨fun z => absurd z (by decide), fun _ => no (by decide)⟩
    rw [if_neg c3] at no yes ⊢
    by_cases c4 : 500 < s
    · rw [if_pos c4] at no
      rw [if_neg (fun z => i_nlt.mpr z c4)]
      exact ⟨fun z => absurd z (by decide), fun _ => no (by decide)⟩
    rw [if_neg c4] at no yes
    rw [if_pos (nl_le c4)]
    refine ⟨fun _ => ?_, fun z => absurd rfl z⟩
    rw [PS_4 (CR_PS h hp) (show 5 ≤ 10 by omega)]
    refine ⟨fun c => ?_, fun c => ?_⟩
    · rw [c, if_neg (by decide)] at yes
      refine C_keepK hI h ?_
      intro hv3 k1 k2 k3 x8 e8 hv4 e4 hv5 e5
      have hk := IV_keep ex hI
      have f5 : ∀ c i, ¬ ((c = 4 ∨ c = 0 ∨ c = 2) ∧ i = pn v a) → hv5 c i = hv3 c i := fun c i z => by rw [e5, up_n _ _ (fun y => z ⟨Or.inl y.1, y.2⟩), e4, up_n _ _ (fun y => z ⟨Or.inl y.1, y.2⟩)]
      have k5 : CR hv5 ex (valveV a k s v) (keepK ex v K) := by
        refine CR_on hk k1 hp (fun j a b => by rw [upd_n _ _ (by omega), upd_n _ _ (by omega)]) ?_ f5
        rw [e5, e4]
        exact PS_w4 (PS_w4 (CR_PS k1 hp) (by omega)) (by omega)
      rw [e8, PS_4 (CR_PS k1 hp) (show 10 ≤ 10 by omega)]
      exact yes rfl hv5 k5 (cfr_t k2 (cfr_on f5))
    · rw [if_pos (hPI.h5.resolve_left c)] at no
      exact no (by decide)
  · have er : rfValve a k s v = -1001 := if_pos e4
    rw [er] at no
    exact C_no h hI hno (no (by decide))
theorem VI_flow {x : Int32} {v : Nat → Int32} (hV : VI v) (h : rfFlow x = 0) : VI (upd v 1 x) := by
  unfold rfFlow at h
  by_cases c1 : x < 0
  · rw [if_pos c1] at h; exact absurd h (by decide)
  rw [if_neg c1] at h
  by_cases c2 : 500 < x
  · rw [if_pos c2] at h; exact absurd h (by decide)
  have e5 : (500 : Int32).toInt = 500 := rfl
  rw [i_lt, i0] at c1
  rw [i_lt, e5] at c2
  obtain ⟨h1, h2, a0, a1, a2⟩ := hV
  have ec : cntN (upd v 1 x) = cntN v := by unfold cntN; rw [upd_n _ _ (by omega)]
  unfold VI
  rw [ec, upd_n v x (show ¬ 0 = 1 by omega), upd_n v x (show ¬ 2 = 1 by omega), upd_n v x (show ¬ 4 = 1 by omega), upd_s]
  exact ⟨h1, fun p hp => ⟨PI_c (fun j hj _ => sl_upd v p 1 x j (by omega)) (h2 p hp).1, CI_c (fun j _ _ => sl_upd v p 1 x j (by omega)) (h2 p hp).2⟩, a0, by omega, a2⟩
theorem CS_flow {x : Int32} {hv : HV} {v : Nat → Int32} (h : CS hv 0 v) : CS (up hv 7 0 (upd (hv 7 0) 3 x)) 0 (upd v 1 x) := by
  have ec : cntN (upd v 1 x) = cntN v := by unfold cntN; rw [upd_n _ _ (by omega)]
  obtain ⟨⟨b0, b1, b2, b3, b4⟩, h2⟩ := h
  unfold CS
  rw [ec, upd_n v x (show ¬ 0 = 1 by omega), upd_n v x (show ¬ 2 = 1 by omega), upd_n v x (show ¬ 3 = 1 by omega), upd_n v x (show ¬ 4 = 1 by omega), upd_s, up_s, upd_s, upd_n _ _ (show ¬ 0 = 3 by omega), upd_n _ _ (show ¬ 1 = 3 by omega), upd_n _ _ (show ¬ 2 = 3 by omega), upd_n _ _ (show ¬ 4 = 3 by omega)]
  refine ⟨⟨b0, b1, b2, rfl, b4⟩, fun p hp => ⟨PS_cg (fun j hj => (sl_upd v p 1 x j (by omega)).symm) (PS_fr (up_n _ _ (by omega)) (up_n _ _ (by omega)) (up_n _ _ (by omega)) (h2 p hp).1), PG_cg (fun j hj => (sl_upd v p 1 x j (by omega)).symm) (PG_fr (fun i _ => up_n _ _ (by omega)) (fun i _ => up_n _ _ (by omega)) (h2 p hp).2)⟩⟩
theorem C_flow {ex x : Int32} {hv : HV} {v : Nat → Int32} {K : KS} {post : Int32 → HV → Prop} (hI : IV v K) (h : CR hv ex v K) (no : ¬ rfFlow x = 0 → post (rfFlow x) hv)
    (yes : rfFlow x = 0 → ∀ hv', CR hv' ex (upd v 1 x) (keepK ex v K) → cfr hv hv' → post (v 1) hv') : V_X8_setInflow x hv post := by
  unfold V_X8_setInflow
  rw [C_outside]
  unfold rfFlow at no yes
  by_cases c1 : x < 0
  · rw [if_pos c1] at no ⊢
    exact ⟨fun z => absurd z (by decide), fun _ => no (by decide)⟩
  rw [if_neg c1] at no yes ⊢
  by_cases c2 : 500 < x
  · rw [if_pos c2] at no
    rw [if_neg (fun z => i_nlt.mpr z c2)]
    exact ⟨fun z => absurd z (by decide), fun _ => no (by decide)⟩
  rw [if_neg c2] at no yes
  rw [if_pos (nl_le c2)]
  refine ⟨fun _ => ?_, fun z => absurd rfl z⟩
  refine C_keepK hI h ?_
  intro hv3 k1 k2 k3 x4 e4 hv5 e5
  have hk := IV_keep ex hI
  rw [e4, k1.1.1.2.2.2.1, e5]
  refine yes rfl _ (CR_new hk k1 (CS_flow k1.1) (fun c i z => up_n _ _ (fun y => z (Or.inl y)))) (cfr_t k2 (fun c i z => up_n _ _ (by omega)))
