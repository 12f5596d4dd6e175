/-! pass, undo, type, clearText. -/
theorem passS_VI : ∀ (m : Nat) (S : ST), VI S.1 → (S.1 2).toInt + m ≤ 20000 → VI (passS m S).1 ∧ (passS m S).2.1.1 ≤ S.2.1.1 + 8 * m
  | 0, S, h, _ => ⟨h, by show S.2.1.1 ≤ _; omega⟩
  | m + 1, S, h, ht => by
    have e1 : (tickSt S).1 2 = S.1 2 + 1 := tickSt_2 S
    have e2 : (S.1 2 + 1).toInt = (S.1 2).toInt + 1 := i_add (by rw [i1]; have := h.2.2.2.2; omega) (by rw [i1]; omega)
    have hl := tickSt_L S h.1.1
    obtain ⟨a, b⟩ := passS_VI m (tickSt S) (VI_tick h (by omega)) (by rw [e1, e2]; omega)
    exact ⟨a, by show (passS m (tickSt S)).2.1.1 ≤ _; omega⟩
def rfPass (x : Int32) (v : Nat → Int32) : Int32 := if x < 1 then -1002 else if 200 < x then -1002 else if v 2 + x ≤ 20000 then 0 else -1003
def passE (x : Int32) (v : Nat → Int32) (K : KS) : ST := passS x.toNatClampNeg (v, K.1, 0)
def passV (x : Int32) (v : Nat → Int32) (K : KS) : (Nat → Int32) × KS := ((passE x v K).1, ((passE x v K).2.1, K.2))
theorem rfPass_b {x : Int32} {v : Nat → Int32} (hV : VI v) (h : rfPass x v = 0) : x = nI x.toNatClampNeg ∧ x.toNatClampNeg ≤ 200 ∧ (v 2).toInt + x.toNatClampNeg ≤ 20000 := by
  unfold rfPass at h
  by_cases c1 : x < 1
  · rw [if_pos c1] at h; exact absurd h (by decide)
  rw [if_neg c1] at h
  by_cases c2 : 200 < x
  · rw [if_pos c2] at h; exact absurd h (by decide)
  rw [if_neg c2] at h
  by_cases c3 : v 2 + x ≤ 20000
  · have e200 : (200 : Int32).toInt = 200 := rfl
    have e20 : (20000 : Int32).toInt = 20000 := rfl
    rw [i_lt, i1] at c1
    rw [i_lt, e200] at c2
    have n0 : ¬ x < 0 := by rw [i_lt, i0]; omega
    obtain ⟨j, hj, e⟩ := nI_of n0
    have ht := hV.2.2.2.2
    subst e
    rw [nI_clamp hj]
    rw [nI_toInt hj] at c1 c2
    rw [i_le, e20, i_add (by rw [nI_toInt hj]; omega) (by rw [nI_toInt hj]; omega), nI_toInt hj] at c3
    exact ⟨rfl, by omega, c3⟩
  · rw [if_neg c3] at h; exact absurd h (by decide)
theorem C_pass {B : Nat} {ex x : Int32} {hv : HV} {v : Nat → Int32} {K : KS} {post : Int32 → HV → Prop} (hB : B + 65000 < 2 ^ 31) (hL : K.1.1 ≤ B + 63000) (hI : IV v K) (h : CR hv ex v K) (no : ¬ rfPass x v = 0 → post (rfPass x v) hv)
    (yes : rfPass x v = 0 → ∀ hv', CR hv' ex (passV x v (keepK ex v K)).1 (passV x v (keepK ex v K)).2 → cfr hv hv' → post (passE x v (keepK ex v K)).2.2 hv') : V_X8_pass x hv post := by
  unfold V_X8_pass
  rw [C_outside]
  by_cases c1 : x < 1
  · have er : rfPass x v = -1002 := by unfold rfPass; rw [if_pos c1]
    rw [er] at no
    rw [if_pos c1]
    exact ⟨fun z => absurd z (by decide), fun _ => no (by decide)⟩
  rw [if_neg c1]
  by_cases c2 : 200 < x
  · have er : rfPass x v = -1002 := by unfold rfPass; rw [if_neg c1, if_pos c2]
    rw [er] at no
    rw [if_neg (fun z => i_nlt.mpr z c2)]
    exact ⟨fun z => absurd z (by decide), fun _ => no (by decide)⟩
  rw [if_pos (nl_le c2), h.1.1.1]
  refine ⟨fun _ => ⟨fun c3 => ?_, fun c3 => ?_⟩, fun z => absurd rfl z⟩
  · have er : rfPass x v = 0 := by unfold rfPass; rw [if_neg c1, if_neg c2, if_pos c3]
    obtain ⟨b1, b2, b3⟩ := rfPass_b hI.1 er
    refine C_keepK hI h ?_
    intro hv3 k1 k2 k3
    have hk := IV_keep ex hI
    have kL : (keepK ex v K).1 = K.1 := keepK_L ex v K
    refine ⟨x.toNatClampNeg + 1, C_passLoop (T := x.toNatClampNeg) b1 b2 x.toNatClampNeg (x.toNatClampNeg + 1) 0 (v, (keepK ex v K).1, 0) hv3 (by omega) (by omega) hI.1 b3 k1.1 k1.2.1 (by show (keepK ex v K).1.1 + _ + 10 < _; rw [kL]; omega) ?_⟩
    intro hv' g1 g2 g3 g4
    refine yes er hv' ?_ (cfr_t k2 (fun c i z => g4 c i (fun y => ?_)))
    · obtain ⟨_, _, h3, ⟨h4, h5⟩, h6⟩ := k1
      have f8 : hv' 8 0 = hv3 8 0 := g4 8 0 (by unfold ckey lkey; omega)
      refine ⟨g2, g3, HC_fr hk.2.1.2 (by rw [f8]) (by rw [f8]) (fun c i z z8 => g4 c i (fun y => ?_)) h3, ⟨?_, ?_⟩, by rw [f8]; exact h6⟩
      · unfold hkey at z; unfold ckey lkey at y; omega
      · rw [g4 1 0 (by unfold ckey lkey; omega)]; exact h4
      · rw [g4 13 0 (by unfold ckey lkey; omega)]; exact h5
    · unfold ckey lkey at y; omega
  · have er : rfPass x v = -1003 := by unfold rfPass; rw [if_neg c1, if_neg c2, if_neg c3]
    rw [er] at no
    exact no (by decide)
theorem R_refPass {x : Int32} {hv : HV} {v : Nat → Int32} {K : KS} {post : Int32 → HV → Prop} (h : RX hv v K) (q : post (rfPass x v) hv) : V_X9_passRefused x hv post := by
  unfold V_X9_passRefused
  rw [R_in]
  unfold rfPass at q
  by_cases c1 : x < 1
  · rw [if_pos c1] at q ⊢
    exact ⟨fun _ => q, fun z => absurd rfl z⟩
  rw [if_neg c1] at q ⊢
  by_cases c2 : 200 < x
  · rw [if_pos c2] at q ⊢
    exact ⟨fun _ => q, fun z => absurd rfl z⟩
  rw [if_neg c2] at q ⊢
  refine ⟨fun z => absurd z (by decide), fun _ => ?_⟩
  rw [h.1]
  exact ⟨fun c => by rwa [if_pos c] at q, fun c => by rwa [if_neg c] at q⟩
theorem R_passNow {B : Nat} {x : Int32} {hv : HV} {v : Nat → Int32} {K : KS} {post : Int32 → HV → Prop} (hB : B + 65000 < 2 ^ 31) (hL : K.1.1 ≤ B + 63000) (hI : IV v K) (h : RX hv v K) (hr : rfPass x v = 0)
    (yes : ∀ hv', RX hv' (passV x v K).1 (passV x v K).2 → rfr hv hv' → post (passE x v K).2.2 hv') : V_X9_passNow x hv post := by
  obtain ⟨b1, b2, b3⟩ := rfPass_b hI.1 hr
  obtain ⟨h1, h2, h3, ⟨h4, h5⟩, h6⟩ := h
  unfold V_X9_passNow
  intro hv1 e1
  have f1 : ∀ c i, ¬ (c = 9 ∧ i = 0) → hv1 c i = hv c i := fun c i z => by rw [e1]; exact up_n _ _ z
  have q9 : hv1 9 0 = upd (hv 9 0) 9 0 := by rw [e1, up_s]
  refine ⟨x.toNatClampNeg + 1, R_passLoop (T := x.toNatClampNeg) b1 b2 x.toNatClampNeg (x.toNatClampNeg + 1) 0 (v, K.1, 0) hv1 (by omega) (by omega) hI.1 b3 (by rw [f1 15 0 (by omega)]; exact h1) ?_ (by show K.1.1 + _ + 10 < _; omega) (by rw [q9, upd_s]) ?_⟩
  · unfold RH RLm at h2 ⊢
    rw [q9, upd_n _ _ (by omega), f1 17 0 (by omega), f1 18 0 (by omega), f1 19 0 (by omega)]; exact h2
  · intro hv' k1 k2 k3 k4 k5
    have m : ∀ i, ¬ i = 6 → ¬ i = 7 → ¬ i = 8 → ¬ i = 9 → hv' 9 0 i = hv 9 0 i := fun i a b c d => by rw [k4 i a b c d, q9, upd_n _ _ d]
    have g : ∀ c i, ¬ rkey c i → hv' c i = hv c i := fun c i z => by rw [k5 c i z, f1 c i (fun y => z ⟨y.2, Or.inr (Or.inl y.1)⟩)]
    refine yes hv' ⟨k1, k2, ⟨?_, ?_⟩, ⟨?_, ?_⟩, ?_⟩ (fun c i z => g c i (fun y => ?_))
    · rw [m 2 (by omega) (by omega) (by omega) (by omega)]; exact h3.1
    · rw [g 16 0 (by unfold rkey; omega)]; exact h3.2
    · rw [m 11 (by omega) (by omega) (by omega) (by omega)]; exact h4
    · rw [g 20 0 (by unfold rkey; omega)]; exact h5
    · rw [m 12 (by omega) (by omega) (by omega) (by omega)]; exact h6
    · unfold rkey at y; omega
theorem IV_pass {B : Nat} {x : Int32} {v : Nat → Int32} {K : KS} (hI : IV v K) (hr : rfPass x v = 0) (hL : K.1.1 ≤ B) : IV (passV x v K).1 (passV x v K).2 ∧ (passV x v K).2.1.1 ≤ B + 1600 := by
  obtain ⟨b1, b2, b3⟩ := rfPass_b hI.1 hr
  obtain ⟨a, b⟩ := passS_VI x.toNatClampNeg (v, K.1, 0) hI.1 b3
  exact ⟨⟨a, hI.2⟩, by show (passS x.toNatClampNeg (v, K.1, 0)).2.1.1 ≤ _; have : (passS x.toNatClampNeg (v, K.1, 0)).2.1.1 ≤ K.1.1 + 8 * x.toNatClampNeg := b; omega⟩
theorem J_pass (x : Int32) : JJ (V_X8_pass x) (V_X9_pass x) :=
  J_act (rfPass x) (passV x) (fun v K => (passE x v K).2.2)
    (fun B hv v K hB hL hI h post no yes => C_pass hB (by omega) hI h no yes)
    (fun B hv v K hB hL hI h post no yes => by
      unfold V_X9_pass
      refine R_refPass h ⟨fun z => R_keepK hI h (fun hv' k1 k2 => R_passNow hB (by rw [keepK_L]; omega) (IV_keep 0 hI) k1 z (fun hv2 k3 k4 => yes z hv2 k3 (rfr_t k2 k4))), no⟩)
    (fun B v K _ hL hI hr => ⟨(IV_pass hI hr hL).1, by have := (IV_pass hI hr hL).2; omega⟩)
theorem J_clearText : JJ V_X8_clearText V_X9_clearText := by
  intro B hv hB hRel
  obtain ⟨v, K, h1, h2, h3, h4⟩ := hRel
  unfold V_X8_clearText
  intro x1 e1 hv1 k1
  unfold V_X9_clearText
  intro x2 e2 hv2 k2
  obtain ⟨a1, a2, a3, ⟨a4, a5⟩, a6⟩ := h1
  obtain ⟨b1, b2, b3, ⟨b4, b5⟩, b6⟩ := h2
  have f : ∀ c i, ¬ (c = 1 ∧ i = 0) → ¬ (c = 9 ∧ i = 0) → hv2 c i = hv c i := fun c i z z2 => by rw [k2, up_n _ _ z2, k1, up_n _ _ z]
  have q9 : hv2 9 0 = upd (hv 9 0) 11 0 := by rw [k2, up_s, k1, up_n _ _ (by omega)]
  have q1 : hv2 1 0 = upd (hv 1 0) 1 0 := by rw [k2, up_n _ _ (by omega), k1, up_s]
  refine ⟨by rw [e1, e2, k1, up_n _ _ (by omega), a4, b4], v, (K.1, K.2.1, (0, K.2.2.1.2), K.2.2.2), ⟨?_, ?_, ?_, ⟨?_, fun j hj => absurd (show j < 0 from hj) (Nat.not_lt_zero j)⟩, ?_⟩, ⟨?_, ?_, ⟨?_, ?_⟩, ⟨?_, ?_⟩, ?_⟩, ⟨h3.1, h3.2.1, ⟨by show 0 ≤ 40; omega, fun j hj => absurd (show j < 0 from hj) (Nat.not_lt_zero j)⟩⟩, by show K.1.1 ≤ _; omega⟩
  · exact CS_fr h3.1.1.1 (fun c i z => f c i (fun y => by unfold skey at z; omega) (fun y => by unfold skey at z; omega)) a1
  · exact CL_fr (fun c i z => f c i (fun y => by unfold lkey at z; omega) (fun y => by unfold lkey at z; omega)) a2
  · exact HC_fr h3.2.1.2 (by rw [f 8 0 (by omega) (by omega)]) (by rw [f 8 0 (by omega) (by omega)]) (fun c i z _ => f c i (fun y => by unfold hkey at z; omega) (fun y => by unfold hkey at z; omega)) a3
  · rw [q1, upd_s]; rfl
  · rw [f 8 0 (by omega) (by omega)]; exact a6
  · rw [f 15 0 (by omega) (by omega)]; exact b1
  · unfold RH RLm at b2 ⊢
    rw [q9, upd_n _ _ (by omega), f 17 0 (by omega) (by omega), f 18 0 (by omega) (by omega), f 19 0 (by omega) (by omega)]; exact b2
  · rw [q9, upd_n _ _ (by omega)]; exact b3.1
  · rw [f 16 0 (by omega) (by omega)]; exact b3.2
  · rw [q9, upd_s]; rfl
  · rw [f 20 0 (by omega) (by omega)]; exact b5
  · rw [q9, upd_n _ _ (by omega)]; exact b6
