/-! pass, undo, type, clearText. -/
theorem passS_VI : ∀ (m : Nat) (S : ST), VI S.1 → (S.1 2).toInt + m ≤ 20000 → VI (passS m S).1 ∧ (passS m S).2.1.1 ≤ S.2.1.1 + 8 * m
  | 0, S, h, _ => ⟨h, by show S.2.1.1 ≤ _; omega⟩
  | m + 1, S, h, ht => by
    have e1 : (tickSt S).1 2 = S.1 2 + 1 := tickSt_2 S
    have e2 : (S.1 2 + 1).toInt = (S.1 2).toInt + 1 := i_add (by rw [i1]; have := h.2.2.2.2; omega) (by rw [i1]; omega)
    have hl := tickSt_L S h.1.1
    obtain ⟨a, b⟩ := passS_VI m (tickSt S) (VI_tick h (by omega)) (by rw [e1, e2]; omega)
    exact ⟨a, by show (passS m (tickSt S)).2.1.1 ≤ _; omega⟩
def rfPass (x : Int32) (v : Nat → Int32) : Int32 := if x < 1 then -1002 else if 200 < x then -1002 else if v 2 + x ≤ 20000 then 0 else -1003
def passE (x : Int32) (v : Nat → Int32) (K : KS) : ST := passS x.toNatClampNeg (v, K.1, 0)
def passV (x : Int32) (v : Nat → Int32) (K : KS) : (Nat → Int32) × KS := ((passE x v K).1, ((passE x v K).2.1, K.2))
theorem rfPass_b {x : Int32} {v : Nat → Int32} (hV : VI v) (h : rfPass x v = 0) : x = nI x.toNatClampNeg ∧ x.toNatClampNeg ≤ 200 ∧ (v 2).toInt + x.toNatClampNeg ≤ 20000 := by
  unfold rfPass at h
  by_cases c1 : x < 1
  · rw [if_pos c1] at h; exact absurd h (by decide)
  rw [if_neg c1] at h
  by_cases c2 : 200 < x
  · rw [if_pos c2] at h; exact absurd h (by decide)
  rw [if_neg c2] at h
  by_cases c3 : v 2 + x ≤ 20000
  · have e200 : (200 : Int32).toInt = 200 := rfl
    have e20 : (20000 : Int32).toInt = 20000 := rfl
    rw [i_lt, i1] at c1
    rw [i_lt, e200] at c2
    have n0 : ¬ x < 0 := by rw [i_lt, i0]; omega
    obtain ⟨j, hj, e⟩ := nI_of n0
    have ht := hV.2.2.2.2
    subst e
    rw [nI_clamp hj]
    rw [nI_toInt hj] at c1 c2
    rw [i_le, e20, i_add (by rw [nI_toInt hj]; omega) (by rw [nI_toInt hj]; omega), nI_toInt hj] at c3
    exact ⟨rfl, by omega, c3⟩
  · rw [if_neg c3] at h; exact absurd h (by decide)
theorem C_pass {B : Nat} {ex x : Int32} {hv : HV} {v : Nat → Int32} {K : KS} {post : Int32 → HV → Prop} (hB : B + 65000 < 2 ^ 31) (hL : K.1.1 ≤ B + 63000) (hI : IV v K) (h : CR hv ex v K) (no : ¬ rfPass x v = 0 → post (rfPass x v) hv)
    (yes : rfPass x v = 0 → ∀ hv', CR hv' ex (passV x v (keepK ex v K)).1 (passV x v (keepK ex v K)).2 → cfr hv hv' → post (passE x v (keepK ex v K)).2.2 hv') : V_X8_pass x hv post := by
  unfold V_X8_pass
  rw [C_outside]
  by_cases c1 : x < 1
  · have er : rfPass x v = -1002 := by unfold rfPass; rw [if_pos c1]
    rw [er] at no
    rw [if_pos c1]
    exact ⟨fun z => absurd z (by decide), fun _ => no (by decide)⟩
  rw [if_neg c1]
  by_cases c2 : 200 < x
  · have er : rfPass x v = -1002 := by unfold rfPass; rw [if_neg c1, if_pos c2]
    rw [er] at no
    rw [if_neg (fun z => i_nlt.mpr z c2)]
    exact ⟨fun z => absurd z (by decide), fun _ => no (by decide)⟩
  rw [if_pos (nl_le c2), h.1.1.1]
  refine ⟨fun _ => ⟨fun c3 => ?_, fun c3 => ?_⟩, fun z => absurd rfl z⟩
  · have er : rfPass x v = 0 := by unfold rfPass; rw [if_neg c1, if_neg c2, if_pos c3]
    obtain ⟨b1, b2, b3⟩ := rfPass_b hI.1 er
    refine C_keepK hI h ?_
    intro hv3 k1 k2 k3
    have hk := IV_keep ex hI
    have kL : (keepK ex v K).1 = K.1 := keepK_L ex v K
    refine ⟨x.toNatClampNeg + 1, C_passLoop (T := x.toNatClampNeg) b1 b2 x.toNatClampNeg (x.toNatClampNeg + 1) 0 (v, (keepK ex v K).1, 0) hv3 (by omega) (by omega) hI.1 b3 k1.1 k1.2.1 (by show (keepK ex v K).1.1 + _ + 10 < _; rw [kL]; omega) ?_⟩
    intro hv' g1 g2 g3 g4
    refine yes er hv' ?_ (cfr_t k2 (fun c i z => g4 c i (fun y => ?_)))
    · obtain ⟨_, _, h3, ⟨h4, h5⟩, h6⟩ := k1
      have f8 : hv' 8 0 = hv3 8 0 := g4 8 0 (by unfold ckey lkey; omega)
      refine ⟨g2, g3, HC_fr hk.2.1.2 (by rw [f8]) (by rw [f8]) (fun c i z z8 => g4 c i (fun y => ?_)) h3, ⟨?_, ?_⟩, by rw [f8]; exact h6⟩
      · unfold hkey at z; unfold ckey lkey at y; omega
      · rw [g4 1 0 (by unfold ckey lkey; omega)]; exact h4
      · rw [g4 13 0 (by unfold ckey lkey; omega)]; exact h5
    · unfold ckey lkey at y; omega
  · have er : rfPass x v = -1003 := by unfold rfPass; rw [if_neg c1, if_neg c2, if_neg c3]
    rw [er] at no
    exact no (by decide)
theorem IV_pass {B : Nat} {x : Int32} {v : Nat → Int32} {K : KS} (hI : IV v K) (hr : rfPass x v = 0) (hL : K.1.1 ≤ B) : IV (passV x v K).1 (passV x v K).2 ∧ (passV x v K).2.1.1 ≤ B + 1600 := by
  obtain ⟨b1, b2, b3⟩ := rfPass_b hI.1 hr
  obtain ⟨a, b⟩ := passS_VI x.toNatClampNeg (v, K.1, 0) hI.1 b3
  exact ⟨⟨a, hI.2⟩, by show (passS x.toNatClampNeg (v, K.1, 0)).2.1.1 ≤ _; have : (passS x.toNatClampNeg (v, K.1, 0)).2.1.1 ≤ K.1.1 + 8 * x.toNatClampNeg := b; omega⟩
