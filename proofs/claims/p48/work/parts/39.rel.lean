/-! The relation: K = (incidents, (recorded: how many, which), (text: length, signs), last failure); v the station's numbers. -/
abbrev KS : Type := LG × (Nat × (Nat → Nat → Int32)) × (Nat × (Nat → Int32)) × Int32
def CR (hv : HV) (ex : Int32) (v : Nat → Int32) (K : KS) : Prop := CS hv 0 v ∧ CL hv K.1 ∧ HC hv K.2.1.1 K.2.1.2 ∧ (hv 1 0 1 = nI K.2.2.1.1 ∧ ∀ j, j < K.2.2.1.1 → hv 13 0 j = K.2.2.1.2 j) ∧ (hv 8 0 4 = ex ∧ hv 8 0 5 = K.2.2.2)
def RX (hv : HV) (v : Nat → Int32) (K : KS) : Prop := hv 15 0 = v ∧ RH hv K.1 ∧ HRr hv K.2.1.1 K.2.1.2 ∧ (hv 9 0 11 = nI K.2.2.1.1 ∧ hv 20 0 = K.2.2.1.2) ∧ hv 9 0 12 = K.2.2.2
def IV (v : Nat → Int32) (K : KS) : Prop := VI v ∧ (K.2.1.1 ≤ 8 ∧ ∀ j, j < K.2.1.1 → VI (K.2.1.2 j)) ∧ (K.2.2.1.1 ≤ 40 ∧ ∀ j, j < K.2.2.1.1 → 33 ≤ (K.2.2.1.2 j).toInt ∧ (K.2.2.1.2 j).toInt ≤ 126)
def cfr (hv hv' : HV) : Prop := ∀ c i, (c = 9 ∨ 15 ≤ c) → hv' c i = hv c i
def rfr (hv hv' : HV) : Prop := ∀ c i, ¬ (c = 9 ∨ 15 ≤ c) → hv' c i = hv c i
theorem cfr_t {a b c : HV} (h1 : cfr a b) (h2 : cfr b c) : cfr a c := fun k i h => (h2 k i h).trans (h1 k i h)
theorem rfr_t {a b c : HV} (h1 : rfr a b) (h2 : rfr b c) : rfr a c := fun k i h => (h2 k i h).trans (h1 k i h)
theorem cfr_i (a : HV) : cfr a a := fun _ _ _ => rfl
theorem rfr_i (a : HV) : rfr a a := fun _ _ _ => rfl
theorem skey_c {s c i : Nat} (h : skey s c i) : ¬ (c = 9 ∨ 15 ≤ c) := by unfold skey at h; omega
theorem hkey_c {c i : Nat} (h : hkey c i) : ¬ (c = 9 ∨ 15 ≤ c) := by unfold hkey at h; omega
theorem lkey_c {c i : Nat} (h : lkey c i) : ¬ (c = 9 ∨ 15 ≤ c) := by unfold lkey at h; omega
theorem HC_fr {hv hv' : HV} {b : Nat} {H : Nat → Nat → Int32} (hH : ∀ j, j < b → VI (H j)) (h2 : hv' 8 0 2 = hv 8 0 2) (h3 : hv' 8 0 3 = hv 8 0 3) (f : ∀ c i, hkey c i → ¬ c = 8 → hv' c i = hv c i) (h : HC hv b H) : HC hv' b H := by
  obtain ⟨nx, a, b2, c, d⟩ := h
  exact ⟨nx, a, by rw [h2]; exact b2, by rw [h3]; exact c, fun j hj => CS_fr (hH j hj).1.1 (fun c i z => f c i (skey_h (by omega) (by omega) z) (skey_8 z)) (d j hj)⟩
theorem CR_fr {hv hv' : HV} {ex : Int32} {v : Nat → Int32} {K : KS} (hI : IV v K) (f : rfr hv hv') (h : CR hv ex v K) : CR hv' ex v K := by
  obtain ⟨h1, h2, h3, ⟨h4, h5⟩, h6⟩ := h
  refine ⟨CS_fr hI.1.1.1 (fun c i z => f c i (skey_c z)) h1, CL_fr (fun c i z => f c i (lkey_c z)) h2, HC_fr hI.2.1.2 (by rw [f 8 0 (by omega)]) (by rw [f 8 0 (by omega)]) (fun c i z _ => f c i (hkey_c z)) h3, ⟨by rw [f 1 0 (by omega)]; exact h4, by rw [f 13 0 (by omega)]; exact h5⟩, by rw [f 8 0 (by omega)]; exact h6⟩
theorem RX_fr {hv hv' : HV} {v : Nat → Int32} {K : KS} (f : cfr hv hv') (h : RX hv v K) : RX hv' v K := by
  unfold RX RH HRr at h ⊢
  rw [f 15 0 (by omega), f 9 0 (by omega), f 17 0 (by omega), f 18 0 (by omega), f 19 0 (by omega), f 16 0 (by omega), f 20 0 (by omega)]
  exact h
def keepK (ex : Int32) (v : Nat → Int32) (K : KS) : KS := if ex = 0 then (K.1, (bN K.2.1.1, pushH v K.2.1.2), K.2.2) else K
theorem keepK_1 (v : Nat → Int32) (K : KS) : keepK 1 v K = K := rfl
theorem keepK_0 (v : Nat → Int32) (K : KS) : keepK 0 v K = (K.1, (bN K.2.1.1, pushH v K.2.1.2), K.2.2) := rfl
theorem keepK_L (ex : Int32) (v : Nat → Int32) (K : KS) : (keepK ex v K).1 = K.1 := by
  unfold keepK; split <;> rfl
theorem keepK_F (ex : Int32) (v : Nat → Int32) (K : KS) : (keepK ex v K).2.2 = K.2.2 := by
  unfold keepK; split <;> rfl
theorem IV_keep {v : Nat → Int32} {K : KS} (ex : Int32) (h : IV v K) : IV v (keepK ex v K) := by
  by_cases e : ex = 0
  · subst e
    rw [keepK_0]
    obtain ⟨h1, ⟨h2, h3⟩, h4⟩ := h
    refine ⟨h1, ⟨?_, fun j hj => ?_⟩, h4⟩
    · show bN K.2.1.1 ≤ 8
      unfold bN; omega
    · have hj2 : j < bN K.2.1.1 := hj
      show VI (pushH v K.2.1.2 j)
      unfold pushH
      by_cases c : j = 0
      · rw [if_pos c]; exact h1
      · rw [if_neg c]; exact h3 _ (by unfold bN at hj2; omega)
  · unfold keepK; rw [if_neg e]; exact h
theorem C_keepK {hv : HV} {ex : Int32} {v : Nat → Int32} {K : KS} {post : HV → Prop} (hI : IV v K) (h : CR hv ex v K) (hp : ∀ hv', CR hv' ex v (keepK ex v K) → cfr hv hv' → (∀ c i, ¬ hkey c i → hv' c i = hv c i) → post hv') : V_X8_keepState hv post := by
  obtain ⟨h1, h2, h3, ⟨h4, h5⟩, h6, h7⟩ := h
  by_cases e : ex = 0
  · subst e
    refine C_keep h6 hI.2.1.1 hI.1 h1 hI.2.1.2 h3 ?_
    intro hv' k1 k2 k3
    have f : cfr hv hv' := fun c i z => k3 c i (fun y => hkey_c y z)
    refine hp hv' ⟨CS_fr hI.1.1.1 (fun c i z => k3 c i (fun y => ?_)) h1, CL_fr (fun c i z => k3 c i (fun y => ?_)) h2, k1, ⟨?_, ?_⟩, ?_, ?_⟩ f k3
    · unfold skey at z; unfold hkey at y; omega
    · unfold lkey at z; unfold hkey at y; omega
    · show hv' 1 0 1 = _
      rw [k3 1 0 (by unfold hkey; omega)]; exact h4
    · show ∀ j, j < _ → hv' 13 0 j = _
      rw [k3 13 0 (by unfold hkey; omega)]; exact h5
    · rw [k2 4 (by omega) (by omega)]; exact h6
    · show hv' 8 0 5 = K.2.2.2
      rw [k2 5 (by omega) (by omega)]; exact h7
  · unfold V_X8_keepState
    refine ⟨fun z => absurd (h6.symm.trans z) e, fun _ => ?_⟩
    have ek : keepK ex v K = K := if_neg e
    rw [ek] at hp
    exact hp hv ⟨h1, h2, h3, ⟨h4, h5⟩, h6, h7⟩ (cfr_i _) (fun _ _ _ => rfl)
/-- new numbers of the class's state and its pumps, all else as it was -/
theorem CR_new {hv hv' : HV} {ex : Int32} {v v' : Nat → Int32} {K : KS} (hI : IV v K) (h : CR hv ex v K) (hC : CS hv' 0 v') (f : ∀ c i, ¬ skey 0 c i → hv' c i = hv c i) : CR hv' ex v' K := by
  obtain ⟨h1, h2, h3, ⟨h4, h5⟩, h6⟩ := h
  have f8 : hv' 8 0 = hv 8 0 := f 8 0 (fun z => skey_8 z rfl)
  refine ⟨hC, CL_fr (fun c i z => f c i (fun y => ?_)) h2, HC_fr hI.2.1.2 (by rw [f8]) (by rw [f8]) (fun c i z z8 => f c i (fun y => ?_)) h3, ⟨?_, ?_⟩, by rw [f8]; exact h6⟩
  · unfold skey at y; unfold lkey at z; omega
  · unfold skey at y; unfold hkey at z; omega
  · rw [f 1 0 (by unfold skey; omega)]; exact h4
  · rw [f 13 0 (by unfold skey; omega)]; exact h5
theorem PG_rg {hv : HV} {q : Nat} {f g : Nat → Int32} (h : ∀ j, 23 ≤ j → j < 73 → f j = g j) (hp : PG hv q f) : PG hv q g := by
  obtain ⟨a, b⟩ := hp
  refine ⟨?_, ?_⟩
  · rw [← h 23 (by omega) (by omega)]; exact RR_cg (fun b hb => h _ (by omega) (by omega)) a
  · rw [← h 40 (by omega) (by omega)]; exact RR_cg (fun b hb => h _ (by omega) (by omega)) b
/-- pump p of a state gets new numbers g, the rings as they were -/
theorem CS_pump {hv hv' : HV} {s p : Nat} {v g : Nat → Int32} (hn : cntN v ≤ 4) (hp : p < cntN v) (h : CS hv s v) (hg : ∀ j, 23 ≤ j → j < 73 → g j = sl v p j) (hS : PS hv' (4 * s + p) g) (f : ∀ c i, ¬ ((c = 4 ∨ c = 0 ∨ c = 2) ∧ i = 4 * s + p) → hv' c i = hv c i) : CS hv' s (putW v (5 + 73 * p) g) := by
  obtain ⟨h1, h2⟩ := h
  have e : ∀ j, j < 5 → putW v (5 + 73 * p) g j = v j := fun j hj => pw_lo _ _ _ _ (by omega)
  have ec : cntN (putW v (5 + 73 * p) g) = cntN v := by unfold cntN; rw [e 4 (by omega)]
  refine ⟨?_, fun q hq => ?_⟩
  · rw [e 0 (by omega), e 1 (by omega), e 2 (by omega), e 3 (by omega), e 4 (by omega), f 7 s (by omega)]; exact h1
  · rw [ec] at hq
    by_cases c : q = p
    · subst c
      refine ⟨PS_cg (fun j hj => (sl_putW v q g j (by omega)).symm) hS, PG_cg (fun j hj => ?_) (PG_fr (fun i _ => f 6 i (by omega)) (fun i _ => f 10 i (by omega)) (PG_rg (fun j a b => (hg j a b).symm) (h2 q hq).2))⟩
      exact (sl_putW v q g j hj).symm
    · refine ⟨PS_cg (fun j hj => (sl_putO v p q g j c (by omega)).symm) (PS_fr (f 4 _ (by omega)) (f 0 _ (by omega)) (f 2 _ (by omega)) (h2 q hq).1), PG_cg (fun j hj => (sl_putO v p q g j c hj).symm) (PG_fr (fun i _ => f 6 i (by omega)) (fun i _ => f 10 i (by omega)) (h2 q hq).2)⟩
theorem VI_pump {v g : Nat → Int32} {p : Nat} (h : VI v) (hg : PI g) (h3 : ∀ j, 17 ≤ j → j < 20 → g j = sl v p j) : VI (putW v (5 + 73 * p) g) := by
  have e : ∀ j, j < 5 → putW v (5 + 73 * p) g j = v j := fun j hj => pw_lo _ _ _ _ (by omega)
  have ec : cntN (putW v (5 + 73 * p) g) = cntN v := by unfold cntN; rw [e 4 (by omega)]
  obtain ⟨h1, h2, a0, a1, a2⟩ := h
  unfold VI
  rw [ec, e 0 (by omega), e 1 (by omega), e 2 (by omega), e 4 (by omega)]
  refine ⟨h1, fun q hq => ?_, a0, a1, a2⟩
  by_cases c : q = p
  · subst c
    refine ⟨PI_c (fun j hj _ => sl_putW v q g j (by omega)) hg, CI_c (fun j a b => ?_) (h2 q hq).2⟩
    rw [sl_putW _ _ _ _ (by omega)]; exact h3 j a b
  · exact ⟨PI_c (fun j hj _ => sl_putO v p q g j c (by omega)) (h2 q hq).1, CI_c (fun j a b => sl_putO v p q g j c (by omega)) (h2 q hq).2⟩

