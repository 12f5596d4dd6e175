/-! What a call of both must show; getters. -/
def Rel (B : Nat) (hv : HV) : Prop := ∃ (v : Nat → Int32) (K : KS), CR hv 0 v K ∧ RX hv v K ∧ IV v K ∧ K.1.1 ≤ B
def JJ (C R : HV → (Int32 → HV → Prop) → Prop) : Prop := ∀ (B : Nat) (hv : HV), B + 65000 < 2 ^ 31 → Rel B hv → C hv (fun r hv1 => R hv1 (fun r2 hv2 => r = r2 ∧ Rel (B + 64000) hv2))
theorem J_get {C R : HV → (Int32 → HV → Prop) → Prop} (h : ∀ hv v K, CR hv 0 v K → RX hv v K → IV v K → K.1.1 < 2 ^ 31 → ∃ ans, (∀ post, post ans hv → C hv post) ∧ (∀ post, post ans hv → R hv post)) : JJ C R := by
  intro B hv hB hR
  obtain ⟨v, K, h1, h2, h3, h4⟩ := hR
  obtain ⟨ans, ha, hb⟩ := h hv v K h1 h2 h3 (by omega)
  exact ha _ (hb _ ⟨rfl, v, K, h1, h2, h3, by omega⟩)
theorem C_yes {a : Int32} {p : Nat} {hv : HV} {ex : Int32} {v : Nat → Int32} {K : KS} {Q : HV → Prop} {body : Nat → HV → Prop} (h : CR hv ex v K) (hI : IV v K) (hp : p < cntN v) (ea : a = nI p) (q : body p hv) :
    V_X7_pumpAt 0 a hv (fun o1 hv1 => (o1 = none → Q hv1) ∧ (∀ r1 : Nat, o1 = some r1 → r1 < 37 → body r1 hv1)) := by
  refine C_pumpAt (n := cntN v) (by rw [h.1.1.2.2.2.2]; exact hI.1.1.2) hI.1.1.1 (fun p2 h2 e2 => ?_) (fun no => absurd ea (no p hp))
  have hn := hI.1.1.1
  rw [ea, nI_eq (by omega) (by omega)] at e2
  subst e2
  refine ⟨fun z => by simp at z, fun r1 e _ => ?_⟩
  have e3 : 4 * 0 + p = r1 := Option.some.inj e
  rw [Nat.mul_zero, Nat.zero_add] at e3
  rw [← e3]; exact q
theorem C_no {a : Int32} {hv : HV} {ex : Int32} {v : Nat → Int32} {K : KS} {Q : HV → Prop} {body : Nat → HV → Prop} (h : CR hv ex v K) (hI : IV v K) (no : ∀ p, p < cntN v → ¬ a = nI p) (q : Q hv) :
    V_X7_pumpAt 0 a hv (fun o1 hv1 => (o1 = none → Q hv1) ∧ (∀ r1 : Nat, o1 = some r1 → r1 < 37 → body r1 hv1)) := by
  refine C_pumpAt (n := cntN v) (by rw [h.1.1.2.2.2.2]; exact hI.1.1.2) hI.1.1.1 (fun p2 h2 e2 => absurd e2 (no p2 h2)) (fun _ => ?_)
  exact ⟨fun _ => q, fun r1 e _ => by simp at e⟩
theorem R_in {a b c : Int32} {hv : HV} {post : Int32 → HV → Prop} : V_X9_in a b c hv post ↔ post (if a < b then 0 else if c < a then 0 else 1) hv := by
  unfold V_X9_in
  by_cases h : a < b
  · rw [if_pos h]; exact ⟨fun z => z.1 h, fun z => ⟨fun _ => z, fun q => absurd h q⟩⟩
  · rw [if_neg h]
    by_cases h2 : c < a
    · rw [if_pos h2]; exact ⟨fun z => (z.2 h).1 h2, fun z => ⟨fun q => absurd q h, fun _ => ⟨fun _ => z, fun q => absurd h2 q⟩⟩⟩
    · rw [if_neg h2]; exact ⟨fun z => (z.2 h).2 h2, fun z => ⟨fun q => absurd q h, fun _ => ⟨fun q => absurd q h2, fun _ => z⟩⟩⟩
theorem R_isP {a : Int32} {hv : HV} {v : Nat → Int32} {K : KS} {post : Int32 → HV → Prop} (h : RX hv v K) (hI : IV v K) (yes : ∀ p, p < cntN v → a = nI p → post 1 hv) (no : (∀ p, p < cntN v → ¬ a = nI p) → post 0 hv) : V_X9_isPump a hv post := by
  unfold V_X9_isPump
  rw [R_in, h.1, hI.1.1.2]
  have hn := hI.1.1.1
  have e1 : (nI (cntN v) - 1).toInt = (cntN v : Int) - 1 := by
    have e := nI_toInt (n := cntN v) (by omega)
    rw [i_sub (by rw [e, i1]; omega) (by rw [e, i1]; omega), e, i1]
  by_cases h0 : a < 0
  · rw [if_pos h0]
    refine ⟨bOK_b (Or.inl rfl), no (fun p hp e => ?_)⟩
    rw [e] at h0; exact nI_pos (by omega) h0
  · rw [if_neg h0]
    obtain ⟨j, hj, e⟩ := nI_of h0
    have ej := nI_toInt hj
    by_cases c : nI (cntN v) - 1 < a
    · rw [if_pos c]
      refine ⟨bOK_b (Or.inl rfl), no (fun p hp e2 => ?_)⟩
      rw [i_lt, e1, e2, nI_toInt (by omega)] at c; omega
    · rw [if_neg c]
      refine ⟨bOK_b (Or.inr rfl), yes j ?_ e⟩
      rw [i_lt, e1, e, ej] at c; omega
theorem R_yes {a : Int32} {p : Nat} {hv : HV} {v : Nat → Int32} {K : KS} {Q body : HV → Prop} (h : RX hv v K) (hI : IV v K) (hp : p < cntN v) (ea : a = nI p) (q : body hv) :
    V_X9_isPump a hv (fun r1 hv1 => ((r1 = 0 → Q hv1) ∧ (¬ (r1 = 0) → body hv1))) :=
  R_isP h hI (fun _ _ _ => ⟨fun z => absurd z (by decide), fun _ => q⟩) (fun no => absurd ea (no p hp))
theorem R_no {a : Int32} {hv : HV} {v : Nat → Int32} {K : KS} {Q body : HV → Prop} (h : RX hv v K) (hI : IV v K) (no : ∀ p, p < cntN v → ¬ a = nI p) (q : Q hv) :
    V_X9_isPump a hv (fun r1 hv1 => ((r1 = 0 → Q hv1) ∧ (¬ (r1 = 0) → body hv1))) :=
  R_isP h hI (fun p hp e => absurd e (no p hp)) (fun _ => ⟨fun _ => q, fun z => absurd rfl z⟩)
theorem R_atm {p : Nat} {a : Int32} {hv : HV} {Q : Nat → HV → Prop} (ea : a = nI p) (hp : p < 4) (q : Q (5 + 73 * p) hv) : V_X9_at a hv (fun r3 hv3 => (∃ m3 : Nat, r3 = nI m3 ∧ (m3 + 73 ≤ 370) ∧ Q m3 hv3)) := by
  rw [ea]
  exact R_at ⟨5 + 73 * p, rfl, by omega, q⟩
theorem PS_4 {hv : HV} {q k : Nat} {f : Nat → Int32} (h : PS hv q f) (hk : k ≤ 10) : hv 4 q k = f k := by rw [h.1]; exact if_pos hk
theorem PS_411 {hv : HV} {q : Nat} {f : Nat → Int32} (h : PS hv q f) : hv 4 q 11 = f 15 := by rw [h.1]; rfl
theorem PS_00 {hv : HV} {q : Nat} {f : Nat → Int32} (h : PS hv q f) : hv 0 q 0 = f 11 := by rw [h.2.1]; rfl
theorem PS_03 {hv : HV} {q : Nat} {f : Nat → Int32} (h : PS hv q f) : hv 0 q 3 = f 13 := by rw [h.2.1]; rfl
theorem PS_04 {hv : HV} {q : Nat} {f : Nat → Int32} (h : PS hv q f) : hv 0 q 4 = f 14 := by rw [h.2.1]; rfl
theorem PS_2 {hv : HV} {q k : Nat} {f : Nat → Int32} (h : PS hv q f) (hk : k < 6) : hv 2 q k = f (16 + k) := by rw [h.2.2]; exact if_pos hk
theorem CR_PS {hv : HV} {ex : Int32} {v : Nat → Int32} {K : KS} {p : Nat} (h : CR hv ex v K) (hp : p < cntN v) : PS hv p (sl v p) := by
  have z := (h.1.2 p hp).1
  rwa [Nat.mul_zero, Nat.zero_add] at z
theorem CR_PG {hv : HV} {ex : Int32} {v : Nat → Int32} {K : KS} {p : Nat} (h : CR hv ex v K) (hp : p < cntN v) : PG hv p (sl v p) := by
  have z := (h.1.2 p hp).2
  rwa [Nat.mul_zero, Nat.zero_add] at z
/-- a number of a pump that both keep -/
theorem J_told {a : Int32} {n : Nat} {x : Nat → HV → Int32} (hx : ∀ hv p f, PS hv p f → x p hv = f n) :
    JJ (fun hv post => V_X7_pumpAt 0 a hv (fun o1 hv1 => (o1 = none → post (-1001) hv1) ∧ (∀ r1 : Nat, o1 = some r1 → r1 < 37 → post (x r1 hv1) hv1))) (fun hv post => V_X9_told a n hv (fun r1 hv1 => post r1 hv1)) := by
  refine J_get fun hv v K hC hR hI _ => ?_
  have hn := hI.1.1.1
  by_cases e : ∃ p, p < cntN v ∧ a = nI p
  · obtain ⟨p, hp, ea⟩ := e
    refine ⟨sl v p n, fun post q => C_yes hC hI hp ea ?_, fun post q => ?_⟩
    · rw [hx hv p _ (CR_PS hC hp)]; exact q
    · unfold V_X9_told
      refine R_yes hR hI hp ea (R_atm ea (by omega) ?_)
      rw [hR.1]; exact q
  · have no : ∀ p, p < cntN v → ¬ a = nI p := fun p hp ea => e ⟨p, hp, ea⟩
    refine ⟨-1001, fun post q => C_no hC hI no q, fun post q => ?_⟩
    unfold V_X9_told
    exact R_no hR hI no q
theorem J_speed (a : Int32) : JJ (V_X8_speed a) (V_X9_speed a) := J_told (fun _ _ _ h => PS_4 h (by omega))
theorem J_openTicks (a : Int32) : JJ (V_X8_openTicks a) (V_X9_openTicks a) := J_told (fun _ _ _ h => PS_4 h (by omega))
theorem J_chamberWater (a : Int32) : JJ (V_X8_chamberWater a) (V_X9_chamberWater a) := J_told (fun _ _ _ h => PS_03 h)
theorem J_air (a : Int32) : JJ (V_X8_air a) (V_X9_air a) := J_told (fun _ _ _ h => PS_04 h)
theorem J_beats (a : Int32) : JJ (V_X8_beats a) (V_X9_beats a) := J_told (fun _ _ _ h => PS_2 h (by omega))
theorem J_wasted (a : Int32) : JJ (V_X8_wasted a) (V_X9_wasted a) := J_told (fun _ _ _ h => PS_2 h (by omega))
theorem J_relieved (a : Int32) : JJ (V_X8_relieved a) (V_X9_relieved a) := J_told (fun _ _ _ h => PS_2 h (by omega))
theorem J_lifted (a : Int32) : JJ (V_X8_lifted a) (V_X9_lifted a) := J_told (fun _ _ _ h => PS_2 h (by omega))
theorem J_overflowed (a : Int32) : JJ (V_X8_overflowed a) (V_X9_overflowed a) := J_told (fun _ _ _ h => PS_2 h (by omega))
theorem J_starved (a : Int32) : JJ (V_X8_starved a) (V_X9_starved a) := J_told (fun _ _ _ h => PS_2 h (by omega))
theorem J_tank (a : Int32) : JJ (V_X8_tank a) (V_X9_tank a) := J_told (fun _ _ _ h => PS_411 h)
theorem J_time : JJ V_X8_time V_X9_time := J_get fun hv v K hC hR hI _ => ⟨v 2, fun post q => by unfold V_X8_time; rw [hC.1.1.1]; exact q, fun post q => by unfold V_X9_time; rw [hR.1]; exact q⟩
theorem J_basin : JJ V_X8_basin V_X9_basin := J_get fun hv v K hC hR hI _ => ⟨v 0, fun post q => by unfold V_X8_basin; rw [hC.1.1.2.1]; exact q, fun post q => by unfold V_X9_basin; rw [hR.1]; exact q⟩
theorem J_spilled : JJ V_X8_spilled V_X9_spilled := J_get fun hv v K hC hR hI _ => ⟨v 3, fun post q => by unfold V_X8_spilled; rw [hC.1.1.2.2.1]; exact q, fun post q => by unfold V_X9_spilled; rw [hR.1]; exact q⟩
theorem J_pumps : JJ V_X8_pumps V_X9_pumps := J_get fun hv v K hC hR hI _ => ⟨v 4, fun post q => by unfold V_X8_pumps; rw [hC.1.1.2.2.2.2]; exact q, fun post q => by unfold V_X9_pumps; rw [hR.1]; exact q⟩
theorem J_incidents : JJ V_X8_incidents V_X9_incidents := J_get fun hv v K hC hR hI _ => ⟨nI K.1.1, fun post q => by unfold V_X8_incidents; rw [hC.2.1.1]; exact q, fun post q => by unfold V_X9_incidents; rw [hR.2.1.1]; exact q⟩
theorem J_failure : JJ V_X8_failure V_X9_failure := J_get fun hv v K hC hR hI _ => ⟨K.2.2.2, fun post q => by unfold V_X8_failure; rw [hC.2.2.2.2.2]; exact q, fun post q => by unfold V_X9_failure; rw [hR.2.2.2.2]; exact q⟩
theorem J_phase (a : Int32) : JJ (V_X8_phase a) (V_X9_phase a) := by
  refine J_get fun hv v K hC hR hI _ => ?_
  have hn := hI.1.1.1
  by_cases e : ∃ p, p < cntN v ∧ a = nI p
  · obtain ⟨p, hp, ea⟩ := e
    have hPI := (hI.1.2.1 p hp).1
    have s5 : hv 4 p 5 = sl v p 5 := PS_4 (CR_PS hC hp) (by omega)
    have s7 : hv 4 p 7 = sl v p 7 := PS_4 (CR_PS hC hp) (by omega)
    have t5 : hv 15 0 (5 + 73 * p + 5) = sl v p 5 := by rw [hR.1]; rfl
    have t7 : hv 15 0 (5 + 73 * p + 7) = sl v p 7 := by rw [hR.1]; rfl
    refine ⟨if sl v p 5 = 0 then 0 else 1 + sl v p 7, fun post q => ?_, fun post q => ?_⟩
    · unfold V_X8_phase
      refine C_yes hC hI hp ea ?_
      rw [s5, s7]
      refine ⟨fun c => by rwa [if_pos c] at q, fun c => ?_⟩
      rw [if_neg c] at q
      refine ⟨fun d => by rwa [d] at q, fun d => ?_⟩
      rw [hPI.h7.resolve_left d] at q
      exact q
    · unfold V_X9_phase
      refine R_yes hR hI hp ea (R_atm ea (by omega) ?_)
      rw [t5]
      refine ⟨fun c => by rwa [if_pos c] at q, fun c => R_atm ea (by omega) ?_⟩
      rw [if_neg c] at q
      rw [t7]; exact q
  · have no : ∀ p, p < cntN v → ¬ a = nI p := fun p hp ea => e ⟨p, hp, ea⟩
    refine ⟨-1001, fun post q => ?_, fun post q => ?_⟩
    · unfold V_X8_phase; exact C_no hC hI no q
    · unfold V_X9_phase; exact R_no hR hI no q
theorem J_chamberHead (a : Int32) : JJ (V_X8_chamberHead a) (V_X9_chamberHead a) := by
  refine J_get fun hv v K hC hR hI _ => ?_
  have hn := hI.1.1.1
  by_cases e : ∃ p, p < cntN v ∧ a = nI p
  · obtain ⟨p, hp, ea⟩ := e
    have hPI := (hI.1.2.1 p hp).1
    refine ⟨headF (sl v p), fun post q => ?_, fun post q => ?_⟩
    · unfold V_X8_chamberHead
      refine C_yes hC hI hp ea ?_
      have ek := mkC_id (CR_PS hC hp)
      rw [ek] at q ⊢
      exact C_head hPI.sp1 q
    · unfold V_X9_chamberHead
      refine R_yes hR hI hp ea (R_atm ea (by omega) ?_)
      have emk : mkR hv (putW (hv 15 0) (5 + 73 * p) (sl v p)) (hv 9 0) (hv 17 0) (hv 18 0) (hv 19 0) = hv := by
        have e1 : sl v p = fun j => hv 15 0 (5 + 73 * p + j) := by rw [hR.1]; rfl
        rw [e1]; exact mkR_sl _
      rw [← emk] at q ⊢
      exact (R_head hPI.sp0).mpr q
  · have no : ∀ p, p < cntN v → ¬ a = nI p := fun p hp ea => e ⟨p, hp, ea⟩
    refine ⟨-1001, fun post q => ?_, fun post q => ?_⟩
    · unfold V_X8_chamberHead; exact C_no hC hI no q
    · unfold V_X9_chamberHead; exact R_no hR hI no q
