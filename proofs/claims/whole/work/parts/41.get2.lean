/-! Rows: intervals, traces, incidents. -/
theorem nI_sub {a b : Nat} (h : b ≤ a) (ha : a < 2 ^ 31) : nI a - nI b = nI (a - b) := by
  rw [i_eq, i_sub (by rw [nI_toInt ha, nI_toInt (by omega)]; omega) (by rw [nI_toInt ha, nI_toInt (by omega)]; omega), nI_toInt ha, nI_toInt (by omega), nI_toInt (by omega)]
  omega
theorem nI_pred_lt {j n : Nat} (hn : n < 2 ^ 31) (hj : j < 2 ^ 31) : nI j ≤ nI n - 1 ↔ j < n := by
  have e1 : (nI n - 1).toInt = (n : Int) - 1 := by
    have e := nI_toInt hn
    rw [i_sub (by rw [e, i1]; omega) (by rw [e, i1]; omega), e, i1]
  rw [i_le, e1, nI_toInt hj]; omega
theorem C_latest {ir L : Nat} {a c : Int32} {hv : HV} {g : Nat → Int32} {post : Int32 → HV → Prop} (hl : rl ir = L) (hL : 0 < L ∧ L ≤ 32) (hr : RR L c g (hv 6 ir) (hv 10 ir)) (ha : 0 ≤ a) (hp : post (if c ≤ a then -1005 else g a.toNatClampNeg) hv) : V_X6_latest ir a hv post := by
  obtain ⟨n, nx, e1, e2, e3, e4, e5, e6⟩ := hr
  have ha2 : ¬ a < 0 := i_nlt.mpr ha
  obtain ⟨j, hj, ej⟩ := nI_of ha2
  unfold V_X6_latest
  rw [C_outside, e3, e4, hl, if_neg ha2, ej]
  rw [ej, e1, nI_clamp hj] at hp
  have h0 := nI_toInt (n := nx) (by omega)
  by_cases c1 : j < n
  · rw [if_pos ((nI_pred_lt (by omega) hj).mpr c1)]
    rw [if_neg (nI_ge c1 (by omega))] at hp
    refine ⟨fun _ x3 e => ?_, fun z => absurd rfl z⟩
    have s1 : (nI nx - 1).toInt = (nx : Int) - 1 := by rw [i_sub (by rw [h0, i1]; omega) (by rw [h0, i1]; omega), h0, i1]
    have s2 : x3.toInt = (nx : Int) - 1 - j := by rw [e, i_sub (by rw [s1, nI_toInt hj]; omega) (by rw [s1, nI_toInt hj]; omega), s1, nI_toInt hj]
    have fin : ∀ x : Int32, ∀ k : Nat, k < L → x = nI k → (nx + L - 1 - j) % L = k → V_X8_outside x 0 (nI L - 1) hv (fun r5 hv5 => ((r5 = 0 → (vp_in x L ∧ post (hv5 10 ir (Int32.toNatClampNeg x)) hv5)) ∧ (¬ (r5 = 0) → post (-1005) hv5))) := by
      intro x k hk ex em
      rw [C_outside, ex, if_neg (nI_pos (by omega)), if_pos ((nI_pred_lt (by omega) (by omega)).mpr hk), nI_clamp (by omega)]
      refine ⟨fun _ => ⟨vp_in_nI hk (by omega), ?_⟩, fun z => absurd rfl z⟩
      rw [← em, e6 j c1]; exact hp
    refine ⟨fun z => ?_, fun z x8 e8 => ?_⟩
    · rw [i_le, i0, s2] at z
      refine fin x3 (nx - 1 - j) (by omega) ?_ ?_
      · rw [i_eq, s2, nI_toInt (by omega)]; omega
      · rw [show nx + L - 1 - j = nx - 1 - j + L by omega, Nat.add_mod_right]
        exact Nat.mod_eq_of_lt (by omega)
    · rw [i_le, i0, s2] at z
      refine fin x8 (nx + L - 1 - j) (by omega) ?_ (Nat.mod_eq_of_lt (by omega))
      have hLi := nI_toInt (n := L) (by omega)
      rw [i_eq, e8, i_add (by rw [s2, hLi]; omega) (by rw [s2, hLi]; omega), s2, hLi, nI_toInt (by omega)]
      omega
  · rw [if_neg (fun z => c1 ((nI_pred_lt (by omega) hj).mp z))]
    rw [if_pos (nI_le (by omega) hj)] at hp
    exact ⟨fun z => absurd z (by decide), fun _ => hp⟩
theorem R_kept {a b : Int32} {n3 n4 n p : Nat} {hv : HV} {v : Nat → Int32} {K : KS} {post : Int32 → HV → Prop} (h : RX hv v K) (hI : IV v K) (hp : p < cntN v) (ea : a = nI p) (ec : sl v p n3 = nI n) (hn : n4 + n ≤ 73)
    (q : post (if 0 ≤ b then (if sl v p n3 ≤ b then -1005 else sl v p (n4 + b.toNatClampNeg)) else -1002) hv) : V_X9_kept a b n3 n4 hv post := by
  have h4 := hI.1.1.1
  unfold V_X9_kept
  refine R_yes h hI hp ea ⟨fun hb => ?_, fun hb => by rwa [if_neg hb] at q⟩
  rw [if_pos hb] at q
  refine R_atm ea (by omega) ?_
  have e3 : hv 15 0 (5 + 73 * p + n3) = sl v p n3 := by rw [h.1]; rfl
  rw [e3]
  refine ⟨fun c => by rwa [if_pos c] at q, fun c => R_atm ea (by omega) ?_⟩
  rw [if_neg c] at q
  obtain ⟨j, hj, ej⟩ := nI_of (i_nlt.mpr hb)
  rw [ec, ej, nI_leI (by omega) hj] at c
  rw [ej, nI_clamp hj] at q
  rw [ej, nI_add, nI_clamp (by omega), h.1]
  refine ⟨vp_in_nI (by omega) (by omega), ?_⟩
  rw [Nat.add_assoc]; exact q
theorem J_interval (a b : Int32) : JJ (V_X8_interval a b) (V_X9_interval a b) := by
  refine J_get fun hv v K hC hR hI _ => ?_
  have hn := hI.1.1.1
  by_cases e : ∃ p, p < cntN v ∧ a = nI p
  · obtain ⟨p, hp, ea⟩ := e
    have hG := (CR_PG hC hp).1
    obtain ⟨n, _, e1, e2, _⟩ := hG
    have hG := (CR_PG hC hp).1
    refine ⟨if 0 ≤ b then (if sl v p 23 ≤ b then -1005 else sl v p (24 + b.toNatClampNeg)) else -1002, fun post q => ?_, fun post q => ?_⟩
    · unfold V_X8_interval
      refine C_yes hC hI hp ea ⟨fun hb => ?_, fun hb => by rwa [if_neg hb] at q⟩
      rw [if_pos hb] at q
      exact C_latest (rl_i (by omega)) (by omega) hG hb q
    · exact R_kept hR hI hp ea e1 (by omega) q
  · have no : ∀ p, p < cntN v → ¬ a = nI p := fun p hp ea => e ⟨p, hp, ea⟩
    refine ⟨-1001, fun post q => ?_, fun post q => ?_⟩
    · unfold V_X8_interval; exact C_no hC hI no q
    · unfold V_X9_interval V_X9_kept; exact R_no hR hI no q
theorem J_trace (a b : Int32) : JJ (V_X8_trace a b) (V_X9_trace a b) := by
  refine J_get fun hv v K hC hR hI _ => ?_
  have hn := hI.1.1.1
  by_cases e : ∃ p, p < cntN v ∧ a = nI p
  · obtain ⟨p, hp, ea⟩ := e
    have hG := (CR_PG hC hp).2
    obtain ⟨n, _, e1, e2, _⟩ := hG
    have hG := (CR_PG hC hp).2
    refine ⟨if 0 ≤ b then (if sl v p 40 ≤ b then -1005 else sl v p (41 + b.toNatClampNeg)) else -1002, fun post q => ?_, fun post q => ?_⟩
    · unfold V_X8_trace
      refine C_yes hC hI hp ea ⟨fun hb => ?_, fun hb => by rwa [if_neg hb] at q⟩
      rw [if_pos hb] at q
      exact C_latest (rl_t (by omega)) (by omega) hG hb q
    · exact R_kept hR hI hp ea e1 (by omega) q
  · have no : ∀ p, p < cntN v → ¬ a = nI p := fun p hp ea => e ⟨p, hp, ea⟩
    refine ⟨-1001, fun post q => ?_, fun post q => ?_⟩
    · unfold V_X8_trace; exact C_no hC hI no q
    · unfold V_X9_trace V_X9_kept; exact R_no hR hI no q
/-- the answer of one of the three rows of incidents -/
def incF (h : Nat) (arr : Nat → Int32) (a : Int32) : Int32 := if 0 ≤ a then (if nI (min h 20) ≤ a then -1005 else arr ((h - 1 - a.toNatClampNeg) % 20)) else -1002
theorem C_inc {i0 h : Nat} {arr : Nat → Int32} {a : Int32} {hv : HV} {post : Int32 → HV → Prop} (hi : i0 = 74 ∨ i0 = 75 ∨ i0 = 76) (hr : RR 20 (nI (min h 20)) (fun b => arr ((h - 1 - b) % 20)) (hv 6 i0) (hv 10 i0)) (q : post (incF h arr a) hv) :
    (0 ≤ a → (V_X6_latest i0 a hv (fun r2 hv2 => post r2 hv2))) ∧ (¬ (0 ≤ a) → post (-1002) hv) := by
  unfold incF at q
  refine ⟨fun ha => ?_, fun ha => by rwa [if_neg ha] at q⟩
  rw [if_pos ha] at q
  refine C_latest (L := 20) ?_ (by omega) hr ha q
  rcases hi with e | e | e <;> subst e <;> decide
theorem R_inc {h k : Nat} {arr : Nat → Int32} {a : Int32} {hv : HV} {post : Int32 → HV → Prop} (hh : h < 2 ^ 31) (e6 : hv 9 0 6 = nI h) (ek : hv k 0 = arr) (q : post (incF h arr a) hv) :
    V_X9_place a hv (fun r1 hv1 => ((0 ≤ r1 → (vp_in r1 20 ∧ post (hv1 k 0 (Int32.toNatClampNeg r1)) hv1)) ∧ (¬ (0 ≤ r1) → post r1 hv1))) := by
  unfold V_X9_place
  unfold incF at q
  refine ⟨fun ha => ?_, fun ha => ?_⟩
  · rw [if_pos ha] at q
    obtain ⟨j, hj, ej⟩ := nI_of (i_nlt.mpr ha)
    subst ej
    rw [nI_clamp hj] at q
    refine ⟨fun c => ?_, fun c => ⟨fun d => ?_, fun d => ?_⟩⟩
    · have c2 : nI 20 ≤ nI j := c
      rw [nI_leI (by omega) hj] at c2
      rw [if_pos (nI_le (by omega) hj)] at q
      exact ⟨fun z => absurd z (by decide), fun _ => q⟩
    · rw [e6, nI_leI hh hj] at d
      rw [if_pos (nI_le (by omega) hj)] at q
      exact ⟨fun z => absurd z (by decide), fun _ => q⟩
    · have c2 : ¬ nI 20 ≤ nI j := c
      rw [nI_leI (by omega) hj] at c2
      rw [e6, nI_leI hh hj] at d
      rw [if_neg (nI_ge (by omega) (by omega))] at q
      have e1 : hv 9 0 6 - 1 - nI j = nI (h - 1 - j) := by
        rw [e6]
        show nI h - nI 1 - nI j = _
        rw [nI_sub (by omega) hh, nI_sub (by omega) (by omega)]
      rw [e1, rem20 (nI_pos (by omega)), nI_clamp (by omega)]
      have hl : (h - 1 - j) % 20 < 20 := Nat.mod_lt _ (by omega)
      refine ⟨fun _ => ⟨vp_in_nI hl (by omega), ?_⟩, fun z => absurd (nI_pos' (by omega)) z⟩
      rw [nI_clamp (by omega), ek]; exact q
  · rw [if_neg ha] at q
    exact ⟨fun z => absurd z (by decide), fun _ => q⟩
theorem J_incidentKind (a : Int32) : JJ (V_X8_incidentKind a) (V_X9_incidentKind a) := J_get fun hv v K hC hR hI hL => ⟨incF K.1.1 K.1.2.1 a, fun post q => C_inc (Or.inl rfl) hC.2.1.2.1 q, fun post q => R_inc hL hR.2.1.1 hR.2.1.2.1 q⟩
theorem J_incidentPump (a : Int32) : JJ (V_X8_incidentPump a) (V_X9_incidentPump a) := J_get fun hv v K hC hR hI hL => ⟨incF K.1.1 K.1.2.2.1 a, fun post q => C_inc (Or.inr (Or.inl rfl)) hC.2.1.2.2.1 q, fun post q => R_inc hL hR.2.1.1 hR.2.1.2.2.1 q⟩
theorem J_incidentTime (a : Int32) : JJ (V_X8_incidentTime a) (V_X9_incidentTime a) := J_get fun hv v K hC hR hI hL => ⟨incF K.1.1 K.1.2.2.2 a, fun post q => C_inc (Or.inr (Or.inr rfl)) hC.2.1.2.2.2 q, fun post q => R_inc hL hR.2.1.1 hR.2.1.2.2.2 q⟩
