/-! Answers of the class alone. -/
theorem and_pos (a : Int32) : ¬ (a &&& 2147483647) < 0 := by
  intro h
  have h2 : (a &&& 2147483647).toInt < 0 := by rw [i_lt, i0] at h; exact h
  have h3 : (a.toBitVec &&& (2147483647 : Int32).toBitVec).toInt < 0 := h2
  have h4 : (a.toBitVec &&& (2147483647 : Int32).toBitVec).msb = false := by
    rw [BitVec.msb_and, show (2147483647 : Int32).toBitVec.msb = false from by decide, Bool.and_false]
  rw [BitVec.toInt_eq_msb_cond, h4] at h3
  simp at h3
  omega
/-- the law's low: a number from 0 to n - 1 -/
theorem L_low {a n : Int32} {N : Nat} {hv : HV} {post : Int32 → HV → Prop} (hn : n = nI N) (h0 : 0 < N) (h1 : N < 2 ^ 31) (q : ∀ j : Nat, j < N → post (nI j) hv) : V_L_low a n hv post := by
  unfold V_L_low
  obtain ⟨j, hj, e⟩ := nI_of (and_pos a)
  subst hn
  refine ⟨nI_ne0 h0 h1, ?_⟩
  rw [e, pk_rem hj h0 h1]
  exact q _ (Nat.mod_lt _ h0)
def phF (f : Nat → Int32) : Int32 := if f 5 = 0 then 0 else 1 + f 7
section GT
variable {hv : HV} {v : Nat → Int32} {K : KS} {p : Nat} {a b : Int32} {post : Int32 → HV → Prop}
theorem g_told {n : Nat} {x : Nat → HV → Int32} (hx : ∀ hv p f, PS hv p f → x p hv = f n) (h : CR hv 0 v K) (hI : IV v K) (hp : p < cntN v) (q : post (sl v p n) hv) :
    V_X7_pumpAt 0 (nI p) hv (fun o1 hv1 => (o1 = none → post (-1001) hv1) ∧ (∀ r1 : Nat, o1 = some r1 → r1 < 37 → post (x r1 hv1) hv1)) := by
  refine C_yes h hI hp rfl ?_
  rw [hx hv p _ (CR_PS h hp)]; exact q
theorem g_speed (h : CR hv 0 v K) (hI : IV v K) (hp : p < cntN v) (q : post (sl v p 6) hv) : V_X8_speed (nI p) hv post := g_told (n := 6) (x := fun r hv => hv 4 r 6) (fun _ _ _ h => PS_4 h (by omega)) h hI hp q
theorem g_openTicks (h : CR hv 0 v K) (hI : IV v K) (hp : p < cntN v) (q : post (sl v p 8) hv) : V_X8_openTicks (nI p) hv post := g_told (n := 8) (x := fun r hv => hv 4 r 8) (fun _ _ _ h => PS_4 h (by omega)) h hI hp q
theorem g_chamberWater (h : CR hv 0 v K) (hI : IV v K) (hp : p < cntN v) (q : post (sl v p 13) hv) : V_X8_chamberWater (nI p) hv post := g_told (n := 13) (x := fun r hv => hv 0 r 3) (fun _ _ _ h => PS_03 h) h hI hp q
theorem g_beats (h : CR hv 0 v K) (hI : IV v K) (hp : p < cntN v) (q : post (sl v p 16) hv) : V_X8_beats (nI p) hv post := g_told (n := 16) (x := fun r hv => hv 2 r 0) (fun _ _ _ h => PS_2 h (by omega)) h hI hp q
theorem g_wasted (h : CR hv 0 v K) (hI : IV v K) (hp : p < cntN v) (q : post (sl v p 17) hv) : V_X8_wasted (nI p) hv post := g_told (n := 17) (x := fun r hv => hv 2 r 1) (fun _ _ _ h => PS_2 h (by omega)) h hI hp q
theorem g_relieved (h : CR hv 0 v K) (hI : IV v K) (hp : p < cntN v) (q : post (sl v p 18) hv) : V_X8_relieved (nI p) hv post := g_told (n := 18) (x := fun r hv => hv 2 r 2) (fun _ _ _ h => PS_2 h (by omega)) h hI hp q
theorem g_lifted (h : CR hv 0 v K) (hI : IV v K) (hp : p < cntN v) (q : post (sl v p 19) hv) : V_X8_lifted (nI p) hv post := g_told (n := 19) (x := fun r hv => hv 2 r 3) (fun _ _ _ h => PS_2 h (by omega)) h hI hp q
theorem g_overflowed (h : CR hv 0 v K) (hI : IV v K) (hp : p < cntN v) (q : post (sl v p 20) hv) : V_X8_overflowed (nI p) hv post := g_told (n := 20) (x := fun r hv => hv 2 r 4) (fun _ _ _ h => PS_2 h (by omega)) h hI hp q
theorem g_starved (h : CR hv 0 v K) (hI : IV v K) (hp : p < cntN v) (q : post (sl v p 21) hv) : V_X8_starved (nI p) hv post := g_told (n := 21) (x := fun r hv => hv 2 r 5) (fun _ _ _ h => PS_2 h (by omega)) h hI hp q
theorem g_tank (h : CR hv 0 v K) (hI : IV v K) (hp : p < cntN v) (q : post (sl v p 15) hv) : V_X8_tank (nI p) hv post := g_told (n := 15) (x := fun r hv => hv 4 r 11) (fun _ _ _ h => PS_411 h) h hI hp q
theorem g_time (h : CR hv 0 v K) (q : post (v 2) hv) : V_X8_time hv post := by unfold V_X8_time; rw [h.1.1.1]; exact q
theorem g_basin (h : CR hv 0 v K) (q : post (v 0) hv) : V_X8_basin hv post := by unfold V_X8_basin; rw [h.1.1.2.1]; exact q
theorem g_spilled (h : CR hv 0 v K) (q : post (v 3) hv) : V_X8_spilled hv post := by unfold V_X8_spilled; rw [h.1.1.2.2.1]; exact q
theorem g_pumps (h : CR hv 0 v K) (hI : IV v K) (q : post (nI (cntN v)) hv) : V_X8_pumps hv post := by unfold V_X8_pumps; rw [h.1.1.2.2.2.2, hI.1.1.2]; exact q
theorem g_incidents (h : CR hv 0 v K) (q : post (nI K.1.1) hv) : V_X8_incidents hv post := by unfold V_X8_incidents; rw [h.2.1.1]; exact q
theorem g_phase (h : CR hv 0 v K) (hI : IV v K) (hp : p < cntN v) (q : post (phF (sl v p)) hv) : V_X8_phase (nI p) hv post := by
  have hPI := (hI.1.2.1 p hp).1
  have s5 : hv 4 p 5 = sl v p 5 := PS_4 (CR_PS h hp) (by omega)
  have s7 : hv 4 p 7 = sl v p 7 := PS_4 (CR_PS h hp) (by omega)
  unfold phF at q
  unfold V_X8_phase
  refine C_yes h hI hp rfl ?_
  rw [s5, s7]
  refine ⟨fun c => by rwa [if_pos c] at q, fun c => ?_⟩
  rw [if_neg c] at q
  refine ⟨fun d => by rwa [d] at q, fun d => ?_⟩
  rw [hPI.h7.resolve_left d] at q
  exact q
theorem g_chamberHead (h : CR hv 0 v K) (hI : IV v K) (hp : p < cntN v) (q : post (headF (sl v p)) hv) : V_X8_chamberHead (nI p) hv post := by
  have hPI := (hI.1.2.1 p hp).1
  have hn := hI.1.1.1
  unfold V_X8_chamberHead
  refine C_yes h hI hp rfl ?_
  have ek := mkC_id (CR_PS h hp)
  rw [ek] at q ⊢
  exact C_head hPI.sp1 q
theorem g_interval (h : CR hv 0 v K) (hI : IV v K) (hp : p < cntN v) {j : Nat} (hj : j < 2 ^ 31) (q : post (if sl v p 23 ≤ nI j then -1005 else sl v p (24 + j)) hv) : V_X8_interval (nI p) (nI j) hv post := by
  have hn := hI.1.1.1
  unfold V_X8_interval
  refine C_yes h hI hp rfl ⟨fun hb => ?_, fun hb => absurd (nI_pos' hj) hb⟩
  refine C_latest (L := 16) (rl_i (by omega)) (by omega) (CR_PG h hp).1 hb ?_
  rw [nI_clamp hj]; exact q
theorem g_trace (h : CR hv 0 v K) (hI : IV v K) (hp : p < cntN v) {j : Nat} (hj : j < 2 ^ 31) (q : post (if sl v p 40 ≤ nI j then -1005 else sl v p (41 + j)) hv) : V_X8_trace (nI p) (nI j) hv post := by
  have hn := hI.1.1.1
  unfold V_X8_trace
  refine C_yes h hI hp rfl ⟨fun hb => ?_, fun hb => absurd (nI_pos' hj) hb⟩
  refine C_latest (L := 32) (rl_t (by omega)) (by omega) (CR_PG h hp).2 hb ?_
  rw [nI_clamp hj]; exact q
theorem g_efficiency (h : CR hv 0 v K) (hI : IV v K) (hp : p < cntN v) (q : post (efF (sl v p)) hv) : V_X8_efficiency (nI p) hv post := by
  unfold V_X8_efficiency
  exact C_yes h hI hp rfl (C_eff h hI hp q)
theorem g_bestPump (h : CR hv 0 v K) (hI : IV v K) (q : post (bestF v (cntN v) 0 (-1005) (-1005)) hv) : V_X8_bestPump hv post :=
  ⟨cntN v + 1, C_bestL h hI (cntN v) _ 0 _ _ (by omega) (by omega) (by rw [bestF_eq hI.1 _ _ _ (by omega)]; exact q)⟩
theorem g_incidentKind (h : CR hv 0 v K) (q : post (incF K.1.1 K.1.2.1 a) hv) : V_X8_incidentKind a hv post := C_inc (Or.inl rfl) h.2.1.2.1 q
theorem g_incidentPump (h : CR hv 0 v K) (q : post (incF K.1.1 K.1.2.2.1 a) hv) : V_X8_incidentPump a hv post := C_inc (Or.inr (Or.inl rfl)) h.2.1.2.2.1 q
theorem g_incidentTime (h : CR hv 0 v K) (q : post (incF K.1.1 K.1.2.2.2 a) hv) : V_X8_incidentTime a hv post := C_inc (Or.inr (Or.inr rfl)) h.2.1.2.2.2 q
/-- without pumps: every number is refused -/
theorem no_pump (hn : cntN v = 0) : ∀ p, p < cntN v → ¬ a = nI p := fun p hp => by omega
theorem n_phase (h : CR hv 0 v K) (hI : IV v K) (hn : cntN v = 0) (q : post (-1001) hv) : V_X8_phase a hv post := by unfold V_X8_phase; exact C_no h hI (no_pump hn) q
theorem n_chamberWater (h : CR hv 0 v K) (hI : IV v K) (hn : cntN v = 0) (q : post (-1001) hv) : V_X8_chamberWater a hv post := by unfold V_X8_chamberWater; exact C_no h hI (no_pump hn) q
theorem n_tank (h : CR hv 0 v K) (hI : IV v K) (hn : cntN v = 0) (q : post (-1001) hv) : V_X8_tank a hv post := by unfold V_X8_tank; exact C_no h hI (no_pump hn) q
theorem pn_in (hV : VI v) (hp : p < cntN v) : pn v (nI p) = p := by
  have hn := hV.1.1
  rcases pn_cases hV (nI p) with ⟨z, e⟩ | ⟨z, _⟩
  · exact ((nI_eq (by omega) (by omega)).mp e).symm
  · exact absurd rfl (z p hp)
theorem pn_no (hV : VI v) (hn : cntN v = 0) (a : Int32) : pn v a = 4 := by
  rcases pn_cases hV a with ⟨z, _⟩ | ⟨_, e⟩
  · omega
  · exact e
/-- trials -/
theorem g_deliveredIn (h : CR hv 0 v K) (hI : IV v K) (hp : p < cntN v) {T : Nat} (h1 : 1 ≤ T) (hT : T ≤ 500) (q : ∀ hv', (∀ c i, ¬ tkey c i → hv' c i = hv c i) → post (dlN (sl v p) T) hv') : V_X8_deliveredIn (nI p) (nI T) hv post := by
  unfold V_X8_deliveredIn
  refine C_yes h hI hp rfl ?_
  rw [C_outside]
  have e500 : nI T ≤ 500 := nI_le (b := 500) hT (by omega)
  rw [if_neg (show ¬ nI T < 1 from nI_nlt (b := 1) h1 (by omega)), if_pos e500]
  refine ⟨fun _ => ?_, fun z => absurd rfl z⟩
  refine C_take hI h hp (fun hv1 k1 k2 => ?_)
  exact C_dl (T := T) (post := fun r5 hv5 => post r5 hv5) hT (CTr_of (hI.1.2.1 _ hp).1 k1) (fun hv2 g => q hv2 (fun c i z => (g c i z).trans (k2 c i z)))
theorem g_drawnIn (h : CR hv 0 v K) (hI : IV v K) (hp : p < cntN v) {T : Nat} (h1 : 1 ≤ T) (hT : T ≤ 500) (q : ∀ hv', (∀ c i, ¬ tkey c i → hv' c i = hv c i) → post (drN (sl v p) T) hv') : V_X8_drawnIn (nI p) (nI T) hv post := by
  unfold V_X8_drawnIn
  refine C_yes h hI hp rfl ?_
  rw [C_outside]
  have e500 : nI T ≤ 500 := nI_le (b := 500) hT (by omega)
  rw [if_neg (show ¬ nI T < 1 from nI_nlt (b := 1) h1 (by omega)), if_pos e500]
  refine ⟨fun _ => ?_, fun z => absurd rfl z⟩
  refine C_take hI h hp (fun hv1 k1 k2 => ⟨T + 1, ?_⟩)
  exact C_drLoop (f := sl v p) rfl hT T _ 0 hv1 (by omega) (by omega) (CTr_of (hI.1.2.1 _ hp).1 k1) (fun hv2 g => q hv2 (fun c i z => (g c i z).trans (k2 c i z)))
theorem g_ticksToSlam (h : CR hv 0 v K) (hI : IV v K) (hp : p < cntN v) (q : ∀ hv', (∀ c i, ¬ tkey c i → hv' c i = hv c i) → post (tsF (sl v p) 2000 0) hv') : V_X8_ticksToSlam (nI p) hv post := by
  unfold V_X8_ticksToSlam
  refine C_yes h hI hp rfl (C_take hI h hp (fun hv1 k1 k2 => ⟨2001, ?_⟩))
  exact C_tsLoop (f := sl v p) 2000 2001 0 hv1 (by omega) (by omega) (CTr_of (hI.1.2.1 _ hp).1 k1) (fun hv2 g => q hv2 (fun c i z => (g c i z).trans (k2 c i z)))
/-- what undo gives back -/
theorem g_undo {v0 : Nat → Int32} {b : Nat} {H : Nat → Nat → Int32} {L : LG} {X : (Nat × (Nat → Int32)) × Int32} (h : CR hv 0 v (L, (b + 1, H), X)) (hI : IV v (L, (b + 1, H), X)) (e0 : H 0 = v0)
    (q : ∀ hv', CR hv' 0 v0 (L, (b, fun j => H (j + 1)), X) → cfr hv hv' → IV v0 (L, (b, fun j => H (j + 1)), X) → post (nI b) hv') : V_X8_undo hv post := by
  obtain ⟨a1, a2, a3, ⟨a4, a5⟩, a6, a7⟩ := id h
  refine C_undo (b := b + 1) (H := H) hI.2.1.1 hI.2.1.2 a3 (fun e => absurd e (by omega)) (fun c ec hv1 k1 k2 k3 k4 => ?_)
  have e2 : c = b := by omega
  subst e2
  have hV0 : VI (H 0) := hI.2.1.2 0 (by show 0 < c + 1; omega)
  have hH : ∀ j, j < c → VI (H (j + 1)) := fun j hj => hI.2.1.2 (j + 1) (by show j + 1 < c + 1; omega)
  have hb : c ≤ 8 := by have : c + 1 ≤ 8 := hI.2.1.1; omega
  rw [← e0] at q
  refine q hv1 ⟨k1, ?_, k2, ⟨?_, ?_⟩, ?_, ?_⟩ (fun c i z => k4 c i (fun y => by unfold skey at y; omega) (by omega)) ⟨hV0, ⟨hb, hH⟩, hI.2.2⟩
  · exact CL_fr (fun c i z => k4 c i (fun y => by unfold skey at y; unfold lkey at z; omega) (by unfold lkey at z; omega)) a2
  · rw [k4 1 0 (by unfold skey; omega) (by omega)]; exact a4
  · rw [k4 13 0 (by unfold skey; omega) (by omega)]; exact a5
  · rw [k3 4 (by omega) (by omega)]; exact a6
  · rw [k3 5 (by omega) (by omega)]; exact a7
end GT
