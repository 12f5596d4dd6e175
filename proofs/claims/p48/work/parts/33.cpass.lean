abbrev ST : Type := (Nat → Int32) × LG × Int32
/-- pump p's tick at the station -/
def pumpS (p : Nat) (S : ST) : ST :=
  if S.1 (5 + 73 * p + 5) = 0 then S else
    (putW (upd S.1 0 (basF (S.1 0) (sl S.1 p))) (5 + 73 * p) (tickF (S.1 2) (S.1 0) (sl S.1 p)),
     addL (delI true (st1F (S.1 2) (S.1 0) (sl S.1 p))) (nI p) (S.1 2) (addL (st1I (S.1 0) (sl S.1 p)) (nI p) (S.1 2) S.2.1),
     S.2.2 + litF (st1F (S.1 2) (S.1 0) (sl S.1 p)))
def pumpsS (p : Nat) : Nat → ST → ST
  | 0, S => S
  | m + 1, S => pumpsS (p + 1) m (pumpS p S)
/-- between two pumps of one tick: the pumps below p have ticked -/
def VM (p : Nat) (v : Nat → Int32) : Prop := (cntN v ≤ 4 ∧ v 4 = nI (cntN v)) ∧ (∀ q, q < cntN v → PI (sl v q) ∧ CI ((v 2).toInt + (if q < p then 1 else 0)) (sl v q)) ∧ (0 ≤ (v 0).toInt ∧ (v 0).toInt ≤ 20000) ∧ (0 ≤ (v 1).toInt ∧ (v 1).toInt ≤ 500) ∧ (0 ≤ (v 2).toInt ∧ (v 2).toInt < 20000)
theorem VM_0 {v : Nat → Int32} (h : VI v) (ht : (v 2).toInt < 20000) : VM 0 v := ⟨h.1, fun q hq => ⟨(h.2.1 q hq).1, by rw [if_neg (by omega)]; exact CI_c (fun _ _ _ => rfl) (by rw [Int.add_zero]; exact (h.2.1 q hq).2)⟩, h.2.2.1, h.2.2.2.1, ⟨h.2.2.2.2.1, ht⟩⟩
theorem basF_b {b : Int32} {f : Nat → Int32} (h : PI f) (hb : 0 ≤ b.toInt ∧ b.toInt ≤ 20000) : 0 ≤ (basF b f).toInt ∧ (basF b f).toInt ≤ 20000 := by
  have hw := h.flow
  unfold basF
  by_cases c : flowF f ≤ b
  · rw [if_pos c]; rw [i_le] at c; rw [i_sub (by omega) (by omega)]; omega
  · rw [if_neg c]; exact hb
theorem pumpS_lo {p : Nat} {S : ST} (j : Nat) (h : j < 5) (h0 : ¬ j = 0) : (pumpS p S).1 j = S.1 j := by
  unfold pumpS
  by_cases c : S.1 (5 + 73 * p + 5) = 0
  · rw [if_pos c]
  · rw [if_neg c]
    show putW _ _ _ j = _
    rw [pw_lo _ _ _ _ (by omega), upd_n _ _ h0]
theorem pumpS_cnt {p : Nat} {S : ST} : cntN (pumpS p S).1 = cntN S.1 := by unfold cntN; rw [pumpS_lo 4 (by omega) (by omega)]
theorem pumpS_sl {p q : Nat} {S : ST} (h : ¬ q = p) (j : Nat) (hj : j < 73) : sl (pumpS p S).1 q j = sl S.1 q j := by
  unfold pumpS
  by_cases c : S.1 (5 + 73 * p + 5) = 0
  · rw [if_pos c]
  · rw [if_neg c]
    show sl (putW _ _ _) q j = _
    rw [sl_putO _ _ _ _ _ h hj, sl_upd _ _ _ _ _ (by omega)]
theorem VM_step {p : Nat} {S : ST} (h : VM p S.1) (hp : p < cntN S.1) : VM (p + 1) (pumpS p S).1 := by
  obtain ⟨h1, h2, h3, h4, h5⟩ := h
  unfold VM
  rw [pumpS_cnt, pumpS_lo 4 (by omega) (by omega), pumpS_lo 2 (by omega) (by omega), pumpS_lo 1 (by omega) (by omega)]
  have hP := h2 p hp
  rw [if_neg (by omega), Int.add_zero] at hP
  refine ⟨h1, fun q hq => ?_, ?_, h4, h5⟩
  · by_cases e : q = p
    · subst e
      rw [if_pos (by omega)]
      unfold pumpS
      by_cases c : S.1 (5 + 73 * q + 5) = 0
      · rw [if_pos c]; exact ⟨hP.1, CI_up hP.2⟩
      · rw [if_neg c]
        refine ⟨PI_c (fun j hj _ => sl_putW _ _ _ _ (by omega)) (PI_tick hP.1 (S.1 2) (S.1 0)), CI_c (fun j _ hj => sl_putW _ _ _ _ (by omega)) (CI_tick hP.1 hP.2 ⟨h5.1, by omega⟩ (S.1 2) (S.1 0))⟩
    · obtain ⟨a, b⟩ := h2 q hq
      refine ⟨PI_c (fun j hj _ => pumpS_sl e j (by omega)) a, CI_c (fun j _ hj => pumpS_sl e j (by omega)) ?_⟩
      by_cases d : q < p
      · rw [if_pos d] at b; rw [if_pos (by omega)]; exact b
      · rw [if_neg d] at b; rw [if_neg (by omega)]; exact b
  · unfold pumpS
    by_cases c : S.1 (5 + 73 * p + 5) = 0
    · rw [if_pos c]; exact h3
    · rw [if_neg c]
      show 0 ≤ (putW _ _ _ 0).toInt ∧ (putW _ _ _ 0).toInt ≤ 20000
      rw [pw_lo _ _ _ _ (by omega), upd_s]
      exact basF_b hP.1 h3
/-- the cells that a tick of the station may change -/
def ckey (c i : Nat) : Prop := (c = 7 ∧ i = 0) ∨ ((c = 4 ∨ c = 0 ∨ c = 2) ∧ i < 4) ∨ ((c = 6 ∨ c = 10) ∧ i < 8) ∨ (c = 5 ∧ i = 0) ∨ lkey c i
theorem pumpS_L {p : Nat} {S : ST} : (pumpS p S).2.1.1 ≤ S.2.1.1 + 2 := by
  unfold pumpS
  by_cases c : S.1 (5 + 73 * p + 5) = 0
  · rw [if_pos c]; omega
  · rw [if_neg c]
    have h1 := addL_le (delI true (st1F (S.1 2) (S.1 0) (sl S.1 p))) (nI p) (S.1 2) (addL (st1I (S.1 0) (sl S.1 p)) (nI p) (S.1 2) S.2.1)
    have h2 := addL_le (st1I (S.1 0) (sl S.1 p)) (nI p) (S.1 2) S.2.1
    show (addL _ _ _ _).1 ≤ _
    omega
/-- one pump of the loop -/
theorem C_onePump {p : Nat} {S : ST} {hv : HV} {d D : Int32} {post : Int32 → HV → Prop} (hp4 : p < cntN S.1) (hV : VM p S.1) (hC : CS hv 0 S.1) (hL : CL hv S.2.1) (hLb : S.2.1.1 + 2 < 2 ^ 31) (hD : S.2.2 = D + d) (hrun : ¬ hv 4 p 5 = 0)
    (hp : ∀ hv' d', CS hv' 0 (pumpS p S).1 → CL hv' (pumpS p S).2.1 → (pumpS p S).2.2 = D + d' → (∀ c i, ¬ ckey c i → hv' c i = hv c i) → post d' hv') :
    V_X4_tick p (hv 7 0 1) (hv 7 0 0) hv (fun hv7 => (∀ hv8 : HV, hv8 = up hv7 7 0 (upd (hv7 7 0) 1 ((hv7 7 0 1) - (hv7 5 0 0))) → (∀ x9 : Int32, x9 = (d + (hv8 5 0 1)) → (V_X8_noteIncidents (nI p) hv8 (fun hv10 => post x9 hv10))))) := by
  have hn := hV.1.1
  obtain ⟨⟨a0, a1, a2, a3, a4⟩, hq⟩ := hC
  obtain ⟨b1, b2⟩ := hq p hp4
  have e40 : 4 * 0 + p = p := by omega
  rw [e40] at b1 b2
  have hPI := (hV.2.1 p hp4).1
  have hr5 : ¬ S.1 (5 + 73 * p + 5) = 0 := by
    have e : hv 4 p 5 = sl S.1 p 5 := by rw [b1.1, encP_5]
    rw [e] at hrun
    exact hrun
  have eS : pumpS p S = (putW (upd S.1 0 (basF (S.1 0) (sl S.1 p))) (5 + 73 * p) (tickF (S.1 2) (S.1 0) (sl S.1 p)), addL (delI true (st1F (S.1 2) (S.1 0) (sl S.1 p))) (nI p) (S.1 2) (addL (st1I (S.1 0) (sl S.1 p)) (nI p) (S.1 2) S.2.1), S.2.2 + litF (st1F (S.1 2) (S.1 0) (sl S.1 p))) := if_neg hr5
  rw [a0, a1]
  refine C_tickH (by omega) hPI b1 b2 ?_
  intro hv7 hRP hPS hPG hfr
  intro hv8 e8 x9 e9
  have k7 : ¬ pkey p 7 0 := by unfold pkey; omega
  have n5 : ¬ ((5 : Nat) = 7 ∧ (0 : Nat) = 0) := by omega
  have r8 : ∀ c i, ¬ (c = 7 ∧ i = 0) → hv8 c i = hv7 c i := fun c i h => by rw [e8]; exact up_n _ _ h
  have hL8 : CL hv8 S.2.1 := CL_fr (fun c i h => by
    rw [r8 c i (by unfold lkey at h; omega), hfr c i (by unfold lkey at h; unfold pkey; omega)]) hL
  have h70 : hv8 7 0 0 = S.1 2 := by rw [e8, up_s, upd_n _ _ (by omega), hfr 7 0 k7, a0]
  refine C_note hL8 hLb ?_
  intro hv10 hL10 hfr10
  rw [r8 5 0 n5, h70] at hL10
  obtain ⟨q0, q1, q2, q3, q4⟩ := hRP
  have hov : (if hv7 5 0 4 = 0 then (0 : Int32) else 3) = delI true (st1F (S.1 2) (S.1 0) (sl S.1 p)) := by
    rw [q4]
    unfold delI
    by_cases c : overTF (st1F (S.1 2) (S.1 0) (sl S.1 p))
    · rw [if_pos c, if_neg (by decide), if_pos ⟨rfl, c⟩]
    · rw [if_neg c, if_pos rfl, if_neg (fun z => c z.2)]
  rw [hov, q3] at hL10
  have hbas : hv8 7 0 1 = basF (S.1 0) (sl S.1 p) := by
    rw [e8, up_s, upd_s, hfr 7 0 k7, a1, q0]
    unfold basF
    by_cases c : flowF (sl S.1 p) ≤ S.1 0
    · rw [if_pos c, if_pos c]
    · rw [if_neg c, if_neg c, Int32.sub_zero]
  have ecn : cntN (pumpS p S).1 = cntN S.1 := pumpS_cnt
  refine hp hv10 x9 ⟨?_, ?_⟩ (by rw [eS]; exact hL10) ?_ ?_
  · have l7 : ¬ lkey 7 0 := by unfold lkey; omega
    rw [hfr10 7 0 l7, h70, hbas, pumpS_lo 1 (by omega) (by omega), pumpS_lo 2 (by omega) (by omega), pumpS_lo 3 (by omega) (by omega), pumpS_lo 4 (by omega) (by omega)]
    have e2 : hv8 7 0 2 = S.1 3 := by rw [e8, up_s, upd_n _ _ (by omega), hfr 7 0 k7, a2]
    have e3 : hv8 7 0 3 = S.1 1 := by rw [e8, up_s, upd_n _ _ (by omega), hfr 7 0 k7, a3]
    have e4 : hv8 7 0 4 = S.1 4 := by rw [e8, up_s, upd_n _ _ (by omega), hfr 7 0 k7, a4]
    have e0 : (pumpS p S).1 0 = basF (S.1 0) (sl S.1 p) := by rw [eS]; show putW _ _ _ 0 = _; rw [pw_lo _ _ _ _ (by omega), upd_s]
    rw [e0, e2, e3, e4]
    exact ⟨rfl, rfl, rfl, rfl, rfl⟩
  · intro q hq2
    rw [ecn] at hq2
    have e40q : 4 * 0 + q = q := by omega
    rw [e40q]
    have fr : ∀ c i, ((c = 4 ∨ c = 0 ∨ c = 2) ∧ i = q) ∨ ((c = 6 ∨ c = 10) ∧ (i = 2 * q ∨ i = 2 * q + 1)) → hv10 c i = hv7 c i := by
      intro c i h
      rw [hfr10 c i (by unfold lkey; omega), r8 c i (by omega)]
    by_cases e : q = p
    · subst e
      have esl : ∀ j, j < 73 → tickF (S.1 2) (S.1 0) (sl S.1 q) j = sl (pumpS q S).1 q j := by
        intro j hj; rw [eS]; exact (sl_putW _ _ _ _ hj).symm
      exact ⟨PS_cg (fun j hj => esl j (by omega)) (PS_fr (fr _ _ (Or.inl ⟨Or.inl rfl, rfl⟩)) (fr _ _ (Or.inl ⟨Or.inr (Or.inl rfl), rfl⟩)) (fr _ _ (Or.inl ⟨Or.inr (Or.inr rfl), rfl⟩)) hPS), PG_cg esl (PG_fr (fun i hi => fr _ _ (Or.inr ⟨Or.inl rfl, hi⟩)) (fun i hi => fr _ _ (Or.inr ⟨Or.inr rfl, hi⟩)) hPG)⟩
    · have esl : ∀ j, j < 73 → sl S.1 q j = sl (pumpS p S).1 q j := fun j hj => (pumpS_sl e j hj).symm
      obtain ⟨c1, c2⟩ := hq q hq2
      rw [e40q] at c1 c2
      have fr2 : ∀ c i, ((c = 4 ∨ c = 0 ∨ c = 2) ∧ i = q) ∨ ((c = 6 ∨ c = 10) ∧ (i = 2 * q ∨ i = 2 * q + 1)) → hv10 c i = hv c i := by
        intro c i h
        rw [fr c i h, hfr c i (by unfold pkey; omega)]
      exact ⟨PS_cg (fun j hj => esl j (by omega)) (PS_fr (fr2 _ _ (Or.inl ⟨Or.inl rfl, rfl⟩)) (fr2 _ _ (Or.inl ⟨Or.inr (Or.inl rfl), rfl⟩)) (fr2 _ _ (Or.inl ⟨Or.inr (Or.inr rfl), rfl⟩)) c1), PG_cg esl (PG_fr (fun i hi => fr2 _ _ (Or.inr ⟨Or.inl rfl, hi⟩)) (fun i hi => fr2 _ _ (Or.inr ⟨Or.inr rfl, hi⟩)) c2)⟩
  · rw [eS]
    show S.2.2 + litF _ = D + x9
    rw [e9, r8 5 0 n5, q1, hD, Int32.add_assoc]
  · intro c i h
    have hl : ¬ lkey c i := fun z => h (Or.inr (Or.inr (Or.inr (Or.inr z))))
    rw [hfr10 c i hl, r8 c i (fun z => h (Or.inl z)), hfr c i ?_]
    intro z
    apply h
    unfold ckey
    unfold pkey at z
    omega

