theorem upd_up (f : Nat → Int32) (i : Nat) (a b : Int32) : upd (upd f i a) i b = upd f i b := by
  funext j
  by_cases h : j = i
  · subst h; rw [upd_s, upd_s]
  · rw [upd_n _ _ h, upd_n _ _ h, upd_n _ _ h]
theorem upd_cm (f : Nat → Int32) {i j : Nat} (a b : Int32) (h : ¬ i = j) : upd (upd f i a) j b = upd (upd f j b) i a := by
  funext k
  by_cases h1 : k = j
  · subst h1; rw [upd_s, upd_n _ _ (fun z => h z.symm), upd_s]
  · by_cases h2 : k = i
    · subst h2; rw [upd_n _ _ h1, upd_s, upd_s]
    · rw [upd_n _ _ h1, upd_n _ _ h2, upd_n _ _ h2, upd_n _ _ h1]
section PIP
variable {f : Nat → Int32}
theorem clampF_b (v : Int32) : 0 ≤ (clampF v).toInt ∧ (clampF v).toInt ≤ 2000 := by
  unfold clampF
  by_cases c : 0 ≤ v
  · rw [if_pos c]
    by_cases d : v ≤ 2000
    · rw [if_pos d]; rw [i_le, i0] at c; rw [i_le] at d; exact ⟨c, d⟩
    · rw [if_neg d]; exact ⟨by decide, by decide⟩
  · rw [if_neg c]; exact ⟨by decide, by decide⟩
theorem PI_open (h : PI f) : PI (openF f) := by
  unfold openF
  exact PI_u 8 _ (Or.inr rfl) (PI_7 (Or.inl rfl) (PI_6 ⟨by decide, by decide⟩ h))
theorem PI_gain1 (h : PI f) (w : Int32) : PI (gain1F f w) := by
  unfold gain1F
  exact PI_u 8 _ (Or.inr rfl) (PI_6 (clampF_b _) (PI_u 17 _ (Or.inl (by omega)) h))
theorem airF_b (h : PI f) : (f 11).toInt / 10 ≤ (airF f).toInt ∧ (airF f).toInt ≤ (f 11).toInt := by
  have h11 := h.h11
  have h14 := h.h14
  have hl := h.least
  unfold airF
  by_cases c : f 12 = 1
  · rw [if_pos c]
    have e := i_add (a := f 14) (b := 2) (by rw [i2]; omega) (by rw [i2]; omega)
    rw [i2] at e
    by_cases d : f 14 + 2 ≤ f 11
    · rw [if_pos d]; rw [i_le] at d; omega
    · rw [if_neg d]; omega
  · rw [if_neg c]
    have e := i_sub (a := f 14) (b := 1) (by rw [i1]; omega) (by rw [i1]; omega)
    rw [i1] at e
    by_cases d : f 11 / 10 ≤ f 14 - 1
    · rw [if_pos d]; rw [i_le] at d; omega
    · rw [if_neg d]; omega
theorem ivF_low (t : Int32) (f : Nat → Int32) (j : Nat) (h : j < 22) : ivF t f j = f j := by
  unfold ivF
  rw [upd_n _ _ (by omega), upd_n _ _ (by omega), upd_n _ _ (by omega), shiftF_o _ _ _ _ (Or.inl (by omega))]
theorem PI_slam (h : PI f) (st : Bool) (t : Int32) : PI (slamF st t f) := by
  have hb := airF_b h
  have h1 : PI (upd (upd f 7 1) 16 (f 16 + 1)) := PI_u 16 _ (Or.inl (by omega)) (PI_7 (Or.inr rfl) h)
  unfold slamF
  cases st with
  | false =>
    refine PI_14 ?_ h1
    rw [if_neg (by decide), upd_n _ _ (by omega), upd_n _ _ (by omega)]
    exact hb
  | true =>
    rw [if_pos rfl]
    refine PI_14 ?_ (PI_c (fun j h1 _ => ivF_low _ _ _ (by omega)) h1)
    rw [ivF_low _ _ _ (by omega), upd_n _ _ (by omega), upd_n _ _ (by omega)]
    exact hb
theorem PI_gain (h : PI f) (st : Bool) (t w : Int32) : PI (gainF st t f w) := by
  unfold gainF
  by_cases c : slamsF (gain1F f w)
  · rw [if_pos c]; exact PI_slam (PI_gain1 h w) st t
  · rw [if_neg c]; exact PI_gain1 h w
theorem PI_push1 (h : PI f) {w : Int32} (hw : 0 ≤ w.toInt) : PI (push1F f w) := by
  have ht := h.t13 hw
  have ht2 := h.take hw
  have h13 := h.h13
  unfold push1F
  exact PI_u 18 _ (Or.inl (by omega)) (PI_13 ⟨by omega, by omega⟩ h)
theorem PI.overB (h : PI f) : 0 ≤ (overF f).toInt ∧ (overF f).toInt ≤ 40000 := by
  have hh := h.head
  have ho := h.over
  have h0 := h.h0
  unfold overF
  by_cases c : 0 ≤ headF f - f 0
  · rw [if_pos c]; rw [i_le, i0] at c; omega
  · rw [if_neg c, i0]; omega
theorem PI.slow (h : PI f) : 0 ≤ (100 * overF f / f 1).toInt ∧ (100 * overF f / f 1).toInt ≤ 4000000 := by
  have ho := h.overB
  have h1 := h.h1
  have e1 : (100 * overF f).toInt = 100 * (overF f).toInt := by rw [i_mul (by rw [i100]; omega) (by rw [i100]; omega), i100]
  rw [i_div (by rw [e1]; omega) (by omega), e1]
  refine ⟨Int.ediv_nonneg (by omega) (by omega), ?_⟩
  have := Int.ediv_le_self (a := 100 * (overF f).toInt) (f 1).toInt (by omega)
  omega
theorem PI.left (h : PI f) : (f 6 - (1 + 100 * overF f / f 1)).toInt = (f 6).toInt - 1 - (100 * overF f / f 1).toInt ∧ f 6 - 1 - 100 * overF f / f 1 = f 6 - (1 + 100 * overF f / f 1) := by
  have hs := h.slow
  have h6 := h.h6
  have e1 := i_add (a := 1) (b := 100 * overF f / f 1) (by rw [i1]; omega) (by rw [i1]; omega)
  rw [i1] at e1
  have e2 : (f 6 - (1 + 100 * overF f / f 1)).toInt = (f 6).toInt - 1 - (100 * overF f / f 1).toInt := by
    rw [i_sub (by rw [e1]; omega) (by rw [e1]; omega), e1]; omega
  have e3 := i_sub (a := f 6) (b := 1) (by rw [i1]; omega) (by rw [i1]; omega)
  rw [i1] at e3
  refine ⟨e2, ?_⟩
  rw [i_eq, e2, i_sub (by rw [e3]; omega) (by rw [e3]; omega), e3]
theorem PI_push2 (h : PI f) : PI (push2F f) := by
  have hl := h.left
  have hs := h.slow
  have h6 := h.h6
  unfold push2F
  by_cases c : 1 ≤ f 6 - (1 + 100 * overF f / f 1)
  · rw [if_pos c]
    rw [i_le, i1] at c
    exact PI_6 ⟨by omega, by omega⟩ h
  · rw [if_neg c]; exact PI_open h
theorem PI_push (h : PI f) {w : Int32} (hw : 0 ≤ w.toInt) : PI (pushF f w) := PI_push2 (PI_push1 h hw)
theorem PI_mid (h : PI f) (st : Bool) (t : Int32) : PI (midF st t f) := by
  unfold midF
  by_cases c : f 7 = 0
  · rw [if_pos c]; exact PI_gain h st t _
  · rw [if_neg c]; exact PI_push h h.flow.1
theorem PI_st1 (h : PI f) (t b : Int32) : PI (st1F t b f) := by
  unfold st1F
  by_cases c : flowF f ≤ b
  · rw [if_pos c]; exact PI_mid h true t
  · rw [if_neg c]; exact PI_u 21 _ (Or.inl (by omega)) (PI_open h)
theorem PI.sum15 (h : PI f) : (f 15 + litF f).toInt = (f 15).toInt + (litF f).toInt := by
  have h11 := h.h11
  have h13 := h.h13
  have h15 := h.h15
  have hl := h.lit
  exact i_add (by omega) (by omega)
theorem PI_del (h : PI f) : PI (delF f) := by
  have h11 := h.h11
  have h13 := h.h13
  have h15 := h.h15
  have hl := h.lit
  have hs := h.sum15
  have e13 := i_sub (a := f 13) (b := litF f) (by omega) (by omega)
  unfold delF del1F
  by_cases c : 0 < headF f - f 4
  · rw [if_pos c]
    have b13 : PI (upd (upd f 13 (f 13 - litF f)) 19 (f 19 + litF f)) := PI_u 19 _ (Or.inl (by omega)) (PI_13 ⟨by omega, by omega⟩ h)
    by_cases d : f 15 + litF f ≤ 30000
    · rw [if_pos d]
      have d' : (f 15 + litF f).toInt ≤ 30000 := by rw [i_le] at d; exact d
      exact PI_15 ⟨by omega, d'⟩ b13
    · rw [if_neg d, upd_cm _ _ _ (show ¬ 15 = 20 by omega), upd_up]
      exact PI_15 ⟨by decide, by decide⟩ (PI_u 20 _ (Or.inl (by omega)) b13)
  · rw [if_neg c]; exact h
theorem PI_tr (h : PI f) : PI (trF f) := PI_c (fun j h1 _ => by unfold trF; rw [upd_n _ _ (by omega), upd_n _ _ (by omega), shiftF_o _ _ _ _ (Or.inl (by omega))]) h
theorem PI_tick (h : PI f) (t b : Int32) : PI (tickF t b f) := PI_tr (PI_del (PI_st1 h t b))
theorem PI_trial (h : PI f) : PI (trialF f) := PI_del (PI_mid h false 0)
end PIP
theorem ite_upd3 {c : Prop} [Decidable c] (r : Nat → Int32) (i : Nat) (h : ¬ i = 3) : (if c then upd r 3 4 else r) i = r i := by
  by_cases d : c
  · rw [if_pos d, upd_n _ _ h]
  · rw [if_neg d]
section CT2
variable {q : Nat} {hv : HV} {f : Nat → Int32} {J : Nat → Nat → Int32} {rp I1 J1 I2 J2 : Nat → Int32}
theorem C_push {w : Int32} {post : HV → Prop} (h : PI f) (hw : 0 ≤ w.toInt) (hp : post (mkC hv q (pushF f w) J (if w ≤ takeF f w then rp else upd rp 3 2) I1 J1 I2 J2)) : V_X4_pushIntoChamber q w (mkC hv q f J rp I1 J1 I2 J2) post := by
  have hP := PI_push1 h hw
  have ht := h.take hw
  have hl := hP.left
  have eT : (if roomF f < w then roomF f else w) = takeF f w := min_sw _ _
  -- behind the water: head, loss of speed
  have tail : ∀ g rp', (∀ j, j < 23 → g j = push1F f w j) → post (mkC hv q (pushF f w) J rp' I1 J1 I2 J2) → V_X0_head q (mkC hv q g J rp' I1 J1 I2 J2) (fun r4 hv4 => V_X4_speedFrom q (if r4 - hv4 4 q 0 < 0 then 0 else r4 - hv4 4 q 0) hv4 (fun r5 hv5 => ((1 ≤ f 6 - 1 - r5 → post (up hv5 4 q (upd (hv5 4 q) 6 (f 6 - 1 - r5)))) ∧ (¬ 1 ≤ f 6 - 1 - r5 → V_X4_rest q hv5 (fun hv9 => post hv9))))) := by
    intro g rp' hg hp
    rw [mkC_congr hg]
    refine C_head hP.sp1 ?_
    refine C_speedFrom hP.le1 ?_
    simp only [mkC_4, encP_0]
    rw [max_sw]
    have eo : (if 0 ≤ headF (push1F f w) - push1F f w 0 then headF (push1F f w) - push1F f w 0 else 0) = overF (push1F f w) := rfl
    have e6 : push1F f w 6 = f 6 := by unfold push1F; rw [upd_n _ _ (by omega), upd_n _ _ (by omega)]
    rw [eo]
    rw [e6] at hl
    rw [hl.2]
    unfold pushF push2F at hp
    rw [e6] at hp
    refine ⟨fun c => ?_, fun c => ?_⟩
    · rw [if_pos c] at hp
      rw [mkC_p6]; exact hp
    · rw [if_neg c] at hp
      exact C_rest hp
  unfold V_X4_pushIntoChamber V_X0_take
  simp only [forall_eq, mkC_0, encC_0, encC_1, encC_3, mkC_c3, mkC_2, encO_2, mkC_o2, mkC_5, mkC_w5, mkC_4, encP_6, upd_n _ _ (show ¬ 18 = 13 by omega), upd_n _ _ (show ¬ 6 = 18 by omega), upd_n _ _ (show ¬ 6 = 13 by omega)]
  have eR : f 11 - f 11 / 10 - f 13 = roomF f := rfl
  rw [eR, eT]
  have eW : (w - takeF f w).toInt = w.toInt - (takeF f w).toInt := i_sub (by have := i_rng w; omega) (by have := i_rng w; omega)
  refine ⟨fun c => ?_, fun c => ?_⟩
  · rw [i_le, eW, i0] at c
    have e0 : w - takeF f w = 0 := by rw [i_eq, eW, i0]; omega
    refine tail _ rp ?_ (by rw [if_pos (by rw [i_le]; omega)] at hp; exact hp)
    intro j _
    unfold push1F
    rw [e0, fa_same (show (upd f 13 (f 13 + takeF f w)) 18 = f 18 + 0 by rw [upd_n _ _ (by omega), Int32.add_zero])]
  · rw [i_le, eW, i0] at c
    refine tail _ _ (fun j _ => rfl) ?_
    rw [if_neg (by rw [i_le]; omega)] at hp
    exact hp
theorem C_deliver {post : HV → Prop} (h : PI f) (hp : post (mkC hv q (delF f) J (if 0 < headF f - f 4 then upd (upd rp 1 (litF f)) 4 (if f 15 + litF f ≤ 30000 then 0 else 1) else rp) I1 J1 I2 J2)) : V_X4_deliver q (mkC hv q f J rp I1 J1 I2 J2) post := by
  have ho := h.over
  have hh := h.head
  have h15 := h.h15
  have hl := h.lit
  have h13 := h.h13
  have h11 := h.h11
  have hs := h.sum15
  unfold V_X4_deliver
  refine C_head h.sp1 ?_
  simp only [forall_eq, mkC_4, encP_4, mkC_0, encC_3, mkC_c3, mkC_2, encO_3, mkC_o3, mkC_5, mkC_w5, encP_11, mkC_p11, encO_4, mkC_o4,
    upd_n _ _ (show ¬ 19 = 13 by omega), upd_n _ _ (show ¬ 15 = 19 by omega), upd_n _ _ (show ¬ 15 = 13 by omega), upd_n _ _ (show ¬ 20 = 15 by omega), upd_n _ _ (show ¬ 20 = 19 by omega), upd_n _ _ (show ¬ 20 = 13 by omega)]
  refine ⟨fun c => ?_, fun c => ?_⟩
  · have c' : 0 < headF f - f 4 := by rw [i_lt] at c ⊢; rw [ho.1, i0]; omega
    rw [if_pos c'] at hp
    have eL : (if 1 + (headF f - f 4) / 10 < f 13 then 1 + (headF f - f 4) / 10 else f 13) = litF f := by
      unfold litF mostF
      rw [if_pos c', min_sw]
    rw [eL]
    have e30 : (30000 - f 15).toInt = 30000 - (f 15).toInt := i_sub (a := 30000) (by show _ ≤ (30000 : Int) - _; omega) (by show (30000 : Int) - _ < _; omega)
    unfold delF del1F at hp
    rw [if_pos c'] at hp
    by_cases d : f 15 + litF f ≤ 30000
    · rw [if_pos d, if_pos d] at hp
      have d' : (f 15 + litF f).toInt ≤ 30000 := by rw [i_le] at d; exact d
      have e7 : (if 30000 - f 15 < litF f then 30000 - f 15 else litF f) = litF f := if_neg (by rw [i_lt, e30]; omega)
      rw [e7]
      have ez : litF f - litF f = 0 := Int32.sub_self _
      rw [ez, Int32.add_zero, fa_same (show (upd (upd (upd f 13 (f 13 - litF f)) 19 (f 19 + litF f)) 15 (f 15 + litF f)) 20 = f 20 by rw [upd_n _ _ (by omega), upd_n _ _ (by omega), upd_n _ _ (by omega)])]
      exact ⟨fun _ => hp, fun z => absurd (i_le.mpr (Int.le_refl _)) z⟩
    · rw [if_neg d, if_neg d] at hp
      have d' : 30000 < (f 15 + litF f).toInt := by rw [i_nle, i_lt] at d; exact d
      have e7 : (if 30000 - f 15 < litF f then 30000 - f 15 else litF f) = 30000 - f 15 := if_pos (by rw [i_lt, e30]; omega)
      rw [e7]
      have ea : f 15 + (30000 - f 15) = 30000 := by rw [i_eq, i_add (by rw [e30]; omega) (by rw [e30]; omega), e30]; show _ = (30000 : Int); omega
      have eb : f 20 + (litF f - (30000 - f 15)) = f 20 + (f 15 + litF f - 30000) := by
        have ec : litF f - (30000 - f 15) = f 15 + litF f - 30000 := by
          rw [i_eq, i_sub (by rw [e30]; omega) (by rw [e30]; omega), e30, i_sub (by rw [hs]; show _ ≤ _ - (30000 : Int); omega) (by rw [hs]; show _ - (30000 : Int) < _; omega), hs]
          show _ = _ - (30000 : Int)
          omega
        rw [ec]
      rw [ea, eb]
      rw [upd_cm _ _ _ (show ¬ 15 = 20 by omega), upd_up] at hp
      rw [upd_cm _ _ _ (show ¬ 15 = 20 by omega)]
      exact ⟨fun z => absurd z (by rw [i_le, e30]; omega), fun _ => hp⟩
  · have c' : ¬ 0 < headF f - f 4 := by rw [i_lt] at c ⊢; rw [ho.1, i0]; omega
    rw [if_neg c'] at hp
    unfold delF at hp
    rw [if_neg c'] at hp
    exact hp
theorem byte_c {s : Int32} (h : 0 ≤ s.toInt ∧ s.toInt ≤ 2000) : s.toInt8.toInt32 = byteF s := by
  have key : ∀ n : Nat, n < 2001 → (nI n).toInt8.toInt32 = byteF (nI n) := by decide +kernel
  obtain ⟨j, hj, rfl⟩ := nI_of (x := s) (by rw [i_lt]; show ¬ _ < (0 : Int); omega)
  rw [nI_toInt hj] at h
  exact key j (by omega)
/-- what a tick tells in the report: drawn, delivered, slammed, the first incident, overflowing -/
def RP (w t : Int32) (f rp : Nat → Int32) : Prop :=
  rp 0 = (if flowF f ≤ w then flowF f else 0) ∧ rp 1 = litF (st1F t w f) ∧ rp 2 = (if flowF f ≤ w ∧ f 7 = 0 ∧ slamsF (gain1F f (flowF f)) then 1 else 0) ∧ rp 3 = st1I w f ∧ rp 4 = (if overTF (st1F t w f) then 1 else 0)
theorem trF_low (f : Nat → Int32) (j : Nat) (h : j < 23) : trF f j = f j := by unfold trF; rw [upd_n _ _ (by omega), upd_n _ _ (by omega), shiftF_o _ _ _ _ (Or.inl (by omega))]
theorem C_tick {w t : Int32} {post : HV → Prop} (hq : q < 37) (h : PI f)
    (hp : ∀ rp' Ia Ja Ib Jb, RP w t f rp' → (if flowF f ≤ w ∧ f 7 = 0 ∧ slamsF (gain1F f (flowF f)) then AddR 16 (t - f 22) I1 J1 Ia Ja else Ia = I1 ∧ Ja = J1) → AddR 32 (byteF ((delF (st1F t w f)) 6)) I2 J2 Ib Jb → post (mkC hv q (delF (st1F t w f)) J rp' Ia Ja Ib Jb)) : V_X4_tick q w t (mkC hv q f J rp I1 J1 I2 J2) post := by
  -- behind the steps 1 to 3
  have tail : ∀ g rp1 Ia Ja, g = st1F t w f → rp1 0 = (if flowF f ≤ w then flowF f else 0) → rp1 1 = 0 → rp1 2 = (if flowF f ≤ w ∧ f 7 = 0 ∧ slamsF (gain1F f (flowF f)) then 1 else 0) → rp1 3 = st1I w f → rp1 4 = 0 →
      (if flowF f ≤ w ∧ f 7 = 0 ∧ slamsF (gain1F f (flowF f)) then AddR 16 (t - f 22) I1 J1 Ia Ja else Ia = I1 ∧ Ja = J1) → V_X4_tick_91 q w t post (mkC hv q g J rp1 Ia Ja I2 J2) := by
    intro g rp1 Ia Ja hg r0 r1 r2 r3 r4 hA
    have hG := PI_st1 h t w
    rw [← hg] at hG
    unfold V_X4_tick_91
    refine C_deliver hG ?_
    simp only [mkC_4, encP_6]
    refine C_add (rl_t hq) (Or.inr (Or.inl rfl)) ?_
    intro Ib Jb hB
    rw [mkC_6t, mkC_10t, byte_c (PI_del hG).h6] at hB
    simp only [mkC_w10t, mkC_w6t]
    rw [hg] at hB ⊢
    refine hp _ Ia Ja Ib Jb ?_ hA hB
    unfold RP
    by_cases c : 0 < headF (st1F t w f) - st1F t w f 4
    · rw [if_pos c]
      refine ⟨by rw [upd_n _ _ (by omega), upd_n _ _ (by omega)]; exact r0, by rw [upd_n _ _ (by omega), upd_s], by rw [upd_n _ _ (by omega), upd_n _ _ (by omega)]; exact r2, by rw [upd_n _ _ (by omega), upd_n _ _ (by omega)]; exact r3, ?_⟩
      rw [upd_s]
      by_cases d : st1F t w f 15 + litF (st1F t w f) ≤ 30000
      · rw [if_pos d, if_neg (fun z => z.2 d)]
      · rw [if_neg d, if_pos ⟨c, d⟩]
    · rw [if_neg c]
      refine ⟨r0, ?_, r2, r3, ?_⟩
      · rw [r1]; unfold litF; rw [if_neg c]
      · rw [r4, if_neg (fun z => c z.1)]
  unfold V_X4_tick
  refine C_clear ?_
  simp only [forall_eq, mkC_4, encP_2, encP_6, mkC_5, mkC_w5, encP_7]
  have eF : f 2 * f 6 / 10 = flowF f := rfl
  rw [eF]
  refine ⟨fun c => ⟨fun d => ?_, fun d => ?_⟩, fun c => ?_⟩
  · refine C_gainSpeed h.le1 ?_
    refine C_slamRule ?_
    have eS : st1F t w f = gainF true t f (flowF f) := by unfold st1F midF; rw [if_pos c, if_pos d]
    have eI : st1I w f = gainI true f (flowF f) := by unfold st1I midI; rw [if_pos c, if_pos d]
    by_cases hs : slamsF (gain1F f (flowF f))
    · rw [if_neg hs]
      refine ⟨fun z => absurd z (by decide), fun _ => ?_⟩
      refine C_slam hq (PI_gain1 h _).h12 ?_
      intro Ia Ja hA
      have e22 : gain1F f (flowF f) 22 = f 22 := by unfold gain1F; rw [upd_n _ _ (by omega), upd_n _ _ (by omega), upd_n _ _ (by omega)]
      rw [e22] at hA
      have cc : flowF f ≤ w ∧ f 7 = 0 ∧ slamsF (gain1F f (flowF f)) := ⟨c, d, hs⟩
      refine tail _ _ Ia Ja ?_ ?_ ?_ ?_ ?_ ?_ (by rw [if_pos cc]; exact hA)
      · rw [eS]; unfold gainF; rw [if_pos hs]
      · rw [if_pos c, ite_upd3 _ _ (by omega)]; simp (decide := true) only [if_true, if_false, upd_r]
      · rw [ite_upd3 _ _ (by omega)]; simp (decide := true) only [if_true, if_false, upd_r]
      · rw [if_pos cc, ite_upd3 _ _ (by omega)]; simp (decide := true) only [if_true, if_false, upd_r]
      · rw [eI]; unfold gainI; by_cases g : goneF (gain1F f (flowF f))
        · rw [if_pos g, if_pos ⟨hs, rfl, g⟩, upd_s]
        · rw [if_neg g, if_neg (fun z => g z.2.2)]; simp (decide := true) only [if_true, if_false, upd_r]
      · rw [ite_upd3 _ _ (by omega)]; simp (decide := true) only [if_true, if_false, upd_r]
    · have hs' : slamV (gain1F f (flowF f)) < (gain1F f (flowF f)) 10 := by
        by_cases z : slamV (gain1F f (flowF f)) < (gain1F f (flowF f)) 10
        · exact z
        · exact absurd z hs
      rw [if_pos hs']
      refine ⟨fun _ => ?_, fun z => absurd rfl z⟩
      have cc : ¬ (flowF f ≤ w ∧ f 7 = 0 ∧ slamsF (gain1F f (flowF f))) := fun z => hs z.2.2
      refine tail _ _ I1 J1 ?_ ?_ ?_ ?_ ?_ ?_ (by rw [if_neg cc]; exact ⟨rfl, rfl⟩)
      · rw [eS]; unfold gainF; rw [if_neg hs]
      · rw [if_pos c]; simp (decide := true) only [if_true, if_false, upd_r]
      · simp (decide := true) only [if_true, if_false, upd_r]
      · rw [if_neg cc]; simp (decide := true) only [if_true, if_false, upd_r]
      · rw [eI]; unfold gainI; rw [if_neg (fun z => hs z.1)]; simp (decide := true) only [if_true, if_false, upd_r]
      · simp (decide := true) only [if_true, if_false, upd_r]
  · refine C_push h h.flow.1 ?_
    have eS : st1F t w f = pushF f (flowF f) := by unfold st1F midF; rw [if_pos c, if_neg d]
    have eI : st1I w f = pushI true f (flowF f) := by unfold st1I midI; rw [if_pos c, if_neg d]
    have cc : ¬ (flowF f ≤ w ∧ f 7 = 0 ∧ slamsF (gain1F f (flowF f))) := fun z => d z.2.1
    refine tail _ _ I1 J1 eS.symm ?_ ?_ ?_ ?_ ?_ (by rw [if_neg cc]; exact ⟨rfl, rfl⟩)
    · rw [if_pos c]; by_cases g : flowF f ≤ takeF f (flowF f) <;> simp (decide := true) only [g, if_true, if_false, upd_r]
    · by_cases g : flowF f ≤ takeF f (flowF f) <;> simp (decide := true) only [g, if_true, if_false, upd_r]
    · rw [if_neg cc]; by_cases g : flowF f ≤ takeF f (flowF f) <;> simp (decide := true) only [g, if_true, if_false, upd_r]
    · rw [eI]; unfold pushI; by_cases g : flowF f ≤ takeF f (flowF f)
      · rw [if_pos g, if_neg (fun z => z.2 g)]; simp (decide := true) only [if_true, if_false, upd_r]
      · rw [if_neg g, if_pos ⟨rfl, g⟩, upd_s]
    · by_cases g : flowF f ≤ takeF f (flowF f) <;> simp (decide := true) only [g, if_true, if_false, upd_r]
  · refine C_rest ?_
    simp only [mkC_2, encO_5, mkC_o5, mkC_5, mkC_w5]
    have eS : st1F t w f = upd (openF f) 21 (f 21 + 1) := by unfold st1F; rw [if_neg c]
    have eI : st1I w f = 1 := by unfold st1I; rw [if_neg c]
    have cc : ¬ (flowF f ≤ w ∧ f 7 = 0 ∧ slamsF (gain1F f (flowF f))) := fun z => c z.1
    have e21 : openF f 21 = f 21 := by unfold openF; rw [upd_n _ _ (by omega), upd_n _ _ (by omega), upd_n _ _ (by omega)]
    rw [e21]
    refine tail _ _ I1 J1 eS.symm ?_ ?_ ?_ ?_ ?_ (by rw [if_neg cc]; exact ⟨rfl, rfl⟩)
    · rw [if_neg c]; simp (decide := true) only [if_true, if_false, upd_r]
    · simp (decide := true) only [if_true, if_false, upd_r]
    · rw [if_neg cc]; simp (decide := true) only [if_true, if_false, upd_r]
    · rw [eI, upd_s]
    · simp (decide := true) only [if_true, if_false, upd_r]
end CT2

