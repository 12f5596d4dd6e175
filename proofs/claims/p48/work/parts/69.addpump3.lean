/-! addPump of both. -/
section AP
variable {x0 x1 x2 x3 x4 : Int32}
abbrev gd5 (x0 x1 x2 x3 x4 : Int32) : Prop := (¬ x0 < 10 ∧ ¬ 99 < x0) ∧ (¬ x1 < 10 ∧ ¬ 400 < x1) ∧ (¬ x2 < 1 ∧ ¬ 20 < x2) ∧ (¬ x3 < 0 ∧ ¬ 100 < x3) ∧ (¬ x4 < x0 + 1 ∧ ¬ 500 < x4)
def rfAdd (x0 x1 x2 x3 x4 : Int32) (v : Nat → Int32) : Int32 := if gd5 x0 x1 x2 x3 x4 then (if v 4 = 4 then -1004 else 0) else -1002
def nwF (x0 x1 x2 x3 x4 : Int32) : Nat → Int32 := upd (upd (upd (upd (upd (upd (upd (upd (fun _ => 0) 0 x0) 1 x1) 2 x2) 3 x3) 4 x4) 10 60) 11 400) 14 400
def addV (x0 x1 x2 x3 x4 : Int32) (v : Nat → Int32) : Nat → Int32 := upd (putW v (5 + 73 * cntN v) (nwF x0 x1 x2 x3 x4)) 4 (v 4 + 1)
theorem nwF_k (k : Nat) : nwF x0 x1 x2 x3 x4 k = if k = 14 then 400 else if k = 11 then 400 else if k = 10 then 60 else if k = 4 then x4 else if k = 3 then x3 else if k = 2 then x2 else if k = 1 then x1 else if k = 0 then x0 else 0 := by
  unfold nwF
  simp only [upd_r]
theorem nwF_0 {k : Nat} (h : 5 ≤ k) (h2 : ¬ k = 10) (h3 : ¬ k = 11) (h4 : ¬ k = 14) : nwF x0 x1 x2 x3 x4 k = 0 := by
  rw [nwF_k, if_neg h4, if_neg h3, if_neg h2, if_neg (by omega), if_neg (by omega), if_neg (by omega), if_neg (by omega), if_neg (by omega)]
theorem PI_nw (h : gd5 x0 x1 x2 x3 x4) : PI (nwF x0 x1 x2 x3 x4) := by
  obtain ⟨⟨a1, a2⟩, ⟨b1, b2⟩, ⟨c1, c2⟩, ⟨d1, d2⟩, ⟨e1, e2⟩⟩ := h
  have k99 : (99 : Int32).toInt = 99 := rfl
  have k400 : (400 : Int32).toInt = 400 := rfl
  have k20 : (20 : Int32).toInt = 20 := rfl
  have k500 : (500 : Int32).toInt = 500 := rfl
  have k60 : (60 : Int32).toInt = 60 := rfl
  rw [i_lt, i10] at a1
  rw [i_lt, k99] at a2
  rw [i_lt, i10] at b1
  rw [i_lt, k400] at b2
  rw [i_lt, i1] at c1
  rw [i_lt, k20] at c2
  rw [i_lt, i0] at d1
  rw [i_lt, i100] at d2
  have ex : (x0 + 1).toInt = x0.toInt + 1 := i_add (by rw [i1]; omega) (by rw [i1]; omega)
  rw [i_lt, ex] at e1
  rw [i_lt, k500] at e2
  unfold PI
  rw [nwF_0 (k := 5) (by omega) (by omega) (by omega) (by omega), nwF_0 (k := 6) (by omega) (by omega) (by omega) (by omega), nwF_0 (k := 7) (by omega) (by omega) (by omega) (by omega), nwF_0 (k := 9) (by omega) (by omega) (by omega) (by omega), nwF_0 (k := 12) (by omega) (by omega) (by omega) (by omega), nwF_0 (k := 13) (by omega) (by omega) (by omega) (by omega), nwF_0 (k := 15) (by omega) (by omega) (by omega) (by omega)]
  have n0 : nwF x0 x1 x2 x3 x4 0 = x0 := by rw [nwF_k]; simp (decide := true) only [if_true, if_false]
  have n1 : nwF x0 x1 x2 x3 x4 1 = x1 := by rw [nwF_k]; simp (decide := true) only [if_true, if_false]
  have n2 : nwF x0 x1 x2 x3 x4 2 = x2 := by rw [nwF_k]; simp (decide := true) only [if_true, if_false]
  have n3 : nwF x0 x1 x2 x3 x4 3 = x3 := by rw [nwF_k]; simp (decide := true) only [if_true, if_false]
  have n4 : nwF x0 x1 x2 x3 x4 4 = x4 := by rw [nwF_k]; simp (decide := true) only [if_true, if_false]
  have n10 : nwF x0 x1 x2 x3 x4 10 = 60 := by rw [nwF_k]; simp (decide := true) only [if_true, if_false]
  have n11 : nwF x0 x1 x2 x3 x4 11 = 400 := by rw [nwF_k]; simp (decide := true) only [if_true, if_false]
  have n14 : nwF x0 x1 x2 x3 x4 14 = 400 := by rw [nwF_k]; simp (decide := true) only [if_true, if_false]
  rw [n0, n1, n2, n3, n4, n10, n11, n14, i0, k60, k400]
  refine ⟨by omega, by omega, by omega, by omega, by omega, Or.inl rfl, by omega, Or.inl rfl, by omega, by omega, by omega, Or.inl rfl, by omega, by omega, by omega⟩
theorem CI_nw {t : Int} (ht : 0 ≤ t) : CI t (nwF x0 x1 x2 x3 x4) := by
  unfold CI
  rw [nwF_0 (k := 17) (by omega) (by omega) (by omega) (by omega), nwF_0 (k := 18) (by omega) (by omega) (by omega) (by omega), nwF_0 (k := 19) (by omega) (by omega) (by omega) (by omega), i0]
  omega
theorem rfAdd_b {v : Nat → Int32} (hV : VI v) (h : rfAdd x0 x1 x2 x3 x4 v = 0) : gd5 x0 x1 x2 x3 x4 ∧ cntN v < 4 := by
  unfold rfAdd at h
  by_cases c : gd5 x0 x1 x2 x3 x4
  · rw [if_pos c] at h
    refine ⟨c, ?_⟩
    have hn := hV.1.1
    rcases Nat.lt_or_ge (cntN v) 4 with z | z
    · exact z
    · have e : cntN v = 4 := by omega
      rw [hV.1.2, e, if_pos (show nI 4 = 4 from rfl)] at h
      exact absurd h (by decide)
  · rw [if_neg c] at h; exact absurd h (by decide)
theorem addV_lo {v : Nat → Int32} {j : Nat} (h : j < 4) : addV x0 x1 x2 x3 x4 v j = v j := by
  unfold addV
  rw [upd_n _ _ (by omega), pw_lo _ _ _ _ (by omega)]
theorem addV_4 {v : Nat → Int32} (hV : VI v) : addV x0 x1 x2 x3 x4 v 4 = nI (cntN v + 1) := by
  unfold addV
  rw [upd_s, hV.1.2, nI_1]
theorem addV_cnt {v : Nat → Int32} (hV : VI v) : cntN (addV x0 x1 x2 x3 x4 v) = cntN v + 1 := by
  have hn := hV.1.1
  show (addV x0 x1 x2 x3 x4 v 4).toNatClampNeg = _
  rw [addV_4 hV, nI_clamp (by omega)]
theorem addV_sl {v : Nat → Int32} {p j : Nat} (hp : ¬ p = cntN v) (h : j < 73) : sl (addV x0 x1 x2 x3 x4 v) p j = sl v p j := by
  show addV x0 x1 x2 x3 x4 v (5 + 73 * p + j) = _
  unfold addV
  rw [upd_n _ _ (by omega)]
  exact sl_putO v (cntN v) p _ j hp h
theorem addV_new {v : Nat → Int32} {j : Nat} (h : j < 73) : sl (addV x0 x1 x2 x3 x4 v) (cntN v) j = nwF x0 x1 x2 x3 x4 j := by
  show addV x0 x1 x2 x3 x4 v (5 + 73 * cntN v + j) = _
  unfold addV
  rw [upd_n _ _ (by omega)]
  exact pw_r _ _ _ _ h
theorem VI_add {v : Nat → Int32} (hV : VI v) (h : rfAdd x0 x1 x2 x3 x4 v = 0) : VI (addV x0 x1 x2 x3 x4 v) := by
  obtain ⟨g, hc⟩ := rfAdd_b hV h
  have ec := addV_cnt (x0 := x0) (x1 := x1) (x2 := x2) (x3 := x3) (x4 := x4) hV
  unfold VI
  rw [ec, addV_4 hV, addV_lo (by omega), addV_lo (by omega), addV_lo (by omega)]
  refine ⟨⟨by omega, rfl⟩, fun p hp => ?_, hV.2.2⟩
  by_cases e : p = cntN v
  · subst e
    exact ⟨PI_c (fun j hj _ => addV_new (by omega)) (PI_nw g), CI_c (fun j _ hj => addV_new (by omega)) (CI_nw hV.2.2.2.2.1)⟩
  · obtain ⟨a, b⟩ := hV.2.1 p (by omega)
    exact ⟨PI_c (fun j hj _ => addV_sl e (by omega)) a, CI_c (fun j _ hj => addV_sl e (by omega)) b⟩
theorem C_out {a lo hi : Int32} {hv : HV} {P Q : HV → Prop} (hin : ¬ a < lo → ¬ hi < a → Q hv) (hout : (a < lo ∨ hi < a) → P hv) : V_X8_outside a lo hi hv (fun r hv1 => (r = 0 → Q hv1) ∧ (¬ r = 0 → P hv1)) := by
  rw [C_outside]
  by_cases c1 : a < lo
  · rw [if_pos c1]; exact ⟨fun z => absurd z (by decide), fun _ => hout (Or.inl c1)⟩
  rw [if_neg c1]
  by_cases c2 : hi < a
  · rw [if_neg (fun z => i_nlt.mpr z c2)]; exact ⟨fun z => absurd z (by decide), fun _ => hout (Or.inr c2)⟩
  · rw [if_pos (nl_le c2)]; exact ⟨fun _ => hin c1 c2, fun z => absurd rfl z⟩
theorem gd_1 (h : x0 < 10 ∨ 99 < x0) : ¬ gd5 x0 x1 x2 x3 x4 := fun g => h.elim g.1.1 g.1.2
theorem gd_2 (h : x1 < 10 ∨ 400 < x1) : ¬ gd5 x0 x1 x2 x3 x4 := fun g => h.elim g.2.1.1 g.2.1.2
theorem gd_3 (h : x2 < 1 ∨ 20 < x2) : ¬ gd5 x0 x1 x2 x3 x4 := fun g => h.elim g.2.2.1.1 g.2.2.1.2
theorem gd_4 (h : x3 < 0 ∨ 100 < x3) : ¬ gd5 x0 x1 x2 x3 x4 := fun g => h.elim g.2.2.2.1.1 g.2.2.2.1.2
theorem gd_5 (h : x4 < x0 + 1 ∨ 500 < x4) : ¬ gd5 x0 x1 x2 x3 x4 := fun g => h.elim g.2.2.2.2.1 g.2.2.2.2.2
theorem RR_0 (L : Nat) (g : Nat → Int32) : RR L 0 g (fun _ => 0) (fun _ => 0) := ⟨0, 0, rfl, Nat.zero_le _, rfl, rfl, Nat.zero_le _, fun b hb => absurd hb (by omega)⟩
/-- a new pump in the class's world -/
theorem CS_add {hv : HV} {v : Nat → Int32} (hV : VI v) (hc : cntN v < 4) (h : CS hv 0 v) : CS (up (npH hv (cntN v) x0 x1 x2 x3 x4) 7 0 (upd (npH hv (cntN v) x0 x1 x2 x3 x4 7 0) 4 (nI (cntN v) + 1))) 0 (addV x0 x1 x2 x3 x4 v) := by
  generalize en : cntN v = n at *
  have e7 : npH hv n x0 x1 x2 x3 x4 7 0 = hv 7 0 := npH_o (by unfold nkp; omega)
  obtain ⟨⟨a0, a1, a2, a3, a4⟩, hq⟩ := h
  refine ⟨?_, fun p hp => ?_⟩
  · rw [up_s, e7, upd_n _ _ (by omega), upd_n _ _ (by omega), upd_n _ _ (by omega), upd_n _ _ (by omega), upd_s, addV_lo (by omega), addV_lo (by omega), addV_lo (by omega), addV_lo (by omega), addV_4 hV, en, nI_1]
    exact ⟨a0, a1, a2, a3, rfl⟩
  · rw [addV_cnt hV, en] at hp
    have u : ∀ c i, ¬ c = 7 → up (npH hv n x0 x1 x2 x3 x4) 7 0 (upd (npH hv n x0 x1 x2 x3 x4 7 0) 4 (nI n + 1)) c i = npH hv n x0 x1 x2 x3 x4 c i := fun c i z => up_n _ _ (fun y => z y.1)
    by_cases e : p = n
    · rw [e, Nat.mul_zero, Nat.zero_add]
      have er : ∀ c i, (c = 6 ∨ c = 10) → (i = 2 * n ∨ i = 2 * n + 1) → npH hv n x0 x1 x2 x3 x4 c i = (fun _ => 0) := fun c i z1 z2 => by
        unfold npH; rw [if_neg (by omega), if_neg (by omega), if_neg (by omega), if_pos ⟨z1, z2⟩]
      have g4 : npH hv n x0 x1 x2 x3 x4 4 n = puN x0 x1 x2 x3 x4 := if_pos ⟨rfl, rfl⟩
      have g0 : npH hv n x0 x1 x2 x3 x4 0 n = chN := by unfold npH; rw [if_neg (by omega), if_pos ⟨rfl, rfl⟩]
      have g2 : npH hv n x0 x1 x2 x3 x4 2 n = (fun _ => 0) := by unfold npH; rw [if_neg (by omega), if_neg (by omega), if_pos ⟨rfl, rfl⟩]
      have s : PS (up (npH hv n x0 x1 x2 x3 x4) 7 0 (upd (npH hv n x0 x1 x2 x3 x4 7 0) 4 (nI n + 1))) n (nwF x0 x1 x2 x3 x4) := by
        refine ⟨?_, ?_, ?_⟩
        · rw [u 4 n (by omega), g4]
          refine encP_of (fun k hk => ?_) ?_ ?_
          · rw [nwF_k]
            rcases (by omega : k = 0 ∨ k = 1 ∨ k = 2 ∨ k = 3 ∨ k = 4 ∨ k = 5 ∨ k = 6 ∨ k = 7 ∨ k = 8 ∨ k = 9 ∨ k = 10) with h | h | h | h | h | h | h | h | h | h | h <;> subst h <;> rfl
          · rw [nwF_0 (by omega) (by omega) (by omega) (by omega)]; rfl
          · rw [nwF_0 (by omega) (by omega) (by omega) (by omega)]; rfl
        · rw [u 0 n (by omega), g0]
          refine encC_of ?_ ?_ ?_ ?_ ?_
          · rw [nwF_k]; rfl
          · have n11 : nwF x0 x1 x2 x3 x4 11 = 400 := by rw [nwF_k]; simp (decide := true) only [if_true, if_false]
            rw [n11]; decide
          · rw [nwF_k]; rfl
          · rw [nwF_k]; rfl
          · rw [nwF_k]; rfl
        · rw [u 2 n (by omega), g2]
          exact encO_of (fun k hk => by rw [nwF_0 (by omega) (by omega) (by omega) (by omega)])
      have g : PG (up (npH hv n x0 x1 x2 x3 x4) 7 0 (upd (npH hv n x0 x1 x2 x3 x4 7 0) 4 (nI n + 1))) n (nwF x0 x1 x2 x3 x4) := by
        unfold PG
        rw [u 6 _ (by omega), u 10 _ (by omega), u 6 _ (by omega), u 10 _ (by omega), er 6 _ (Or.inl rfl) (Or.inl rfl), er 10 _ (Or.inr rfl) (Or.inl rfl), er 6 _ (Or.inl rfl) (Or.inr rfl), er 10 _ (Or.inr rfl) (Or.inr rfl), nwF_0 (k := 23) (by omega) (by omega) (by omega) (by omega), nwF_0 (k := 40) (by omega) (by omega) (by omega) (by omega)]
        exact ⟨RR_0 _ _, RR_0 _ _⟩
      rw [← en] at s g ⊢
      exact ⟨PS_cg (fun j hj => (addV_new (by omega)).symm) s, PG_cg (fun j hj => (addV_new hj).symm) g⟩
    · obtain ⟨b1, b2⟩ := hq p (by omega)
      have f : ∀ c i, ¬ c = 7 → ¬ nkp n c i → up (npH hv n x0 x1 x2 x3 x4) 7 0 (upd (npH hv n x0 x1 x2 x3 x4 7 0) 4 (nI n + 1)) c i = hv c i := fun c i z1 z2 => by rw [u c i z1, npH_o z2]
      refine ⟨PS_cg (fun j hj => (addV_sl (by omega) (by omega)).symm) (PS_fr (f _ _ (by omega) ?_) (f _ _ (by omega) ?_) (f _ _ (by omega) ?_) b1), PG_cg (fun j hj => (addV_sl (by omega) hj).symm) (PG_fr (fun i hi => f _ _ (by omega) ?_) (fun i hi => f _ _ (by omega) ?_) b2)⟩
      all_goals (unfold nkp; omega)
theorem C_add5 {hv : HV} {v : Nat → Int32} {K : KS} {post : Int32 → HV → Prop} (hI : IV v K) (h : CR hv 0 v K) (no : ¬ rfAdd x0 x1 x2 x3 x4 v = 0 → post (rfAdd x0 x1 x2 x3 x4 v) hv)
    (yes : rfAdd x0 x1 x2 x3 x4 v = 0 → ∀ hv', CR hv' 0 (addV x0 x1 x2 x3 x4 v) (keepK 0 v K) → cfr hv hv' → post (v 4) hv') : V_X8_addPump x0 x1 x2 x3 x4 hv post := by
  have hn := hI.1.1.1
  have bad : ¬ gd5 x0 x1 x2 x3 x4 → post (-1002) hv := fun g => by
    have e : rfAdd x0 x1 x2 x3 x4 v = -1002 := if_neg g
    rw [e] at no; exact no (by decide)
  unfold V_X8_addPump
  refine C_out (fun p1 p2 => C_out (fun q1 q2 => C_out (fun r1 r2 => C_out (fun s1 s2 => C_out (fun t1 t2 => ?_) (fun z => bad (gd_5 z))) (fun z => bad (gd_4 z))) (fun z => bad (gd_3 z))) (fun z => bad (gd_2 z))) (fun z => bad (gd_1 z))
  have g : gd5 x0 x1 x2 x3 x4 := ⟨⟨p1, p2⟩, ⟨q1, q2⟩, ⟨r1, r2⟩, ⟨s1, s2⟩, ⟨t1, t2⟩⟩
  intro x6 e6
  rw [h.1.1.2.2.2.2] at e6
  have e3 : (4 - 1 : Int32) = 3 := by decide
  rw [e3]
  refine C_out (fun w1 w2 => ?_) (fun z => ?_)
  · have hc : cntN v < 4 := by
      rcases Nat.lt_or_ge (cntN v) 4 with z | z
      · exact z
      · have e : cntN v = 4 := by omega
        rw [e6, hI.1.1.2, e] at w2
        exact absurd (by decide) w2
    have er : rfAdd x0 x1 x2 x3 x4 v = 0 := by
      unfold rfAdd
      rw [if_pos g, if_neg]
      rw [hI.1.1.2]
      intro z
      have z2 : nI (cntN v) = nI 4 := z
      rw [nI_eq (by omega) (by omega)] at z2
      omega
    refine C_keepK hI h (fun hv8 k1 k2 k3 => ?_)
    have en : x6 = nI (cntN v) := e6.trans hI.1.1.2
    rw [en, nI_clamp (by omega)]
    refine ⟨vp_in_nI (by omega) (by omega), fun hv9 e9 hv10 e10 => ?_⟩
    rw [e9] at e10
    have hk := IV_keep 0 hI
    have hS := CS_add (x0 := x0) (x1 := x1) (x2 := x2) (x3 := x3) (x4 := x4) hI.1 hc k1.1
    rw [← e10] at hS
    have fr : ∀ c i, ¬ skey 0 c i → hv10 c i = hv8 c i := fun c i z => by
      have z7 : ¬ (c = 7 ∧ i = 0) := fun y => z (Or.inl y)
      rw [e10, up_n _ _ z7, npH_o (fun y => z (by unfold nkp at y; unfold skey; omega))]
    have r := yes er hv10 (CR_new hk k1 hS fr) (cfr_t k2 (fun c i z => fr c i (fun y => skey_c y z)))
    rw [hI.1.1.2] at r
    exact r
  · have hc : v 4 = 4 := by
      rw [e6] at z
      rw [hI.1.1.2] at z ⊢
      rcases z with z | z
      · exact absurd z (nI_pos (by omega))
      · have z2 : nI 3 < nI (cntN v) := z
        rw [nI_ltI (by omega) (by omega)] at z2
        rw [show cntN v = 4 by omega]; rfl
    have er : rfAdd x0 x1 x2 x3 x4 v = -1004 := by
      unfold rfAdd
      rw [if_pos g, if_pos hc]
    rw [er] at no; exact no (by decide)
end AP
