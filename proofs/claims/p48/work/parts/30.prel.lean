/-! A pump of the class in the world hv, by its numbers f. -/
def PS (hv : HV) (q : Nat) (f : Nat → Int32) : Prop := hv 4 q = encP f (hv 4 q) ∧ hv 0 q = encC f (hv 0 q) ∧ hv 2 q = encO f (hv 2 q)
def PG (hv : HV) (q : Nat) (f : Nat → Int32) : Prop := RR 16 (f 23) (fun b => f (24 + b)) (hv 6 (2 * q)) (hv 10 (2 * q)) ∧ RR 32 (f 40) (fun b => f (41 + b)) (hv 6 (2 * q + 1)) (hv 10 (2 * q + 1))
def pkey (q c i : Nat) : Prop := (c = 4 ∧ i = q) ∨ (c = 0 ∧ i = q) ∨ (c = 2 ∧ i = q) ∨ (c = 5 ∧ i = 0) ∨ ((c = 6 ∨ c = 10) ∧ (i = 2 * q ∨ i = 2 * q + 1))
theorem encP_id (f J : Nat → Int32) : encP f (encP f J) = encP f J := by
  funext k; unfold encP
  by_cases a : k ≤ 10
  · rw [if_pos a, if_pos a]
  · rw [if_neg a, if_neg a]
    by_cases b : k = 11
    · rw [if_pos b, if_pos b]
    · rw [if_neg b, if_neg b]
      by_cases c : k = 12
      · rw [if_pos c, if_pos c]
      · rw [if_neg c, if_neg c]
theorem encC_id (f J : Nat → Int32) : encC f (encC f J) = encC f J := by
  funext k; unfold encC
  by_cases a : k = 0
  · rw [if_pos a, if_pos a]
  by_cases b : k = 1
  · rw [if_neg a, if_neg a, if_pos b, if_pos b]
  by_cases c : k = 2
  · rw [if_neg a, if_neg a, if_neg b, if_neg b, if_pos c, if_pos c]
  by_cases d : k = 3
  · rw [if_neg a, if_neg a, if_neg b, if_neg b, if_neg c, if_neg c, if_pos d, if_pos d]
  by_cases e : k = 4
  · rw [if_neg a, if_neg a, if_neg b, if_neg b, if_neg c, if_neg c, if_neg d, if_neg d, if_pos e, if_pos e]
  · rw [if_neg a, if_neg a, if_neg b, if_neg b, if_neg c, if_neg c, if_neg d, if_neg d, if_neg e, if_neg e]
theorem encO_id (f J : Nat → Int32) : encO f (encO f J) = encO f J := by
  funext k; unfold encO
  by_cases a : k < 6
  · rw [if_pos a, if_pos a]
  · rw [if_neg a, if_neg a]
theorem encP_cg {f g : Nat → Int32} (h : ∀ j, j < 23 → f j = g j) (J : Nat → Int32) : encP f J = encP g J := by
  funext k; unfold encP
  by_cases a : k ≤ 10
  · rw [if_pos a, if_pos a, h k (by omega)]
  · rw [if_neg a, if_neg a, h 15 (by omega), h 22 (by omega)]
theorem encC_cg {f g : Nat → Int32} (h : ∀ j, j < 23 → f j = g j) (J : Nat → Int32) : encC f J = encC g J := by
  funext k; unfold encC
  rw [h 11 (by omega), h 12 (by omega), h 13 (by omega), h 14 (by omega)]
theorem encO_cg {f g : Nat → Int32} (h : ∀ j, j < 23 → f j = g j) (J : Nat → Int32) : encO f J = encO g J := by
  funext k; unfold encO
  by_cases a : k < 6
  · rw [if_pos a, if_pos a, h (16 + k) (by omega)]
  · rw [if_neg a, if_neg a]
theorem PS_cg {hv : HV} {q : Nat} {f g : Nat → Int32} (h : ∀ j, j < 23 → f j = g j) (hp : PS hv q f) : PS hv q g := by
  unfold PS at hp ⊢
  rw [← encP_cg h, ← encC_cg h, ← encO_cg h]
  exact hp
theorem RR_cg {L : Nat} {c : Int32} {g g2 I J : Nat → Int32} (h : ∀ b, b < L → g b = g2 b) (hr : RR L c g I J) : RR L c g2 I J := by
  obtain ⟨n, nx, e1, e2, e3, e4, e5, e6⟩ := hr
  exact ⟨n, nx, e1, e2, e3, e4, e5, fun b hb => by rw [e6 b hb, h b (by omega)]⟩
theorem mkC_id {hv : HV} {q : Nat} {f : Nat → Int32} (h : PS hv q f) : hv = mkC hv q f (fun c => hv c q) (hv 5 0) (hv 6 (2 * q)) (hv 10 (2 * q)) (hv 6 (2 * q + 1)) (hv 10 (2 * q + 1)) := by
  obtain ⟨h4, h0, h2⟩ := h
  funext c i
  unfold mkC
  by_cases a : c = 4 ∧ i = q
  · rw [if_pos a]; obtain ⟨rfl, rfl⟩ := a; exact h4
  rw [if_neg a]
  by_cases a : c = 0 ∧ i = q
  · rw [if_pos a]; obtain ⟨rfl, rfl⟩ := a; exact h0
  rw [if_neg a]
  by_cases a : c = 2 ∧ i = q
  · rw [if_pos a]; obtain ⟨rfl, rfl⟩ := a; exact h2
  rw [if_neg a]
  by_cases a : c = 5 ∧ i = 0
  · rw [if_pos a]; obtain ⟨rfl, rfl⟩ := a; rfl
  rw [if_neg a]
  by_cases a : c = 6 ∧ i = 2 * q
  · rw [if_pos a]; obtain ⟨rfl, rfl⟩ := a; rfl
  rw [if_neg a]
  by_cases a : c = 10 ∧ i = 2 * q
  · rw [if_pos a]; obtain ⟨rfl, rfl⟩ := a; rfl
  rw [if_neg a]
  by_cases a : c = 6 ∧ i = 2 * q + 1
  · rw [if_pos a]; obtain ⟨rfl, rfl⟩ := a; rfl
  rw [if_neg a]
  by_cases a : c = 10 ∧ i = 2 * q + 1
  · rw [if_pos a]; obtain ⟨rfl, rfl⟩ := a; rfl
  rw [if_neg a]
theorem mkC_o {hv : HV} {q : Nat} {f : Nat → Int32} {J : Nat → Nat → Int32} {rp I1 J1 I2 J2 : Nat → Int32} {c i : Nat} (h : ¬ pkey q c i) : mkC hv q f J rp I1 J1 I2 J2 c i = hv c i := by
  unfold mkC
  unfold pkey at h
  rw [if_neg (fun z => h (Or.inl z)), if_neg (fun z => h (Or.inr (Or.inl z))), if_neg (fun z => h (Or.inr (Or.inr (Or.inl z)))), if_neg (fun z => h (Or.inr (Or.inr (Or.inr (Or.inl z))))),
    if_neg (fun z => h (Or.inr (Or.inr (Or.inr (Or.inr ⟨Or.inl z.1, Or.inl z.2⟩))))), if_neg (fun z => h (Or.inr (Or.inr (Or.inr (Or.inr ⟨Or.inr z.1, Or.inl z.2⟩))))),
    if_neg (fun z => h (Or.inr (Or.inr (Or.inr (Or.inr ⟨Or.inl z.1, Or.inr z.2⟩))))), if_neg (fun z => h (Or.inr (Or.inr (Or.inr (Or.inr ⟨Or.inr z.1, Or.inr z.2⟩)))))]
theorem mkC_PS {hv : HV} {q : Nat} {f : Nat → Int32} {J : Nat → Nat → Int32} {rp I1 J1 I2 J2 : Nat → Int32} : PS (mkC hv q f J rp I1 J1 I2 J2) q f := by
  unfold PS
  rw [mkC_4, mkC_0, mkC_2, encP_id, encC_id, encO_id]
  exact ⟨rfl, rfl, rfl⟩
theorem trF_40 (f : Nat → Int32) : trF f 40 = f 40 + (if 32 ≤ f 40 then 0 else 1) := by unfold trF; rw [upd_s]
theorem trF_41 (f : Nat → Int32) (b : Nat) (h : b < 32) : trF f (41 + b) = pushG (byteF (f 6)) (fun b => f (41 + b)) b := by
  unfold trF pushG
  rw [upd_n _ _ (by omega)]
  by_cases e : b = 0
  · subst e; rw [upd_s, if_pos rfl]
  · rw [upd_n _ _ (by omega), if_neg e]
    unfold shiftF
    rw [if_pos ⟨by omega, by omega⟩]
    show f (41 + b - 1) = f (41 + (b - 1))
    rw [show 41 + b - 1 = 41 + (b - 1) by omega]
theorem slamT_23 (t : Int32) (f : Nat → Int32) : slamF true t f 23 = f 23 + (if 16 ≤ f 23 then 0 else 1) := by
  unfold slamF ivF
  rw [if_pos rfl, upd_n _ _ (by omega), upd_s, upd_n _ _ (by omega), upd_n _ _ (by omega)]
theorem slamT_24 (t : Int32) (f : Nat → Int32) (b : Nat) (h : b < 16) : slamF true t f (24 + b) = pushG (t - f 22) (fun b => f (24 + b)) b := by
  unfold slamF ivF pushG
  rw [if_pos rfl, upd_n _ _ (by omega), upd_n _ _ (by omega), upd_n _ _ (by omega)]
  by_cases e : b = 0
  · subst e; rw [upd_s, if_pos rfl, upd_n _ _ (by omega), upd_n _ _ (by omega)]
  · rw [upd_n _ _ (by omega), if_neg e]
    unfold shiftF
    rw [if_pos ⟨by omega, by omega⟩, upd_n _ _ (by omega), upd_n _ _ (by omega)]
    show f (24 + b - 1) = f (24 + (b - 1))
    rw [show 24 + b - 1 = 24 + (b - 1) by omega]
/-- what stays behind gain1, push, deliver, open: the rings' numbers -/
theorem gain1_hi (f : Nat → Int32) (w : Int32) (j : Nat) (h : 22 ≤ j) : gain1F f w j = f j := by unfold gain1F; rw [upd_n _ _ (by omega), upd_n _ _ (by omega), upd_n _ _ (by omega)]
theorem open_hi (f : Nat → Int32) (j : Nat) (h : 9 ≤ j) : openF f j = f j := by unfold openF; rw [upd_n _ _ (by omega), upd_n _ _ (by omega), upd_n _ _ (by omega)]
theorem push_hi (f : Nat → Int32) (w : Int32) (j : Nat) (h : 19 ≤ j) : pushF f w j = f j := by
  unfold pushF push2F
  have e : push1F f w j = f j := by unfold push1F; rw [upd_n _ _ (by omega), upd_n _ _ (by omega)]
  by_cases c : 1 ≤ push1F f w 6 - (1 + 100 * overF (push1F f w) / push1F f w 1)
  · rw [if_pos c, upd_n _ _ (by omega), e]
  · rw [if_neg c, open_hi _ _ (by omega), e]
theorem del_hi (f : Nat → Int32) (j : Nat) (h : 21 ≤ j) : delF f j = f j := by
  unfold delF del1F
  by_cases c : 0 < headF f - f 4
  · rw [if_pos c]
    by_cases d : f 15 + litF f ≤ 30000
    · rw [if_pos d, upd_n _ _ (by omega), upd_n _ _ (by omega), upd_n _ _ (by omega)]
    · rw [if_neg d, upd_n _ _ (by omega), upd_n _ _ (by omega), upd_n _ _ (by omega), upd_n _ _ (by omega), upd_n _ _ (by omega)]
  · rw [if_neg c]
theorem slamT_hi (t : Int32) (f : Nat → Int32) (j : Nat) (h : 40 ≤ j) : slamF true t f j = f j := by
  unfold slamF ivF
  rw [if_pos rfl, upd_n _ _ (by omega), upd_n _ _ (by omega), upd_n _ _ (by omega), upd_n _ _ (by omega), shiftF_o _ _ _ _ (Or.inr (by omega)), upd_n _ _ (by omega), upd_n _ _ (by omega)]
def slamC (w : Int32) (f : Nat → Int32) : Prop := flowF f ≤ w ∧ f 7 = 0 ∧ slamsF (gain1F f (flowF f))
theorem st1_hi (t w : Int32) (f : Nat → Int32) (j : Nat) (h : 40 ≤ j) : st1F t w f j = f j := by
  unfold st1F midF gainF
  by_cases c : flowF f ≤ w
  · rw [if_pos c]
    by_cases d : f 7 = 0
    · rw [if_pos d]
      by_cases e : slamsF (gain1F f (flowF f))
      · rw [if_pos e, slamT_hi _ _ _ h, gain1_hi _ _ _ (by omega)]
      · rw [if_neg e, gain1_hi _ _ _ (by omega)]
    · rw [if_neg d, push_hi _ _ _ (by omega)]
  · rw [if_neg c, upd_n _ _ (by omega), open_hi _ _ (by omega)]
theorem st1_slam (t w : Int32) (f : Nat → Int32) (h : flowF f ≤ w ∧ f 7 = 0 ∧ slamsF (gain1F f (flowF f))) : st1F t w f = slamF true t (gain1F f (flowF f)) := by
  unfold st1F midF gainF; rw [if_pos h.1, if_pos h.2.1, if_pos h.2.2]
theorem st1_no (t w : Int32) (f : Nat → Int32) (h : ¬ (flowF f ≤ w ∧ f 7 = 0 ∧ slamsF (gain1F f (flowF f)))) (j : Nat) (hj : 22 ≤ j) : st1F t w f j = f j := by
  unfold st1F midF gainF
  by_cases c : flowF f ≤ w
  · rw [if_pos c]
    by_cases d : f 7 = 0
    · rw [if_pos d, if_neg (fun z => h ⟨c, d, z⟩), gain1_hi _ _ _ (by omega)]
    · rw [if_neg d, push_hi _ _ _ (by omega)]
  · rw [if_neg c, upd_n _ _ (by omega), open_hi _ _ (by omega)]
theorem C_tickH {q : Nat} {hv : HV} {f : Nat → Int32} {w t : Int32} {post : HV → Prop} (hq : q < 37) (h : PI f) (hS : PS hv q f) (hG : PG hv q f)
    (hp : ∀ hv', RP w t f (hv' 5 0) → PS hv' q (tickF t w f) → PG hv' q (tickF t w f) → (∀ c i, ¬ pkey q c i → hv' c i = hv c i) → post hv') : V_X4_tick q w t hv post := by
  rw [mkC_id hS]
  refine C_tick hq h ?_
  intro rp' Ia Ja Ib Jb hrp hA hB
  have e40 : delF (st1F t w f) 40 = f 40 := by rw [del_hi _ _ (by omega), st1_hi _ _ _ _ (by omega)]
  refine hp _ (by rw [mkC_5]; exact hrp) (PS_cg (fun j hj => (trF_low _ _ hj).symm) mkC_PS) ⟨?_, ?_⟩ (fun c i h => mkC_o h)
  · rw [mkC_6, mkC_10]
    have e23 : tickF t w f 23 = st1F t w f 23 := by unfold tickF; rw [show trF (delF (st1F t w f)) 23 = delF (st1F t w f) 23 by unfold trF; rw [upd_n _ _ (by omega), upd_n _ _ (by omega), shiftF_o _ _ _ _ (Or.inl (by omega))], del_hi _ _ (by omega)]
    have e24 : ∀ b, b < 16 → tickF t w f (24 + b) = st1F t w f (24 + b) := by
      intro b hb
      unfold tickF
      rw [show trF (delF (st1F t w f)) (24 + b) = delF (st1F t w f) (24 + b) by unfold trF; rw [upd_n _ _ (by omega), upd_n _ _ (by omega), shiftF_o _ _ _ _ (Or.inl (by omega))], del_hi _ _ (by omega)]
    rw [e23]
    by_cases c : flowF f ≤ w ∧ f 7 = 0 ∧ slamsF (gain1F f (flowF f))
    · rw [if_pos c] at hA
      rw [st1_slam t w f c, slamT_23, gain1_hi _ _ _ (by omega)]
      refine RR_cg ?_ (hA _ _ hG.1)
      intro b hb
      rw [e24 b hb, st1_slam t w f c, slamT_24 _ _ _ hb, gain1_hi _ _ _ (by omega)]
      unfold pushG
      by_cases e : b = 0
      · rw [if_pos e, if_pos e]
      · rw [if_neg e, if_neg e]
        show f (24 + (b - 1)) = gain1F f (flowF f) (24 + (b - 1))
        rw [gain1_hi _ _ _ (by omega)]
    · rw [if_neg c] at hA
      rw [hA.1, hA.2, st1_no _ _ _ c _ (by omega)]
      refine RR_cg ?_ hG.1
      intro b hb
      rw [e24 b hb, st1_no _ _ _ c _ (by omega)]
  · rw [mkC_6t, mkC_10t]
    unfold tickF
    rw [trF_40, e40]
    refine RR_cg ?_ (hB _ _ hG.2)
    intro b hb
    rw [trF_41 _ _ hb]
    unfold pushG
    by_cases e : b = 0
    · rw [if_pos e, if_pos e]
    · rw [if_neg e, if_neg e]
      show f (41 + (b - 1)) = delF (st1F t w f) (41 + (b - 1))
      rw [del_hi _ _ (by omega), st1_hi _ _ _ _ (by omega)]
/-- in a trial, the rings don't count -/
theorem C_tickW {q : Nat} {hv : HV} {f : Nat → Int32} {w t : Int32} {post : HV → Prop} (hq : q < 37) (h : PI f) (hS : PS hv q f)
    (hp : ∀ hv', RP w t f (hv' 5 0) → PS hv' q (tickF t w f) → (∀ c i, ¬ pkey q c i → hv' c i = hv c i) → post hv') : V_X4_tick q w t hv post := by
  rw [mkC_id hS]
  refine C_tick hq h ?_
  intro rp' Ia Ja Ib Jb hrp _ _
  exact hp _ (by rw [mkC_5]; exact hrp) (PS_cg (fun j hj => (trF_low _ _ hj).symm) mkC_PS) (fun c i h => mkC_o h)

