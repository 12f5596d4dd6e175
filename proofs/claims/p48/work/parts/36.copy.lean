/-! Copies: ring, chamber, counters, pump, state. -/
theorem encP_of {f x : Nat → Int32} (h : ∀ k, k ≤ 10 → x k = f k) (h1 : x 11 = f 15) (h2 : x 12 = f 22) : x = encP f x := by
  funext k; unfold encP
  by_cases a : k ≤ 10
  · rw [if_pos a]; exact h k a
  rw [if_neg a]
  by_cases b : k = 11
  · rw [if_pos b, b]; exact h1
  rw [if_neg b]
  by_cases c : k = 12
  · rw [if_pos c, c]; exact h2
  rw [if_neg c]
theorem encC_of {f x : Nat → Int32} (h0 : x 0 = f 11) (h1 : x 1 = f 11 / 10) (h2 : x 2 = f 12) (h3 : x 3 = f 13) (h4 : x 4 = f 14) : x = encC f x := by
  funext k; unfold encC
  by_cases a0 : k = 0
  · rw [if_pos a0, a0]; exact h0
  rw [if_neg a0]
  by_cases a1 : k = 1
  · rw [if_pos a1, a1]; exact h1
  rw [if_neg a1]
  by_cases a2 : k = 2
  · rw [if_pos a2, a2]; exact h2
  rw [if_neg a2]
  by_cases a3 : k = 3
  · rw [if_pos a3, a3]; exact h3
  rw [if_neg a3]
  by_cases a4 : k = 4
  · rw [if_pos a4, a4]; exact h4
  rw [if_neg a4]
theorem encO_of {f x : Nat → Int32} (h : ∀ k, k < 6 → x k = f (16 + k)) : x = encO f x := by
  funext k; unfold encO
  by_cases a : k < 6
  · rw [if_pos a]; exact h k a
  · rw [if_neg a]
theorem bOK_b {x : Int32} (h : x = 0 ∨ x = 1) : bOK x := by
  rcases h with h | h
  · rw [h]; exact ⟨by decide, by decide⟩
  · rw [h]; exact ⟨by decide, by decide⟩
def ringkey (a c i : Nat) : Prop := (c = 6 ∨ c = 10) ∧ i = a
theorem C_copyRing {a b L : Nat} {hv : HV} {post : HV → Prop} (ha : rl a = L) (hb : rl b = L) (hL : L < 2 ^ 31) (hab : ¬ b = a)
    (hp : ∀ hv', (∀ c g, RR L c g (hv 6 b) (hv 10 b) → RR L c g (hv' 6 a) (hv' 10 a)) → (∀ c i, ¬ ringkey a c i → hv' c i = hv c i) → post hv') : V_X6_copyFrom a b hv post := by
  unfold V_X6_copyFrom
  intro hv1 e1 hv2 e2
  rw [ha, hb, ite_self, nI_clamp hL]
  refine ⟨⟨by decide, by decide, fun z => nI_pos hL z, by show 0 + L ≤ L; omega, by show 0 + L ≤ L; omega⟩, ?_⟩
  intro hv3 e3
  have f1 : ∀ c i, ¬ ringkey a c i → hv1 c i = hv c i := fun c i h => by rw [e1]; exact up_n _ _ (fun z => h ⟨Or.inl z.1, z.2⟩)
  have f2 : ∀ c i, ¬ ringkey a c i → hv2 c i = hv c i := fun c i h => by rw [e2, up_n _ _ (fun z => h ⟨Or.inl z.1, z.2⟩)]; exact f1 c i h
  have f3 : ∀ c i, ¬ ringkey a c i → hv3 c i = hv c i := fun c i h => by rw [e3, up_n _ _ (fun z => h ⟨Or.inr z.1, z.2⟩)]; exact f2 c i h
  have nk : ∀ c, ¬ ringkey a c b := fun c z => hab z.2
  refine hp hv3 ?_ f3
  rintro c g ⟨n, nx, k1, k2, k3, k4, k5, k6⟩
  have g6 : hv3 6 a = hv2 6 a := by rw [e3]; exact up_n _ _ (fun z => absurd z.1 (by omega))
  have g61 : hv2 6 a 1 = hv 6 b 1 := by rw [e2, up_s, upd_n _ _ (by omega), e1, up_s, upd_s]
  have g62 : hv2 6 a 2 = hv 6 b 2 := by rw [e2, up_s, upd_s, f1 _ _ (nk 6)]
  refine ⟨n, nx, k1, k2, by rw [g6, g61, k3], by rw [g6, g62, k4], k5, fun d hd => ?_⟩
  rw [e3, up_s]
  unfold va_cpy
  have hlt : (nx + L - 1 - d) % L < L := Nat.mod_lt _ (by omega)
  rw [show Int32.toNatClampNeg 0 = 0 from rfl, if_pos ⟨Nat.zero_le _, by omega⟩, f2 _ _ (nk 10), Nat.zero_add, Nat.sub_zero]
  exact k6 d hd
theorem C_copyChamber {q r : Nat} {hv : HV} {f : Nat → Int32} {post : HV → Prop} (hqr : ¬ r = q) (hS : hv 0 r = encC f (hv 0 r)) (b12 : f 12 = 0 ∨ f 12 = 1)
    (hp : ∀ X, X = encC f X → post (up hv 0 q X)) : V_X0_copyFrom q r hv post := by
  unfold V_X0_copyFrom
  have n0 : ∀ (h : HV) g, up h 0 q g 0 r = h 0 r := fun h g => up_n _ _ (fun z => hqr z.2)
  have s0 : hv 0 r 0 = f 11 := by rw [hS]; rfl
  have s1 : hv 0 r 1 = f 11 / 10 := by rw [hS]; rfl
  have s2 : hv 0 r 2 = f 12 := by rw [hS]; rfl
  have s3 : hv 0 r 3 = f 13 := by rw [hS]; rfl
  have s4 : hv 0 r 4 = f 14 := by rw [hS]; rfl
  simp only [forall_eq, up_s, up_up, n0, s0, s1, s2, s3, s4]
  refine ⟨bOK_b b12, hp _ (encC_of ?_ ?_ ?_ ?_ ?_)⟩
  all_goals simp (decide := true) only [upd_r, if_true, if_false]
theorem C_copyCounters {q r : Nat} {hv : HV} {f : Nat → Int32} {post : HV → Prop} (hqr : ¬ r = q) (hS : hv 2 r = encO f (hv 2 r))
    (hp : ∀ X, X = encO f X → post (up hv 2 q X)) : V_X2_copyFrom q r hv post := by
  unfold V_X2_copyFrom
  have n0 : ∀ (h : HV) g, up h 2 q g 2 r = h 2 r := fun h g => up_n _ _ (fun z => hqr z.2)
  have s : ∀ k, k < 6 → hv 2 r k = f (16 + k) := fun k hk => by rw [hS]; exact if_pos hk
  simp only [forall_eq, up_s, up_up, n0, s 0 (by omega), s 1 (by omega), s 2 (by omega), s 3 (by omega), s 4 (by omega), s 5 (by omega)]
  refine hp _ (encO_of fun k hk => ?_)
  rcases (by omega : k = 0 ∨ k = 1 ∨ k = 2 ∨ k = 3 ∨ k = 4 ∨ k = 5) with h | h | h | h | h | h <;> subst h <;> simp (decide := true) only [upd_r, if_true, if_false]
def qkey (q c i : Nat) : Prop := ((c = 4 ∨ c = 0 ∨ c = 2) ∧ i = q) ∨ ((c = 6 ∨ c = 10) ∧ (i = 2 * q ∨ i = 2 * q + 1))
theorem C_copyPump {q r : Nat} {hv : HV} {f : Nat → Int32} {post : HV → Prop} (hqr : ¬ r = q) (hq : q < 37) (hr : r < 37) (hS : PS hv r f) (hG : PG hv r f) (b5 : f 5 = 0 ∨ f 5 = 1) (b7 : f 7 = 0 ∨ f 7 = 1) (b12 : f 12 = 0 ∨ f 12 = 1)
    (hp : ∀ hv', PS hv' q f → PG hv' q f → (∀ c i, ¬ qkey q c i → hv' c i = hv c i) → post hv') : V_X4_copyFrom q r hv post := by
  unfold V_X4_copyFrom
  have n0 : ∀ (h : HV) g, up h 4 q g 4 r = h 4 r := fun h g => up_n _ _ (fun z => hqr z.2)
  obtain ⟨h4, h0, h2⟩ := hS
  have s : ∀ k, k ≤ 10 → hv 4 r k = f k := fun k hk => by rw [h4]; exact if_pos hk
  have s11 : hv 4 r 11 = f 15 := by rw [h4]; rfl
  have s12 : hv 4 r 12 = f 22 := by rw [h4]; rfl
  simp only [forall_eq, up_s, up_up, n0, s 0 (by omega), s 1 (by omega), s 2 (by omega), s 3 (by omega), s 4 (by omega), s 5 (by omega), s 6 (by omega), s 7 (by omega), s 8 (by omega), s 9 (by omega), s 10 (by omega), s11, s12]
  refine ⟨bOK_b b5, bOK_b b7, ?_⟩
  generalize eX : upd _ 12 (f 22) = X
  have hX : X = encP f X := by
    rw [← eX]
    refine encP_of (fun k hk => ?_) ?_ ?_
    · rcases (by omega : k = 0 ∨ k = 1 ∨ k = 2 ∨ k = 3 ∨ k = 4 ∨ k = 5 ∨ k = 6 ∨ k = 7 ∨ k = 8 ∨ k = 9 ∨ k = 10) with h | h | h | h | h | h | h | h | h | h | h <;> subst h <;> simp (decide := true) only [upd_r, if_true, if_false]
    · simp (decide := true) only [upd_r, if_true, if_false]
    · simp (decide := true) only [upd_r, if_true, if_false]
  clear eX
  refine C_copyChamber hqr (by rw [up_n _ _ (by omega)]; exact h0) b12 ?_
  intro Y hY
  refine C_copyCounters hqr (by rw [up_n _ _ (by omega), up_n _ _ (by omega)]; exact h2) ?_
  intro Z hZ
  have fa : ∀ c i, ¬ qkey q c i → up (up (up hv 4 q X) 0 q Y) 2 q Z c i = hv c i := fun c i h => by
    rw [up_n _ _ (fun z => h (Or.inl ⟨by omega, z.2⟩)), up_n _ _ (fun z => h (Or.inl ⟨by omega, z.2⟩)), up_n _ _ (fun z => h (Or.inl ⟨by omega, z.2⟩))]
  have fr : ∀ c i, c = 6 ∨ c = 10 → up (up (up hv 4 q X) 0 q Y) 2 q Z c i = hv c i := fun c i h => by
    rw [up_n _ _ (by omega), up_n _ _ (by omega), up_n _ _ (by omega)]
  refine C_copyRing (rl_i hq) (rl_i hr) (by omega) (by omega) ?_
  intro hv1 r1 f1
  refine C_copyRing (rl_t hq) (rl_t hr) (by omega) (by omega) ?_
  intro hv2 r2 f2
  have k4 : hv2 4 q = X := by rw [f2 4 q (fun z => absurd z.1 (by omega)), f1 4 q (fun z => absurd z.1 (by omega)), up_n _ _ (by omega), up_n _ _ (by omega), up_s]
  have k0 : hv2 0 q = Y := by rw [f2 0 q (fun z => absurd z.1 (by omega)), f1 0 q (fun z => absurd z.1 (by omega)), up_n _ _ (by omega), up_s]
  have k2 : hv2 2 q = Z := by rw [f2 2 q (fun z => absurd z.1 (by omega)), f1 2 q (fun z => absurd z.1 (by omega)), up_s]
  refine hp hv2 ⟨by rw [k4]; exact hX, by rw [k0]; exact hY, by rw [k2]; exact hZ⟩ ⟨?_, ?_⟩ ?_
  · rw [f2 6 (2 * q) (fun z => absurd z.2 (by omega)), f2 10 (2 * q) (fun z => absurd z.2 (by omega))]
    refine r1 _ _ ?_
    rw [fr 6 _ (Or.inl rfl), fr 10 _ (Or.inr rfl)]
    exact hG.1
  · refine r2 _ _ ?_
    rw [f1 6 (2 * r + 1) (fun z => absurd z.2 (by omega)), f1 10 (2 * r + 1) (fun z => absurd z.2 (by omega)), fr 6 _ (Or.inl rfl), fr 10 _ (Or.inr rfl)]
    exact hG.2
  · intro c i h
    rw [f2 c i (fun z => h (Or.inr ⟨z.1, Or.inr z.2⟩)), f1 c i (fun z => h (Or.inr ⟨z.1, Or.inl z.2⟩))]
    exact fa c i h
/-- the pumps of a state, from number p on -/
theorem C_copyLoop {s r : Nat} {v : Nat → Int32} {post : HV → Prop} (hsr : ¬ r = s) (hs : s < 9) (hr : r < 9) (hV : VI v) : ∀ (m n p : Nat) (hv : HV), m < n → p + m = cntN v → hv 7 s 4 = v 4 → hv 7 r 4 = v 4 → (∀ j, j < cntN v → PS hv (4 * r + j) (sl v j) ∧ PG hv (4 * r + j) (sl v j)) → (∀ j, j < p → PS hv (4 * s + j) (sl v j) ∧ PG hv (4 * s + j) (sl v j)) →
    (∀ hv', (∀ j, j < cntN v → PS hv' (4 * s + j) (sl v j) ∧ PG hv' (4 * s + j) (sl v j)) → (∀ c i, ¬ (skey s c i ∧ ¬ c = 7) → hv' c i = hv c i) → post hv') → V_X7_copyFrom_42 s r post n (nI p) hv
  | 0, n + 1, p, hv, _, hm, h4, _, _, hd, hp => by
    rw [V_X7_copyFrom_42]
    have h5 := hV.1.1
    refine ⟨fun _ => hp hv (fun j hj => hd j (by omega)) (fun _ _ _ => rfl), fun c => ?_⟩
    rw [h4, hV.1.2] at c
    exact absurd (nI_le (by omega) (by omega)) c
  | m + 1, n + 1, p, hv, hn, hm, h4, h4r, hc, hd, hp => by
    have h5 := hV.1.1
    have hPI := (hV.2.1 p (by omega)).1
    have hu : ∀ k, k < cntN v → nI p = nI k → k = p := fun k hk e => by
      rw [nI_eq (by omega) (by omega)] at e; exact e.symm
    rw [V_X7_copyFrom_42]
    refine ⟨fun c => ?_, fun _ => C_pumpAt (n := cntN v) (h4.trans hV.1.2) h5 (fun k1 hk1 e1 => ?_) (fun z => absurd rfl (z p (by omega)))⟩
    · rw [h4, hV.1.2, nI_leI (by omega) (by omega)] at c; omega
    rw [hu k1 hk1 e1]
    refine ⟨fun z => (Option.some_ne_none _ z).elim, fun r7 e7 _ => ?_⟩
    rw [← Option.some.inj e7]
    refine C_pumpAt (n := cntN v) (h4r.trans hV.1.2) h5 (fun k2 hk2 e2 => ?_) (fun z => absurd rfl (z p (by omega)))
    rw [hu k2 hk2 e2]
    refine ⟨fun z => (Option.some_ne_none _ z).elim, fun r8 e8 _ => ?_⟩
    rw [← Option.some.inj e8]
    refine C_copyPump (by omega) (by omega) (by omega) (hc p (by omega)).1 (hc p (by omega)).2 hPI.h5 hPI.h7 hPI.h12 ?_
    intro hv1 g1 g2 g3 x e
    rw [e, nI_1]
    have fo : ∀ q, ¬ q = 4 * s + p → ∀ f, PS hv q f ∧ PG hv q f → PS hv1 q f ∧ PG hv1 q f := fun q hq f h => by
      refine ⟨PS_fr (g3 _ _ ?_) (g3 _ _ ?_) (g3 _ _ ?_) h.1, PG_fr (fun i hi => g3 _ _ ?_) (fun i hi => g3 _ _ ?_) h.2⟩
      all_goals (unfold qkey; omega)
    refine C_copyLoop hsr hs hr hV m n (p + 1) hv1 (by omega) (by omega) ?_ ?_ (fun j hj => fo _ (by omega) _ (hc j hj)) (fun j hj => ?_) ?_
    · rw [g3 7 s (by unfold qkey; omega)]; exact h4
    · rw [g3 7 r (by unfold qkey; omega)]; exact h4r
    · by_cases hj2 : j = p
      · rw [hj2]; exact ⟨g1, g2⟩
      · exact fo _ (by omega) _ (hd j (by omega))
    · intro hv' k1 k2
      refine hp hv' k1 (fun c i h => ?_)
      rw [k2 c i h]
      refine g3 c i (fun z => h ?_)
      unfold qkey at z
      unfold skey
      omega
theorem C_copyState {s r : Nat} {v : Nat → Int32} {hv : HV} {post : HV → Prop} (hsr : ¬ r = s) (hs : s < 9) (hr : r < 9) (hV : VI v) (hc : CS hv r v)
    (hp : ∀ hv', CS hv' s v → (∀ c i, ¬ skey s c i → hv' c i = hv c i) → post hv') : V_X7_copyFrom s r hv post := by
  unfold V_X7_copyFrom
  have n0 : ∀ (h : HV) g, up h 7 s g 7 r = h 7 r := fun h g => up_n _ _ (fun z => hsr z.2)
  obtain ⟨⟨a0, a1, a2, a3, a4⟩, hP⟩ := hc
  simp only [forall_eq, up_s, up_up, n0, a0, a1, a2, a3, a4]
  generalize eX : upd _ 4 (v 4) = X
  have x : X 0 = v 2 ∧ X 1 = v 0 ∧ X 2 = v 3 ∧ X 3 = v 1 ∧ X 4 = v 4 := by
    rw [← eX]
    refine ⟨?_, ?_, ?_, ?_, ?_⟩
    all_goals simp (decide := true) only [upd_r, if_true, if_false]
  refine ⟨cntN v + 1, C_copyLoop hsr hs hr hV (cntN v) (cntN v + 1) 0 _ (by omega) (by omega) (by rw [up_s]; exact x.2.2.2.2) ((congrFun (up_n _ _ (fun z => hsr z.2)) 4).trans a4) (fun j hj => ?_) (fun j hj => by omega) ?_⟩
  · obtain ⟨b1, b2⟩ := hP j hj
    exact ⟨PS_fr (up_n _ _ (by omega)) (up_n _ _ (by omega)) (up_n _ _ (by omega)) b1, PG_fr (fun i _ => up_n _ _ (by omega)) (fun i _ => up_n _ _ (by omega)) b2⟩
  · intro hv' k1 k2
    have e7 : hv' 7 s = X := by rw [k2 7 s (by omega), up_s]
    refine hp hv' ⟨by rw [e7]; exact x, k1⟩ (fun c i h => ?_)
    rw [k2 c i (fun z => h z.1)]
    exact up_n _ _ (fun z => h (Or.inl z))

