theorem C_outside {a b c : Int32} {hv : HV} {post : Int32 → HV → Prop} : V_X8_outside a b c hv post ↔ post (if a < b then 1 else if a ≤ c then 0 else 1) hv := by
  unfold V_X8_outside
  by_cases h : a < b
  · rw [if_pos h]; exact ⟨fun z => z.1 h, fun z => ⟨fun _ => z, fun q => absurd h q⟩⟩
  · rw [if_neg h]
    by_cases h2 : a ≤ c
    · rw [if_pos h2]; exact ⟨fun z => (z.2 h).1 h2, fun z => ⟨fun q => absurd q h, fun _ => ⟨fun _ => z, fun q => absurd h2 q⟩⟩⟩
    · rw [if_neg h2]; exact ⟨fun z => (z.2 h).2 h2, fun z => ⟨fun q => absurd q h, fun _ => ⟨fun q => absurd q h2, fun _ => z⟩⟩⟩
/-- the class's log holds the incidents L -/
def CL (hv : HV) (L : LG) : Prop := hv 3 0 0 = nI L.1 ∧ RR 20 (nI (min L.1 20)) (fun b => L.2.1 ((L.1 - 1 - b) % 20)) (hv 6 74) (hv 10 74) ∧ RR 20 (nI (min L.1 20)) (fun b => L.2.2.1 ((L.1 - 1 - b) % 20)) (hv 6 75) (hv 10 75) ∧ RR 20 (nI (min L.1 20)) (fun b => L.2.2.2 ((L.1 - 1 - b) % 20)) (hv 6 76) (hv 10 76)
def lkey (c i : Nat) : Prop := (c = 3 ∧ i = 0) ∨ ((c = 6 ∨ c = 10) ∧ 74 ≤ i)
theorem CL_fr {hv hw : HV} {L : LG} (h : ∀ c i, lkey c i → hw c i = hv c i) (hc : CL hv L) : CL hw L := by
  unfold CL
  rw [h 3 0 (Or.inl ⟨rfl, rfl⟩), h 6 74 (Or.inr ⟨Or.inl rfl, by omega⟩), h 10 74 (Or.inr ⟨Or.inr rfl, by omega⟩), h 6 75 (Or.inr ⟨Or.inl rfl, by omega⟩), h 10 75 (Or.inr ⟨Or.inr rfl, by omega⟩), h 6 76 (Or.inr ⟨Or.inl rfl, by omega⟩), h 10 76 (Or.inr ⟨Or.inr rfl, by omega⟩)]
  exact hc
theorem RR_cn {L n0 : Nat} {c : Int32} {g g2 I J : Nat → Int32} (hL : L < 2 ^ 31) (h0 : n0 ≤ L) (hc : c = nI n0) (h : ∀ b, b < n0 → g b = g2 b) (hr : RR L c g I J) : RR L c g2 I J := by
  obtain ⟨n, nx, e1, e2, e3, e4, e5, e6⟩ := hr
  have e : n = n0 := by rw [hc, nI_eq (by omega) (by omega)] at e1; exact e1.symm
  exact ⟨n, nx, e1, e2, e3, e4, e5, fun b hb => by rw [e6 b hb, h b (by omega)]⟩
theorem ring20 {h : Nat} {arr I J I2 J2 : Nat → Int32} {x : Int32} (hA : AddR 20 x I J I2 J2) (hr : RR 20 (nI (min h 20)) (fun b => arr ((h - 1 - b) % 20)) I J) : RR 20 (nI (min (h + 1) 20)) (fun b => (upd arr (h % 20) x) ((h + 1 - 1 - b) % 20)) I2 J2 := by
  have z := hA _ _ hr
  have ec : nI (min h 20) + (if nI 20 ≤ nI (min h 20) then 0 else 1) = nI (min (h + 1) 20) := by
    by_cases c : h < 20
    · rw [if_neg (nI_ge (by omega) (by omega)), nI_1]
      congr 1; omega
    · rw [if_pos (nI_le (by omega) (by omega)), Int32.add_zero]
      congr 1; omega
  rw [ec] at z
  refine RR_cn (by omega) (Nat.min_le_right _ _) rfl ?_ z
  intro b hb
  unfold pushG
  by_cases e : b = 0
  · subst e; rw [if_pos rfl]; show x = upd arr (h % 20) x ((h + 1 - 1 - 0) % 20); rw [show h + 1 - 1 - 0 = h by omega, upd_s]
  · rw [if_neg e]; show arr ((h - 1 - (b - 1)) % 20) = upd arr (h % 20) x ((h + 1 - 1 - b) % 20)
    rw [upd_n _ _ (by omega), show h + 1 - 1 - b = h - 1 - (b - 1) by omega]
theorem C_logAdd {kind p t : Int32} {hv : HV} {L : LG} {post : HV → Prop} (hk : ¬ kind = 0) (hc : CL hv L) (hL : L.1 + 1 < 2 ^ 31) (hp : ∀ hv', CL hv' (addL kind p t L) → (∀ c i, ¬ lkey c i → hv' c i = hv c i) → post hv') : V_X3_add kind p t hv post := by
  unfold V_X3_add
  intro hv1 e1
  have f1 : ∀ c i, ¬ (c = 3 ∧ i = 0) → hv1 c i = hv c i := fun c i h => by rw [e1]; exact up_n _ _ h
  have r20 : rl 74 = 20 ∧ rl 75 = 20 ∧ rl 76 = 20 := by decide
  refine C_add r20.1 (Or.inr (Or.inr rfl)) ?_
  intro Ia Ja hA
  refine C_add r20.2.1 (Or.inr (Or.inr rfl)) ?_
  intro Ib Jb hB
  refine C_add r20.2.2 (Or.inr (Or.inr rfl)) ?_
  intro Ic Jc hC
  rw [f1 6 74 (by omega), f1 10 74 (by omega)] at hA
  rw [up_n _ _ (by omega), up_n _ _ (by omega), up_n _ _ (by omega), up_n _ _ (by omega), f1 6 75 (by omega), f1 10 75 (by omega)] at hB
  rw [up_n _ _ (by omega), up_n _ _ (by omega), up_n _ _ (by omega), up_n _ _ (by omega), up_n _ _ (by omega), up_n _ _ (by omega), up_n _ _ (by omega), up_n _ _ (by omega), f1 6 76 (by omega), f1 10 76 (by omega)] at hC
  obtain ⟨c0, c1, c2, c3⟩ := hc
  have eL : addL kind p t L = (L.1 + 1, upd L.2.1 (L.1 % 20) kind, upd L.2.2.1 (L.1 % 20) p, upd L.2.2.2 (L.1 % 20) t) := if_neg hk
  refine hp _ ?_ ?_
  · rw [eL]
    refine ⟨?_, ?_, ?_, ?_⟩
    · rw [up_n _ _ (by omega), up_n _ _ (by omega), up_n _ _ (by omega), up_n _ _ (by omega), up_n _ _ (by omega), up_n _ _ (by omega), e1, up_s, upd_s, c0, nI_1]
    · rw [up_n _ _ (by omega), up_n _ _ (by omega), up_n _ _ (by omega), up_n _ _ (by omega), up_s, up_n _ _ (show ¬ (10 = 6 ∧ 74 = 76) by omega), up_n _ _ (show ¬ (10 = 10 ∧ 74 = 76) by omega), up_n _ _ (show ¬ (10 = 6 ∧ 74 = 75) by omega), up_n _ _ (show ¬ (10 = 10 ∧ 74 = 75) by omega), up_n _ _ (show ¬ (10 = 6 ∧ 74 = 74) by omega), up_s]
      exact ring20 hA c1
    · rw [up_n _ _ (by omega), up_n _ _ (by omega), up_s, up_n _ _ (show ¬ (10 = 6 ∧ 75 = 76) by omega), up_n _ _ (show ¬ (10 = 10 ∧ 75 = 76) by omega), up_n _ _ (show ¬ (10 = 6 ∧ 75 = 75) by omega), up_s]
      exact ring20 hB c2
    · rw [up_s, up_n _ _ (show ¬ (10 = 6 ∧ 76 = 76) by omega), up_s]
      exact ring20 hC c3
  · intro c i h
    have h3 : ¬ (c = 3 ∧ i = 0) := fun z => h (Or.inl z)
    have h6 : ∀ a, 74 ≤ a → ¬ (c = 6 ∧ i = a) := fun a ha z => h (Or.inr ⟨Or.inl z.1, by omega⟩)
    have h10 : ∀ a, 74 ≤ a → ¬ (c = 10 ∧ i = a) := fun a ha z => h (Or.inr ⟨Or.inr z.1, by omega⟩)
    rw [up_n _ _ (h6 76 (by omega)), up_n _ _ (h10 76 (by omega)), up_n _ _ (h6 75 (by omega)), up_n _ _ (h10 75 (by omega)), up_n _ _ (h6 74 (by omega)), up_n _ _ (h10 74 (by omega)), f1 c i h3]
theorem addL_le (kind p t : Int32) (L : LG) : (addL kind p t L).1 ≤ L.1 + 1 := by
  unfold addL
  by_cases c : kind = 0
  · rw [if_pos c]; omega
  · rw [if_neg c]; exact Nat.le_refl _
theorem C_note {p : Int32} {hv : HV} {L : LG} {post : HV → Prop} (hc : CL hv L) (hL : L.1 + 2 < 2 ^ 31) (hp : ∀ hv', CL hv' (addL (if hv 5 0 4 = 0 then 0 else 3) p (hv 7 0 0) (addL (hv 5 0 3) p (hv 7 0 0) L)) → (∀ c i, ¬ lkey c i → hv' c i = hv c i) → post hv') : V_X8_noteIncidents p hv post := by
  have n5 : ¬ lkey 5 0 := by unfold lkey; omega
  have n7 : ¬ lkey 7 0 := by unfold lkey; omega
  unfold V_X8_noteIncidents
  refine ⟨fun a => ⟨fun b => ?_, fun b => ?_⟩, fun a => ?_⟩
  · rw [if_pos b, a] at hp
    exact hp hv hc (fun _ _ _ => rfl)
  · rw [if_neg b, a] at hp
    exact C_logAdd (by decide) hc (by omega) (fun hv' h1 h2 => hp hv' h1 h2)
  · refine C_logAdd a hc (by omega) ?_
    intro hv1 h1 h2
    rw [h2 5 0 n5]
    refine ⟨fun b => ?_, fun b => ?_⟩
    · rw [if_pos b] at hp
      exact hp hv1 h1 h2
    · rw [if_neg b] at hp
      have hle := addL_le (hv 5 0 3) p (hv 7 0 0) L
      refine C_logAdd (by decide) h1 (by omega) ?_
      intro hv2 g1 g2
      rw [h2 7 0 n7] at g1
      exact hp hv2 g1 (fun c i h => (g2 c i h).trans (h2 c i h))
theorem C_pumpAt {s : Nat} {x : Int32} {hv : HV} {n : Nat} {post : Option Nat → HV → Prop} (h4 : hv 7 s 4 = nI n) (hn : n ≤ 4) (hs : ∀ p, p < n → x = nI p → post (some (4 * s + p)) hv) (hno : (∀ p, p < n → ¬ x = nI p) → post none hv) : V_X7_pumpAt s x hv post := by
  unfold V_X7_pumpAt
  rw [h4]
  refine ⟨fun c => hno (fun p hp e => ?_), fun c => ?_⟩
  · rw [e, nI_leI (by omega) (by omega)] at c; omega
  · rw [C_outside]
    by_cases h0 : x < 0
    · rw [if_pos h0]
      refine ⟨fun z => absurd z (by decide), fun _ => hno (fun p hp e => ?_)⟩
      rw [e] at h0; exact nI_pos (by omega) h0
    · rw [if_neg h0]
      obtain ⟨j, hj, e⟩ := nI_of h0
      rw [e] at c ⊢
      rw [nI_leI (by omega) hj] at c
      rw [if_pos (show nI j ≤ 3 from nI_le (b := 3) (by omega) (by omega)), nI_clamp hj]
      exact ⟨fun _ => ⟨vp_in_nI (by omega) (by omega), hs j (by omega) e⟩, fun z => absurd rfl z⟩
theorem C_fill {l : Int32} {hv : HV} {v : Nat → Int32} {post : HV → Prop} (hl : 0 ≤ l.toInt ∧ l.toInt ≤ 2000) (h0 : 0 ≤ (v 0).toInt ∧ (v 0).toInt ≤ 20000) (hc : CS hv 0 v) (hp : ∀ hv', CS hv' 0 (fillS l v) → (∀ c i, ¬ (c = 7 ∧ i = 0) → hv' c i = hv c i) → post hv') : V_X7_fillBasin 0 l hv post := by
  obtain ⟨⟨a0, a1, a2, a3, a4⟩, hq⟩ := hc
  unfold V_X7_fillBasin
  simp only [forall_eq, up_s, up_up, upd_n _ _ (show ¬ 2 = 1 by omega)]
  rw [a1, a2]
  have e20 : (20000 - v 0).toInt = 20000 - (v 0).toInt := i_sub (a := 20000) (by show _ ≤ (20000 : Int) - _; omega) (by show (20000 : Int) - _ < _; omega)
  have es := i_add (a := v 0) (b := l) (by omega) (by omega)
  have ecn : cntN (fillS l v) = cntN v := by unfold cntN; rw [fillS_hi _ _ _ (by omega) (by omega)]
  -- the two numbers that change
  have key : v 0 + (if 20000 - v 0 < l then 20000 - v 0 else l) = fillS l v 0 ∧ v 3 + (l - (if 20000 - v 0 < l then 20000 - v 0 else l)) = fillS l v 3 := by
    unfold fillS
    by_cases c : v 0 + l ≤ 20000
    · have c' : (v 0 + l).toInt ≤ 20000 := by rw [i_le] at c; exact c
      rw [if_neg (by rw [i_lt, e20]; omega), if_pos c, upd_s, upd_n _ _ (by omega), Int32.sub_self, Int32.add_zero]
      exact ⟨rfl, rfl⟩
    · have c' : 20000 < (v 0 + l).toInt := by rw [i_nle, i_lt] at c; exact c
      rw [if_pos (by rw [i_lt, e20]; omega), if_neg c, upd_s, upd_n _ _ (by omega), upd_s]
      refine ⟨?_, ?_⟩
      · rw [i_eq, i_add (by rw [e20]; omega) (by rw [e20]; omega), e20]; show _ = (20000 : Int); omega
      · have e1 : l - (20000 - v 0) = v 0 + l - 20000 := by
          rw [i_eq, i_sub (by rw [e20]; omega) (by rw [e20]; omega), e20, i_sub (by rw [es]; show _ ≤ _ - (20000 : Int); omega) (by rw [es]; show _ - (20000 : Int) < _; omega), es]
          show _ = _ - (20000 : Int)
          omega
        rw [e1]
  rw [key.1, key.2]
  refine hp _ ⟨?_, ?_⟩ (fun c i h => up_n _ _ h)
  · rw [up_s, upd_n _ _ (by omega), upd_n _ _ (by omega), upd_n _ _ (by omega), upd_s, upd_s, upd_n _ _ (show ¬ 3 = 2 by omega), upd_n _ _ (show ¬ 3 = 1 by omega), upd_n _ _ (show ¬ 4 = 2 by omega), upd_n _ _ (show ¬ 4 = 1 by omega), fillS_hi _ _ 2 (by omega) (by omega), fillS_hi _ _ 1 (by omega) (by omega), fillS_hi _ _ 4 (by omega) (by omega)]
    exact ⟨a0, rfl, rfl, a3, a4⟩
  · intro p hp2
    rw [ecn] at hp2
    obtain ⟨b1, b2⟩ := hq p hp2
    have esl : ∀ j, j < 73 → sl v p j = sl (fillS l v) p j := fun j _ => by
      show v (5 + 73 * p + j) = fillS l v (5 + 73 * p + j)
      exact (fillS_hi l v (5 + 73 * p + j) (by omega) (by omega)).symm
    exact ⟨PS_cg (fun j hj => esl j (by omega)) (PS_fr (up_n _ _ (by omega)) (up_n _ _ (by omega)) (up_n _ _ (by omega)) b1), PG_cg esl (PG_fr (fun i _ => up_n _ _ (by omega)) (fun i _ => up_n _ _ (by omega)) b2)⟩

