/-! THE STATION, as the reference's 297 numbers v (spring, basin, time, spilled, count, pumps), the incidents L. -/
abbrev LG : Type := Nat × (Nat → Int32) × (Nat → Int32) × (Nat → Int32)
def addL (kind p t : Int32) (L : LG) : LG := if kind = 0 then L else (L.1 + 1, upd L.2.1 (L.1 % 20) kind, upd L.2.2.1 (L.1 % 20) p, upd L.2.2.2 (L.1 % 20) t)
def sl (v : Nat → Int32) (p : Nat) : Nat → Int32 := fun j => v (5 + 73 * p + j)
def cntN (v : Nat → Int32) : Nat := (v 4).toNatClampNeg
/-- the counters' bounds at the time t -/
def CI (t : Int) (f : Nat → Int32) : Prop := (0 ≤ (f 17).toInt ∧ (f 17).toInt ≤ 4000 * t) ∧ (0 ≤ (f 18).toInt ∧ (f 18).toInt ≤ 4000 * t) ∧ (0 ≤ (f 19).toInt ∧ (f 19).toInt ≤ 2000 * t)
theorem CI_c {t : Int} {f g : Nat → Int32} (h : ∀ j, 17 ≤ j → j < 20 → g j = f j) (hc : CI t f) : CI t g := by
  unfold CI
  rw [h 17 (by omega) (by omega), h 18 (by omega) (by omega), h 19 (by omega) (by omega)]
  exact hc
theorem CI_up {t : Int} {f : Nat → Int32} (hc : CI t f) : CI (t + 1) f := by
  obtain ⟨a, b, c⟩ := hc
  exact ⟨⟨a.1, by omega⟩, ⟨b.1, by omega⟩, ⟨c.1, by omega⟩⟩
theorem CI_gain {t : Int} {f : Nat → Int32} (h : PI f) (hc : CI t f) (ht : 0 ≤ t ∧ t ≤ 20000) (st : Bool) (τ : Int32) : (∀ j, 18 ≤ j → j < 22 → gainF st τ f (flowF f) j = f j) ∧ (0 ≤ (gainF st τ f (flowF f) 17).toInt ∧ (gainF st τ f (flowF f) 17).toInt ≤ 4000 * (t + 1)) := by
  have hw := h.flow
  have e1 : ∀ j, 18 ≤ j → j < 22 → gain1F f (flowF f) j = f j := fun j a b => by unfold gain1F; rw [upd_n _ _ (by omega), upd_n _ _ (by omega), upd_n _ _ (by omega)]
  have e2 : gain1F f (flowF f) 17 = f 17 + flowF f := by unfold gain1F; rw [upd_n _ _ (by omega), upd_n _ _ (by omega), upd_s]
  have es : ∀ j, 17 ≤ j → j < 22 → slamF st τ (gain1F f (flowF f)) j = gain1F f (flowF f) j := by
    intro j a b
    unfold slamF
    rw [upd_n _ _ (by omega)]
    cases st with
    | true => rw [if_pos rfl, ivF_low _ _ _ b, upd_n _ _ (by omega), upd_n _ _ (by omega)]
    | false => rw [if_neg (by decide), upd_n _ _ (by omega), upd_n _ _ (by omega)]
  have eg : ∀ j, 17 ≤ j → j < 22 → gainF st τ f (flowF f) j = gain1F f (flowF f) j := by
    intro j a b
    unfold gainF
    by_cases c : slamsF (gain1F f (flowF f))
    · rw [if_pos c, es j a b]
    · rw [if_neg c]
  refine ⟨fun j a b => by rw [eg j (by omega) b, e1 j a b], ?_⟩
  rw [eg 17 (by omega) (by omega), e2, i_add (by have := hc.1; omega) (by have := hc.1; omega)]
  have := hc.1
  omega
theorem CI_push {t : Int} {f : Nat → Int32} (h : PI f) (hc : CI t f) (ht : 0 ≤ t ∧ t ≤ 20000) : pushF f (flowF f) 17 = f 17 ∧ pushF f (flowF f) 19 = f 19 ∧ (0 ≤ (pushF f (flowF f) 18).toInt ∧ (pushF f (flowF f) 18).toInt ≤ 4000 * (t + 1)) := by
  have hw := h.flow
  have hk := h.take hw.1
  have e2 : ∀ j, 9 ≤ j → pushF f (flowF f) j = push1F f (flowF f) j := by
    intro j a
    unfold pushF push2F
    by_cases c : 1 ≤ push1F f (flowF f) 6 - (1 + 100 * overF (push1F f (flowF f)) / push1F f (flowF f) 1)
    · rw [if_pos c, upd_n _ _ (by omega)]
    · rw [if_neg c, open_hi _ _ a]
  have e3 : push1F f (flowF f) 18 = f 18 + (flowF f - takeF f (flowF f)) := by unfold push1F; rw [upd_s]
  refine ⟨?_, push_hi _ _ _ (by omega), ?_⟩
  · rw [e2 _ (by omega)]; unfold push1F; rw [upd_n _ _ (by omega), upd_n _ _ (by omega)]
  · have e4 : (flowF f - takeF f (flowF f)).toInt = (flowF f).toInt - (takeF f (flowF f)).toInt := i_sub (by omega) (by omega)
    have := hc.2.1
    rw [e2 _ (by omega), e3, i_add (by rw [e4]; omega) (by rw [e4]; omega), e4]
    omega
theorem CI_st1 {t : Int} {f : Nat → Int32} (h : PI f) (hc : CI t f) (ht : 0 ≤ t ∧ t ≤ 20000) (τ b : Int32) : (0 ≤ (st1F τ b f 17).toInt ∧ (st1F τ b f 17).toInt ≤ 4000 * (t + 1)) ∧ (0 ≤ (st1F τ b f 18).toInt ∧ (st1F τ b f 18).toInt ≤ 4000 * (t + 1)) ∧ st1F τ b f 19 = f 19 := by
  have h17 := hc.1
  have h18 := hc.2.1
  unfold st1F midF
  by_cases c : flowF f ≤ b
  · rw [if_pos c]
    by_cases d : f 7 = 0
    · rw [if_pos d]
      have hg := CI_gain h hc ht true τ
      rw [hg.1 18 (by omega) (by omega), hg.1 19 (by omega) (by omega)]
      exact ⟨hg.2, by omega, rfl⟩
    · rw [if_neg d]
      have hg := CI_push h hc ht
      rw [hg.1, hg.2.1]
      exact ⟨by omega, hg.2.2, rfl⟩
  · rw [if_neg c]
    have e : ∀ j, 17 ≤ j → j < 20 → upd (openF f) 21 (f 21 + 1) j = f j := fun j a b => by rw [upd_n _ _ (by omega), open_hi _ _ (by omega)]
    rw [e 17 (by omega) (by omega), e 18 (by omega) (by omega), e 19 (by omega) (by omega)]
    exact ⟨by omega, by omega, rfl⟩
theorem CI_tick {t : Int} {f : Nat → Int32} (h : PI f) (hc : CI t f) (ht : 0 ≤ t ∧ t ≤ 20000) (τ b : Int32) : CI (t + 1) (tickF τ b f) := by
  have h1 := CI_st1 h hc ht τ b
  have hP := PI_st1 h τ b
  have hl := hP.lit
  have h11 := hP.h11
  have h13 := hP.h13
  have h19 := hc.2.2
  have et : ∀ j, j < 23 → tickF τ b f j = delF (st1F τ b f) j := fun j a => trF_low _ _ a
  have ed : ∀ j, 17 ≤ j → j < 19 → delF (st1F τ b f) j = st1F τ b f j := by
    intro j a c
    unfold delF del1F
    by_cases q : 0 < headF (st1F τ b f) - st1F τ b f 4
    · rw [if_pos q]
      by_cases d : st1F τ b f 15 + litF (st1F τ b f) ≤ 30000
      · rw [if_pos d, upd_n _ _ (by omega), upd_n _ _ (by omega), upd_n _ _ (by omega)]
      · rw [if_neg d, upd_n _ _ (by omega), upd_n _ _ (by omega), upd_n _ _ (by omega), upd_n _ _ (by omega), upd_n _ _ (by omega)]
    · rw [if_neg q]
  have e19 : delF (st1F τ b f) 19 = f 19 + litF (st1F τ b f) := by
    unfold delF del1F
    by_cases q : 0 < headF (st1F τ b f) - st1F τ b f 4
    · rw [if_pos q]
      by_cases d : st1F τ b f 15 + litF (st1F τ b f) ≤ 30000
      · rw [if_pos d, upd_n _ _ (by omega), upd_s, h1.2.2]
      · rw [if_neg d, upd_n _ _ (by omega), upd_n _ _ (by omega), upd_n _ _ (by omega), upd_s, h1.2.2]
    · rw [if_neg q, h1.2.2]
      unfold litF
      rw [if_neg q, Int32.add_zero]
  unfold CI
  rw [et 17 (by omega), et 18 (by omega), et 19 (by omega), ed 17 (by omega) (by omega), ed 18 (by omega) (by omega), e19]
  refine ⟨h1.1, h1.2.1, ?_⟩
  rw [i_add (by omega) (by omega)]
  omega
/-- what always holds of a station's numbers -/
def VI (v : Nat → Int32) : Prop := (cntN v ≤ 4 ∧ v 4 = nI (cntN v)) ∧ (∀ p, p < cntN v → PI (sl v p) ∧ CI (v 2).toInt (sl v p)) ∧ (0 ≤ (v 0).toInt ∧ (v 0).toInt ≤ 20000) ∧ (0 ≤ (v 1).toInt ∧ (v 1).toInt ≤ 500) ∧ (0 ≤ (v 2).toInt ∧ (v 2).toInt ≤ 20000)
/-- the class's state s holds the numbers v -/
def CS (hv : HV) (s : Nat) (v : Nat → Int32) : Prop := (hv 7 s 0 = v 2 ∧ hv 7 s 1 = v 0 ∧ hv 7 s 2 = v 3 ∧ hv 7 s 3 = v 1 ∧ hv 7 s 4 = v 4) ∧ ∀ p, p < cntN v → PS hv (4 * s + p) (sl v p) ∧ PG hv (4 * s + p) (sl v p)
def skey (s c i : Nat) : Prop := (c = 7 ∧ i = s) ∨ ((c = 4 ∨ c = 0 ∨ c = 2) ∧ 4 * s ≤ i ∧ i < 4 * s + 4) ∨ ((c = 6 ∨ c = 10) ∧ 8 * s ≤ i ∧ i < 8 * s + 8)
theorem PS_fr {hv hw : HV} {q : Nat} {f : Nat → Int32} (h4 : hw 4 q = hv 4 q) (h0 : hw 0 q = hv 0 q) (h2 : hw 2 q = hv 2 q) (h : PS hv q f) : PS hw q f := by
  unfold PS; rw [h4, h0, h2]; exact h
theorem PG_fr {hv hw : HV} {q : Nat} {f : Nat → Int32} (h1 : ∀ i, i = 2 * q ∨ i = 2 * q + 1 → hw 6 i = hv 6 i) (h2 : ∀ i, i = 2 * q ∨ i = 2 * q + 1 → hw 10 i = hv 10 i) (h : PG hv q f) : PG hw q f := by
  unfold PG; rw [h1 _ (Or.inl rfl), h1 _ (Or.inr rfl), h2 _ (Or.inl rfl), h2 _ (Or.inr rfl)]; exact h
theorem CS_fr {hv hw : HV} {s : Nat} {v : Nat → Int32} (hn : cntN v ≤ 4) (h : ∀ c i, skey s c i → hw c i = hv c i) (hc : CS hv s v) : CS hw s v := by
  obtain ⟨h1, h2⟩ := hc
  refine ⟨by rw [h 7 s (Or.inl ⟨rfl, rfl⟩)]; exact h1, fun p hp => ?_⟩
  obtain ⟨a, b⟩ := h2 p hp
  refine ⟨PS_fr (h _ _ (Or.inr (Or.inl ⟨Or.inl rfl, by omega, by omega⟩))) (h _ _ (Or.inr (Or.inl ⟨Or.inr (Or.inl rfl), by omega, by omega⟩))) (h _ _ (Or.inr (Or.inl ⟨Or.inr (Or.inr rfl), by omega, by omega⟩))) a, PG_fr (fun i hi => h _ _ (Or.inr (Or.inr ⟨Or.inl rfl, by omega, by omega⟩))) (fun i hi => h _ _ (Or.inr (Or.inr ⟨Or.inr rfl, by omega, by omega⟩))) b⟩
theorem PG_cg {hv : HV} {q : Nat} {f g : Nat → Int32} (h : ∀ j, j < 73 → f j = g j) (hp : PG hv q f) : PG hv q g := by
  obtain ⟨a, b⟩ := hp
  refine ⟨?_, ?_⟩
  · rw [← h 23 (by omega)]; exact RR_cg (fun b hb => h _ (by omega)) a
  · rw [← h 40 (by omega)]; exact RR_cg (fun b hb => h _ (by omega)) b
theorem sl_cg {v w : Nat → Int32} (h : ∀ j, j < 297 → v j = w j) (p : Nat) (hp : p < 4) (j : Nat) (hj : j < 73) : sl v p j = sl w p j := h _ (by omega)
theorem CS_cg {hv : HV} {s : Nat} {v w : Nat → Int32} (hn : cntN v ≤ 4) (h : ∀ j, j < 297 → v j = w j) (hc : CS hv s v) : CS hv s w := by
  have e : cntN w = cntN v := by unfold cntN; rw [h 4 (by omega)]
  unfold CS
  rw [← h 0 (by omega), ← h 1 (by omega), ← h 2 (by omega), ← h 3 (by omega), ← h 4 (by omega), e]
  exact ⟨hc.1, fun p hp => ⟨PS_cg (fun j hj => sl_cg h p (by omega) j (by omega)) (hc.2 p hp).1, PG_cg (fun j hj => sl_cg h p (by omega) j hj) (hc.2 p hp).2⟩⟩
theorem VI_cg {v w : Nat → Int32} (h : ∀ j, j < 297 → v j = w j) (hc : VI v) : VI w := by
  have e : cntN w = cntN v := by unfold cntN; rw [h 4 (by omega)]
  unfold VI
  rw [← h 0 (by omega), ← h 1 (by omega), ← h 2 (by omega), ← h 4 (by omega), e]
  have h4 := hc.1.1
  exact ⟨hc.1, fun p hp => ⟨PI_c (fun j hj _ => (sl_cg h p (by omega) j (by omega)).symm) (hc.2.1 p hp).1, CI_c (fun j _ hj => (sl_cg h p (by omega) j (by omega)).symm) (hc.2.1 p hp).2⟩, hc.2.2⟩
/-- the slice of a station whose pump p is put anew -/
theorem sl_putW (v : Nat → Int32) (p : Nat) (g : Nat → Int32) (j : Nat) (h : j < 73) : sl (putW v (5 + 73 * p) g) p j = g j := pw_r _ _ _ _ h
theorem sl_putO (v : Nat → Int32) (p p2 : Nat) (g : Nat → Int32) (j : Nat) (hp : ¬ p2 = p) (h : j < 73) : sl (putW v (5 + 73 * p) g) p2 j = sl v p2 j := by
  unfold sl putW
  rw [if_neg (by omega)]
theorem sl_upd (v : Nat → Int32) (p i : Nat) (x : Int32) (j : Nat) (h : i < 5) : sl (upd v i x) p j = sl v p j := upd_n _ _ (by omega)
def fillS (l : Int32) (v : Nat → Int32) : Nat → Int32 := if v 0 + l ≤ 20000 then upd v 0 (v 0 + l) else upd (upd v 3 (v 3 + (v 0 + l - 20000))) 0 20000
theorem fillS_hi (l : Int32) (v : Nat → Int32) (j : Nat) (h : ¬ j = 0) (h3 : ¬ j = 3) : fillS l v j = v j := by
  unfold fillS
  by_cases c : v 0 + l ≤ 20000
  · rw [if_pos c, upd_n _ _ h]
  · rw [if_neg c, upd_n _ _ h, upd_n _ _ h3]
theorem VI_fill {v : Nat → Int32} {l : Int32} (hl : 0 ≤ l.toInt ∧ l.toInt ≤ 2000) (h : VI v) : VI (fillS l v) := by
  have e : cntN (fillS l v) = cntN v := by unfold cntN; rw [fillS_hi _ _ _ (by omega) (by omega)]
  have es : ∀ p j, sl (fillS l v) p j = sl v p j := fun p j => fillS_hi _ _ _ (by omega) (by omega)
  obtain ⟨h1, h2, h3, h4⟩ := h
  unfold VI
  rw [e, fillS_hi _ _ 1 (by omega) (by omega), fillS_hi _ _ 2 (by omega) (by omega), fillS_hi _ _ 4 (by omega) (by omega)]
  refine ⟨h1, fun p hp => ⟨PI_c (fun j _ _ => es p j) (h2 p hp).1, CI_c (fun j _ _ => es p j) (h2 p hp).2⟩, ?_, h4⟩
  have ea := i_add (a := v 0) (b := l) (by omega) (by omega)
  unfold fillS
  by_cases c : v 0 + l ≤ 20000
  · rw [if_pos c, upd_s]
    rw [i_le] at c
    exact ⟨by omega, c⟩
  · rw [if_neg c, upd_s]; exact ⟨by decide, by decide⟩

