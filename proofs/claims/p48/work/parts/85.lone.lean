/-! A pump that runs alone: its ticks at the station are its trial's, if it does not starve. -/
def lone (p : Nat) (v : Nat → Int32) : Prop := ¬ sl v p 5 = 0 ∧ ∀ q, q < cntN v → ¬ q = p → sl v q 5 = 0
section RG3
variable (a b c d l : Int32)
theorem rg_f1 (h : a = b + c) : a + l = b + (c + l) := by grind
end RG3
theorem pumpsS_idle : ∀ (m k : Nat) (S : ST), (∀ q, k ≤ q → q < k + m → S.1 (5 + 73 * q + 5) = 0) → pumpsS k m S = S
  | 0, _, _, _ => rfl
  | m + 1, k, S, h => by
    show pumpsS (k + 1) m (pumpS k S) = S
    rw [pumpS_rest (h k (Nat.le_refl _) (by omega))]
    exact pumpsS_idle m (k + 1) S (fun q h1 h2 => h q (by omega) (by omega))
theorem pumpsS_lone {p : Nat} : ∀ (m k : Nat) (S : ST), k ≤ p → p < k + m → (∀ q, k ≤ q → q < k + m → ¬ q = p → S.1 (5 + 73 * q + 5) = 0) → pumpsS k m S = pumpS p S
  | 0, _, _, h1, h2, _ => absurd h2 (by omega)
  | m + 1, k, S, h1, h2, h => by
    show pumpsS (k + 1) m (pumpS k S) = pumpS p S
    by_cases e : k = p
    · subst e
      refine pumpsS_idle m (k + 1) _ (fun q h3 h4 => ?_)
      exact (pumpS_sl (S := S) (show ¬ q = k by omega) 5 (by omega)).trans (h q (by omega) (by omega) (by omega))
    · rw [pumpS_rest (h k (Nat.le_refl _) (by omega) e)]
      exact pumpsS_lone m (k + 1) S (by omega) (by omega) (fun q h3 h4 => h q (by omega) (by omega))
theorem tickSt_lone {p : Nat} {S : ST} (hp : p < cntN S.1) (hl : lone p S.1) : ∃ b : Int32, (∀ j, j < 73 → sl (tickSt S).1 p j = tickF (S.1 2) b (sl S.1 p) j) ∧ (tickSt S).2.2 = S.2.2 + litF (st1F (S.1 2) b (sl S.1 p)) ∧ lone p (tickSt S).1 := by
  have ecn : cntN (fillS (S.1 1) S.1) = cntN S.1 := cnt_fill _ _
  have e2 : fillS (S.1 1) S.1 2 = S.1 2 := fillS_hi _ _ _ (by omega) (by omega)
  have es : ∀ q, sl (fillS (S.1 1) S.1) q = sl S.1 q := fun q => sl_fillF _ _ q
  have key : pumpsS 0 (cntN S.1) (fillS (S.1 1) S.1, S.2) = pumpS p (fillS (S.1 1) S.1, S.2) := by
    refine pumpsS_lone _ _ _ (Nat.zero_le _) (by omega) (fun q _ h2 h3 => ?_)
    show sl (fillS (S.1 1) S.1) q 5 = 0
    rw [es q]; exact hl.2 q (by omega) h3
  have hE : tickSt S = (upd (pumpS p (fillS (S.1 1) S.1, S.2)).1 2 (S.1 2 + 1), (pumpS p (fillS (S.1 1) S.1, S.2)).2) := by unfold tickSt; rw [key]
  have c : ¬ (fillS (S.1 1) S.1, S.2).1 (5 + 73 * p + 5) = 0 := by
    show ¬ sl (fillS (S.1 1) S.1) p 5 = 0
    rw [es p]; exact hl.1
  have n1 : ∀ j, j < 73 → sl (tickSt S).1 p j = tickF (S.1 2) (fillS (S.1 1) S.1 0) (sl S.1 p) j := fun j hj => by
    rw [hE]
    show sl (upd (pumpS p (fillS (S.1 1) S.1, S.2)).1 2 (S.1 2 + 1)) p j = _
    rw [sl_upd _ _ _ _ _ (by omega), pumpS_new c hj]
    show tickF (fillS (S.1 1) S.1 2) (fillS (S.1 1) S.1 0) (sl (fillS (S.1 1) S.1) p) j = _
    rw [e2, es p]
  have n2 : ∀ q, ¬ q = p → sl (tickSt S).1 q 5 = sl S.1 q 5 := fun q hq => by
    rw [hE]
    show sl (upd (pumpS p (fillS (S.1 1) S.1, S.2)).1 2 (S.1 2 + 1)) q 5 = _
    rw [sl_upd _ _ _ _ _ (by omega), pumpS_sl hq 5 (by omega)]
    show sl (fillS (S.1 1) S.1) q 5 = _
    rw [es q]
  have n4 : cntN (tickSt S).1 = cntN S.1 := by unfold cntN; rw [tickSt_lo S 4 (Or.inr rfl)]
  refine ⟨fillS (S.1 1) S.1 0, n1, ?_, ?_, fun q hq h3 => ?_⟩
  · rw [hE]
    show (pumpS p (fillS (S.1 1) S.1, S.2)).2.2 = _
    rw [pumpS_d c]
    show S.2.2 + litF (st1F (fillS (S.1 1) S.1 2) (fillS (S.1 1) S.1 0) (sl (fillS (S.1 1) S.1) p)) = _
    rw [e2, es p]
  · rw [n1 5 (by omega), tick_5]; exact hl.1
  · rw [n4] at hq
    rw [n2 q h3]; exact hl.2 q hq h3
theorem passS_r : ∀ (m : Nat) (S : ST), passS (m + 1) S = tickSt (passS m S)
  | 0, _ => rfl
  | m + 1, S => passS_r m (tickSt S)
theorem eqE_cg {f f2 g : Nat → Int32} (h : ∀ j, j < 15 → f2 j = f j) (he : eqE f g) : eqE f2 g :=
  ⟨fun j a b c => (h j a).trans (he.1 j a b c), fun z => by rw [h 7 (by omega)] at z; rw [h 8 (by omega)]; exact he.2 z⟩
theorem tick_Eb {f g : Nat → Int32} {t b : Int32} (hb : flowF f ≤ b) (h : eqE f g) : eqE (tickF t b f) (trialF g) := by
  have key : eqE (delF (midF true t f)) (trialF g) := (mid_E h true false t 0).del
  rw [← st1_yes (t := t) hb] at key
  exact eqE_cg (fun j hj => tick_lo _ _ _ (by omega)) key
/-- how often the waste valve slams in the first ticks of a trial -/
def slC (f : Nat → Int32) : Nat → Nat
  | 0 => 0
  | m + 1 => slC f m + (if slamQ (trN f m) then 1 else 0)
theorem slC_le (f : Nat → Int32) : ∀ m, slC f m ≤ m
  | 0 => Nat.le_refl _
  | m + 1 => by
    have h := slC_le f m
    show slC f m + (if slamQ (trN f m) then 1 else 0) ≤ m + 1
    by_cases c : slamQ (trN f m)
    · rw [if_pos c]; omega
    · rw [if_neg c]; omega
theorem slC_0 (f : Nat → Int32) : ∀ m, (slC f m = 0 ↔ ∀ i, i < m → ¬ slamQ (trN f i))
  | 0 => ⟨fun _ i hi => absurd hi (Nat.not_lt_zero _), fun _ => rfl⟩
  | m + 1 => by
    have h := slC_0 f m
    show slC f m + (if slamQ (trN f m) then 1 else 0) = 0 ↔ _
    by_cases c : slamQ (trN f m)
    · rw [if_pos c]
      exact ⟨fun z => absurd z (by omega), fun z => absurd c (z m (by omega))⟩
    · rw [if_neg c]
      refine ⟨fun z i hi => ?_, fun z => ?_⟩
      · by_cases e : i = m
        · rw [e]; exact c
        · exact h.mp (by omega) i (by omega)
      · have := h.mpr (fun i hi => z i (by omega))
        omega
/-- behind m ticks of a pass: k of them starved -/
def FT (f0 : Nat → Int32) (p m : Nat) (S : ST) : Prop := sl S.1 p 19 = f0 19 + S.2.2 ∧ ∃ k, k ≤ m ∧ sl S.1 p 21 = f0 21 + nI k ∧ (k = 0 → eqE (sl S.1 p) (trN f0 m) ∧ S.2.2 = dlN f0 m ∧ thF (sl S.1 p) = thF f0 + drN f0 m ∧ sl S.1 p 16 = f0 16 + nI (slC f0 m))
theorem FT_step {f0 : Nat → Int32} {p m : Nat} {S : ST} (hp : p < cntN S.1) (hl : lone p S.1) (h : FT f0 p m S) : FT f0 p (m + 1) (tickSt S) := by
  obtain ⟨b, n1, n2, _⟩ := tickSt_lone hp hl
  obtain ⟨h19, k, hk, h21, h0⟩ := h
  refine ⟨?_, ?_⟩
  · rw [n1 19 (by omega), tick_19, n2]
    exact rg_f1 _ _ _ _ h19
  · by_cases c : flowF (sl S.1 p) ≤ b
    · refine ⟨k, by omega, ?_, fun z => ?_⟩
      · rw [n1 21 (by omega), tick_21, if_pos c]; exact h21
      · obtain ⟨a1, a2, a3, a4⟩ := h0 z
        refine ⟨eqE_cg (fun j hj => n1 j (by omega)) (tick_Eb c a1), ?_, ?_, ?_⟩
        · rw [n2, a2, st1_yes c]
          show dlN f0 m + _ = dlN f0 m + litF (midF false 0 (trN f0 m))
          rw [(mid_E a1 true false (S.1 2) 0).lit]
        · rw [thF_cg (fun j hj => n1 j hj), tick_th, if_pos c, a3, a1.flow]
          show _ = thF f0 + (drN f0 m + flowF (trN f0 m))
          exact Int32.add_assoc _ _ _
        · rw [n1 16 (by omega), tick_16]
          show _ = f0 16 + nI (slC f0 m + (if slamQ (trN f0 m) then 1 else 0))
          by_cases d : slamQ (sl S.1 p)
          · rw [if_pos (show slmC b (sl S.1 p) from ⟨c, d⟩), if_pos (a1.slam.mp d), a4, ← nI_1, Int32.add_assoc]
          · rw [if_neg (fun z : slmC b (sl S.1 p) => d z.2), if_neg (fun z => d (a1.slam.mpr z)), a4, Nat.add_zero]
    · refine ⟨k + 1, by omega, ?_, fun z => absurd z (by omega)⟩
      rw [n1 21 (by omega), tick_21, if_neg c, h21, ← nI_1, Int32.add_assoc]
theorem FT_all {p : Nat} {v : Nat → Int32} {L : LG} (hp : p < cntN v) (hl : lone p v) : ∀ m, lone p (passS m (v, L, 0)).1 ∧ cntN (passS m (v, L, 0)).1 = cntN v ∧ FT (sl v p) p m (passS m (v, L, 0))
  | 0 => ⟨hl, rfl, (Int32.add_zero _).symm, 0, Nat.le_refl _, (Int32.add_zero _).symm, fun _ => ⟨eqE_i, rfl, (Int32.add_zero _).symm, (Int32.add_zero _).symm⟩⟩
  | m + 1 => by
    obtain ⟨a, b, c⟩ := FT_all (L := L) hp hl m
    have hp2 : p < cntN (passS m (v, L, 0)).1 := by rw [b]; exact hp
    obtain ⟨_, _, _, n3⟩ := tickSt_lone hp2 a
    rw [passS_r]
    refine ⟨n3, ?_, FT_step hp2 a c⟩
    have e : (tickSt (passS m (v, L, 0))).1 4 = (passS m (v, L, 0)).1 4 := tickSt_lo _ 4 (Or.inr rfl)
    unfold cntN at b ⊢
    rw [e]; exact b
theorem tsF_c (f : Nat → Int32) : ∀ (m k : Nat), (tsF f m k = -1005 ∧ ∀ i, k ≤ i → i < k + m → ¬ slamQ (trN f i)) ∨ ∃ i, k ≤ i ∧ i < k + m ∧ tsF f m k = nI (i + 1) ∧ slamQ (trN f i) ∧ ∀ j, k ≤ j → j < i → ¬ slamQ (trN f j)
  | 0, k => Or.inl ⟨rfl, fun i h1 h2 => absurd h2 (by omega)⟩
  | m + 1, k => by
    unfold tsF
    by_cases c : slamQ (trN f k)
    · rw [if_pos c]
      exact Or.inr ⟨k, Nat.le_refl _, by omega, rfl, c, fun j h1 h2 => absurd h2 (by omega)⟩
    · rw [if_neg c]
      rcases tsF_c f m (k + 1) with ⟨e, h⟩ | ⟨i, h1, h2, e, h3, h4⟩
      · refine Or.inl ⟨e, fun i h1 h2 => ?_⟩
        by_cases d : i = k
        · rw [d]; exact c
        · exact h i (by omega) (by omega)
      · refine Or.inr ⟨i, by omega, by omega, e, h3, fun j h5 h6 => ?_⟩
        by_cases d : j = k
        · rw [d]; exact c
        · exact h4 j (by omega) h6
/-- the trial's first slam, against its slams in T ticks -/
theorem ts_sl {f : Nat → Int32} {T : Nat} (hT : T ≤ 500) : (slC f T = 0 → tsF f 2000 0 ≤ 0 ∨ nI T < tsF f 2000 0) ∧ (¬ slC f T = 0 → ¬ tsF f 2000 0 ≤ 0 ∧ ¬ nI T < tsF f 2000 0) := by
  rcases tsF_c f 2000 0 with ⟨e, h⟩ | ⟨i, _, h2, e, h3, h4⟩
  · rw [e]
    refine ⟨fun _ => Or.inl (by decide), fun z => absurd ((slC_0 f T).mpr (fun i hi => h i (Nat.zero_le _) (by omega))) z⟩
  · rw [e]
    refine ⟨fun z => Or.inr ?_, fun z => ⟨nI_nle (by omega) (by omega), ?_⟩⟩
    · rcases Nat.lt_or_ge i T with d | d
      · exact absurd h3 ((slC_0 f T).mp z i d)
      · exact nI_lt (by omega) (by omega)
    · intro d
      rw [nI_ltI (by omega) (by omega)] at d
      exact z ((slC_0 f T).mpr (fun j hj => h4 j (Nat.zero_le _) (by omega)))
theorem rfPass_ok {T : Nat} {v : Nat → Int32} (h1 : 1 ≤ T) (hT : T ≤ 200) (ht : 0 ≤ (v 2).toInt ∧ (v 2).toInt + T ≤ 20000) : rfPass (nI T) v = 0 := by
  unfold rfPass
  have eT := nI_toInt (n := T) (by omega)
  have e20 : (20000 : Int32).toInt = 20000 := rfl
  rw [if_neg (show ¬ nI T < 1 from nI_nlt (b := 1) h1 (by omega)), if_neg (show ¬ (200 : Int32) < nI T from nI_nlt (a := 200) hT (by omega)), if_pos]
  rw [i_le, e20, i_add (by omega) (by omega), eT]; omega
/-! The most efficient pump, from the last one down. -/
def BD (E : Nat → Int) (lo hi : Nat) (r : Int32) : Prop := (r = -1005 ∧ ∀ q, lo ≤ q → q < hi → E q = -1005) ∨ ∃ b, lo ≤ b ∧ b < hi ∧ r = nI b ∧ 0 ≤ E b ∧ (∀ q, lo ≤ q → q < hi → E q ≤ E b) ∧ ∀ q, lo ≤ q → q < b → E q < E b
theorem BD_u {E : Nat → Int} {n : Nat} {r s : Int32} (h : BD E 0 n r) (h2 : BD E 0 n s) : r = s := by
  rcases h with ⟨e, a⟩ | ⟨b, _, b1, e, b2, b3, b4⟩
  · rcases h2 with ⟨e2, _⟩ | ⟨c, _, c1, _, c2, _⟩
    · rw [e, e2]
    · have := a c (Nat.zero_le _) c1; omega
  · rcases h2 with ⟨_, a⟩ | ⟨c, _, c1, e2, c2, c3, c4⟩
    · have := a b (Nat.zero_le _) b1; omega
    · have q1 := b3 c (Nat.zero_le _) c1
      have q2 := c3 b (Nat.zero_le _) b1
      have h1 : ¬ b < c := fun z => by have := c4 b (Nat.zero_le _) z; omega
      have h2 : ¬ c < b := fun z => by have := b4 c (Nat.zero_le _) z; omega
      rw [e, e2, show b = c by omega]
def eI (v : Nat → Int32) (q : Nat) : Int := (efF (sl v q)).toInt
theorem m1005 : (-1005 : Int32).toInt = -1005 := by decide
theorem eI_eq {v : Nat → Int32} {q : Nat} : efF (sl v q) = -1005 ↔ eI v q = -1005 := by
  rw [i_eq, m1005]; exact Iff.rfl
theorem eI_c {v : Nat → Int32} (hV : VI v) {q : Nat} (hq : q < cntN v) : eI v q = -1005 ∨ 0 ≤ eI v q := by
  obtain ⟨h1, h2⟩ := hV.2.1 q hq
  rcases ef_pos h1 h2 hV.2.2.2.2 with e | e
  · exact Or.inl (eI_eq.mp e)
  · exact Or.inr e
def dwF (v : Nat → Int32) : Nat → Int32 → Int32
  | 0, best => best
  | m + 1, best => dwF v m (if efF (sl v m) = -1005 then best else if best = -1005 then nI m else if efF (sl v m) < efF (sl v best.toNatClampNeg) then best else nI m)
theorem nI_n1005 {b : Nat} (h : b < 4) : ¬ nI b = -1005 := by
  intro z
  have := congrArg Int32.toInt z
  rw [nI_toInt (by omega), m1005] at this
  omega
theorem dwF_BD {v : Nat → Int32} (hV : VI v) : ∀ (m : Nat) (best : Int32), m ≤ cntN v → BD (eI v) m (cntN v) best → BD (eI v) 0 (cntN v) (dwF v m best)
  | 0, _, _, h => h
  | m + 1, best, hm, h => by
    have hn := hV.1.1
    unfold dwF
    refine dwF_BD hV m _ (by omega) ?_
    have hc := eI_c hV (q := m) (by omega)
    by_cases c : efF (sl v m) = -1005
    · rw [if_pos c]
      rw [eI_eq] at c
      rcases h with ⟨e, a⟩ | ⟨b, b0, b1, e, b2, b3, b4⟩
      · refine Or.inl ⟨e, fun q h1 h2 => ?_⟩
        by_cases d : q = m
        · rw [d]; exact c
        · exact a q (by omega) h2
      · refine Or.inr ⟨b, by omega, b1, e, b2, fun q h1 h2 => ?_, fun q h1 h2 => ?_⟩
        · by_cases d : q = m
          · rw [d]; omega
          · exact b3 q (by omega) h2
        · by_cases d : q = m
          · rw [d]; omega
          · exact b4 q (by omega) h2
    · rw [if_neg c]
      rw [eI_eq] at c
      rcases h with ⟨e, a⟩ | ⟨b, b0, b1, e, b2, b3, b4⟩
      · rw [if_pos e]
        refine Or.inr ⟨m, Nat.le_refl _, by omega, rfl, by omega, fun q h1 h2 => ?_, fun q h1 h2 => by omega⟩
        by_cases d : q = m
        · rw [d]; omega
        · have := a q (by omega) h2; omega
      · have eb : best.toNatClampNeg = b := by rw [e, nI_clamp (by omega)]
        rw [if_neg (by rw [e]; exact nI_n1005 (by omega)), eb]
        by_cases d : efF (sl v m) < efF (sl v b)
        · rw [if_pos d]
          rw [i_lt] at d
          have d : eI v m < eI v b := d
          refine Or.inr ⟨b, by omega, b1, e, b2, fun q h1 h2 => ?_, fun q h1 h2 => ?_⟩
          · by_cases z : q = m
            · rw [z]; omega
            · exact b3 q (by omega) h2
          · by_cases z : q = m
            · rw [z]; omega
            · exact b4 q (by omega) h2
        · rw [if_neg d]
          rw [i_lt] at d
          have d : ¬ eI v m < eI v b := d
          refine Or.inr ⟨m, Nat.le_refl _, by omega, rfl, by omega, fun q h1 h2 => ?_, fun q h1 h2 => by omega⟩
          by_cases z : q = m
          · rw [z]; omega
          · have := b3 q (by omega) h2; omega
theorem bestF_BD {v : Nat → Int32} (hV : VI v) : ∀ (m p : Nat) (best most : Int32), p + m = cntN v → BD (eI v) 0 p best → ((best = -1005 ∧ most = -1005) ∨ ∃ b, b < p ∧ best = nI b ∧ most = efF (sl v b)) → BD (eI v) 0 (cntN v) (bestF v m p best most)
  | 0, p, best, most, hm, h, _ => by rw [← hm, Nat.add_zero]; exact h
  | m + 1, p, best, most, hm, h, hb => by
    have hn := hV.1.1
    have hc := eI_c hV (q := p) (by omega)
    unfold bestF
    by_cases c : efF (sl v p) ≤ most
    · rw [if_pos c]
      rw [i_le] at c
      have c : eI v p ≤ most.toInt := c
      refine bestF_BD hV m (p + 1) best most (by omega) ?_ ?_
      · rcases h with ⟨e, a⟩ | ⟨b, b0, b1, e, b2, b3, b4⟩
        · rcases hb with ⟨_, e3⟩ | ⟨b, hb1, e3, _⟩
          · refine Or.inl ⟨e, fun q h1 h2 => ?_⟩
            by_cases d : q = p
            · rw [e3, m1005] at c
              rw [d]; omega
            · exact a q h1 (by omega)
          · exact absurd (e3.symm.trans e) (nI_n1005 (by omega))
        · rcases hb with ⟨e3, _⟩ | ⟨b5, hb1, e3, e4⟩
          · exact absurd (e.symm.trans e3) (nI_n1005 (by omega))
          · have eb : b = b5 := (nI_eq (by omega) (by omega)).mp (e.symm.trans e3)
            subst eb
            rw [e4] at c
            have c : eI v p ≤ eI v b := c
            refine Or.inr ⟨b, b0, by omega, e, b2, fun q h1 h2 => ?_, b4⟩
            by_cases d : q = p
            · rw [d]; omega
            · exact b3 q h1 (by omega)
      · rcases hb with z | ⟨b, hb1, e3, e4⟩
        · exact Or.inl z
        · exact Or.inr ⟨b, by omega, e3, e4⟩
    · rw [if_neg c]
      rw [i_le] at c
      have c : ¬ eI v p ≤ most.toInt := c
      refine bestF_BD hV m (p + 1) _ _ (by omega) ?_ (Or.inr ⟨p, by omega, rfl, rfl⟩)
      rcases h with ⟨e, a⟩ | ⟨b, b0, b1, e, b2, b3, b4⟩
      · rcases hb with ⟨_, e3⟩ | ⟨b, hb1, e3, _⟩
        · rw [e3, m1005] at c
          refine Or.inr ⟨p, Nat.zero_le _, by omega, rfl, by omega, fun q h1 h2 => ?_, fun q h1 h2 => ?_⟩
          · by_cases d : q = p
            · rw [d]; omega
            · have := a q h1 (by omega); omega
          · have := a q h1 h2; omega
        · exact absurd (e3.symm.trans e) (nI_n1005 (by omega))
      · rcases hb with ⟨e3, _⟩ | ⟨b5, hb1, e3, e4⟩
        · exact absurd (e.symm.trans e3) (nI_n1005 (by omega))
        · have eb : b = b5 := (nI_eq (by omega) (by omega)).mp (e.symm.trans e3)
          subst eb
          rw [e4] at c
          have c : ¬ eI v p ≤ eI v b := c
          refine Or.inr ⟨p, Nat.zero_le _, by omega, rfl, by omega, fun q h1 h2 => ?_, fun q h1 h2 => ?_⟩
          · by_cases d : q = p
            · rw [d]; omega
            · have := b3 q h1 (by omega); omega
          · have := b3 q h1 h2; omega
theorem best_eq {v : Nat → Int32} (hV : VI v) : bestF v (cntN v) 0 (-1005) (-1005) = dwF v (cntN v) (-1005) :=
  BD_u (bestF_BD hV (cntN v) 0 _ _ (by omega) (Or.inl ⟨rfl, fun q _ h => absurd h (by omega)⟩) (Or.inl ⟨rfl, rfl⟩)) (dwF_BD hV (cntN v) _ (Nat.le_refl _) (Or.inl ⟨rfl, fun q h1 h2 => absurd h2 (by omega)⟩))
