/-! The books of the station: what a tick, a call keeps of them. -/
def TOT (v : Nat → Int32) : Int32 := smF (fun p => thF (sl v p)) (cntN v) 0 (v 0 + v 3)
def LFT (v : Nat → Int32) : Int32 := smF (fun p => sl v p 19) (cntN v) 0 0
def PBs (p : Nat) (tk v : Nat → Int32) : Prop := ∀ q, q < cntN v → PB ((v 2).toInt + (if q < p then 1 else 0)) (tk q) (sl v q)
def PB0 (tk v : Nat → Int32) : Prop := ∀ q, q < cntN v → PB (v 2).toInt (tk q) (sl v q)
/-- incidents' kinds, pumps and times that can be -/
def LOK (L : LG) : Prop := ∀ j, j < L.1 → j < 20 → (1 ≤ (L.2.1 j).toInt ∧ (L.2.1 j).toInt ≤ 4) ∧ (0 ≤ (L.2.2.1 j).toInt ∧ (L.2.2.1 j).toInt ≤ 3) ∧ 0 ≤ (L.2.2.2 j).toInt
section RG2
variable (a b c d l w k : Int32)
theorem rg_lf : a + l + b = a + (b + l) := by grind
theorem rg_tr (h1 : a + b = c + d) (h2 : l + d = a + w) : l + b = c + w := by grind
theorem rg_mul : a + b + b * k = a + b * (k + 1) := by grind
end RG2
theorem thF_cg {f g : Nat → Int32} (h : ∀ j, j < 73 → g j = f j) : thF g = thF f := by
  unfold thF; rw [h 17 (by omega), h 18 (by omega), h 19 (by omega), h 13 (by omega)]
theorem LOK_add {kind p t : Int32} {L : LG} (h : LOK L) (hk : kind = 0 ∨ (1 ≤ kind.toInt ∧ kind.toInt ≤ 4)) (hp : 0 ≤ p.toInt ∧ p.toInt ≤ 3) (ht : 0 ≤ t.toInt) : LOK (addL kind p t L) := by
  unfold addL
  by_cases c : kind = 0
  · rw [if_pos c]; exact h
  · rw [if_neg c]
    intro j hj hj2
    have hj3 : j < L.1 + 1 := hj
    show (1 ≤ (upd L.2.1 (L.1 % 20) kind j).toInt ∧ (upd L.2.1 (L.1 % 20) kind j).toInt ≤ 4) ∧ (0 ≤ (upd L.2.2.1 (L.1 % 20) p j).toInt ∧ (upd L.2.2.1 (L.1 % 20) p j).toInt ≤ 3) ∧ 0 ≤ (upd L.2.2.2 (L.1 % 20) t j).toInt
    by_cases e : j = L.1 % 20
    · rw [← e, upd_s, upd_s, upd_s]
      exact ⟨hk.resolve_left c, hp, ht⟩
    · rw [upd_n _ _ e, upd_n _ _ e, upd_n _ _ e]
      exact h j (by omega) hj2
theorem k_st1 (b : Int32) (f : Nat → Int32) : st1I b f = 0 ∨ (1 ≤ (st1I b f).toInt ∧ (st1I b f).toInt ≤ 4) := by
  unfold st1I midI gainI pushI
  by_cases c : flowF f ≤ b
  · rw [if_pos c]
    by_cases d : f 7 = 0
    · rw [if_pos d]
      by_cases e : slamsF (gain1F f (flowF f)) ∧ true = true ∧ goneF (gain1F f (flowF f))
      · rw [if_pos e]; exact Or.inr ⟨by decide, by decide⟩
      · rw [if_neg e]; exact Or.inl rfl
    · rw [if_neg d]
      by_cases e : true = true ∧ ¬ flowF f ≤ takeF f (flowF f)
      · rw [if_pos e]; exact Or.inr ⟨by decide, by decide⟩
      · rw [if_neg e]; exact Or.inl rfl
  · rw [if_neg c]; exact Or.inr ⟨by decide, by decide⟩
theorem k_del (f : Nat → Int32) : delI true f = 0 ∨ (1 ≤ (delI true f).toInt ∧ (delI true f).toInt ≤ 4) := by
  unfold delI
  by_cases e : true = true ∧ overTF f
  · rw [if_pos e]; exact Or.inr ⟨by decide, by decide⟩
  · rw [if_neg e]; exact Or.inl rfl
section PMP
variable {p : Nat} {S : ST} {tk : Nat → Int32}
theorem pumpS_run (c : ¬ S.1 (5 + 73 * p + 5) = 0) : pumpS p S = (putW (upd S.1 0 (basF (S.1 0) (sl S.1 p))) (5 + 73 * p) (tickF (S.1 2) (S.1 0) (sl S.1 p)), addL (delI true (st1F (S.1 2) (S.1 0) (sl S.1 p))) (nI p) (S.1 2) (addL (st1I (S.1 0) (sl S.1 p)) (nI p) (S.1 2) S.2.1), S.2.2 + litF (st1F (S.1 2) (S.1 0) (sl S.1 p))) := if_neg c
theorem pumpS_rest (c : S.1 (5 + 73 * p + 5) = 0) : pumpS p S = S := if_pos c
theorem pumpS_new (c : ¬ S.1 (5 + 73 * p + 5) = 0) {j : Nat} (hj : j < 73) : sl (pumpS p S).1 p j = tickF (S.1 2) (S.1 0) (sl S.1 p) j := by
  rw [pumpS_run c]; exact sl_putW _ _ _ _ hj
theorem pumpS_b0 (c : ¬ S.1 (5 + 73 * p + 5) = 0) : (pumpS p S).1 0 = basF (S.1 0) (sl S.1 p) := by
  rw [pumpS_run c]
  show putW _ _ _ 0 = _
  rw [pw_lo _ _ _ _ (by omega), upd_s]
theorem pumpS_d (c : ¬ S.1 (5 + 73 * p + 5) = 0) : (pumpS p S).2.2 = S.2.2 + litF (st1F (S.1 2) (S.1 0) (sl S.1 p)) := by rw [pumpS_run c]
theorem bas_d (b : Int32) (f : Nat → Int32) (c : Int32) : basF b f + c + (if flowF f ≤ b then flowF f else 0) = b + c := by
  unfold basF
  by_cases h : flowF f ≤ b
  · rw [if_pos h, if_pos h]; grind
  · rw [if_neg h, if_neg h, Int32.add_zero]
theorem pumpS_T (hp : p < cntN S.1) : TOT (pumpS p S).1 = TOT S.1 ∧ LFT (pumpS p S).1 + S.2.2 = LFT S.1 + (pumpS p S).2.2 := by
  by_cases c : S.1 (5 + 73 * p + 5) = 0
  · rw [pumpS_rest c]; exact ⟨rfl, rfl⟩
  · refine ⟨?_, ?_⟩
    · unfold TOT
      rw [pumpS_cnt, pumpS_b0 c, pumpS_lo 3 (by omega) (by omega)]
      rw [smF_one (x := fun q => thF (sl S.1 q)) (p0 := p) (d := if flowF (sl S.1 p) ≤ S.1 0 then flowF (sl S.1 p) else 0) ?_ ?_ _ _ _ (Nat.zero_le _) (by omega), ← smF_acc, bas_d]
      · show thF (sl (pumpS p S).1 p) = _
        rw [thF_cg (fun j hj => pumpS_new c hj), tick_th]
      · intro q hq
        exact thF_cg (fun j hj => pumpS_sl hq j hj)
    · unfold LFT
      rw [pumpS_cnt, pumpS_d c]
      rw [smF_one (x := fun q => sl S.1 q 19) (p0 := p) (d := litF (st1F (S.1 2) (S.1 0) (sl S.1 p))) ?_ ?_ _ _ _ (Nat.zero_le _) (by omega)]
      · exact rg_lf _ _ _
      · show sl (pumpS p S).1 p 19 = _
        rw [pumpS_new c (by omega), tick_19]
      · intro q hq
        exact pumpS_sl hq 19 (by omega)
theorem pumpS_B (hp : p < cntN S.1) (hV : VM p S.1) (hB : PBs p tk S.1) : PBs (p + 1) tk (pumpS p S).1 := by
  intro q hq
  rw [pumpS_cnt] at hq
  rw [pumpS_lo 2 (by omega) (by omega)]
  have hb := hB q hq
  by_cases e : q = p
  · subst e
    rw [if_neg (by omega), Int.add_zero] at hb
    rw [if_pos (by omega)]
    by_cases c : S.1 (5 + 73 * q + 5) = 0
    · rw [pumpS_rest c]; exact PB_up (by omega) hb
    · refine PB_cg (fun j hj => pumpS_new c hj) (PB_tick (hV.2.1 q hq).1 hb c rfl ?_)
      have := hV.2.2.2.2
      omega
  · refine PB_cg (fun j hj => pumpS_sl e j hj) (PB_up ?_ hb)
    by_cases d : q < p
    · rw [if_pos d, if_pos (by omega)]; omega
    · rw [if_neg d, if_neg (by omega)]; omega
theorem pumpS_K (hp : p < 4) (ht : 0 ≤ (S.1 2).toInt) (h : LOK S.2.1) : LOK (pumpS p S).2.1 := by
  by_cases c : S.1 (5 + 73 * p + 5) = 0
  · rw [pumpS_rest c]; exact h
  · rw [pumpS_run c]
    have hpp : 0 ≤ (nI p).toInt ∧ (nI p).toInt ≤ 3 := by rw [nI_toInt (by omega)]; omega
    exact LOK_add (LOK_add h (k_st1 _ _) hpp ht) (k_del _) hpp ht
end PMP
theorem pumpsS_T {tk : Nat → Int32} : ∀ (m p : Nat) (S : ST), VM p S.1 → PBs p tk S.1 → LOK S.2.1 → p + m ≤ cntN S.1 → PBs (p + m) tk (pumpsS p m S).1 ∧ LOK (pumpsS p m S).2.1 ∧ TOT (pumpsS p m S).1 = TOT S.1 ∧ LFT (pumpsS p m S).1 + S.2.2 = LFT S.1 + (pumpsS p m S).2.2
  | 0, p, S, _, hB, hK, _ => ⟨hB, hK, rfl, rfl⟩
  | m + 1, p, S, hV, hB, hK, hm => by
    have h4 := hV.1.1
    obtain ⟨t1, t2⟩ := pumpS_T (p := p) (S := S) (by omega)
    obtain ⟨a, b, c, d⟩ := pumpsS_T m (p + 1) (pumpS p S) (VM_step hV (by omega)) (pumpS_B (by omega) hV hB) (pumpS_K (by omega) hV.2.2.2.2.1 hK) (by rw [pumpS_cnt]; omega)
    rw [show p + (m + 1) = p + 1 + m by omega]
    refine ⟨a, b, c.trans t1, ?_⟩
    exact rg_tr _ _ _ _ _ _ t2 d
theorem sl_updF (v : Nat → Int32) (p i : Nat) (x : Int32) (h : i < 5) : sl (upd v i x) p = sl v p := by
  funext j; exact sl_upd v p i x j h
theorem cnt_upd (v : Nat → Int32) (i : Nat) (x : Int32) (h : ¬ 4 = i) : cntN (upd v i x) = cntN v := by unfold cntN; rw [upd_n _ _ h]
theorem TOT_upd (v : Nat → Int32) (i : Nat) (x : Int32) (h : i = 1 ∨ i = 2) : TOT (upd v i x) = TOT v := by
  unfold TOT
  rw [cnt_upd _ _ _ (by omega), upd_n _ _ (by omega), upd_n _ _ (by omega)]
  exact smF_cg _ _ _ (fun q _ _ => by rw [sl_updF _ _ _ _ (by omega)])
theorem LFT_upd (v : Nat → Int32) (i : Nat) (x : Int32) (h : i = 1 ∨ i = 2) : LFT (upd v i x) = LFT v := by
  unfold LFT
  rw [cnt_upd _ _ _ (by omega)]
  exact smF_cg _ _ _ (fun q _ _ => by rw [sl_updF _ _ _ _ (by omega)])
theorem TOT_fill (l : Int32) (v : Nat → Int32) : TOT (fillS l v) = TOT v + l := by
  unfold TOT
  rw [cnt_fill, ← smF_acc]
  have e : fillS l v 0 + fillS l v 3 = v 0 + v 3 + l := by
    unfold fillS
    by_cases c : v 0 + l ≤ 20000
    · rw [if_pos c, upd_s, upd_n _ _ (by omega)]; exact rg_fill _ _ _
    · rw [if_neg c, upd_s, upd_n _ _ (by omega), upd_s]; exact rg_fillO _ _ _
  rw [e]
  exact smF_cg _ _ _ (fun q _ _ => by rw [sl_fillF])
theorem LFT_fill (l : Int32) (v : Nat → Int32) : LFT (fillS l v) = LFT v := by
  unfold LFT
  rw [cnt_fill]
  exact smF_cg _ _ _ (fun q _ _ => by rw [sl_fillF])
theorem tickSt_T {S : ST} {tk : Nat → Int32} (h : VI S.1) (ht : (S.1 2).toInt < 20000) (hb : PB0 tk S.1) (hl : LOK S.2.1) : PB0 tk (tickSt S).1 ∧ LOK (tickSt S).2.1 ∧ TOT (tickSt S).1 = TOT S.1 + S.1 1 ∧ LFT (tickSt S).1 + S.2.2 = LFT S.1 + (tickSt S).2.2 := by
  have hf := VI_fill (l := S.1 1) ⟨h.2.2.2.1.1, by have := h.2.2.2.1.2; omega⟩ h
  have e2 : fillS (S.1 1) S.1 2 = S.1 2 := fillS_hi _ _ _ (by omega) (by omega)
  have ecn : cntN (fillS (S.1 1) S.1) = cntN S.1 := cnt_fill _ _
  have hV0 : VM 0 (fillS (S.1 1) S.1) := VM_0 hf (by rw [e2]; exact ht)
  have hB0 : PBs 0 tk (fillS (S.1 1) S.1) := fun q hq => by
    rw [if_neg (by omega), Int.add_zero, e2, sl_fillF]
    exact hb q (by rw [← ecn]; exact hq)
  obtain ⟨a, b, c, d⟩ := pumpsS_T (cntN S.1) 0 (fillS (S.1 1) S.1, S.2) hV0 hB0 hl (by show 0 + cntN S.1 ≤ cntN (fillS (S.1 1) S.1); rw [ecn]; omega)
  have l2 : (pumpsS 0 (cntN S.1) (fillS (S.1 1) S.1, S.2)).1 2 = S.1 2 := by rw [pumpsS_lo _ _ _ _ (by omega) (by omega)]; exact e2
  have l4 : (pumpsS 0 (cntN S.1) (fillS (S.1 1) S.1, S.2)).1 4 = S.1 4 := by rw [pumpsS_lo _ _ _ _ (by omega) (by omega)]; exact fillS_hi _ _ _ (by omega) (by omega)
  generalize hS2 : pumpsS 0 (cntN S.1) (fillS (S.1 1) S.1, S.2) = S2 at a b c d l2 l4
  have hE : tickSt S = (upd S2.1 2 (S.1 2 + 1), S2.2) := by unfold tickSt; rw [hS2]
  rw [hE]
  have ec2 : cntN S2.1 = cntN S.1 := by unfold cntN; rw [l4]
  have e1 : (S.1 2 + 1).toInt = (S.1 2).toInt + 1 := i_add (by rw [i1]; have := h.2.2.2.2; omega) (by rw [i1]; omega)
  refine ⟨fun q hq => ?_, b, ?_, ?_⟩
  · have hq : q < cntN (upd S2.1 2 (S.1 2 + 1)) := hq
    rw [cnt_upd _ _ _ (by omega)] at hq
    have z := a q hq
    rw [if_pos (by omega), l2] at z
    show PB (upd S2.1 2 (S.1 2 + 1) 2).toInt (tk q) (sl (upd S2.1 2 (S.1 2 + 1)) q)
    rw [upd_s, e1, sl_updF _ _ _ _ (by omega)]
    exact z
  · show TOT (upd S2.1 2 (S.1 2 + 1)) = _
    rw [TOT_upd _ _ _ (Or.inr rfl), c]
    exact TOT_fill _ _
  · show LFT (upd S2.1 2 (S.1 2 + 1)) + S.2.2 = LFT S.1 + S2.2.2
    rw [LFT_upd _ _ _ (Or.inr rfl), ← LFT_fill (S.1 1) S.1]
    exact d
theorem passS_lo : ∀ (m : Nat) (S : ST), (passS m S).1 1 = S.1 1 ∧ (passS m S).1 4 = S.1 4 ∧ (passS m S).1 2 = S.1 2 + nI m
  | 0, S => ⟨rfl, rfl, (Int32.add_zero _).symm⟩
  | m + 1, S => by
    obtain ⟨a, b, c⟩ := passS_lo m (tickSt S)
    refine ⟨a.trans (tickSt_lo S 1 (Or.inl rfl)), b.trans (tickSt_lo S 4 (Or.inr rfl)), c.trans ?_⟩
    rw [tickSt_2, ← nI_1, Int32.add_assoc, Int32.add_comm 1]
theorem tickSt_t {S : ST} (h : VI S.1) (ht : (S.1 2).toInt < 20000) : ((tickSt S).1 2).toInt = (S.1 2).toInt + 1 := by
  rw [tickSt_2]
  exact i_add (by rw [i1]; have := h.2.2.2.2; omega) (by rw [i1]; omega)
theorem passS_T {tk : Nat → Int32} : ∀ (m : Nat) (S : ST), VI S.1 → (S.1 2).toInt + m ≤ 20000 → PB0 tk S.1 → LOK S.2.1 → PB0 tk (passS m S).1 ∧ LOK (passS m S).2.1 ∧ TOT (passS m S).1 = TOT S.1 + S.1 1 * nI m ∧ LFT (passS m S).1 + S.2.2 = LFT S.1 + (passS m S).2.2
  | 0, S, _, _, hb, hl => ⟨hb, hl, by show TOT S.1 = TOT S.1 + S.1 1 * 0; rw [Int32.mul_zero, Int32.add_zero], rfl⟩
  | m + 1, S, h, ht, hb, hl => by
    obtain ⟨a, b, c, d⟩ := tickSt_T h (by omega) hb hl
    have et := tickSt_t h (by omega)
    obtain ⟨a2, b2, c2, d2⟩ := passS_T m (tickSt S) (VI_tick h (by omega)) (by rw [et]; omega) a b
    refine ⟨a2, b2, ?_, rg_tr _ _ _ _ _ _ d d2⟩
    show TOT (passS m (tickSt S)).1 = _
    rw [c2, c, tickSt_lo S 1 (Or.inl rfl), ← nI_1]
    exact rg_mul _ _ _
/-- the law's books: g 0 the inflow, g 1 all water, g (2 + p) what was taken out of tank p -/
def BK (g v : Nat → Int32) : Prop := v 1 = g 0 ∧ TOT v = g 1 ∧ PB0 (fun p => g (2 + p)) v ∧ ∀ p, cntN v ≤ p → p < 4 → g (2 + p) = 0
theorem TOT_on {v : Nat → Int32} {p : Nat} {F : (Nat → Int32) → Nat → Int32} {d : Int32} (hp : p < cntN v) (h : thF (F (sl v p)) = thF (sl v p) + d) : TOT (onP v p F) = TOT v + d := by
  have ec : cntN (onP v p F) = cntN v := by unfold cntN; rw [onP_lo _ _ _ _ (by omega)]
  unfold TOT
  rw [ec, onP_lo _ _ _ _ (by omega), onP_lo _ _ _ _ (by omega)]
  refine smF_one (x := fun q => thF (sl v q)) (p0 := p) ?_ ?_ _ _ _ (Nat.zero_le _) (by omega)
  · show thF (sl (onP v p F) p) = _
    rw [thF_cg (f := F (sl v p)) (g := sl (onP v p F) p) (fun j hj => sl_onP v p j F hj), h]
  · intro q hq
    exact thF_cg (fun j hj => sl_putO v p q _ j hq hj)
theorem PB0_on {v g g2 : Nat → Int32} {p : Nat} {F : (Nat → Int32) → Nat → Int32} (hg : ∀ k, ¬ k = 2 + p → g2 k = g k) (hB : PB0 (fun p => g (2 + p)) v) (hpb : PB (v 2).toInt (g2 (2 + p)) (F (sl v p))) : PB0 (fun p => g2 (2 + p)) (onP v p F) := by
  have ec : cntN (onP v p F) = cntN v := by unfold cntN; rw [onP_lo _ _ _ _ (by omega)]
  intro q hq
  rw [ec] at hq
  rw [onP_lo _ _ _ _ (by omega)]
  by_cases e : q = p
  · subst e
    exact PB_cg (fun j hj => sl_onP v q j F hj) hpb
  · show PB (v 2).toInt (g2 (2 + q)) _
    rw [hg _ (by omega)]
    exact PB_cg (fun j hj => sl_putO v p q _ j e hj) (hB q hq)
theorem BK_on {g g2 v : Nat → Int32} {p : Nat} {F : (Nat → Int32) → Nat → Int32} (hp : p < cntN v) (hB : BK g v) (hg : ∀ k, ¬ k = 2 + p → g2 k = g k) (hth : thF (F (sl v p)) = thF (sl v p)) (hpb : PB (v 2).toInt (g2 (2 + p)) (F (sl v p))) : BK g2 (onP v p F) := by
  have ec : cntN (onP v p F) = cntN v := by unfold cntN; rw [onP_lo _ _ _ _ (by omega)]
  obtain ⟨a, b, c, d⟩ := hB
  refine ⟨?_, ?_, PB0_on hg c hpb, ?_⟩
  · rw [onP_lo _ _ _ _ (by omega), hg _ (by omega)]; exact a
  · rw [TOT_on (d := 0) hp (by rw [hth, Int32.add_zero]), Int32.add_zero, hg _ (by omega)]; exact b
  · intro q h1 h2
    rw [ec] at h1
    rw [hg _ (by omega)]
    exact d q h1 h2
theorem PB_w {t : Int} {tk : Int32} {f g : Nat → Int32} (h : ∀ j, 15 ≤ j → j < 73 → g j = f j) (h5 : g 5 = 0 → g 6 = 0 ∧ g 8 = 0) (hb : PB t tk f) : PB t tk g := by
  obtain ⟨a0, a1, a2, a3, a4, a5, a6, a7⟩ := hb
  unfold PB
  rw [h 19 (by omega) (by omega), h 15 (by omega) (by omega), h 20 (by omega) (by omega), h 16 (by omega) (by omega), h 23 (by omega) (by omega), h 22 (by omega) (by omega), h 40 (by omega) (by omega)]
  exact ⟨h5, a1, a2, a3, a4, fun b hb => by rw [h _ (by omega) (by omega)]; exact a5 b hb, a6, fun b hb => by rw [h _ (by omega) (by omega)]; exact a7 b hb⟩
theorem PB_22 {t : Int} {tk x : Int32} {f : Nat → Int32} (hx : 0 ≤ x.toInt ∧ x.toInt ≤ t) (hb : PB t tk f) : PB t tk (upd f 22 x) := by
  obtain ⟨a0, a1, a2, a3, a4, a5, a6, a7⟩ := hb
  unfold PB
  rw [upd_s, upd_n f x (show ¬ 5 = 22 by omega), upd_n f x (show ¬ 6 = 22 by omega), upd_n f x (show ¬ 8 = 22 by omega), upd_n f x (show ¬ 19 = 22 by omega), upd_n f x (show ¬ 15 = 22 by omega), upd_n f x (show ¬ 20 = 22 by omega), upd_n f x (show ¬ 16 = 22 by omega), upd_n f x (show ¬ 23 = 22 by omega), upd_n f x (show ¬ 40 = 22 by omega)]
  exact ⟨a0, a1, a2, a3, hx, fun b hb => by rw [upd_n _ _ (by omega)]; exact a5 b hb, a6, fun b hb => by rw [upd_n _ _ (by omega)]; exact a7 b hb⟩
theorem PB_15 {t : Int} {tk : Int32} {f : Nat → Int32} (hb : PB t tk f) : PB t (tk + f 15) (upd f 15 0) := by
  obtain ⟨a0, a1, a2, a3, a4, a5, a6, a7⟩ := hb
  unfold PB
  rw [upd_s, upd_n f 0 (show ¬ 5 = 15 by omega), upd_n f 0 (show ¬ 6 = 15 by omega), upd_n f 0 (show ¬ 8 = 15 by omega), upd_n f 0 (show ¬ 19 = 15 by omega), upd_n f 0 (show ¬ 22 = 15 by omega), upd_n f 0 (show ¬ 20 = 15 by omega), upd_n f 0 (show ¬ 16 = 15 by omega), upd_n f 0 (show ¬ 23 = 15 by omega), upd_n f 0 (show ¬ 40 = 15 by omega)]
  exact ⟨a0, rg_tank _ _ _ _ a1, a2, a3, a4, fun b hb => by rw [upd_n _ _ (by omega)]; exact a5 b hb, a6, fun b hb => by rw [upd_n _ _ (by omega)]; exact a7 b hb⟩
section ACB
variable {g v : Nat → Int32} {a : Int32}
theorem BK_start (hV : VI v) (hp : pn v a < cntN v) (hB : BK g v) : BK g (startV a v) := by
  refine BK_on hp hB (fun _ _ => rfl) ?_ ?_
  · unfold thF
    rw [upd_n _ _ (by omega), upd_n _ _ (by omega), upd_n _ _ (by omega), upd_n _ _ (by omega), upd_n _ _ (by omega), upd_n _ _ (by omega), upd_n _ _ (by omega), upd_n _ _ (by omega)]
  · refine PB_22 ⟨hV.2.2.2.2.1, Int.le_refl _⟩ (PB_w (fun j h1 h2 => upd_n _ _ (by omega)) (fun z => ?_) (hB.2.2.1 _ hp))
    rw [upd_s] at z; exact absurd z (by decide)
theorem BK_stop (hp : pn v a < cntN v) (hB : BK g v) : BK g (stopV a v) := by
  refine BK_on hp hB (fun _ _ => rfl) ?_ ?_
  · unfold thF
    rw [openF_o _ (by omega), openF_o _ (by omega), openF_o _ (by omega), openF_o _ (by omega), upd_n _ _ (by omega), upd_n _ _ (by omega), upd_n _ _ (by omega), upd_n _ _ (by omega)]
  · refine PB_w (fun j h1 h2 => by rw [openF_o _ (by omega), upd_n _ _ (by omega)]) (fun _ => ?_) (hB.2.2.1 _ hp)
    unfold openF
    rw [upd_s, upd_n _ _ (by omega), upd_n _ _ (by omega), upd_s]
    exact ⟨rfl, rfl⟩
theorem BK_valve {k s : Int32} (hp : pn v a < cntN v) (hB : BK g v) : BK g (valveV a k s v) := by
  refine BK_on hp hB (fun _ _ => rfl) ?_ ?_
  · unfold thF
    rw [upd_n _ _ (by omega), upd_n _ _ (by omega), upd_n _ _ (by omega), upd_n _ _ (by omega), upd_n _ _ (by omega), upd_n _ _ (by omega), upd_n _ _ (by omega), upd_n _ _ (by omega)]
  · refine PB_w (fun j h1 h2 => by rw [upd_n _ _ (by omega), upd_n _ _ (by omega)]) (fun z => ?_) (hB.2.2.1 _ hp)
    rw [upd_n _ _ (by omega), upd_n _ _ (by omega)] at z
    rw [upd_n _ _ (by omega), upd_n _ _ (by omega), upd_n _ _ (by omega), upd_n _ _ (by omega)]
    exact (hB.2.2.1 _ hp).1 z
theorem BK_tank (hp : pn v a < cntN v) (hB : BK g v) : BK (upd g (2 + pn v a) (g (2 + pn v a) + sl v (pn v a) 15)) (tankV a v) := by
  refine BK_on hp hB (fun k hk => upd_n _ _ hk) ?_ ?_
  · unfold thF
    rw [upd_n _ _ (by omega), upd_n _ _ (by omega), upd_n _ _ (by omega), upd_n _ _ (by omega)]
  · rw [upd_s]; exact PB_15 (hB.2.2.1 _ hp)
theorem BK_flow {x : Int32} (hB : BK g v) : BK (upd g 0 x) (upd v 1 x) := by
  obtain ⟨b1, b2, b3, b4⟩ := hB
  refine ⟨by rw [upd_s, upd_s], ?_, fun q hq => ?_, fun q h1 h2 => ?_⟩
  · rw [TOT_upd _ _ _ (Or.inl rfl), upd_n _ _ (by omega)]; exact b2
  · rw [cnt_upd _ _ _ (by omega)] at hq
    show PB (upd v 1 x 2).toInt (upd g 0 x (2 + q)) (sl (upd v 1 x) q)
    rw [upd_n _ _ (by omega), upd_n _ _ (by omega), sl_updF _ _ _ _ (by omega)]
    exact b3 q hq
  · rw [cnt_upd _ _ _ (by omega)] at h1
    rw [upd_n _ _ (by omega)]; exact b4 q h1 h2
theorem BK_ch {s n : Int32} (hp : pn v a < cntN v) (hB : BK g v) : BK g (chV a s n v) := by
  obtain ⟨b1, b2, b3, b4⟩ := hB
  have ec : cntN (fillS (sl v (pn v a) 13) v) = cntN v := cnt_fill _ _
  have hp2 : pn v a < cntN (fillS (sl v (pn v a) 13) v) := by rw [ec]; exact hp
  have ec2 : cntN (chV a s n v) = cntN v := by
    unfold chV cntN
    rw [onP_lo _ _ _ _ (by omega)]; exact ec
  have f2 : ∀ j, ¬ j = 0 → ¬ j = 3 → fillS (sl v (pn v a) 13) v j = v j := fun j => fillS_hi _ _ j
  have bf : PB0 (fun p => g (2 + p)) (fillS (sl v (pn v a) 13) v) := fun q hq => by
    rw [ec] at hq
    rw [f2 2 (by omega) (by omega), sl_fillF]; exact b3 q hq
  refine ⟨?_, ?_, ?_, fun q h1 h2 => b4 q (by rw [← ec2]; exact h1) h2⟩
  · unfold chV
    rw [onP_lo _ _ _ _ (by omega), f2 1 (by omega) (by omega)]; exact b1
  · unfold chV
    rw [TOT_on (d := - (sl v (pn v a) 13)) hp2 ?_, TOT_fill, ← b2]
    · grind
    · rw [sl_fillF]
      unfold thF
      rw [chF_o _ _ _ (by omega), chF_o _ _ _ (by omega), chF_o _ _ _ (by omega)]
      have e13 : chF s n (sl v (pn v a)) 13 = 0 := by unfold chF; rw [upd_n _ _ (by omega), upd_s]
      rw [e13]
      grind
  · refine PB0_on (fun _ _ => rfl) bf ?_
    rw [f2 2 (by omega) (by omega), sl_fillF]
    refine PB_w (fun j h1 h2 => chF_o _ _ _ (by omega)) (fun z => ?_) (b3 _ hp)
    rw [chF_o _ _ _ (by omega)] at z
    rw [chF_o _ _ _ (by omega), chF_o _ _ _ (by omega)]
    exact (b3 _ hp).1 z
theorem thF_nw {x0 x1 x2 x3 x4 : Int32} : thF (nwF x0 x1 x2 x3 x4) = 0 := by
  unfold thF
  rw [nwF_0 (by omega) (by omega) (by omega) (by omega), nwF_0 (by omega) (by omega) (by omega) (by omega), nwF_0 (by omega) (by omega) (by omega) (by omega), nwF_0 (by omega) (by omega) (by omega) (by omega)]
  rfl
theorem PB_nw {x0 x1 x2 x3 x4 : Int32} {t : Int} (ht : 0 ≤ t) : PB t 0 (nwF x0 x1 x2 x3 x4) := by
  have z : ∀ {k : Nat}, 15 ≤ k → nwF x0 x1 x2 x3 x4 k = 0 := fun h => nwF_0 (by omega) (by omega) (by omega) (by omega)
  unfold PB
  rw [z (k := 19) (by omega), z (k := 15) (by omega), z (k := 20) (by omega), z (k := 16) (by omega), z (k := 23) (by omega), z (k := 22) (by omega), z (k := 40) (by omega), i0]
  refine ⟨fun _ => ⟨nwF_0 (by omega) (by omega) (by omega) (by omega), nwF_0 (by omega) (by omega) (by omega) (by omega)⟩, rfl, ⟨by omega, ht⟩, by rw [if_pos (by omega)], ⟨by omega, ht⟩, fun b _ => by rw [z (by omega), i0]; omega, by omega, fun b _ => by rw [z (by omega), i0]; omega⟩
theorem BK_add {x0 x1 x2 x3 x4 : Int32} (hV : VI v) (hc : cntN v < 4) (hB : BK g v) : BK g (addV x0 x1 x2 x3 x4 v) := by
  obtain ⟨b1, b2, b3, b4⟩ := hB
  have ec := addV_cnt (x0 := x0) (x1 := x1) (x2 := x2) (x3 := x3) (x4 := x4) hV
  refine ⟨by rw [addV_lo (by omega)]; exact b1, ?_, fun q hq => ?_, fun q h1 h2 => b4 q (by rw [ec] at h1; omega) h2⟩
  · unfold TOT
    rw [ec, addV_lo (by omega), addV_lo (by omega), smF_snoc, Nat.zero_add, thF_cg (fun j hj => addV_new hj), thF_nw, Int32.add_zero, ← b2]
    exact smF_cg _ _ _ (fun q _ h => thF_cg (fun j hj => addV_sl (by omega) hj))
  · rw [ec] at hq
    rw [addV_lo (by omega)]
    by_cases e : q = cntN v
    · subst e
      show PB (v 2).toInt (g (2 + cntN v)) _
      rw [b4 _ (Nat.le_refl _) hc]
      exact PB_cg (fun j hj => addV_new hj) (PB_nw hV.2.2.2.2.1)
    · exact PB_cg (fun j hj => addV_sl e hj) (b3 q (by omega))
end ACB
theorem BK_pass {x : Int32} {g v : Nat → Int32} {K : KS} (hI : IV v K) (hr : rfPass x v = 0) (hB : BK g v) (hL : LOK K.1) : BK (upd g 1 (g 1 + g 0 * x)) (passV x v K).1 ∧ LOK (passV x v K).2.1 ∧ (passE x v K).2.2 = LFT (passV x v K).1 - LFT v ∧ (passV x v K).1 2 = v 2 + x := by
  obtain ⟨b1, b2, b3⟩ := rfPass_b hI.1 hr
  obtain ⟨k1, k2, k3, k4⟩ := hB
  obtain ⟨a, b, c, d⟩ := passS_T (tk := fun p => g (2 + p)) x.toNatClampNeg (v, K.1, 0) hI.1 b3 k3 hL
  obtain ⟨l1, l4, l2⟩ := passS_lo x.toNatClampNeg (v, K.1, 0)
  have ec : cntN (passS x.toNatClampNeg (v, K.1, 0)).1 = cntN v := by unfold cntN; rw [l4]
  refine ⟨⟨?_, ?_, fun q hq => ?_, fun q h1 h2 => ?_⟩, b, ?_, ?_⟩
  · rw [upd_n _ _ (by omega)]; exact l1.trans k1
  · rw [upd_s]
    refine c.trans ?_
    rw [← b1]
    show TOT v + v 1 * x = _
    rw [k1, k2]
  · show PB _ (upd g 1 (g 1 + g 0 * x) (2 + q)) _
    rw [upd_n _ _ (by omega)]
    exact a q hq
  · rw [upd_n _ _ (by omega)]
    exact k4 q (by rw [← ec]; exact h1) h2
  · have d2 : LFT (passS x.toNatClampNeg (v, K.1, 0)).1 + 0 = LFT v + (passS x.toNatClampNeg (v, K.1, 0)).2.2 := d
    show (passS x.toNatClampNeg (v, K.1, 0)).2.2 = LFT (passS x.toNatClampNeg (v, K.1, 0)).1 - LFT v
    rw [Int32.add_zero] at d2
    rw [d2]; exact (rg_sub _ _).symm
  · refine l2.trans ?_
    rw [← b1]
