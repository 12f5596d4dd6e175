/-! The water's books, the numbers alone (sums of 32 bits, where they hold as they stand). -/
section RG
variable (a b c d l w k t : Int32)
theorem rg_lit (h : a = b + c + t) : a + l = b + l + c + t := by grind
theorem rg_over (h : a = b + c + t) : a + l = 30000 + (c + (b + l - 30000)) + t := by grind
theorem rg_gain : a + w + b + c + d = a + b + c + d + w := by grind
theorem rg_push : a + (b + (w - k)) + c + (d + k) = a + b + c + d + w := by grind
theorem rg_del : a + b + (c + l) + (d - l) = a + b + c + d := by grind
theorem rg_fill : a + l + b = a + b + l := by grind
theorem rg_fillO : 20000 + (b + (a + l - 20000)) = a + b + l := by grind
theorem rg_tank (h : a = b + c + t) : a = 0 + c + (t + b) := by grind
theorem rg_ch : a + b + c + 0 = a + b + c + d - d := by grind
theorem rg_acc : a + b + c = a + c + b := by grind
theorem rg_drawn : a - w + b + (c + w) = a + b + c := by grind
theorem rg_sub : a + b - a = b := by grind
theorem rg_sub2 (h : a + b = c + d) : d - b = a - c := by grind
end RG
def smF (x : Nat → Int32) : Nat → Nat → Int32 → Int32
  | 0, _, acc => acc
  | m + 1, p, acc => smF x m (p + 1) (acc + x p)
theorem smF_acc (x : Nat → Int32) : ∀ (m p : Nat) (acc d : Int32), smF x m p (acc + d) = smF x m p acc + d
  | 0, _, _, _ => rfl
  | m + 1, p, acc, d => by
    show smF x m (p + 1) (acc + d + x p) = smF x m (p + 1) (acc + x p) + d
    rw [rg_acc, smF_acc x m (p + 1)]
theorem smF_cg {x y : Nat → Int32} : ∀ (m p : Nat) (acc : Int32), (∀ q, p ≤ q → q < p + m → y q = x q) → smF y m p acc = smF x m p acc
  | 0, _, _, _ => rfl
  | m + 1, p, acc, h => by
    show smF y m (p + 1) (acc + y p) = smF x m (p + 1) (acc + x p)
    rw [h p (Nat.le_refl _) (by omega)]
    exact smF_cg m (p + 1) _ (fun q h1 h2 => h q (by omega) (by omega))
/-- one place changes -/
theorem smF_one {x y : Nat → Int32} {p0 : Nat} {d : Int32} (hd : y p0 = x p0 + d) (ho : ∀ q, ¬ q = p0 → y q = x q) : ∀ (m p : Nat) (acc : Int32), p ≤ p0 → p0 < p + m → smF y m p acc = smF x m p acc + d
  | 0, _, _, h1, h2 => absurd h2 (by omega)
  | m + 1, p, acc, h1, h2 => by
    show smF y m (p + 1) (acc + y p) = smF x m (p + 1) (acc + x p) + d
    by_cases e : p = p0
    · subst e
      rw [hd, ← Int32.add_assoc, smF_acc y]
      congr 1
      exact smF_cg m (p + 1) _ (fun q h3 _ => ho q (by omega))
    · rw [ho p e]
      exact smF_one hd ho m (p + 1) _ (by omega) (by omega)
/-- a new place behind the others -/
theorem smF_snoc (x : Nat → Int32) : ∀ (m p : Nat) (acc : Int32), smF x (m + 1) p acc = smF x m p acc + x (p + m)
  | 0, p, acc => rfl
  | m + 1, p, acc => by
    show smF x (m + 1) (p + 1) (acc + x p) = smF x m (p + 1) (acc + x p) + x (p + (m + 1))
    rw [smF_snoc x m (p + 1), show p + 1 + m = p + (m + 1) by omega]
/-- what went through a pump, with what stands in its chamber -/
def thF (f : Nat → Int32) : Int32 := f 17 + f 18 + f 19 + f 13
section FLD
variable {f : Nat → Int32} {w : Int32}
theorem gain1_o {j : Nat} (h6 : ¬ j = 6) (h8 : ¬ j = 8) (h17 : ¬ j = 17) : gain1F f w j = f j := by
  unfold gain1F; rw [upd_n _ _ h8, upd_n _ _ h6, upd_n _ _ h17]
theorem gain1_17 : gain1F f w 17 = f 17 + w := by
  unfold gain1F; rw [upd_n _ _ (by omega), upd_n _ _ (by omega), upd_s]
theorem slam_o (st : Bool) (t : Int32) (f : Nat → Int32) {j : Nat} (h : j < 22) (h7 : ¬ j = 7) (h14 : ¬ j = 14) : slamF st t f j = if j = 16 then f 16 + 1 else f j := by
  unfold slamF
  rw [upd_n _ _ h14]
  cases st with
  | true => rw [if_pos rfl, ivF_low _ _ _ h, upd_r, upd_n _ _ h7]
  | false => rw [if_neg (by decide), upd_r, upd_n _ _ h7]
theorem push1_o {j : Nat} (h13 : ¬ j = 13) (h18 : ¬ j = 18) : push1F f w j = f j := by
  unfold push1F; rw [upd_n _ _ h18, upd_n _ _ h13]
theorem push2_o (f : Nat → Int32) {j : Nat} (h : ¬ j = 6 ∧ ¬ j = 7 ∧ ¬ j = 8) : push2F f j = f j := by
  unfold push2F
  by_cases d : 1 ≤ f 6 - (1 + 100 * overF f / f 1)
  · rw [if_pos d, upd_n _ _ h.1]
  · rw [if_neg d, openF_o _ h]
/-- tank, lifted, overflowed, starved stay before delivery -/
theorem mid_cn (st : Bool) (t : Int32) (f : Nat → Int32) {j : Nat} (h : 15 ≤ j) (h16 : ¬ j = 16) (h17 : ¬ j = 17) (h18 : ¬ j = 18) (h22 : j < 22) : midF st t f j = f j := by
  unfold midF
  by_cases c : f 7 = 0
  · rw [if_pos c]
    unfold gainF
    by_cases d : slamsF (gain1F f (flowF f))
    · rw [if_pos d, slam_o _ _ _ h22 (by omega) (by omega), if_neg h16, gain1_o (by omega) (by omega) h17]
    · rw [if_neg d, gain1_o (by omega) (by omega) h17]
  · rw [if_neg c]
    unfold pushF
    rw [push2_o _ (by omega), push1_o (by omega) h18]
theorem mid_16 (st : Bool) (t : Int32) (f : Nat → Int32) : midF st t f 16 = if slamQ f then f 16 + 1 else f 16 := by
  unfold midF
  by_cases c : f 7 = 0
  · rw [if_pos c]
    unfold gainF
    by_cases d : slamsF (gain1F f (flowF f))
    · rw [if_pos d, if_pos ⟨c, d⟩, slam_o _ _ _ (by omega) (by omega) (by omega), if_pos rfl, gain1_o (by omega) (by omega) (by omega)]
    · rw [if_neg d, if_neg (fun z => d z.2), gain1_o (by omega) (by omega) (by omega)]
  · rw [if_neg c, if_neg (fun z => c z.1)]
    unfold pushF
    rw [push2_o _ (by omega), push1_o (by omega) (by omega)]
theorem mid_th (st : Bool) (t : Int32) (f : Nat → Int32) : thF (midF st t f) = thF f + flowF f := by
  unfold thF midF
  by_cases c : f 7 = 0
  · rw [if_pos c]
    have g : ∀ j, j = 13 ∨ j = 17 ∨ j = 18 ∨ j = 19 → gainF st t f (flowF f) j = gain1F f (flowF f) j := by
      intro j hj
      unfold gainF
      by_cases d : slamsF (gain1F f (flowF f))
      · rw [if_pos d, slam_o _ _ _ (by omega) (by omega) (by omega), if_neg (by omega)]
      · rw [if_neg d]
    rw [g 17 (by omega), g 18 (by omega), g 19 (by omega), g 13 (by omega), gain1_17, gain1_o (j := 18) (by omega) (by omega) (by omega), gain1_o (j := 19) (by omega) (by omega) (by omega), gain1_o (j := 13) (by omega) (by omega) (by omega)]
    exact rg_gain _ _ _ _ _
  · rw [if_neg c]
    unfold pushF
    rw [push2_o _ (j := 17) (by omega), push2_o _ (j := 18) (by omega), push2_o _ (j := 19) (by omega), push2_o _ (j := 13) (by omega), push1_o (j := 17) (by omega) (by omega), push1_o (j := 19) (by omega) (by omega)]
    have e18 : push1F f (flowF f) 18 = f 18 + (flowF f - takeF f (flowF f)) := by unfold push1F; rw [upd_s]
    have e13 : push1F f (flowF f) 13 = f 13 + takeF f (flowF f) := by unfold push1F; rw [upd_n _ _ (by omega), upd_s]
    rw [e18, e13]
    exact rg_push _ _ _ _ _ _
theorem del_cn (f : Nat → Int32) {j : Nat} (h : 16 ≤ j) (h19 : ¬ j = 19) (h20 : ¬ j = 20) : delF f j = f j := by
  unfold delF del1F
  by_cases c : 0 < headF f - f 4
  · rw [if_pos c]
    by_cases d : f 15 + litF f ≤ 30000
    · rw [if_pos d, upd_n _ _ (by omega), upd_n _ _ h19, upd_n _ _ (by omega)]
    · rw [if_neg d, upd_n _ _ (by omega), upd_n _ _ h20, upd_n _ _ (by omega), upd_n _ _ h19, upd_n _ _ (by omega)]
  · rw [if_neg c]
theorem del_19 (f : Nat → Int32) : delF f 19 = f 19 + litF f := by
  unfold delF del1F
  by_cases c : 0 < headF f - f 4
  · rw [if_pos c]
    by_cases d : f 15 + litF f ≤ 30000
    · rw [if_pos d, upd_n _ _ (by omega), upd_s]
    · rw [if_neg d, upd_n _ _ (by omega), upd_n _ _ (by omega), upd_n _ _ (by omega), upd_s]
  · rw [if_neg c]
    unfold litF
    rw [if_neg c, Int32.add_zero]
theorem del_th (f : Nat → Int32) : thF (delF f) = thF f := by
  unfold thF
  rw [del_cn f (j := 17) (by omega) (by omega) (by omega), del_cn f (j := 18) (by omega) (by omega) (by omega), del_19, delF_13]
  exact rg_del _ _ _ _ _
theorem del_bk (f : Nat → Int32) {t : Int32} (h : f 19 = f 15 + f 20 + t) : delF f 19 = delF f 15 + delF f 20 + t := by
  rw [del_19]
  unfold delF del1F
  by_cases c : 0 < headF f - f 4
  · rw [if_pos c]
    by_cases d : f 15 + litF f ≤ 30000
    · rw [if_pos d, upd_s, upd_n _ _ (show ¬ 20 = 15 by omega), upd_n _ _ (show ¬ 20 = 19 by omega), upd_n _ _ (show ¬ 20 = 13 by omega)]
      exact rg_lit _ _ _ _ _ h
    · rw [if_neg d, upd_s, upd_n _ _ (show ¬ 20 = 15 by omega), upd_s]
      exact rg_over _ _ _ _ _ h
  · rw [if_neg c]
    have e : litF f = 0 := by unfold litF; rw [if_neg c]
    rw [e, Int32.add_zero]; exact h
/-- the waste valve slams in this tick -/
abbrev slmC (b : Int32) (f : Nat → Int32) : Prop := flowF f ≤ b ∧ slamQ f
theorem st1_yes {t b : Int32} (h : flowF f ≤ b) : st1F t b f = midF true t f := if_pos h
theorem st1_not {t b : Int32} (h : ¬ flowF f ≤ b) : st1F t b f = upd (openF f) 21 (f 21 + 1) := if_neg h
theorem st1_th (t b : Int32) (f : Nat → Int32) : thF (st1F t b f) = thF f + (if flowF f ≤ b then flowF f else 0) := by
  by_cases c : flowF f ≤ b
  · rw [st1_yes c, if_pos c, mid_th]
  · rw [st1_not c, if_neg c, Int32.add_zero]
    unfold thF
    rw [upd_n _ _ (by omega), upd_n _ _ (by omega), upd_n _ _ (by omega), upd_n _ _ (by omega), openF_o _ (by omega), openF_o _ (by omega), openF_o _ (by omega), openF_o _ (by omega)]
theorem st1_cn (t b : Int32) (f : Nat → Int32) {j : Nat} (h : j = 15 ∨ j = 19 ∨ j = 20) : st1F t b f j = f j := by
  by_cases c : flowF f ≤ b
  · rw [st1_yes c, mid_cn _ _ _ (by omega) (by omega) (by omega) (by omega) (by omega)]
  · rw [st1_not c, upd_n _ _ (by omega), openF_o _ (by omega)]
theorem st1_5 (t b : Int32) (f : Nat → Int32) : st1F t b f 5 = f 5 := by
  by_cases c : flowF f ≤ b
  · rw [st1_yes c, mid_st _ _ _ (by omega) (by omega) (by omega) (by omega) (by omega) (by omega)]
  · rw [st1_not c, upd_n _ _ (by omega), openF_o _ (by omega)]
theorem st1_16 (t b : Int32) (f : Nat → Int32) : st1F t b f 16 = if slmC b f then f 16 + 1 else f 16 := by
  by_cases c : flowF f ≤ b
  · rw [st1_yes c, mid_16]
    by_cases d : slamQ f
    · rw [if_pos d, if_pos ⟨c, d⟩]
    · rw [if_neg d, if_neg (fun z => d z.2)]
  · rw [st1_not c, upd_n _ _ (by omega), openF_o _ (by omega), if_neg (fun z => c z.1)]
theorem st1_21 (t b : Int32) (f : Nat → Int32) : st1F t b f 21 = if flowF f ≤ b then f 21 else f 21 + 1 := by
  by_cases c : flowF f ≤ b
  · rw [st1_yes c, if_pos c, mid_cn _ _ _ (by omega) (by omega) (by omega) (by omega) (by omega)]
  · rw [st1_not c, if_neg c, upd_s]
theorem tick_lo (t b : Int32) (f : Nat → Int32) {j : Nat} (h : j < 23) : tickF t b f j = delF (st1F t b f) j := trF_low _ _ h
theorem tick_th (t b : Int32) (f : Nat → Int32) : thF (tickF t b f) = thF f + (if flowF f ≤ b then flowF f else 0) := by
  rw [← st1_th t b f, ← del_th (st1F t b f)]
  unfold thF
  rw [tick_lo _ _ _ (by omega), tick_lo _ _ _ (by omega), tick_lo _ _ _ (by omega), tick_lo _ _ _ (by omega)]
theorem tick_19 (t b : Int32) (f : Nat → Int32) : tickF t b f 19 = f 19 + litF (st1F t b f) := by
  rw [tick_lo _ _ _ (by omega), del_19, st1_cn _ _ _ (by omega)]
theorem tick_5 (t b : Int32) (f : Nat → Int32) : tickF t b f 5 = f 5 := by
  rw [tick_lo _ _ _ (by omega), delF_o _ (by omega) (by omega), st1_5]
theorem tick_16 (t b : Int32) (f : Nat → Int32) : tickF t b f 16 = if slmC b f then f 16 + 1 else f 16 := by
  rw [tick_lo _ _ _ (by omega), del_cn _ (by omega) (by omega) (by omega), st1_16]
theorem tick_21 (t b : Int32) (f : Nat → Int32) : tickF t b f 21 = if flowF f ≤ b then f 21 else f 21 + 1 := by
  rw [tick_lo _ _ _ (by omega), del_cn _ (by omega) (by omega) (by omega), st1_21]
theorem tick_bk (t b : Int32) (f : Nat → Int32) {k : Int32} (h : f 19 = f 15 + f 20 + k) : tickF t b f 19 = tickF t b f 15 + tickF t b f 20 + k := by
  rw [tick_lo _ _ _ (by omega), tick_lo _ _ _ (by omega), tick_lo _ _ _ (by omega)]
  refine del_bk _ ?_
  rw [st1_cn _ _ _ (by omega), st1_cn _ _ _ (by omega), st1_cn _ _ _ (by omega)]; exact h
theorem tr_hi (g : Nat → Int32) {j : Nat} (h : j < 40) : trF g j = g j := by
  unfold trF; rw [upd_n _ _ (by omega), upd_n _ _ (by omega), shiftF_o _ _ _ _ (Or.inl (by omega))]
theorem tick_22 (t b : Int32) (f : Nat → Int32) : tickF t b f 22 = if slmC b f then t else f 22 := by
  rw [tick_lo _ _ _ (by omega), del_hi _ _ (by omega)]
  by_cases c : slmC b f
  · rw [if_pos c, st1_slam t b f c]
    unfold slamF ivF
    rw [if_pos rfl, upd_n _ _ (by omega), upd_n _ _ (by omega), upd_s]
  · rw [if_neg c, st1_no t b f c _ (by omega)]
theorem tick_23 (t b : Int32) (f : Nat → Int32) : tickF t b f 23 = if slmC b f then f 23 + (if 16 ≤ f 23 then 0 else 1) else f 23 := by
  unfold tickF
  rw [tr_hi _ (by omega), del_hi _ _ (by omega)]
  by_cases c : slmC b f
  · rw [if_pos c, st1_slam t b f c, slamT_23, gain1_hi _ _ _ (by omega)]
  · rw [if_neg c, st1_no t b f c _ (by omega)]
theorem tick_24 (t b : Int32) (f : Nat → Int32) {i : Nat} (hi : i < 16) : tickF t b f (24 + i) = if slmC b f then (if i = 0 then t - f 22 else f (24 + (i - 1))) else f (24 + i) := by
  unfold tickF
  rw [tr_hi _ (by omega), del_hi _ _ (by omega)]
  by_cases c : slmC b f
  · rw [if_pos c, st1_slam t b f c, slamT_24 _ _ _ hi]
    unfold pushG
    by_cases e : i = 0
    · rw [if_pos e, if_pos e, gain1_hi _ _ _ (by omega)]
    · rw [if_neg e, if_neg e]
      show gain1F f (flowF f) (24 + (i - 1)) = _
      rw [gain1_hi _ _ _ (by omega)]
  · rw [if_neg c, st1_no t b f c _ (by omega)]
theorem tick_40 (t b : Int32) (f : Nat → Int32) : tickF t b f 40 = f 40 + (if 32 ≤ f 40 then 0 else 1) := by
  unfold tickF
  rw [trF_40, del_hi _ _ (by omega), st1_hi _ _ _ _ (by omega)]
theorem tick_41 (t b : Int32) (f : Nat → Int32) {i : Nat} (hi : i < 32) : tickF t b f (41 + i) = if i = 0 then byteF (delF (st1F t b f) 6) else f (41 + (i - 1)) := by
  unfold tickF
  rw [trF_41 _ _ hi]
  unfold pushG
  by_cases e : i = 0
  · rw [if_pos e, if_pos e]
  · rw [if_neg e, if_neg e]
    show delF (st1F t b f) (41 + (i - 1)) = _
    rw [del_hi _ _ (by omega), st1_hi _ _ _ _ (by omega)]
end FLD
theorem byteF_b {s : Int32} (h : 0 ≤ s.toInt ∧ s.toInt ≤ 2000) : -128 ≤ (byteF s).toInt ∧ (byteF s).toInt ≤ 127 := by
  have n0 : ¬ s < 0 := by rw [i_lt, i0]; omega
  obtain ⟨j, hj, e⟩ := nI_of n0
  subst e
  have er : nI j - nI j / 256 * 256 = nI (j % 256) := pk_rem (d := 256) hj (by omega) (by omega)
  have hm : j % 256 < 256 := Nat.mod_lt _ (by omega)
  have ei := nI_toInt (n := j % 256) (by omega)
  have e127 : (127 : Int32).toInt = 127 := rfl
  have e256 : (256 : Int32).toInt = 256 := rfl
  unfold byteF
  rw [er]
  by_cases c : nI (j % 256) ≤ 127
  · rw [if_pos c]; rw [i_le, e127] at c; omega
  · rw [if_neg c, i_sub (by rw [ei, e256]; omega) (by rw [ei, e256]; omega), ei, e256]
    rw [i_le, e127] at c; omega
/-- one pump's books: tk was taken out of its tank; t: the time -/
def PB (t : Int) (tk : Int32) (f : Nat → Int32) : Prop :=
  (f 5 = 0 → f 6 = 0 ∧ f 8 = 0) ∧ f 19 = f 15 + f 20 + tk ∧ (0 ≤ (f 16).toInt ∧ (f 16).toInt ≤ t) ∧ ((f 23).toInt = if (f 16).toInt < 16 then (f 16).toInt else 16) ∧ (0 ≤ (f 22).toInt ∧ (f 22).toInt ≤ t) ∧
  (∀ b, b < 16 → 0 ≤ (f (24 + b)).toInt) ∧ (0 ≤ (f 40).toInt ∧ (f 40).toInt ≤ 32) ∧ (∀ b, b < 32 → -128 ≤ (f (41 + b)).toInt ∧ (f (41 + b)).toInt ≤ 127)
theorem PB_up {t t2 : Int} {tk : Int32} {f : Nat → Int32} (h : t ≤ t2) (hb : PB t tk f) : PB t2 tk f := by
  obtain ⟨a0, a1, a2, a3, a4, a5⟩ := hb
  exact ⟨a0, a1, by omega, a3, by omega, a5⟩
theorem PB_cg {t : Int} {tk : Int32} {f g : Nat → Int32} (h : ∀ j, j < 73 → g j = f j) (hb : PB t tk f) : PB t tk g := by
  unfold PB at hb ⊢
  rw [h 5 (by omega), h 6 (by omega), h 8 (by omega), h 19 (by omega), h 15 (by omega), h 20 (by omega), h 16 (by omega), h 23 (by omega), h 22 (by omega), h 40 (by omega)]
  obtain ⟨a0, a1, a2, a3, a4, a5, a6, a7⟩ := hb
  exact ⟨a0, a1, a2, a3, a4, fun b hb => by rw [h _ (by omega)]; exact a5 b hb, a6, fun b hb => by rw [h _ (by omega)]; exact a7 b hb⟩
theorem PB_tick {t : Int} {tk τ b : Int32} {f : Nat → Int32} (hP : PI f) (hB : PB t tk f) (hr : ¬ f 5 = 0) (hτ : τ.toInt = t) (ht : 0 ≤ t ∧ t ≤ 20000) : PB (t + 1) tk (tickF τ b f) := by
  obtain ⟨a0, a1, a2, a3, a4, a5, a6, a7⟩ := hB
  have e16 : (16 : Int32).toInt = 16 := rfl
  have e32 : (32 : Int32).toInt = 32 := rfl
  have h6 := (PI_del (PI_st1 hP τ b)).h6
  refine ⟨fun z => ?_, tick_bk _ _ _ a1, ?_, ?_, ?_, fun i hi => ?_, ?_, fun i hi => ?_⟩
  · rw [tick_5] at z; exact absurd z hr
  · rw [tick_16]
    by_cases c : slmC b f
    · rw [if_pos c, i_add (by rw [i1]; omega) (by rw [i1]; omega), i1]; omega
    · rw [if_neg c]; omega
  · rw [tick_16, tick_23]
    by_cases c : slmC b f
    · have e1 : (f 16 + 1).toInt = (f 16).toInt + 1 := by rw [i_add (by rw [i1]; omega) (by rw [i1]; omega), i1]
      rw [if_pos c, if_pos c, e1]
      by_cases d : 16 ≤ f 23
      · rw [if_pos d, Int32.add_zero, a3]
        rw [i_le, e16, a3] at d
        by_cases q : (f 16).toInt < 16
        · rw [if_pos q] at d; omega
        · rw [if_neg q, if_neg (by omega)]
      · rw [if_neg d]
        rw [i_le, e16, a3] at d
        by_cases q : (f 16).toInt < 16
        · rw [if_pos q] at a3 d
          rw [i_add (by rw [i1]; omega) (by rw [i1]; omega), i1, a3]
          by_cases z : (f 16).toInt + 1 < 16
          · rw [if_pos z]
          · rw [if_neg z]; omega
        · rw [if_neg q] at d; omega
    · rw [if_neg c, if_neg c]; exact a3
  · rw [tick_22]
    by_cases c : slmC b f
    · rw [if_pos c, hτ]; omega
    · rw [if_neg c]; omega
  · rw [tick_24 _ _ _ hi]
    by_cases c : slmC b f
    · rw [if_pos c]
      by_cases e : i = 0
      · rw [if_pos e, i_sub (by omega) (by omega)]; omega
      · rw [if_neg e]; exact a5 _ (by omega)
    · rw [if_neg c]; exact a5 i hi
  · rw [tick_40]
    by_cases d : 32 ≤ f 40
    · rw [if_pos d, Int32.add_zero]; exact a6
    · rw [if_neg d]
      rw [i_le, e32] at d
      rw [i_add (by rw [i1]; omega) (by rw [i1]; omega), i1]; omega
  · rw [tick_41 _ _ _ hi]
    by_cases e : i = 0
    · rw [if_pos e]; exact byteF_b h6
    · rw [if_neg e]; exact a7 _ (by omega)
