/-! Trials, the numbers alone: what a trial's ticks depend on. -/
/-- alike for all that a trial tells -/
def eqE (f g : Nat → Int32) : Prop := (∀ j, j < 15 → ¬ j = 5 → ¬ j = 8 → f j = g j) ∧ (f 7 = 0 → f 8 = g 8)
/-- alike, the open ticks too -/
def eqS (f g : Nat → Int32) : Prop := ∀ j, j < 15 → ¬ j = 5 → f j = g j
abbrev slamQ (f : Nat → Int32) : Prop := f 7 = 0 ∧ slamsF (gain1F f (flowF f))
section EE
variable {f g : Nat → Int32} {w : Int32}
theorem eqE_i : eqE f f := ⟨fun _ _ _ _ => rfl, fun _ => rfl⟩
theorem eqS_E (h : eqS f g) : eqE f g := ⟨fun j a b _ => h j a b, fun _ => h 8 (by omega) (by omega)⟩
theorem eqE_S (h : eqE f g) (h7 : f 7 = 0) : eqS f g := fun j a b => by
  by_cases c : j = 8
  · rw [c]; exact h.2 h7
  · exact h.1 j a b c
theorem eqE.flow (h : eqE f g) : flowF f = flowF g := by
  unfold flowF; rw [h.1 2 (by omega) (by omega) (by omega), h.1 6 (by omega) (by omega) (by omega)]
theorem eqE.head (h : eqE f g) : headF f = headF g := by
  unfold headF; rw [h.1 11 (by omega) (by omega) (by omega), h.1 13 (by omega) (by omega) (by omega), h.1 14 (by omega) (by omega) (by omega)]
theorem eqE.lit (h : eqE f g) : litF f = litF g := by
  unfold litF mostF; rw [h.head, h.1 4 (by omega) (by omega) (by omega), h.1 13 (by omega) (by omega) (by omega)]
theorem eqE.air (h : eqE f g) : airF f = airF g := airF_c (h.1 11 (by omega) (by omega) (by omega)) (h.1 12 (by omega) (by omega) (by omega)) (h.1 14 (by omega) (by omega) (by omega))
theorem delF_o (f : Nat → Int32) {j : Nat} (h : j < 15) (h13 : ¬ j = 13) : delF f j = f j := by
  unfold delF del1F
  by_cases c : 0 < headF f - f 4
  · rw [if_pos c]
    by_cases d : f 15 + litF f ≤ 30000
    · rw [if_pos d, upd_n _ _ (by omega), upd_n _ _ (by omega), upd_n _ _ h13]
    · rw [if_neg d, upd_n _ _ (by omega), upd_n _ _ (by omega), upd_n _ _ (by omega), upd_n _ _ (by omega), upd_n _ _ h13]
  · rw [if_neg c]
theorem delF_13 (f : Nat → Int32) : delF f 13 = f 13 - litF f := by
  unfold delF del1F
  by_cases c : 0 < headF f - f 4
  · rw [if_pos c]
    by_cases d : f 15 + litF f ≤ 30000
    · rw [if_pos d, upd_n _ _ (by omega), upd_n _ _ (by omega), upd_s]
    · rw [if_neg d, upd_n _ _ (by omega), upd_n _ _ (by omega), upd_n _ _ (by omega), upd_n _ _ (by omega), upd_s]
  · have e : litF f = 0 := by unfold litF; rw [if_neg c]
    rw [if_neg c, e, Int32.sub_zero]
theorem eqE.del (h : eqE f g) : eqE (delF f) (delF g) := by
  refine ⟨fun j a b c => ?_, fun z => ?_⟩
  · by_cases d : j = 13
    · rw [d, delF_13, delF_13, h.lit, h.1 13 (by omega) (by omega) (by omega)]
    · rw [delF_o _ a d, delF_o _ a d]; exact h.1 j a b c
  · rw [delF_o _ (by omega) (by omega)] at z
    rw [delF_o _ (by omega) (by omega), delF_o _ (by omega) (by omega)]; exact h.2 z
theorem gain1_S (h : eqS f g) : eqS (gain1F f w) (gain1F g w) := by
  have e : spdF f = spdF g := by unfold spdF; rw [h 6 (by omega) (by omega), h 0 (by omega) (by omega), h 1 (by omega) (by omega), h 3 (by omega) (by omega)]
  intro j a b
  unfold gain1F
  by_cases c : j = 8
  · rw [c, upd_s, upd_s, h 8 (by omega) (by omega)]
  rw [upd_n _ _ c, upd_n _ _ c]
  by_cases d : j = 6
  · rw [d, upd_s, upd_s, e]
  rw [upd_n _ _ d, upd_n _ _ d, upd_n _ _ (by omega), upd_n _ _ (by omega)]
  exact h j a b
theorem slamV_S (h : eqS f g) : slamV f = slamV g := by
  unfold slamV; rw [h 9 (by omega) (by omega), h 6 (by omega) (by omega), h 8 (by omega) (by omega)]
theorem slamsF_S (h : eqS f g) : slamsF f ↔ slamsF g := by
  unfold slamsF; rw [slamV_S h, h 10 (by omega) (by omega)]
theorem eqE.slam (h : eqE f g) : slamQ f ↔ slamQ g := by
  have h7 := h.1 7 (by omega) (by omega) (by omega)
  unfold slamQ
  rw [← h7]
  refine ⟨fun z => ⟨z.1, ?_⟩, fun z => ⟨z.1, ?_⟩⟩
  · rw [← h.flow]; exact (slamsF_S (gain1_S (eqE_S h z.1))).mp z.2
  · have z2 := z.2
    rw [← h.flow] at z2; exact (slamsF_S (gain1_S (eqE_S h z.1))).mpr z2
theorem slamF_lo (st : Bool) (t : Int32) (f : Nat → Int32) {j : Nat} (h : j < 15) : slamF st t f j = if j = 14 then airF f else if j = 7 then 1 else f j := by
  unfold slamF
  by_cases c : j = 14
  · rw [c, upd_s, if_pos rfl]
  rw [upd_n _ _ c, if_neg c]
  have e : ∀ F : Nat → Int32, F = upd (upd f 7 1) 16 (f 16 + 1) → F j = if j = 7 then 1 else f j := by
    intro F eF
    rw [eF, upd_n _ _ (by omega), upd_r]
  cases st with
  | true => rw [if_pos rfl, ivF_low _ _ _ (by omega)]; exact e _ rfl
  | false => rw [if_neg (by decide)]; exact e _ rfl
theorem gain_E (h : eqS f g) (st st2 : Bool) (t t2 : Int32) : eqE (gainF st t f w) (gainF st2 t2 g w) := by
  have h1 := gain1_S (w := w) h
  unfold gainF
  by_cases c : slamsF (gain1F f w)
  · rw [if_pos c, if_pos ((slamsF_S h1).mp c)]
    refine ⟨fun j a b _ => ?_, fun z => ?_⟩
    · rw [slamF_lo _ _ _ a, slamF_lo _ _ _ a, (eqS_E h1).air, h1 j a b]
    · rw [slamF_lo _ _ _ (by omega)] at z
      exact absurd z (by simp)
  · rw [if_neg c, if_neg (fun z => c ((slamsF_S h1).mpr z))]
    exact eqS_E h1
theorem push1_lo (f : Nat → Int32) (w : Int32) {j : Nat} (h : j < 15) : push1F f w j = if j = 13 then f 13 + takeF f w else f j := by
  unfold push1F
  rw [upd_n _ _ (by omega), upd_r]
theorem take_E (h : eqE f g) : takeF f w = takeF g w := by
  unfold takeF roomF; rw [h.1 11 (by omega) (by omega) (by omega), h.1 13 (by omega) (by omega) (by omega)]
theorem push1_E (h : eqE f g) : eqE (push1F f w) (push1F g w) := by
  refine ⟨fun j a b c => ?_, fun z => ?_⟩
  · rw [push1_lo _ _ a, push1_lo _ _ a, take_E h, h.1 13 (by omega) (by omega) (by omega), h.1 j a b c]
  · rw [push1_lo _ _ (by omega), if_neg (by omega)] at z
    rw [push1_lo _ _ (by omega), push1_lo _ _ (by omega), if_neg (by omega), if_neg (by omega)]; exact h.2 z
theorem over_E (h : eqE f g) : overF f = overF g := by
  unfold overF; rw [h.head, h.1 0 (by omega) (by omega) (by omega)]
theorem open_E (h : eqE f g) : eqE (openF f) (openF g) := by
  have key : eqS (openF f) (openF g) := by
    intro j a b
    unfold openF
    by_cases c : j = 8
    · rw [c, upd_s, upd_s]
    rw [upd_n _ _ c, upd_n _ _ c]
    by_cases d : j = 7
    · rw [d, upd_s, upd_s]
    rw [upd_n _ _ d, upd_n _ _ d]
    by_cases e : j = 6
    · rw [e, upd_s, upd_s]
    rw [upd_n _ _ e, upd_n _ _ e]
    exact h.1 j a b c
  exact eqS_E key
theorem push2_E (h : eqE f g) : eqE (push2F f) (push2F g) := by
  have h6 := h.1 6 (by omega) (by omega) (by omega)
  have h1 := h.1 1 (by omega) (by omega) (by omega)
  unfold push2F
  rw [h6, h1, over_E h]
  by_cases c : 1 ≤ g 6 - (1 + 100 * overF g / g 1)
  · rw [if_pos c, if_pos c]
    refine ⟨fun j a b d => ?_, fun z => ?_⟩
    · rw [upd_r, upd_r, h.1 j a b d]
    · rw [upd_n _ _ (by omega)] at z
      rw [upd_n _ _ (by omega), upd_n _ _ (by omega)]; exact h.2 z
  · rw [if_neg c, if_neg c]; exact open_E h
theorem mid_E (h : eqE f g) (st st2 : Bool) (t t2 : Int32) : eqE (midF st t f) (midF st2 t2 g) := by
  have h7 := h.1 7 (by omega) (by omega) (by omega)
  unfold midF pushF
  rw [← h7, ← h.flow]
  by_cases c : f 7 = 0
  · rw [if_pos c, if_pos c]; exact gain_E (eqE_S h c) st st2 t t2
  · rw [if_neg c, if_neg c]; exact push2_E (push1_E h)
theorem trial_E (h : eqE f g) : eqE (trialF f) (trialF g) := (mid_E h false false 0 0).del
theorem tick_E (hP : PI f) (h : eqE f g) (t : Int32) : eqE (tickF t 1000000 f) (trialF g) := by
  have hw := hP.flow
  have e6 : (1000000 : Int32).toInt = 1000000 := by decide
  have ef : flowF f ≤ 1000000 := by rw [i_le, e6]; omega
  have e1 : st1F t 1000000 f = midF true t f := by unfold st1F; rw [if_pos ef]
  have key : eqE (delF (midF true t f)) (trialF g) := (mid_E h true false t 0).del
  unfold tickF
  rw [e1]
  exact ⟨fun j a b c => by rw [trF_low _ _ (by omega)]; exact key.1 j a b c, fun z => by rw [trF_low _ _ (by omega)] at z ⊢; exact key.2 z⟩
/-- what stays in a trial -/
theorem mid_st (st : Bool) (t : Int32) (f : Nat → Int32) {j : Nat} (h : j < 15) (h6 : ¬ j = 6) (h7 : ¬ j = 7) (h8 : ¬ j = 8) (h13 : ¬ j = 13) (h14 : ¬ j = 14) : midF st t f j = f j := by
  unfold midF
  by_cases c : f 7 = 0
  · rw [if_pos c]
    have e : gain1F f (flowF f) j = f j := by unfold gain1F; rw [upd_n _ _ h8, upd_n _ _ h6, upd_n _ _ (by omega)]
    unfold gainF
    by_cases d : slamsF (gain1F f (flowF f))
    · rw [if_pos d, slamF_lo _ _ _ h, if_neg h14, if_neg h7, e]
    · rw [if_neg d, e]
  · rw [if_neg c]
    have e : push1F f (flowF f) j = f j := by rw [push1_lo _ _ h, if_neg h13]
    unfold pushF push2F
    by_cases d : 1 ≤ push1F f (flowF f) 6 - (1 + 100 * overF (push1F f (flowF f)) / push1F f (flowF f) 1)
    · rw [if_pos d, upd_n _ _ h6, e]
    · rw [if_neg d, openF_o _ ⟨h6, h7, h8⟩, e]
theorem trial_st (f : Nat → Int32) {j : Nat} (h : j < 15) (h6 : ¬ j = 6) (h7 : ¬ j = 7) (h8 : ¬ j = 8) (h13 : ¬ j = 13) (h14 : ¬ j = 14) : trialF f j = f j := by
  unfold trialF; rw [delF_o _ h h13, mid_st _ _ _ h h6 h7 h8 h13 h14]
theorem trial_7 (h : slamQ f) : trialF f 7 = 1 := by
  unfold trialF midF gainF
  rw [delF_o _ (by omega) (by omega), if_pos h.1, if_pos h.2, slamF_lo _ _ _ (by omega), if_neg (by omega), if_pos rfl]
end EE
/-- a trial's state behind n ticks; delivered, drawn -/
def trN (f : Nat → Int32) : Nat → Nat → Int32
  | 0 => f
  | n + 1 => trialF (trN f n)
def dlN (f : Nat → Int32) : Nat → Int32
  | 0 => 0
  | n + 1 => dlN f n + litF (midF false 0 (trN f n))
def drN (f : Nat → Int32) : Nat → Int32
  | 0 => 0
  | n + 1 => drN f n + flowF (trN f n)
theorem PI_trN {f : Nat → Int32} (h : PI f) : ∀ n, PI (trN f n)
  | 0 => h
  | n + 1 => PI_trial (PI_trN h n)
theorem trN_E {f g : Nat → Int32} (h : eqE f g) : ∀ n, eqE (trN f n) (trN g n)
  | 0 => h
  | n + 1 => trial_E (trN_E h n)
theorem trN_add (f : Nat → Int32) (n : Nat) : ∀ d, trN f (n + d) = trN (trN f n) d
  | 0 => rfl
  | d + 1 => by show trialF (trN f (n + d)) = trialF (trN (trN f n) d); rw [trN_add f n d]
theorem trN_st (f : Nat → Int32) {j : Nat} (h : j < 15) (h6 : ¬ j = 6) (h7 : ¬ j = 7) (h8 : ¬ j = 8) (h13 : ¬ j = 13) (h14 : ¬ j = 14) : ∀ n, trN f n j = f j
  | 0 => rfl
  | n + 1 => by show trialF (trN f n) j = f j; rw [trial_st _ h h6 h7 h8 h13 h14]; exact trN_st f h h6 h7 h8 h13 h14 n
theorem dlN_b {f : Nat → Int32} (h : PI f) : ∀ n, n ≤ 1000 → 0 ≤ (dlN f n).toInt ∧ (dlN f n).toInt ≤ 2000 * n
  | 0, _ => ⟨show (0 : Int) ≤ (0 : Int32).toInt from by decide, show (0 : Int32).toInt ≤ 2000 * ((0 : Nat) : Int) from by decide⟩
  | n + 1, hn => by
    obtain ⟨a, b⟩ := dlN_b h n (by omega)
    have hm := PI_mid (PI_trN h n) false 0
    have hl := hm.lit
    have h13 := hm.h13
    have h11 := hm.h11
    have e : (dlN f n + litF (midF false 0 (trN f n))).toInt = (dlN f n).toInt + (litF (midF false 0 (trN f n))).toInt := i_add (by omega) (by omega)
    show 0 ≤ (dlN f n + litF (midF false 0 (trN f n))).toInt ∧ (dlN f n + litF (midF false 0 (trN f n))).toInt ≤ 2000 * ((n + 1 : Nat) : Int)
    rw [e]
    omega
/-- two slams alike: speed, water, air behind them -/
def alk (f : Nat → Int32) (i j : Nat) : Prop := trN f (i + 1) 6 = trN f (j + 1) 6 ∧ trN f (i + 1) 13 = trN f (j + 1) 13 ∧ trN f (i + 1) 14 = trN f (j + 1) 14
def slN (f : Nat → Int32) (i : Nat) : Prop := slamQ (trN f i)
theorem alk_E {f : Nat → Int32} {i j : Nat} (hi : slN f i) (hj : slN f j) (h : alk f i j) : eqE (trN f (i + 1)) (trN f (j + 1)) := by
  have e7 : ∀ k, slN f k → trN f (k + 1) 7 = 1 := fun k hk => trial_7 hk
  refine ⟨fun k a b c => ?_, fun z => ?_⟩
  · by_cases k6 : k = 6
    · rw [k6]; exact h.1
    by_cases k7 : k = 7
    · rw [k7, e7 i hi, e7 j hj]
    by_cases k13 : k = 13
    · rw [k13]; exact h.2.1
    by_cases k14 : k = 14
    · rw [k14]; exact h.2.2
    rw [trN_st f a k6 k7 c k13 k14, trN_st f a k6 k7 c k13 k14]
  · rw [e7 i hi] at z; exact absurd z (by decide)
/-- a slam decides all that follows -/
theorem alk_per {f : Nat → Int32} {i j : Nat} (hi : slN f i) (hj : slN f j) (h : alk f i j) (d : Nat) : (slN f (i + d) ↔ slN f (j + d)) ∧ alk f (i + d) (j + d) := by
  have he := alk_E hi hj h
  cases d with
  | zero => exact ⟨⟨fun _ => hj, fun _ => hi⟩, h⟩
  | succ d =>
    have a := trN_E he d
    rw [← trN_add, ← trN_add] at a
    have e1 : i + 1 + d = i + (d + 1) := by omega
    have e2 : j + 1 + d = j + (d + 1) := by omega
    rw [e1, e2] at a
    have b := trial_E a
    exact ⟨a.slam, b.1 6 (by omega) (by omega) (by omega), b.1 13 (by omega) (by omega) (by omega), b.1 14 (by omega) (by omega) (by omega)⟩
theorem alk_s {f : Nat → Int32} {i j : Nat} (h : alk f i j) : alk f j i := ⟨h.1.symm, h.2.1.symm, h.2.2.symm⟩
theorem alk_t {f : Nat → Int32} {i j k : Nat} (h : alk f i j) (h2 : alk f j k) : alk f i k := ⟨h.1.trans h2.1, h.2.1.trans h2.2.1, h.2.2.trans h2.2.2⟩
/-- what the reference answers: the first slam that is like an earlier one -/
def perR (f : Nat → Int32) (N : Nat) (r : Int32) : Prop := (r = -1005 ∧ ∀ i j, i < j → j < N → slN f i → slN f j → ¬ alk f i j) ∨ (∃ i j, i < j ∧ j < N ∧ slN f i ∧ slN f j ∧ alk f i j ∧ (∀ a b, a < b → b < j → slN f a → slN f b → ¬ alk f a b) ∧ r = nI (j - i))
/-- what the class answers: the latest slam that is like the last one -/
def perC (f : Nat → Int32) (N : Nat) (r : Int32) : Prop := (r = -1005 ∧ ((∀ j, j < N → ¬ slN f j) ∨ ∃ L, L < N ∧ slN f L ∧ (∀ j, L < j → j < N → ¬ slN f j) ∧ ∀ j, j < L → slN f j → ¬ alk f j L)) ∨
  (∃ i L, i < L ∧ L < N ∧ slN f L ∧ (∀ j, L < j → j < N → ¬ slN f j) ∧ slN f i ∧ alk f i L ∧ (∀ j, i < j → j < L → slN f j → ¬ alk f j L) ∧ r = nI (L - i))
section PER
variable {f : Nat → Int32} {i0 j0 : Nat}
theorem per_back (h : i0 < j0) (si : slN f i0) (sj : slN f j0) (ha : alk f i0 j0) {L : Nat} (hL : j0 ≤ L) (sL : slN f L) : slN f (L - (j0 - i0)) ∧ alk f (L - (j0 - i0)) L := by
  have z := alk_per si sj ha (L - j0)
  rw [show j0 + (L - j0) = L by omega, show i0 + (L - j0) = L - (j0 - i0) by omega] at z
  exact ⟨z.1.mpr sL, z.2⟩
theorem per_far (h : i0 < j0) (si : slN f i0) (sj : slN f j0) (ha : alk f i0 j0) (first : ∀ a b, a < b → b < j0 → slN f a → slN f b → ¬ alk f a b) : ∀ (n L k : Nat), L ≤ n → i0 ≤ k → k < L → slN f k → slN f L → alk f k L → j0 - i0 ≤ L - k
  | 0, L, k, hn, _, hk, _, _, _ => by omega
  | n + 1, L, k, hn, hk0, hk, sk, sL, hkL => by
    by_cases c : L < j0
    · exact absurd hkL (first k L hk c sk sL)
    · obtain ⟨s1, a1⟩ := per_back h si sj ha (L := L) (by omega) sL
      by_cases d : j0 ≤ k
      · obtain ⟨s2, a2⟩ := per_back h si sj ha (L := k) d sk
        have z := per_far h si sj ha first n (L - (j0 - i0)) (k - (j0 - i0)) (by omega) (by omega) (by omega) s2 s1 (alk_t a2 (alk_t hkL (alk_s a1)))
        omega
      · by_cases e : L - (j0 - i0) < k
        · exact absurd (alk_t a1 (alk_s hkL)) (first (L - (j0 - i0)) k e (by omega) s1 sk)
        · omega
theorem per_eq {N : Nat} {r r2 : Int32} (hc : perC f N r) (hr : perR f N r2) : r = r2 := by
  rcases hr with ⟨e, no⟩ | ⟨i, j, hij, hj, si, sj, ha, first, e⟩
  · rcases hc with ⟨e2, _⟩ | ⟨i, L, hi, hL, sL, _, si, ha, _, _⟩
    · rw [e, e2]
    · exact absurd ha (no i L hi hL si sL)
  · rcases hc with ⟨_, no | ⟨L, hL, sL, last, no⟩⟩ | ⟨i2, L, hi, hL, sL, last, si2, ha2, near, e2⟩
    · exact absurd sj (no j hj)
    · have hjL : j ≤ L := by
        by_cases c : L < j
        · exact absurd sj (last j c hj)
        · omega
      obtain ⟨s1, a1⟩ := per_back hij si sj ha hjL sL
      exact absurd a1 (no _ (by omega) s1)
    · have hjL : j ≤ L := by
        by_cases c : L < j
        · exact absurd sj (last j c hj)
        · omega
      obtain ⟨s1, a1⟩ := per_back hij si sj ha hjL sL
      have h1 : ¬ i2 < L - (j - i) := fun z => near _ z (by omega) s1 a1
      have h2 := per_far hij si sj ha first L L i2 (Nat.le_refl _) (by omega) hi si2 sL ha2
      rw [e2, e]
      congr 1
      omega
end PER

