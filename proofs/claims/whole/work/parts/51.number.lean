/-! A number of at most three digits; the automaton's steps. -/
def nlF (t : Nat) (tx : Nat → Int32) (i : Nat) : Nat := if dgv (sg t tx (i + 1)) then (if dgv (sg t tx (i + 2)) then 3 else 2) else 1
def nvF (t : Nat) (tx : Nat → Int32) (i : Nat) : Int32 := if dgv (sg t tx (i + 1)) then (if dgv (sg t tx (i + 2)) then 10 * (10 * (sg t tx i - 48) + sg t tx (i + 1) - 48) + sg t tx (i + 2) - 48 else 10 * (sg t tx i - 48) + sg t tx (i + 1) - 48) else sg t tx i - 48
section RN
variable {t a : Nat} {tx m : Nat → Int32} {hv : HV}
theorem R_num7 {k : Nat} {x : Int32} {n : Nat} {post : Int32 → HV → Prop} (ht : t ≤ 40) (ha : a ≤ t) (h20 : hv 20 0 = tx) (h11 : m 11 = nI t) (h13 : m 13 = nI a) (h14 : m 14 = 0) (hk : k < 3)
    (yes : dgv (sg t tx a) → ∀ m', m' 13 = nI (a + 1) → m' 14 = 0 → oth m m' → V_X9_number_7 post n (10 * x + sg t tx a - 48) (nI (k + 1)) (up hv 9 0 m'))
    (no : ¬ dgv (sg t tx a) → post x (up hv 9 0 m)) : V_X9_number_7 post (n + 1) x (nI k) (up hv 9 0 m) := by
  rw [V_X9_number_7]
  refine ⟨fun c => ?_, fun _ => ⟨fun _ => R_isDigit ht ha h20 h11 h13 ?_, fun c => ?_⟩⟩
  · have c2 : nI 3 ≤ nI k := c
    rw [nI_leI (by omega) (by omega)] at c2; omega
  · by_cases d : dgv (sg t tx a)
    · have hat := dgv_lt d
      rw [if_pos d]
      refine ⟨fun z => absurd z (by decide), fun _ => ?_⟩
      have q13 : (up hv 9 0 m) 9 0 13 = nI a := by rw [up_s]; exact h13
      have q20 : (up hv 9 0 m) 20 0 = tx := by rw [up_n _ _ (by omega)]; exact h20
      rw [q13, q20, nI_clamp (by omega), ← sg_i (tx := tx) hat]
      refine ⟨vp_in_nI (by omega) (by omega), fun x7 e7 hv8 e8 x9 e9 => ?_⟩
      rw [e7, e8, e9, nI_1, nI_1, up_s, up_up]
      exact yes d _ (upd_s _ _ _) (by rw [upd_n _ _ (by omega)]; exact h14) (fun k k1 k2 => upd_n _ _ k1)
    · rw [if_neg d]
      exact ⟨fun _ => no d, fun z => absurd rfl z⟩
  · rw [up_s] at c
    exact absurd h14 c
theorem oth_t {m m1 m2 : Nat → Int32} (h1 : oth m m1) (h2 : oth m1 m2) : oth m m2 := fun k a b => (h2 k a b).trans (h1 k a b)
theorem R_number {post : Int32 → HV → Prop} (ht : t ≤ 40) (ha : a ≤ t) (h20 : hv 20 0 = tx) (h11 : m 11 = nI t) (h13 : m 13 = nI a) (h14 : m 14 = 0 ∨ m 14 = 1)
    (yes : m 14 = 0 → dgv (sg t tx a) → ∀ m', m' 13 = nI (a + nlF t tx a) → m' 14 = 0 → oth m m' → post (nvF t tx a) (up hv 9 0 m'))
    (no : ¬ (m 14 = 0 ∧ dgv (sg t tx a)) → ∀ m', m' 13 = nI a → m' 14 = 1 → oth m m' → post 0 (up hv 9 0 m')) : V_X9_number (up hv 9 0 m) post := by
  unfold V_X9_number
  refine R_digit ht ha h20 h11 h13 h14 (fun c d m1 k13 k14 ko => ⟨3, ?_⟩) (fun c m1 k13 k14 ko => ⟨1, ?_⟩)
  · have hat := dgv_lt d
    unfold nlF nvF at yes
    refine R_num7 (k := 1) ht (by omega) h20 (by rw [ko 11 (by omega) (by omega)]; exact h11) k13 k14 (by omega) (fun d1 m2 g13 g14 go => ?_) (fun d1 => ?_)
    · have hat1 := dgv_lt d1
      rw [if_pos d1, if_pos d1] at yes
      refine R_num7 (k := 2) ht (by omega) h20 (by rw [go 11 (by omega) (by omega), ko 11 (by omega) (by omega)]; exact h11) g13 g14 (by omega) (fun d2 m3 f13 f14 fo => ?_) (fun d2 => ?_)
      · rw [if_pos d2, if_pos d2] at yes
        rw [V_X9_number_7]
        exact ⟨fun _ => yes c d m3 f13 f14 (oth_t (oth_t ko go) fo), fun z => absurd (show (3 : Int32) ≤ nI (2 + 1) by decide) z⟩
      · rw [if_neg d2, if_neg d2] at yes
        exact yes c d m2 g13 g14 (oth_t ko go)
    · rw [if_neg d1, if_neg d1] at yes
      exact yes c d m1 k13 k14 ko
  · rw [V_X9_number_7]
    refine ⟨fun z => absurd z (by decide), fun _ => ⟨fun z => ?_, fun _ => no c m1 k13 k14 ko⟩⟩
    rw [up_s, k14] at z
    exact absurd z (by decide)
end RN
section ER
variable {t i : Nat} {tx : Nat → Int32} {P : Int32}
theorem err_s (h : i < t) : errF t tx P i = if pa P (sg t tx i) = -1 then nI i else errF t tx (pa P (sg t tx i)) (i + 1) := by
  unfold errF
  rw [show t - i = (t - (i + 1)) + 1 by omega]
  rfl
theorem err_t : errF t tx P t = if me P = 0 then nI t else -1005 := by
  unfold errF
  rw [Nat.sub_self]; rfl
/-- in a place that may not end: the end is wrong like any bad sign -/
theorem err_m (h : i ≤ t) (hm : me P = 0) (hz : pa P 0 = -1) : errF t tx P i = if pa P (sg t tx i) = -1 then nI i else errF t tx (pa P (sg t tx i)) (i + 1) := by
  by_cases c : i = t
  · subst c
    rw [err_t, if_pos hm, sg_t, if_pos hz]
  · exact err_s (by omega)
def finF (t : Nat) (tx : Nat → Int32) (i : Nat) : Int32 := if i = t then -1005 else if sg t tx i = 59 then errF t tx 0 (i + 1) else nI i
theorem dg59 : ¬ dgv 59 := by decide
/-- a place where digits alone go on -/
theorem err_d {Q : Int32} (h : i ≤ t) (hm : me P = 0) (h0 : ¬ P = 0) (h3 : ¬ P = 3) (hq : pd P = Q) (hq1 : ¬ Q = -1) : errF t tx P i = if dgv (sg t tx i) then errF t tx Q (i + 1) else nI i := by
  have hp : ∀ c, pa P c = if dgv c then Q else -1 := fun c => by
    unfold pa
    by_cases e : c = 59
    · rw [if_pos e, if_pos hm, e, if_neg dg59]
    · rw [if_neg e, if_neg h0, if_neg h3, hq]
  rw [err_m h hm (by rw [hp]; exact if_neg (by decide))]
  rw [hp]
  by_cases d : dgv (sg t tx i)
  · rw [if_pos d, if_neg hq1, if_pos d]
  · rw [if_neg d, if_pos rfl, if_neg d]
theorem err_1 (h : i ≤ t) : errF t tx 1 i = if dgv (sg t tx i) then errF t tx 7 (i + 1) else nI i := err_d h (by decide) (by decide) (by decide) (by decide) (by decide)
theorem err_2 (h : i ≤ t) : errF t tx 2 i = if dgv (sg t tx i) then errF t tx 3 (i + 1) else nI i := err_d h (by decide) (by decide) (by decide) (by decide) (by decide)
theorem err_4 (h : i ≤ t) : errF t tx 4 i = if dgv (sg t tx i) then errF t tx 5 (i + 1) else nI i := err_d h (by decide) (by decide) (by decide) (by decide) (by decide)
theorem err_3 (h : i ≤ t) : errF t tx 3 i = if sg t tx i = 61 then errF t tx 4 (i + 1) else nI i := by
  rw [err_m h (by decide) (by decide)]
  have hp : ∀ c, pa 3 c = if c = 61 then 4 else -1 := fun c => by
    unfold pa
    by_cases e : c = 59
    · rw [if_pos e, if_pos (by decide), e, if_neg (by decide)]
    · rw [if_neg e, if_neg (by decide), if_pos rfl]
  rw [hp]
  by_cases d : sg t tx i = 61
  · rw [if_pos d, if_neg (by decide), if_pos d]
  · rw [if_neg d, if_pos rfl, if_neg d]
theorem err_e {Q : Int32} (h : i ≤ t) (hm : ¬ me P = 0) (h0 : ¬ P = 0) (h3 : ¬ P = 3) (hq : pd P = Q) (hq1 : ¬ Q = -1) : errF t tx P i = if dgv (sg t tx i) then errF t tx Q (i + 1) else finF t tx i := by
  unfold finF
  by_cases c : i = t
  · subst c
    rw [err_t, if_neg hm, sg_t, if_neg (by decide), if_pos rfl]
  · rw [err_s (by omega), if_neg c]
    unfold pa
    by_cases e : sg t tx i = 59
    · rw [if_pos e, if_neg hm, if_neg (by decide), e, if_neg dg59, if_pos rfl]
    · rw [if_neg e, if_neg h0, if_neg h3, hq, if_neg e]
      by_cases d : dgv (sg t tx i)
      · rw [if_pos d, if_neg hq1, if_pos d]
      · rw [if_neg d, if_pos rfl, if_neg d]
theorem err_5 (h : i ≤ t) : errF t tx 5 i = if dgv (sg t tx i) then errF t tx 6 (i + 1) else finF t tx i := err_e h (by decide) (by decide) (by decide) (by decide) (by decide)
theorem err_6 (h : i ≤ t) : errF t tx 6 i = if dgv (sg t tx i) then errF t tx 7 (i + 1) else finF t tx i := err_e h (by decide) (by decide) (by decide) (by decide) (by decide)
theorem err_7 (h : i ≤ t) : errF t tx 7 i = finF t tx i := by
  unfold finF
  by_cases c : i = t
  · subst c
    rw [err_t, if_neg (by decide), if_pos rfl]
  · rw [err_s (by omega), if_neg c]
    unfold pa
    by_cases e : sg t tx i = 59
    · rw [if_pos e, if_neg (by decide), if_neg (by decide), if_pos e]
    · have hp : (if (7 : Int32) = 0 then pl (sg t tx i) else if (7 : Int32) = 3 then (if sg t tx i = 61 then 4 else -1) else if dgv (sg t tx i) then pd 7 else -1) = -1 := by
        rw [if_neg (by decide), if_neg (by decide)]
        by_cases d : dgv (sg t tx i)
        · rw [if_pos d]; decide
        · rw [if_neg d]
      rw [if_neg e, hp, if_pos rfl, if_neg e]
theorem err_0 (h : i ≤ t) : errF t tx 0 i = if pl (sg t tx i) = -1 then nI i else errF t tx (pl (sg t tx i)) (i + 1) := by
  rw [err_m h (by decide) (by decide)]
  have hp : ∀ c, pa 0 c = pl c := fun c => by
    unfold pa
    by_cases e : c = 59
    · rw [if_pos e, if_pos (by decide), e]; rfl
    · rw [if_neg e, if_pos rfl]
  rw [hp]
/-- a number: the automaton comes out behind it -/
theorem err_n (h : i ≤ t) : errF t tx 4 i = if dgv (sg t tx i) then finF t tx (i + nlF t tx i) else nI i := by
  rw [err_4 h]
  by_cases d : dgv (sg t tx i)
  · have l0 := dgv_lt d
    rw [if_pos d, if_pos d, err_5 (by omega)]
    unfold nlF
    by_cases d1 : dgv (sg t tx (i + 1))
    · have l1 := dgv_lt d1
      rw [if_pos d1, if_pos d1, err_6 (by omega)]
      by_cases d2 : dgv (sg t tx (i + 2))
      · have l2 := dgv_lt d2
        rw [if_pos d2, if_pos d2, err_7 (by omega)]
      · rw [if_neg d2, if_neg d2]
    · rw [if_neg d1, if_neg d1]
  · rw [if_neg d, if_neg d]
end ER
