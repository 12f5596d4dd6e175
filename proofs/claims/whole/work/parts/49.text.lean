/-! The text: its signs, the class's automaton, as functions. -/
def sg (t : Nat) (tx : Nat → Int32) (i : Nat) : Int32 := if i < t then tx i else 0
abbrev dgv (c : Int32) : Prop := 48 ≤ c ∧ c ≤ 57
def me (P : Int32) : Int32 := if P = 5 then 1 else if P = 6 then 1 else if P = 7 then 1 else 0
def pl (c : Int32) : Int32 := if c = 101 then 1 else if c = 104 then 1 else if c = 105 then 4 else if c = 114 then 1 else if c = 115 then 2 else if c = 119 then 4 else -1
def pd (P : Int32) : Int32 := if P = 1 then 7 else if P = 2 then 3 else if P = 4 then 5 else if P = 5 then 6 else if P = 6 then 7 else -1
def pa (P c : Int32) : Int32 := if c = 59 then (if me P = 0 then -1 else 0) else if P = 0 then pl c else if P = 3 then (if c = 61 then 4 else -1) else if dgv c then pd P else -1
theorem C_isDigit {a : Int32} {hv : HV} {post : Int32 → HV → Prop} (q : post (if dgv a then 1 else 0) hv) : V_X1_isDigit a hv post := by
  unfold V_X1_isDigit
  refine ⟨fun c => ?_, fun c => ⟨fun d => ?_, fun d => ?_⟩⟩
  · rwa [if_neg (fun z => i_nlt.mpr z.1 c)] at q
  · rwa [if_neg (fun z => i_nlt.mpr z.2 d)] at q
  · rwa [if_pos ⟨nl_le c, nl_le d⟩] at q
theorem C_mayEnd {a : Int32} {hv : HV} {post : Int32 → HV → Prop} (q : post (me a) hv) : V_X1_mayEnd a hv post := by
  unfold V_X1_mayEnd
  unfold me at q
  refine ⟨fun c => by rwa [if_pos c] at q, fun c => ⟨fun d => by rwa [if_neg c, if_pos d] at q, fun d => ⟨fun e => by rwa [if_neg c, if_neg d, if_pos e] at q, fun e => by rwa [if_neg c, if_neg d, if_neg e] at q⟩⟩⟩
theorem C_placeL {a : Int32} {hv : HV} {post : Int32 → HV → Prop} (q : post (pl a) hv) : V_X1_placeAfterLetter a hv post := by
  unfold V_X1_placeAfterLetter
  unfold pl at q
  refine ⟨fun c => by rwa [if_pos c] at q, fun c => ?_⟩
  rw [if_neg c] at q
  refine ⟨fun c => by rwa [if_pos c] at q, fun c => ?_⟩
  rw [if_neg c] at q
  refine ⟨fun c => by rwa [if_pos c] at q, fun c => ?_⟩
  rw [if_neg c] at q
  refine ⟨fun c => by rwa [if_pos c] at q, fun c => ?_⟩
  rw [if_neg c] at q
  refine ⟨fun c => by rwa [if_pos c] at q, fun c => ?_⟩
  rw [if_neg c] at q
  exact ⟨fun c => by rwa [if_pos c] at q, fun c => by rwa [if_neg c] at q⟩
theorem C_placeD {a : Int32} {hv : HV} {post : Int32 → HV → Prop} (q : post (pd a) hv) : V_X1_placeAfterDigit a hv post := by
  unfold V_X1_placeAfterDigit
  unfold pd at q
  refine ⟨fun c => by rwa [if_pos c] at q, fun c => ?_⟩
  rw [if_neg c] at q
  refine ⟨fun c => by rwa [if_pos c] at q, fun c => ?_⟩
  rw [if_neg c] at q
  refine ⟨fun c => by rwa [if_pos c] at q, fun c => ?_⟩
  rw [if_neg c] at q
  refine ⟨fun c => by rwa [if_pos c] at q, fun c => ?_⟩
  rw [if_neg c] at q
  exact ⟨fun c => by rwa [if_pos c] at q, fun c => by rwa [if_neg c] at q⟩
theorem C_placeA {P c : Int32} {hv : HV} {post : Int32 → HV → Prop} (q : post (pa P c) hv) : V_X1_placeAfter P c hv post := by
  unfold V_X1_placeAfter
  unfold pa at q
  refine ⟨fun h => ?_, fun h => ?_⟩
  · rw [if_pos h] at q
    refine C_mayEnd ⟨fun z => by rwa [if_pos z] at q, fun z => by rwa [if_neg z] at q⟩
  rw [if_neg h] at q
  refine ⟨fun h0 => by rw [if_pos h0] at q; exact C_placeL q, fun h0 => ?_⟩
  rw [if_neg h0] at q
  refine ⟨fun h3 => ?_, fun h3 => ?_⟩
  · rw [if_pos h3] at q
    exact ⟨fun z => by rwa [if_pos z] at q, fun z => by rwa [if_neg z] at q⟩
  rw [if_neg h3] at q
  refine C_isDigit ?_
  by_cases d : dgv c
  · rw [if_pos d] at q ⊢
    exact ⟨fun z => absurd z (by decide), fun _ => C_placeD q⟩
  · rw [if_neg d] at q ⊢
    exact ⟨fun _ => q, fun z => absurd rfl z⟩
theorem cOK_b {x : Int32} (h : 0 ≤ x.toInt ∧ x.toInt ≤ 126) : cOK x := by
  have n0 : ¬ x < 0 := by rw [i_lt, i0]; omega
  obtain ⟨j, hj, e⟩ := nI_of n0
  rw [e, nI_toInt hj] at h
  have hk : ∀ k : Nat, k < 127 → narrow .char (.int (nI k)) = .int (nI k) ∧ fits .char (.int (nI k)) = true := by decide +kernel
  rw [e]
  exact hk j (by omega)
/-- the class's text is that of K -/
def CTx (hv : HV) (t : Nat) (tx : Nat → Int32) : Prop := (hv 1 0 1 = nI t ∧ ∀ j, j < t → hv 13 0 j = tx j) ∧ t ≤ 40 ∧ ∀ j, j < t → 33 ≤ (tx j).toInt ∧ (tx j).toInt ≤ 126
theorem CR_CT {hv : HV} {ex : Int32} {v : Nat → Int32} {K : KS} (h : CR hv ex v K) (hI : IV v K) : CTx hv K.2.2.1.1 K.2.2.1.2 := ⟨h.2.2.2.1, hI.2.2⟩
theorem C_signAt {i t : Nat} {tx : Nat → Int32} {hv : HV} {post : Int32 → HV → Prop} (h : CTx hv t tx) (hi : i < 2 ^ 31) (q : post (sg t tx i) hv) : V_X1_signAt (nI i) hv post := by
  obtain ⟨⟨h1, h2⟩, ht, hb⟩ := h
  unfold V_X1_signAt
  rw [h1, nI_leI (by omega) hi]
  unfold sg at q
  refine ⟨fun c => by rwa [if_neg (by omega)] at q, fun c => ?_⟩
  rw [if_pos (by omega)] at q
  rw [C_outside, if_neg (nI_pos hi), if_pos (show nI i ≤ 39 from nI_le (b := 39) (by omega) (by omega)), nI_clamp hi, h2 i (by omega)]
  refine ⟨fun _ => ⟨vp_in_nI (by omega) (by omega), cOK_b ?_, q⟩, fun z => absurd rfl z⟩
  have := hb i (by omega)
  omega
/-- what the class's automaton answers from place P at sign i on, m signs before the end -/
def erF (t : Nat) (tx : Nat → Int32) : Nat → Int32 → Nat → Int32
  | 0, P, _ => if me P = 0 then nI t else -1005
  | m + 1, P, i => if pa P (sg t tx i) = -1 then nI i else erF t tx m (pa P (sg t tx i)) (i + 1)
def errF (t : Nat) (tx : Nat → Int32) (P : Int32) (i : Nat) : Int32 := erF t tx (t - i) P i
theorem C_errL {t : Nat} {tx : Nat → Int32} {hv : HV} {post : Int32 → HV → Prop} (h : CTx hv t tx) : ∀ (m n i : Nat) (P : Int32), m < n → i + m = t → post (erF t tx m P i) hv →
    V_X1_firstError_4 post (fun y6_1 hv6 => (V_X1_mayEnd y6_1 hv6 (fun r7 hv7 => ((r7 = 0 → post (hv7 1 0 1) hv7) ∧ (¬ (r7 = 0) → post (-1005) hv7))))) n P (nI i) hv
  | 0, n + 1, i, P, _, hm, q => by
    have ht := h.2.1
    rw [V_X1_firstError_4, h.1.1]
    unfold erF at q
    refine ⟨fun _ => C_mayEnd ⟨fun z => by rw [if_pos z] at q; rw [h.1.1]; exact q, fun z => by rwa [if_neg z] at q⟩, fun c => absurd (nI_le (by omega) (by omega)) c⟩
  | m + 1, n + 1, i, P, hn, hm, q => by
    have ht := h.2.1
    rw [V_X1_firstError_4, h.1.1]
    unfold erF at q
    refine ⟨fun c => by rw [nI_leI (by omega) (by omega)] at c; omega, fun _ => C_signAt h (by omega) (C_placeA ⟨fun c => by rwa [if_pos c] at q, fun c x e => ?_⟩)⟩
    rw [if_neg c] at q
    rw [e, nI_1]
    exact C_errL h m n (i + 1) _ (by omega) (by omega) q
theorem C_err {t : Nat} {tx : Nat → Int32} {hv : HV} {post : Int32 → HV → Prop} (h : CTx hv t tx) (q : post (errF t tx 0 0) hv) : V_X1_firstError hv post := by
  unfold V_X1_firstError
  exact ⟨t + 1, C_errL h t (t + 1) 0 0 (by omega) (by omega) q⟩
