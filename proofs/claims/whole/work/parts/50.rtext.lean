/-! The reference's reader: one digit, a sign, a number. -/
def oth (m m' : Nat → Int32) : Prop := ∀ k, ¬ k = 13 → ¬ k = 14 → m' k = m k
section RT
variable {t a : Nat} {tx m : Nat → Int32} {hv : HV}
theorem sg_t (t : Nat) (tx : Nat → Int32) : sg t tx t = 0 := if_neg (by omega)
theorem R_isDigit {post : Int32 → HV → Prop} (ht : t ≤ 40) (ha : a ≤ t) (h20 : hv 20 0 = tx) (h11 : m 11 = nI t) (h13 : m 13 = nI a) (q : post (if dgv (sg t tx a) then 1 else 0) (up hv 9 0 m)) : V_X9_isDigit (up hv 9 0 m) post := by
  unfold V_X9_isDigit
  rw [up_s, h11, h13, nI_leI (by omega) (by omega), up_n _ _ (show ¬ (20 = 9 ∧ 0 = 0) by omega), h20, nI_clamp (by omega)]
  unfold sg at q
  refine ⟨fun c => ?_, fun c => ⟨vp_in_nI (by omega) (by omega), ?_⟩⟩
  · rw [if_neg (show ¬ a < t by omega), if_neg (show ¬ dgv 0 by decide)] at q; exact q
  · rw [if_pos (show a < t by omega)] at q
    rw [R_in]
    by_cases c1 : tx a < 48
    · rw [if_neg (show ¬ dgv (tx a) from fun z => i_nlt.mpr z.1 c1)] at q
      rw [if_pos c1]
      exact ⟨fun _ => q, fun z => absurd rfl z⟩
    · by_cases c2 : 57 < tx a
      · rw [if_neg (show ¬ dgv (tx a) from fun z => i_nlt.mpr z.2 c2)] at q
        rw [if_neg c1, if_pos c2]
        exact ⟨fun _ => q, fun z => absurd rfl z⟩
      · rw [if_pos (show dgv (tx a) from ⟨nl_le c1, nl_le c2⟩)] at q
        rw [if_neg c1, if_neg c2]
        exact ⟨fun z => absurd z (by decide), fun _ => q⟩
theorem sg_lt (h : ¬ sg t tx a = 0) : a < t := by
  unfold sg at h
  by_cases c : a < t
  · exact c
  · rw [if_neg c] at h; exact absurd rfl h
theorem dgv_lt (h : dgv (sg t tx a)) : a < t := sg_lt (fun z => by rw [z] at h; exact absurd h (by decide))
theorem sg_i (h : a < t) : sg t tx a = tx a := if_pos h
theorem R_digit {post : Int32 → HV → Prop} (ht : t ≤ 40) (ha : a ≤ t) (h20 : hv 20 0 = tx) (h11 : m 11 = nI t) (h13 : m 13 = nI a) (h14 : m 14 = 0 ∨ m 14 = 1)
    (yes : m 14 = 0 → dgv (sg t tx a) → ∀ m', m' 13 = nI (a + 1) → m' 14 = 0 → oth m m' → post (sg t tx a - 48) (up hv 9 0 m'))
    (no : ¬ (m 14 = 0 ∧ dgv (sg t tx a)) → ∀ m', m' 13 = nI a → m' 14 = 1 → oth m m' → post 0 (up hv 9 0 m')) : V_X9_digit (up hv 9 0 m) post := by
  have bad : ¬ (m 14 = 0 ∧ dgv (sg t tx a)) → ∀ hw, hw = up (up hv 9 0 m) 9 0 (upd ((up hv 9 0 m) 9 0) 14 1) → V_X9_digit_23 post hw := by
    intro hn hw ew
    rw [up_s, up_up] at ew
    rw [ew]
    unfold V_X9_digit_23
    rw [up_s, upd_s]
    refine ⟨fun z => absurd z (by decide), fun _ => ?_⟩
    unfold V_X9_digit_46
    rw [up_s, upd_s]
    refine ⟨fun z => absurd z (by decide), fun _ hw2 e2 => ?_⟩
    rw [e2, up_up]
    refine no hn _ ?_ ?_ (fun k k1 k2 => by rw [upd_n _ _ k1, upd_n _ _ k2])
    · rw [upd_s, upd_n _ _ (by omega), h13, Int32.add_zero]
    · rw [upd_n _ _ (by omega), upd_s]
  unfold V_X9_digit
  refine ⟨fun c => R_isDigit ht ha h20 h11 h13 ?_, fun c => ?_⟩
  · by_cases d : dgv (sg t tx a)
    · rw [if_pos d]
      refine ⟨fun z => absurd z (by decide), fun _ hw ew => ?_⟩
      have hat := dgv_lt d
      rw [up_s, up_up] at ew
      rw [ew]
      unfold V_X9_digit_23
      rw [up_s, upd_s, upd_n _ _ (show ¬ 13 = 14 by omega), h13, nI_clamp (by omega), up_n _ _ (show ¬ (20 = 9 ∧ 0 = 0) by omega), h20]
      refine ⟨fun _ => ⟨vp_in_nI (by omega) (by omega), ?_⟩, fun z => absurd rfl z⟩
      unfold V_X9_digit_46
      rw [up_s, upd_s]
      refine ⟨fun _ hw2 e2 => ?_, fun z => absurd rfl z⟩
      rw [e2, up_up, ← sg_i (tx := tx) hat]
      refine yes c d _ ?_ ?_ (fun k k1 k2 => by rw [upd_n _ _ k1, upd_n _ _ k2])
      · rw [upd_s, upd_n _ _ (by omega), h13, nI_1]
      · rw [upd_n _ _ (by omega), upd_s]
    · rw [if_neg d]
      exact ⟨fun _ => bad (fun z => d z.2), fun z => absurd rfl z⟩
  · exact bad (fun z => c z.1)
theorem R_sign {c : Int32} {post : HV → Prop} (hc : ¬ c = 0) (ht : t ≤ 40) (ha : a ≤ t) (h20 : hv 20 0 = tx) (h11 : m 11 = nI t) (h13 : m 13 = nI a) (h14 : m 14 = 0 ∨ m 14 = 1)
    (yes : m 14 = 0 → sg t tx a = c → ∀ m', m' 13 = nI (a + 1) → m' 14 = 0 → oth m m' → post (up hv 9 0 m'))
    (no : ¬ (m 14 = 0 ∧ sg t tx a = c) → ∀ m', m' 13 = nI a → m' 14 = 1 → oth m m' → post (up hv 9 0 m')) : V_X9_sign c (up hv 9 0 m) post := by
  have bad : ¬ (m 14 = 0 ∧ sg t tx a = c) → ∀ hw, hw = up (up hv 9 0 m) 9 0 (upd ((up hv 9 0 m) 9 0) 14 1) → V_X9_sign_40 c post hw := by
    intro hn hw ew
    rw [up_s, up_up] at ew
    rw [ew]
    unfold V_X9_sign_40
    rw [up_s, upd_s]
    refine ⟨fun z => absurd z (by decide), fun _ hw2 e2 => ?_⟩
    rw [e2, up_up]
    refine no hn _ ?_ ?_ (fun k k1 k2 => by rw [upd_n _ _ k1, upd_n _ _ k2])
    · rw [upd_s, upd_n _ _ (by omega), h13, Int32.add_zero]
    · rw [upd_n _ _ (by omega), upd_s]
  unfold V_X9_sign
  refine ⟨fun c0 => ⟨fun e => ?_, fun e => ?_⟩, fun c0 => bad (fun z => c0 z.1)⟩
  · rw [up_s, h13, h11, nI_eq (by omega) (by omega)] at e
    refine bad (fun z => ?_)
    rw [e, sg_t] at z
    exact hc z.2.symm
  · have e2 := e
    rw [up_s, h13, h11, nI_eq (by omega) (by omega)] at e2
    have hat : a < t := by omega
    have q13 : (up hv 9 0 m) 9 0 13 = nI a := by rw [up_s]; exact h13
    have q20 : (up hv 9 0 m) 20 0 = tx := by rw [up_n _ _ (by omega)]; exact h20
    rw [q13, q20, nI_clamp (by omega)]
    refine ⟨vp_in_nI (by omega) (by omega), fun d hw ew => ?_, fun d => bad (fun z => ?_)⟩
    · rw [up_s, up_up] at ew
      rw [ew]
      unfold V_X9_sign_40
      rw [up_s, upd_s]
      refine ⟨fun _ hw2 e3 => ?_, fun z => absurd rfl z⟩
      rw [e3, up_up]
      refine yes c0 ((sg_i hat).trans d) _ ?_ ?_ (fun k k1 k2 => by rw [upd_n _ _ k1, upd_n _ _ k2])
      · rw [upd_s, upd_n _ _ (by omega), h13, nI_1]
      · rw [upd_n _ _ (by omega), upd_s]
    · rw [sg_i hat] at z
      exact d z.2
end RT
