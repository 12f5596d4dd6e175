/-! The reference's row of recorded states. -/
def pastW (b k : Nat) (f g : Nat → Int32) : Nat → Int32 := fun i => if 297 * b + k ≤ i ∧ i < 297 * b + 297 then f (i - 297 * b) else g i
theorem pastW_e (b : Nat) (f g : Nat → Int32) : pastW b 297 f g = g := by
  funext i; unfold pastW; rw [if_neg (by omega)]
theorem pastW_s {b k : Nat} (f g : Nat → Int32) (h : k < 297) : pastW b (k + 1) f (upd g (297 * b + k) (f k)) = pastW b k f g := by
  funext i; unfold pastW
  by_cases e : i = 297 * b + k
  · subst e
    rw [if_neg (by omega), upd_s, if_pos (by omega)]
    congr 1; omega
  · rw [upd_n _ _ e]
    by_cases c : 297 * b + k ≤ i ∧ i < 297 * b + 297
    · rw [if_pos c, if_pos (by omega)]
    · rw [if_neg c, if_neg (by omega)]
def shiftW (k : Nat) (g : Nat → Int32) : Nat → Int32 := fun i => if k ≤ i + 297 ∧ i + 297 < 2376 then g (i + 297) else g i
theorem shiftW_e (g : Nat → Int32) : shiftW 2376 g = g := by
  funext i; unfold shiftW; rw [if_neg (by omega)]
theorem shiftW_s {k : Nat} (g : Nat → Int32) (h : k < 2376) (h2 : 297 ≤ k) : shiftW (k + 1) (upd g (k - 297) (g k)) = shiftW k g := by
  funext i; unfold shiftW
  by_cases e : i + 297 = k
  · rw [if_neg (by omega), if_pos (by omega), show i = k - 297 by omega, upd_s]
    congr 1; omega
  · rw [upd_n _ _ (show ¬ i = k - 297 by omega)]
    by_cases c : k ≤ i + 297 ∧ i + 297 < 2376
    · rw [if_pos c, if_pos (by omega), upd_n _ _ (by omega)]
    · rw [if_neg c, if_neg (by omega)]
theorem a297 {b k : Nat} : (297 : Int32) * nI b + nI k = nI (297 * b + k) := by
  show nI 297 * nI b + nI k = _
  rw [pk_mul, nI_add]
theorem R_rec54 {b : Nat} {post : HV → Prop} (hb : b < 8) : ∀ (m n k : Nat) (hv : HV), m < n → k + m = 297 → hv 9 0 2 = nI b →
    post (up (up hv 16 0 (pastW b k (hv 15 0) (hv 16 0))) 9 0 (upd (hv 9 0) 2 (hv 9 0 2 + 1))) → V_X9_record_54 post n k hv
  | 0, n + 1, k, hv, _, hk, e2, hp => by
    rw [V_X9_record_54]
    refine ⟨fun _ hv3 e3 => ?_, fun c => absurd (by omega) c⟩
    have hk2 : k = 297 := by omega
    rw [hk2, pastW_e, up_id] at hp
    rw [e3]; exact hp
  | m + 1, n + 1, k, hv, hn, hk, e2, hp => by
    rw [V_X9_record_54]
    refine ⟨fun c => absurd c (by omega), fun _ => ?_⟩
    rw [e2, a297, nI_clamp (by omega)]
    refine ⟨vp_in_nI (by omega) (by omega), fun hv4 e4 => ?_⟩
    refine R_rec54 hb m n (k + 1) hv4 (by omega) (by omega) (by rw [e4, up_n _ _ (by omega)]; exact e2) ?_
    rw [e4, up_n _ _ (show ¬ (15 = 16 ∧ 0 = 0) by omega), up_n _ _ (show ¬ (9 = 16 ∧ 0 = 0) by omega), up_s, up_up, pastW_s _ _ (by omega)]
    exact hp
theorem R_rec13 {post K : HV → Prop} : ∀ (m n k : Nat) (hv : HV), m < n → k + m = 2376 → 297 ≤ k → K (up hv 16 0 (shiftW k (hv 16 0))) → V_X9_record_13 post K n k hv
  | 0, n + 1, k, hv, _, hk, _, hp => by
    rw [V_X9_record_13]
    refine ⟨fun _ => ?_, fun c => absurd (by omega) c⟩
    have hk2 : k = 2376 := by omega
    rw [hk2, shiftW_e, up_id] at hp
    exact hp
  | m + 1, n + 1, k, hv, hn, hk, h2, hp => by
    rw [V_X9_record_13]
    refine ⟨fun c => absurd c (by omega), fun _ hv7 e7 => ?_⟩
    refine R_rec13 m n (k + 1) hv7 (by omega) (by omega) (by omega) ?_
    rw [e7, up_s, up_up, shiftW_s _ (by omega) h2]
    exact hp
/-- the row after a state f was recorded as number b -/
theorem HRr_push {b : Nat} {f g : Nat → Int32} {H : Nat → Nat → Int32} (hb : b < 8) (h : ∀ j, j < b → ∀ i, i < 297 → g (297 * (b - 1 - j) + i) = H j i) : ∀ j, j < b + 1 → ∀ i, i < 297 → pastW b 0 f g (297 * (b + 1 - 1 - j) + i) = pushH f H j i := by
  intro j hj i hi
  unfold pastW pushH
  by_cases h0 : j = 0
  · rw [if_pos h0, if_pos (by omega)]
    congr 1; omega
  · rw [if_neg h0, if_neg (by omega), ← h (j - 1) (by omega) i hi]
    congr 1; omega
theorem R_record {b : Nat} {v : Nat → Int32} {H : Nat → Nat → Int32} {hv : HV} {post : HV → Prop} (hb : b ≤ 8) (hv15 : hv 15 0 = v) (hH : HRr hv b H)
    (hp : ∀ hv', HRr hv' (bN b) (pushH v H) → (∀ k, ¬ k = 2 → hv' 9 0 k = hv 9 0 k) → (∀ c i, ¬ (c = 9 ∧ i = 0) → ¬ (c = 16 ∧ i = 0) → hv' c i = hv c i) → post hv') : V_X9_record hv post := by
  obtain ⟨e2, h⟩ := hH
  unfold V_X9_record
  refine ⟨fun c => ?_, fun c => ?_⟩
  · rw [e2] at c
    have c2 : nI b = nI 8 := c
    rw [nI_eq (by omega) (by omega)] at c2
    subst c2
    refine ⟨2080, R_rec13 2079 2080 297 hv (by omega) (by omega) (by omega) ?_⟩
    intro hv9 e9
    have q9 : hv9 9 0 = upd (hv 9 0) 2 (nI 7) := by rw [e9, up_s, up_n _ _ (by omega), e2]; rfl
    refine ⟨298, R_rec54 (b := 7) (by omega) 297 298 0 hv9 (by omega) (by omega) (by rw [q9, upd_s]) ?_⟩
    have q15 : hv9 15 0 = v := by rw [e9, up_n _ _ (by omega), up_n _ _ (by omega)]; exact hv15
    have q16 : hv9 16 0 = shiftW 297 (hv 16 0) := by rw [e9, up_n _ _ (by omega), up_s]
    refine hp _ ⟨?_, ?_⟩ (fun k hk => ?_) (fun c i h1 h2 => ?_)
    · rw [up_s, upd_s, q9, upd_s]; rfl
    · rw [up_n _ _ (by omega), up_s, q15, q16]
      refine HRr_push (b := 7) (by omega) (fun j hj i hi => ?_)
      unfold shiftW
      rw [if_pos (by omega), ← h j (by omega) i hi]
      congr 1; omega
    · rw [up_s, upd_n _ _ hk, q9, upd_n _ _ hk]
    · rw [up_n _ _ h1, up_n _ _ h2, e9, up_n _ _ h1, up_n _ _ h2]
  · rw [e2] at c
    have c2 : ¬ nI b = nI 8 := c
    rw [nI_eq (by omega) (by omega)] at c2
    refine ⟨298, R_rec54 (by omega) 297 298 0 hv (by omega) (by omega) e2 ?_⟩
    have eb : bN b = b + 1 := by unfold bN; omega
    refine hp _ ⟨?_, ?_⟩ (fun k hk => ?_) (fun c i h1 h2 => ?_)
    · rw [up_s, upd_s, e2, nI_1, eb]
    · rw [up_n _ _ (by omega), up_s, hv15, eb]
      exact HRr_push (by omega) h
    · rw [up_s, upd_n _ _ hk]
    · rw [up_n _ _ h1, up_n _ _ h2]
def backW (b k : Nat) (f g : Nat → Int32) : Nat → Int32 := fun i => if k ≤ i ∧ i < 297 then g (297 * b + i) else f i
theorem R_undo23 {b : Nat} {post : Int32 → HV → Prop} (hb : b < 8) : ∀ (m n k : Nat) (hv : HV), m < n → k + m = 297 → hv 9 0 2 = nI b →
    post (nI b) (up hv 15 0 (backW b k (hv 15 0) (hv 16 0))) → V_X9_undo_23 post n k hv
  | 0, n + 1, k, hv, _, hk, e2, hp => by
    rw [V_X9_undo_23]
    refine ⟨fun _ => ?_, fun c => absurd (by omega) c⟩
    have hk2 : k = 297 := by omega
    have eb : backW b 297 (hv 15 0) (hv 16 0) = hv 15 0 := by funext i; unfold backW; rw [if_neg (by omega)]
    rw [hk2, eb, up_id] at hp
    rw [e2]; exact hp
  | m + 1, n + 1, k, hv, hn, hk, e2, hp => by
    rw [V_X9_undo_23]
    refine ⟨fun c => absurd c (by omega), fun _ => ?_⟩
    rw [e2, a297, nI_clamp (by omega)]
    refine ⟨vp_in_nI (by omega) (by omega), fun hv5 e5 => ?_⟩
    refine R_undo23 hb m n (k + 1) hv5 (by omega) (by omega) (by rw [e5, up_n _ _ (by omega)]; exact e2) ?_
    have eb : backW b (k + 1) (upd (hv 15 0) k (hv 16 0 (297 * b + k))) (hv 16 0) = backW b k (hv 15 0) (hv 16 0) := by
      funext i; unfold backW
      by_cases e : i = k
      · subst e; rw [if_neg (by omega), upd_s, if_pos (by omega)]
      · rw [upd_n _ _ e]
        by_cases c : k ≤ i ∧ i < 297
        · rw [if_pos c, if_pos (by omega)]
        · rw [if_neg c, if_neg (by omega)]
    rw [e5, up_s, up_n _ _ (show ¬ (16 = 15 ∧ 0 = 0) by omega), up_up, eb]
    exact hp
theorem R_undo {b : Nat} {H : Nat → Nat → Int32} {hv : HV} {post : Int32 → HV → Prop} (hb : b ≤ 8) (hH : HRr hv b H)
    (h0 : b = 0 → post (-1005) hv)
    (hp : ∀ c, b = c + 1 → ∀ hv', (∀ i, i < 297 → hv' 15 0 i = H 0 i) → HRr hv' c (fun j => H (j + 1)) → (∀ k, ¬ k = 2 → hv' 9 0 k = hv 9 0 k) → (∀ c i, ¬ (c = 9 ∧ i = 0) → ¬ (c = 15 ∧ i = 0) → hv' c i = hv c i) → post (nI c) hv') : V_X9_undo hv post := by
  obtain ⟨e2, h⟩ := hH
  unfold V_X9_undo
  rw [e2]
  cases b with
  | zero => exact ⟨fun _ => h0 rfl, fun z => absurd rfl z⟩
  | succ c =>
    refine ⟨fun z => absurd ((nI_eq (a := c + 1) (b := 0) (by omega) (by omega)).mp z) (by omega), fun _ hv2 k2 => ?_⟩
    have s1 : nI (c + 1) - 1 = nI c := by rw [← nI_1]; exact Int32.add_sub_cancel _ _
    have q9 : hv2 9 0 = upd (hv 9 0) 2 (nI c) := by rw [k2, up_s, s1]
    refine ⟨298, R_undo23 (b := c) (by omega) 297 298 0 hv2 (by omega) (by omega) (by rw [q9, upd_s]) ?_⟩
    have f : ∀ c i, ¬ (c = 9 ∧ i = 0) → hv2 c i = hv c i := fun c i h => by rw [k2]; exact up_n _ _ h
    refine hp c rfl _ (fun i hi => ?_) ⟨?_, fun j hj i hi => ?_⟩ (fun k hk => ?_) (fun c i h1 h2 => ?_)
    · rw [up_s, f 16 0 (by omega)]
      unfold backW
      rw [if_pos ⟨Nat.zero_le _, hi⟩, ← h 0 (by omega) i hi]
      congr 1
    · rw [up_n _ _ (by omega), q9, upd_s]
    · rw [up_n _ _ (by omega), f 16 0 (by omega)]
      show _ = H (j + 1) i
      rw [← h (j + 1) (by omega) i hi]
      congr 1; omega
    · rw [up_n _ _ (by omega), q9, upd_n _ _ hk]
    · rw [up_n _ _ h2]; exact f c i h1
