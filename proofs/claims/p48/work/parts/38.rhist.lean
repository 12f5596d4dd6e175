/-! The reference's row of recorded states. -/
def pastW (b k : Nat) (f g : Nat → Int32) : Nat → Int32 := fun i => if 297 * b + k ≤ i ∧ i < 297 * b + 297 then f (i - 297 * b) else g i
theorem pastW_e (b : Nat) (f g : Nat → Int32) : pastW b 297 f g = g := by
  funext i; unfold pastW; rw [if_neg (by omega)]
theorem pastW_s {b k : Nat} (f g : Nat → Int32) (h : k < 297) : pastW b (k + 1) f (upd g (297 * b + k) (f k)) = pastW b k f g := by
  funext i; unfold pastW
  by_cases e : i = 297 * b + k
  · subst e
    rw [if_neg (by omega), upd_s, if_pos (by omega)]
    congr 1; omega
  · rw [upd_n _ _ e]
    by_cases c : 297 * b + k ≤ i ∧ i < 297 * b + 297
    · rw [if_pos c, if_pos (by omega)]
    · rw [if_neg c, if_neg (by omega)]
def shiftW (k : Nat) (g : Nat → Int32) : Nat → Int32 := fun i => if k ≤ i + 297 ∧ i + 297 < 2376 then g (i + 297) else g i
theorem shiftW_e (g : Nat → Int32) : shiftW 2376 g = g := by
  funext i; unfold shiftW; rw [if_neg (by omega)]
theorem shiftW_s {k : Nat} (g : Nat → Int32) (h : k < 2376) (h2 : 297 ≤ k) : shiftW (k + 1) (upd g (k - 297) (g k)) = shiftW k g := by
  funext i; unfold shiftW
  by_cases e : i + 297 = k
  · rw [if_neg (by omega), if_pos (by omega), show i = k - 297 by omega, upd_s]
    congr 1; omega
  · rw [upd_n _ _ (show ¬ i = k - 297 by omega)]
    by_cases c : k ≤ i + 297 ∧ i + 297 < 2376
    · rw [if_pos c, if_pos (by omega), upd_n _ _ (by omega)]
    · rw [if_neg c, if_neg (by omega)]
theorem a297 {b k : Nat} : (297 : Int32) * nI b + nI k = nI (297 * b + k) := by
  show nI 297 * nI b + nI k = _
  rw [pk_mul, nI_add]
/-- the row after a state f was recorded as number b -/
theorem HRr_push {b : Nat} {f g : Nat → Int32} {H : Nat → Nat → Int32} (hb : b < 8) (h : ∀ j, j < b → ∀ i, i < 297 → g (297 * (b - 1 - j) + i) = H j i) : ∀ j, j < b + 1 → ∀ i, i < 297 → pastW b 0 f g (297 * (b + 1 - 1 - j) + i) = pushH f H j i := by
  intro j hj i hi
  unfold pastW pushH
  by_cases h0 : j = 0
  · rw [if_pos h0, if_pos (by omega)]
    congr 1; omega
  · rw [if_neg h0, if_neg (by omega), ← h (j - 1) (by omega) i hi]
    congr 1; omega
def backW (b k : Nat) (f g : Nat → Int32) : Nat → Int32 := fun i => if k ≤ i ∧ i < 297 then g (297 * b + i) else f i
