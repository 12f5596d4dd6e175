/-! The reference reads a command. -/
def letN (c : Int32) : Prop := c = 105 ∨ c = 119
def letP (c : Int32) : Prop := c = 114 ∨ c = 104 ∨ c = 101
def okF (t : Nat) (tx : Nat → Int32) (a : Nat) : Prop := (letP (sg t tx a) ∧ dgv (sg t tx (a + 1))) ∨ (sg t tx a = 115 ∧ dgv (sg t tx (a + 1)) ∧ sg t tx (a + 2) = 61 ∧ dgv (sg t tx (a + 3))) ∨ (letN (sg t tx a) ∧ dgv (sg t tx (a + 1)))
def bF (t : Nat) (tx : Nat → Int32) (a : Nat) : Nat := if sg t tx a = 115 then a + 3 + nlF t tx (a + 3) else if sg t tx a = 105 then a + 1 + nlF t tx (a + 1) else if sg t tx a = 119 then a + 1 + nlF t tx (a + 1) else a + 2
def whF (t : Nat) (tx : Nat → Int32) (a : Nat) : Int32 := if sg t tx a = 105 then 0 else if sg t tx a = 119 then 0 else sg t tx (a + 1) - 48
def vaF (t : Nat) (tx : Nat → Int32) (a : Nat) : Int32 := if sg t tx a = 115 then nvF t tx (a + 3) else if sg t tx a = 105 then nvF t tx (a + 1) else if sg t tx a = 119 then nvF t tx (a + 1) else 0
def ot5 (m m' : Nat → Int32) : Prop := ∀ k, k < 13 ∨ 17 < k → m' k = m k
section RC
variable {t a : Nat} {tx m : Nat → Int32} {hv : HV}
theorem R_153 {post : HV → Prop} (ht : t ≤ 40) (ha : a ≤ t) (h20 : hv 20 0 = tx) (h11 : m 11 = nI t) (h13 : m 13 = nI a) (h14 : m 14 = 0 ∨ m 14 = 1)
    (yes : (m 15 = 115 ∨ m 15 = 105 ∨ m 15 = 119) → m 14 = 0 → dgv (sg t tx a) → ∀ m', m' 13 = nI (a + nlF t tx a) → m' 14 = 0 → m' 17 = nvF t tx a → (∀ k, ¬ k = 13 → ¬ k = 14 → ¬ k = 17 → m' k = m k) → post (up hv 9 0 m'))
    (no : (m 15 = 115 ∨ m 15 = 105 ∨ m 15 = 119) → ¬ (m 14 = 0 ∧ dgv (sg t tx a)) → ∀ m', m' 13 = nI a → m' 14 = 1 → (∀ k, ¬ k = 13 → ¬ k = 14 → ¬ k = 17 → m' k = m k) → post (up hv 9 0 m'))
    (els : ¬ m 15 = 115 → ¬ m 15 = 105 → ¬ m 15 = 119 → ∀ m', m' 17 = 0 → (∀ k, ¬ k = 17 → m' k = m k) → post (up hv 9 0 m')) : V_X9_readCommand_153 post (up hv 9 0 m) := by
  have go : (m 15 = 115 ∨ m 15 = 105 ∨ m 15 = 119) → V_X9_number (up hv 9 0 m) (fun r12 hv12 => (∀ hv13 : HV, hv13 = up hv12 9 0 (upd (hv12 9 0) 17 r12) → post hv13)) := by
    intro hl
    refine R_number ht ha h20 h11 h13 h14 (fun c d m1 k13 k14 ko hv13 e13 => ?_) (fun c m1 k13 k14 ko hv13 e13 => ?_)
    · rw [e13, up_s, up_up]
      exact yes hl c d _ (by rw [upd_n _ _ (by omega)]; exact k13) (by rw [upd_n _ _ (by omega)]; exact k14) (upd_s _ _ _) (fun k k1 k2 k3 => by rw [upd_n _ _ k3]; exact ko k k1 k2)
    · rw [e13, up_s, up_up]
      exact no hl c _ (by rw [upd_n _ _ (by omega)]; exact k13) (by rw [upd_n _ _ (by omega)]; exact k14) (fun k k1 k2 k3 => by rw [upd_n _ _ k3]; exact ko k k1 k2)
  unfold V_X9_readCommand_153
  have q15 : (up hv 9 0 m) 9 0 15 = m 15 := by rw [up_s]
  rw [q15]
  refine ⟨fun c => go (Or.inl c), fun c => ⟨fun d => go (Or.inr (Or.inl d)), fun d => ⟨fun e => go (Or.inr (Or.inr e)), fun e hv18 e18 => ?_⟩⟩⟩
  rw [e18, up_s, up_up]
  exact els c d e _ (upd_s _ _ _) (fun k k1 => upd_n _ _ k1)
theorem pl_r : pl 114 = 1 ∧ pl 104 = 1 ∧ pl 101 = 1 ∧ pl 115 = 2 ∧ pl 105 = 4 ∧ pl 119 = 4 := by decide
theorem pl_no {c : Int32} (h1 : ¬ c = 114) (h2 : ¬ c = 104) (h3 : ¬ c = 101) (h4 : ¬ c = 115) (h5 : ¬ c = 105) (h6 : ¬ c = 119) : pl c = -1 := by
  unfold pl
  rw [if_neg h3, if_neg h2, if_neg h5, if_neg h1, if_neg h4, if_neg h6]
theorem err_P (ha : a ≤ t) (h : letP (sg t tx a)) : a < t ∧ errF t tx 0 a = if dgv (sg t tx (a + 1)) then finF t tx (a + 2) else nI (a + 1) := by
  have hl : a < t := sg_lt (fun z => by rw [z] at h; exact absurd h (by unfold letP; decide))
  have hp : pl (sg t tx a) = 1 := by rcases h with e | e | e <;> rw [e] <;> decide
  refine ⟨hl, ?_⟩
  rw [err_0 ha, hp, if_neg (by decide), err_1 (by omega)]
  by_cases d : dgv (sg t tx (a + 1))
  · have := dgv_lt d
    rw [if_pos d, if_pos d, err_7 (by omega)]
  · rw [if_neg d, if_neg d]
theorem err_N (ha : a ≤ t) (h : letN (sg t tx a)) : a < t ∧ errF t tx 0 a = if dgv (sg t tx (a + 1)) then finF t tx (a + 1 + nlF t tx (a + 1)) else nI (a + 1) := by
  have hl : a < t := sg_lt (fun z => by rw [z] at h; exact absurd h (by unfold letN; decide))
  have hp : pl (sg t tx a) = 4 := by rcases h with e | e <;> rw [e] <;> decide
  refine ⟨hl, ?_⟩
  rw [err_0 ha, hp, if_neg (by decide), err_n (by omega)]
theorem err_S (ha : a ≤ t) (h : sg t tx a = 115) : a < t ∧ errF t tx 0 a = if dgv (sg t tx (a + 1)) then (if sg t tx (a + 2) = 61 then (if dgv (sg t tx (a + 3)) then finF t tx (a + 3 + nlF t tx (a + 3)) else nI (a + 3)) else nI (a + 2)) else nI (a + 1) := by
  have hl : a < t := sg_lt (fun z => by rw [z] at h; exact absurd h (by decide))
  refine ⟨hl, ?_⟩
  rw [err_0 ha, h, if_neg (by decide), show pl 115 = 2 from by decide, err_2 (by omega)]
  by_cases d : dgv (sg t tx (a + 1))
  · have l1 := dgv_lt d
    rw [if_pos d, if_pos d, err_3 (by omega)]
    by_cases e : sg t tx (a + 2) = 61
    · have l2 : a + 2 < t := sg_lt (fun z => by rw [z] at e; exact absurd e (by decide))
      rw [if_pos e, if_pos e, err_n (by omega)]
    · rw [if_neg e, if_neg e]
  · rw [if_neg d, if_neg d]
end RC
