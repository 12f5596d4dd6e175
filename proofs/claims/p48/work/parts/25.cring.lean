theorem i_add {a b : Int32} (h1 : -2147483648 ≤ a.toInt + b.toInt) (h2 : a.toInt + b.toInt < 2147483648) : (a + b).toInt = a.toInt + b.toInt := by
  rw [Int32.toInt_add]
  exact Int.bmod_eq_of_le (by show -(4294967296 / 2 : Int) ≤ _; omega) (by show _ < ((4294967296 + 1) / 2 : Int); omega)
theorem i_sub {a b : Int32} (h1 : -2147483648 ≤ a.toInt - b.toInt) (h2 : a.toInt - b.toInt < 2147483648) : (a - b).toInt = a.toInt - b.toInt := by
  rw [Int32.toInt_sub]
  exact Int.bmod_eq_of_le (by show -(4294967296 / 2 : Int) ≤ _; omega) (by show _ < ((4294967296 + 1) / 2 : Int); omega)
theorem i_mul {a b : Int32} (h1 : -2147483648 ≤ a.toInt * b.toInt) (h2 : a.toInt * b.toInt < 2147483648) : (a * b).toInt = a.toInt * b.toInt := by
  rw [Int32.toInt_mul]
  exact Int.bmod_eq_of_le (by show -(4294967296 / 2 : Int) ≤ _; omega) (by show _ < ((4294967296 + 1) / 2 : Int); omega)
theorem i_div {a b : Int32} (ha : 0 ≤ a.toInt) (hb : 0 < b.toInt) : (a / b).toInt = a.toInt / b.toInt := by
  rw [Int32.toInt_div, Int.tdiv_eq_ediv_of_nonneg ha]
  have h1 : 0 ≤ a.toInt / b.toInt := Int.ediv_nonneg ha (by omega)
  have h2 : a.toInt / b.toInt ≤ a.toInt := Int.ediv_le_self _ ha
  have h3 := Int32.toInt_lt a
  exact Int.bmod_eq_of_le (by show -(4294967296 / 2 : Int) ≤ _; omega) (by show _ < ((4294967296 + 1) / 2 : Int); omega)
theorem i_le {a b : Int32} : a ≤ b ↔ a.toInt ≤ b.toInt := Int32.le_iff_toInt_le
theorem i_lt {a b : Int32} : a < b ↔ a.toInt < b.toInt := Int32.lt_iff_toInt_lt
theorem i_eq {a b : Int32} : a = b ↔ a.toInt = b.toInt := Int32.toInt_inj.symm
theorem i_nlt {a b : Int32} : ¬ a < b ↔ b ≤ a := by rw [i_lt, i_le]; omega
theorem i_nle {a b : Int32} : ¬ a ≤ b ↔ b < a := by rw [i_lt, i_le]; omega
theorem i_rng (a : Int32) : -2147483648 ≤ a.toInt ∧ a.toInt < 2147483648 := ⟨Int32.le_toInt a, Int32.toInt_lt a⟩
/-- max with 0, min: the two ways in which they are written -/
theorem max_sw (a b : Int32) : (if a < b then b else a) = (if b ≤ a then a else b) := by
  by_cases h : a < b
  · rw [if_pos h, if_neg (by rw [i_lt] at h; rw [i_le]; omega)]
  · rw [if_neg h, if_pos (i_nlt.mp h)]
theorem min_sw (a b : Int32) : (if a < b then a else b) = (if a ≤ b then a else b) := by
  by_cases h : a < b
  · rw [if_pos h, if_pos (by rw [i_lt] at h; rw [i_le]; omega)]
  · by_cases h2 : a ≤ b
    · rw [if_neg h, if_pos h2]
      rw [i_eq]; rw [i_lt] at h; rw [i_le] at h2; omega
    · rw [if_neg h, if_neg h2]
theorem up_up (hv : HV) (c i : Nat) (g g2 : Nat → Int32) : up (up hv c i g) c i g2 = up hv c i g2 := by
  funext a b; unfold up; by_cases h : a = c ∧ b = i <;> simp [h]
theorem up_cm (hv : HV) {c i c2 i2 : Nat} (g g2 : Nat → Int32) (h : ¬ (c = c2 ∧ i = i2)) : up (up hv c i g) c2 i2 g2 = up (up hv c2 i2 g2) c i g := by
  funext a b; unfold up
  by_cases h1 : a = c ∧ b = i
  · obtain ⟨rfl, rfl⟩ := h1; simp [h]
  · by_cases h2 : a = c2 ∧ b = i2
    · rw [if_pos h2, if_neg h1, if_pos h2]
    · rw [if_neg h2, if_neg h1, if_neg h1, if_neg h2]
theorem up_id (hv : HV) (c i : Nat) : up hv c i (hv c i) = hv := by
  funext a b; unfold up
  by_cases h : a = c ∧ b = i
  · obtain ⟨rfl, rfl⟩ := h; simp
  · simp [h]
/-- a ring of L places that holds the numbers g (the latest first), c of them -/
def RR (L : Nat) (c : Int32) (g I J : Nat → Int32) : Prop := ∃ n nx : Nat, c = nI n ∧ n ≤ L ∧ I 1 = nI n ∧ I 2 = nI nx ∧ nx ≤ L ∧ ∀ b, b < n → J ((nx + L - 1 - b) % L) = g b
def pushG (x : Int32) (g : Nat → Int32) : Nat → Int32 := fun b => if b = 0 then x else g (b - 1)
def AddR (L : Nat) (x : Int32) (I J I2 J2 : Nat → Int32) : Prop := ∀ c g, RR L c g I J → RR L (c + (if nI L ≤ c then 0 else 1)) (pushG x g) I2 J2
def Ls (L : Nat) : Prop := L = 16 ∨ L = 32 ∨ L = 20
theorem ix_a {L nx : Nat} (hL : Ls L) (h : nx < L) : (nx + 1 + L - 1 - 0) % L = nx := by rcases hL with rfl | rfl | rfl <;> omega
theorem ix_b {L nx b : Nat} (hL : Ls L) (h : nx < L) (hb : b + 1 < L) : (nx + 1 + L - 1 - (b + 1)) % L = (nx + L - 1 - b) % L ∧ ¬ (nx + L - 1 - b) % L = nx := by rcases hL with rfl | rfl | rfl <;> omega
theorem ix_d {L b : Nat} (hL : Ls L) (hb : b + 1 < L) : (0 + 1 + L - 1 - (b + 1)) % L = (L + L - 1 - b) % L ∧ ¬ (L + L - 1 - b) % L = 0 := by rcases hL with rfl | rfl | rfl <;> omega
theorem AddR_of {L : Nat} (hL : Ls L) {x : Int32} {I J I2 J2 : Nat → Int32} (h : ∀ n nx : Nat, n ≤ L → nx ≤ L → I 1 = nI n → I 2 = nI nx → ∃ z : Nat, z = (if nx < L then nx else 0) ∧ J2 = upd J z x ∧ I2 2 = nI (z + 1) ∧ I2 1 = nI (if n < L then n + 1 else n)) : AddR L x I J I2 J2 := by
  intro c g ⟨n, nx, e1, h2, h3, h4, h5, h6⟩
  obtain ⟨z, hz, hJ, hI2, hI1⟩ := h n nx h2 h5 h3 h4
  have hLb : L < 2 ^ 31 := by rcases hL with rfl | rfl | rfl <;> omega
  have hL0 : 0 < L := by rcases hL with rfl | rfl | rfl <;> omega
  have hzL : z < L := by rw [hz]; by_cases q : nx < L <;> simp [q, hL0]
  refine ⟨if n < L then n + 1 else n, z + 1, ?_, ?_, hI1, hI2, hzL, ?_⟩
  · rw [e1]
    by_cases q : n < L
    · rw [if_pos q, if_neg (nI_ge q hLb), nI_1]
    · rw [if_neg q, if_pos (nI_le (by omega) (by omega)), Int32.add_zero]
  · by_cases q : n < L <;> simp [q] <;> omega
  · intro b hb
    have hbL : b < L := by by_cases q : n < L <;> simp [q] at hb <;> omega
    rw [hJ]
    cases b with
    | zero => rw [ix_a hL hzL, upd_s]; rfl
    | succ b =>
      have hbn : b < n := by by_cases q : n < L <;> simp [q] at hb <;> omega
      show upd J z x _ = g (b + 1 - 1)
      rw [Nat.add_sub_cancel]
      by_cases q : nx < L
      · rw [if_pos q] at hz
        subst hz
        obtain ⟨q1, q2⟩ := ix_b hL q hbL
        rw [q1, upd_n _ _ q2, h6 b hbn]
      · rw [if_neg q] at hz
        have e : nx = L := by omega
        subst e
        rw [hz]
        obtain ⟨q1, q2⟩ := ix_d hL hbL
        rw [q1, upd_n _ _ q2, h6 b hbn]
theorem C_add {r L : Nat} (hr : rl r = L) (hL : Ls L) {x : Int32} {hv : HV} {post : HV → Prop} (hp : ∀ I2 J2, AddR L x (hv 6 r) (hv 10 r) I2 J2 → post (up (up hv 10 r J2) 6 r I2)) : V_X6_add r x hv post := by
  have hLb : L < 2 ^ 31 := by rcases hL with rfl | rfl | rfl <;> omega
  have hL0 : 0 < L := by rcases hL with rfl | rfl | rfl <;> omega
  have n10 : ¬ ((10 : Nat) = 6 ∧ r = r) := by omega
  have n6 : ¬ ((6 : Nat) = 10 ∧ r = r) := by omega
  -- with the place z known
  have tail : ∀ (z : Nat) (I1 : Nat → Int32), I1 1 = hv 6 r 1 → I1 2 = nI z → (∀ nx : Nat, nx ≤ L → hv 6 r 2 = nI nx → z = (if nx < L then nx else 0)) → z < L →
      (((nI L) ≤ (upd I1 2 (I1 2 + 1)) 1 → post (up (up hv 10 r (upd (hv 10 r) z x)) 6 r (upd I1 2 (I1 2 + 1)))) ∧ (¬ ((nI L) ≤ (upd I1 2 (I1 2 + 1)) 1) → post (up (up hv 10 r (upd (hv 10 r) z x)) 6 r (upd (upd I1 2 (I1 2 + 1)) 1 ((upd I1 2 (I1 2 + 1)) 1 + 1))))) := by
    intro z I1 h1 h2 h3 hz
    refine ⟨fun c => hp _ _ (AddR_of hL ?_), fun c => hp _ _ (AddR_of hL ?_)⟩
    · intro n nx hn hnx e1 e2
      refine ⟨z, h3 nx hnx e2, rfl, ?_, ?_⟩
      · rw [upd_s, h2, nI_1]
      · rw [upd_n _ _ (by omega), h1, e1] at c ⊢
        rw [nI_leI hLb (by omega)] at c
        rw [if_neg (by omega)]
    · intro n nx hn hnx e1 e2
      refine ⟨z, h3 nx hnx e2, rfl, ?_, ?_⟩
      · rw [upd_n _ _ (by omega), upd_s, h2, nI_1]
      · rw [upd_s]
        rw [upd_n _ _ (by omega), h1, e1] at c ⊢
        rw [nI_leI hLb (by omega)] at c
        rw [if_pos (by omega), nI_1]
  unfold V_X6_add
  rw [hr]
  have e0 : Int32.toNatClampNeg (0 : Int32) = 0 := by decide
  simp only [forall_eq, up_s, up_n _ _ n10, up_n _ _ n6, up_up, upd_s]
  have c1 : ∀ g g2 g3, up (up (up hv 6 r g) 10 r g2) 6 r g3 = up (up hv 10 r g2) 6 r g3 := fun g g2 g3 => by rw [up_cm hv _ _ n6, up_up]
  simp only [c1]
  refine ⟨fun c => ⟨?_, ?_⟩, fun c => ⟨fun d => ⟨?_, ?_⟩, fun d => ⟨?_, ?_⟩⟩⟩
  · exact vp_in_nI (n := 0) hL0 hLb
  · rw [e0]
    have z := tail 0 (upd (hv 6 r) 2 0) (upd_n _ _ (by omega)) (upd_s _ _ _) (fun nx h1 h2 => absurd c (by rw [h2]; exact nI_pos (by omega))) hL0
    rw [upd_s] at z
    exact z
  · obtain ⟨j, hj, e⟩ := nI_of c
    rw [e] at d ⊢
    exact vp_in_nI ((nI_ltI hj hLb).mp d) hLb
  · obtain ⟨j, hj, e⟩ := nI_of c
    have hd : j < L := by rw [e] at d; exact (nI_ltI hj hLb).mp d
    have z := tail j (hv 6 r) rfl e (fun nx h1 h2 => by rw [e, nI_eq hj (by omega)] at h2; subst h2; rw [if_pos hd]) hd
    have e2 : (hv 6 r 2).toNatClampNeg = j := by rw [e, nI_clamp hj]
    rw [e2]
    exact z
  · exact vp_in_nI (n := 0) hL0 hLb
  · rw [e0]
    have z := tail 0 (upd (hv 6 r) 2 0) (upd_n _ _ (by omega)) (upd_s _ _ _) (fun nx h1 h2 => by rw [h2, nI_ltI (by omega) hLb] at d; rw [if_neg d]) hL0
    rw [upd_s] at z
    exact z

