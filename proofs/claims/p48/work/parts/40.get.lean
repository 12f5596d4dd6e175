/-! What a call of both must show; getters. -/
def Rel (B : Nat) (hv : HV) : Prop := ∃ (v : Nat → Int32) (K : KS), CR hv 0 v K ∧ RX hv v K ∧ IV v K ∧ K.1.1 ≤ B
def JJ (C R : HV → (Int32 → HV → Prop) → Prop) : Prop := ∀ (B : Nat) (hv : HV), B + 65000 < 2 ^ 31 → Rel B hv → C hv (fun r hv1 => R hv1 (fun r2 hv2 => r = r2 ∧ Rel (B + 64000) hv2))
theorem J_get {C R : HV → (Int32 → HV → Prop) → Prop} (h : ∀ hv v K, CR hv 0 v K → RX hv v K → IV v K → K.1.1 < 2 ^ 31 → ∃ ans, (∀ post, post ans hv → C hv post) ∧ (∀ post, post ans hv → R hv post)) : JJ C R := by
  intro B hv hB hR
  obtain ⟨v, K, h1, h2, h3, h4⟩ := hR
  obtain ⟨ans, ha, hb⟩ := h hv v K h1 h2 h3 (by omega)
  exact ha _ (hb _ ⟨rfl, v, K, h1, h2, h3, by omega⟩)
theorem C_yes {a : Int32} {p : Nat} {hv : HV} {ex : Int32} {v : Nat → Int32} {K : KS} {Q : HV → Prop} {body : Nat → HV → Prop} (h : CR hv ex v K) (hI : IV v K) (hp : p < cntN v) (ea : a = nI p) (q : body p hv) :
    V_X7_pumpAt 0 a hv (fun o1 hv1 => (o1 = none → Q hv1) ∧ (∀ r1 : Nat, o1 = some r1 → r1 < 37 → body r1 hv1)) := by
  refine C_pumpAt (n := cntN v) (by rw [h.1.1.2.2.2.2]; exact hI.1.1.2) hI.1.1.1 (fun p2 h2 e2 => ?_) (fun no => absurd ea (no p hp))
  have hn := hI.1.1.1
  rw [ea, nI_eq (by omega) (by omega)] at e2
  subst e2
  refine ⟨fun z => by simp at z, fun r1 e _ => ?_⟩
  have e3 : 4 * 0 + p = r1 := Option.some.inj e
  rw [Nat.mul_zero, Nat.zero_add] at e3
  rw [← e3]; exact q
theorem C_no {a : Int32} {hv : HV} {ex : Int32} {v : Nat → Int32} {K : KS} {Q : HV → Prop} {body : Nat → HV → Prop} (h : CR hv ex v K) (hI : IV v K) (no : ∀ p, p < cntN v → ¬ a = nI p) (q : Q hv) :
    V_X7_pumpAt 0 a hv (fun o1 hv1 => (o1 = none → Q hv1) ∧ (∀ r1 : Nat, o1 = some r1 → r1 < 37 → body r1 hv1)) := by
  refine C_pumpAt (n := cntN v) (by rw [h.1.1.2.2.2.2]; exact hI.1.1.2) hI.1.1.1 (fun p2 h2 e2 => absurd e2 (no p2 h2)) (fun _ => ?_)
  exact ⟨fun _ => q, fun r1 e _ => by simp at e⟩
theorem PS_4 {hv : HV} {q k : Nat} {f : Nat → Int32} (h : PS hv q f) (hk : k ≤ 10) : hv 4 q k = f k := by rw [h.1]; exact if_pos hk
theorem PS_411 {hv : HV} {q : Nat} {f : Nat → Int32} (h : PS hv q f) : hv 4 q 11 = f 15 := by rw [h.1]; rfl
theorem PS_00 {hv : HV} {q : Nat} {f : Nat → Int32} (h : PS hv q f) : hv 0 q 0 = f 11 := by rw [h.2.1]; rfl
theorem PS_03 {hv : HV} {q : Nat} {f : Nat → Int32} (h : PS hv q f) : hv 0 q 3 = f 13 := by rw [h.2.1]; rfl
theorem PS_04 {hv : HV} {q : Nat} {f : Nat → Int32} (h : PS hv q f) : hv 0 q 4 = f 14 := by rw [h.2.1]; rfl
theorem PS_2 {hv : HV} {q k : Nat} {f : Nat → Int32} (h : PS hv q f) (hk : k < 6) : hv 2 q k = f (16 + k) := by rw [h.2.2]; exact if_pos hk
theorem CR_PS {hv : HV} {ex : Int32} {v : Nat → Int32} {K : KS} {p : Nat} (h : CR hv ex v K) (hp : p < cntN v) : PS hv p (sl v p) := by
  have z := (h.1.2 p hp).1
  rwa [Nat.mul_zero, Nat.zero_add] at z
theorem CR_PG {hv : HV} {ex : Int32} {v : Nat → Int32} {K : KS} {p : Nat} (h : CR hv ex v K) (hp : p < cntN v) : PG hv p (sl v p) := by
  have z := (h.1.2 p hp).2
  rwa [Nat.mul_zero, Nat.zero_add] at z
