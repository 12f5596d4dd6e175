/-! Rows: intervals, traces, incidents. -/
theorem nI_sub {a b : Nat} (h : b ≤ a) (ha : a < 2 ^ 31) : nI a - nI b = nI (a - b) := by
  rw [i_eq, i_sub (by rw [nI_toInt ha, nI_toInt (by omega)]; omega) (by rw [nI_toInt ha, nI_toInt (by omega)]; omega), nI_toInt ha, nI_toInt (by omega), nI_toInt (by omega)]
  omega
theorem nI_pred_lt {j n : Nat} (hn : n < 2 ^ 31) (hj : j < 2 ^ 31) : nI j ≤ nI n - 1 ↔ j < n := by
  have e1 : (nI n - 1).toInt = (n : Int) - 1 := by
    have e := nI_toInt hn
    rw [i_sub (by rw [e, i1]; omega) (by rw [e, i1]; omega), e, i1]
  rw [i_le, e1, nI_toInt hj]; omega
theorem C_latest {ir L : Nat} {a c : Int32} {hv : HV} {g : Nat → Int32} {post : Int32 → HV → Prop} (hl : rl ir = L) (hL : 0 < L ∧ L ≤ 32) (hr : RR L c g (hv 6 ir) (hv 10 ir)) (ha : 0 ≤ a) (hp : post (if c ≤ a then -1005 else g a.toNatClampNeg) hv) : V_X6_latest ir a hv post := by
  obtain ⟨n, nx, e1, e2, e3, e4, e5, e6⟩ := hr
  have ha2 : ¬ a < 0 := i_nlt.mpr ha
  obtain ⟨j, hj, ej⟩ := nI_of ha2
  unfold V_X6_latest
  rw [C_outside, e3, e4, hl, if_neg ha2, ej]
  rw [ej, e1, nI_clamp hj] at hp
  have h0 := nI_toInt (n := nx) (by omega)
  by_cases c1 : j < n
  · rw [if_pos ((nI_pred_lt (by omega) hj).mpr c1)]
    rw [if_neg (nI_ge c1 (by omega))] at hp
    refine ⟨fun _ x3 e => ?_, fun z => absurd rfl z⟩
    have s1 : (nI nx - 1).toInt = (nx : Int) - 1 := by rw [i_sub (by rw [h0, i1]; omega) (by rw [h0, i1]; omega), h0, i1]
    have s2 : x3.toInt = (nx : Int) - 1 - j := by rw [e, i_sub (by rw [s1, nI_toInt hj]; omega) (by rw [s1, nI_toInt hj]; omega), s1, nI_toInt hj]
    have fin : ∀ x : Int32, ∀ k : Nat, k < L → x = nI k → (nx + L - 1 - j) % L = k → V_X8_outside x 0 (nI L - 1) hv (fun r5 hv5 => ((r5 = 0 → (vp_in x L ∧ post (hv5 10 ir (Int32.toNatClampNeg x)) hv5)) ∧ (¬ (r5 = 0) → post (-1005) hv5))) := by
      intro x k hk ex em
      rw [C_outside, ex, if_neg (nI_pos (by omega)), if_pos ((nI_pred_lt (by omega) (by omega)).mpr hk), nI_clamp (by omega)]
      refine ⟨fun _ => ⟨vp_in_nI hk (by omega), ?_⟩, fun z => absurd rfl z⟩
      rw [← em, e6 j c1]; exact hp
    refine ⟨fun z => ?_, fun z x8 e8 => ?_⟩
    · rw [i_le, i0, s2] at z
      refine fin x3 (nx - 1 - j) (by omega) ?_ ?_
      · rw [i_eq, s2, nI_toInt (by omega)]; omega
      · rw [show nx + L - 1 - j = nx - 1 - j + L by omega, Nat.add_mod_right]
        exact Nat.mod_eq_of_lt (by omega)
    · rw [i_le, i0, s2] at z
      refine fin x8 (nx + L - 1 - j) (by omega) ?_ (Nat.mod_eq_of_lt (by omega))
      have hLi := nI_toInt (n := L) (by omega)
      rw [i_eq, e8, i_add (by rw [s2, hLi]; omega) (by rw [s2, hLi]; omega), s2, hLi, nI_toInt (by omega)]
      omega
  · rw [if_neg (fun z => c1 ((nI_pred_lt (by omega) hj).mp z))]
    rw [if_pos (nI_le (by omega) hj)] at hp
    exact ⟨fun z => absurd z (by decide), fun _ => hp⟩
/-- the answer of one of the three rows of incidents -/
def incF (h : Nat) (arr : Nat → Int32) (a : Int32) : Int32 := if 0 ≤ a then (if nI (min h 20) ≤ a then -1005 else arr ((h - 1 - a.toNatClampNeg) % 20)) else -1002
theorem C_inc {i0 h : Nat} {arr : Nat → Int32} {a : Int32} {hv : HV} {post : Int32 → HV → Prop} (hi : i0 = 74 ∨ i0 = 75 ∨ i0 = 76) (hr : RR 20 (nI (min h 20)) (fun b => arr ((h - 1 - b) % 20)) (hv 6 i0) (hv 10 i0)) (q : post (incF h arr a) hv) :
    (0 ≤ a → (V_X6_latest i0 a hv (fun r2 hv2 => post r2 hv2))) ∧ (¬ (0 ≤ a) → post (-1002) hv) := by
  unfold incF at q
  refine ⟨fun ha => ?_, fun ha => by rwa [if_neg ha] at q⟩
  rw [if_pos ha] at q
  refine C_latest (L := 20) ?_ (by omega) hr ha q
  rcases hi with e | e | e <;> subst e <;> decide
