/-! period. -/
def mkF (g : Nat → Int32) : Int64 := (((((Int32.toInt64 (g 6)) * 4096) + (Int32.toInt64 (g 13))) * 4096) + (Int32.toInt64 (g 14)))
def mkM (f : Nat → Int32) (i : Nat) : Int64 := if slamQ (trN f i) then mkF (trN f (i + 1)) else -1
theorem mkF_int {g : Nat → Int32} (h : PI g) : (mkF g).toInt = ((g 6).toInt * 4096 + (g 13).toInt) * 4096 + (g 14).toInt := by
  have h6 := h.h6
  have h11 := h.h11
  have h13 := h.h13
  have h14 := h.h14
  have e6 := Int32.toInt_toInt64 (g 6)
  have e13 := Int32.toInt_toInt64 (g 13)
  have e14 := Int32.toInt_toInt64 (g 14)
  have k : (4096 : Int64).toInt = 4096 := rfl
  have a1 : (Int32.toInt64 (g 6) * 4096).toInt = (g 6).toInt * 4096 := by rw [q64_mul (by rw [k, e6]; omega) (by rw [k, e6]; omega), k, e6]
  have a2 : (Int32.toInt64 (g 6) * 4096 + Int32.toInt64 (g 13)).toInt = (g 6).toInt * 4096 + (g 13).toInt := by rw [q64_add (by rw [a1, e13]; omega) (by rw [a1, e13]; omega), a1, e13]
  have a3 : ((Int32.toInt64 (g 6) * 4096 + Int32.toInt64 (g 13)) * 4096).toInt = ((g 6).toInt * 4096 + (g 13).toInt) * 4096 := by rw [q64_mul (by rw [k, a2]; omega) (by rw [k, a2]; omega), k, a2]
  unfold mkF
  rw [q64_add (by rw [a3, e14]; omega) (by rw [a3, e14]; omega), a3, e14]
theorem mkF_n {g : Nat → Int32} (h : PI g) : ¬ mkF g = -1 := fun e => by
  have h6 := h.h6
  have h13 := h.h13
  have h14 := h.h14
  have h11 := h.h11
  have z := congrArg Int64.toInt e
  rw [mkF_int h] at z
  have q : (-1 : Int64).toInt = -1 := by decide
  omega
theorem mkF_inj {g g2 : Nat → Int32} (h : PI g) (h2 : PI g2) : mkF g = mkF g2 ↔ (g 6 = g2 6 ∧ g 13 = g2 13 ∧ g 14 = g2 14) := by
  refine ⟨fun e => ?_, fun e => by unfold mkF; rw [e.1, e.2.1, e.2.2]⟩
  have a6 := h.h6
  have a13 := h.h13
  have a14 := h.h14
  have a11 := h.h11
  have b6 := h2.h6
  have b13 := h2.h13
  have b14 := h2.h14
  have b11 := h2.h11
  have z := congrArg Int64.toInt e
  rw [mkF_int h, mkF_int h2] at z
  rw [i_eq, i_eq, i_eq]
  omega
section MK
variable {f : Nat → Int32}
theorem mkM_no {i : Nat} (h : ¬ slN f i) : mkM f i = -1 := by
  have h2 : ¬ slamQ (trN f i) := h
  unfold mkM; rw [if_neg h2]
theorem mkM_yes {i : Nat} (h : slN f i) : mkM f i = mkF (trN f (i + 1)) := by
  have h2 : slamQ (trN f i) := h
  unfold mkM; rw [if_pos h2]
theorem mkM_n {i : Nat} (hP : PI f) (h : slN f i) : ¬ mkM f i = -1 := by rw [mkM_yes h]; exact mkF_n (PI_trN hP _)
theorem mkM_alk {i j : Nat} (hP : PI f) (hi : slN f i) (hj : slN f j) : mkM f i = mkM f j ↔ alk f i j := by
  rw [mkM_yes hi, mkM_yes hj]; exact mkF_inj (PI_trN hP _) (PI_trN hP _)
theorem C_lkB {L : Nat} {hv : HV} {post : Int32 → HV → Prop} (hP : PI f) (hM : ∀ j, j < 2000 → lgv (hv 14 0) j = mkM f j) (hL : L < 2000) (sL : slN f L) (last : ∀ j, L < j → j < 2000 → ¬ slN f j) (q : ∀ r, perC f 2000 r → post r hv) : ∀ (k n : Nat), k < n → k ≤ L → (∀ j, k ≤ j → j < L → slN f j → ¬ alk f j L) → V_X8_ticksFromSlamLikeLast_15 post n (nI L) (mkM f L) (nI k - 1) hv
  | 0, n + 1, _, _, near => by
    rw [V_X8_ticksFromSlamLikeLast_15]
    exact ⟨fun _ => q _ (Or.inl ⟨rfl, Or.inr ⟨L, hL, sL, last, fun j hj => near j (Nat.zero_le _) hj⟩⟩), fun c => absurd (by decide) c⟩
  | k + 1, n + 1, hn, hk, near => by
    rw [V_X8_ticksFromSlamLikeLast_15, show nI (k + 1) - 1 = nI k from nI_pred k]
    refine ⟨fun c => absurd c (nI_pos (by omega)), fun _ => ⟨vp_in_nI (by omega) (by omega), fun x3 e3 => ?_⟩⟩
    rw [nI_clamp (by omega), hM k (by omega)] at e3
    simp only [lg_cmp_eq]
    have next : (∀ j, k ≤ j → j < L → slN f j → ¬ alk f j L) → ∀ x : Int32, x = nI k + (-1) → V_X8_ticksFromSlamLikeLast_15 post n (nI L) (mkM f L) x hv := fun nr x e => by
      rw [e, ← Int32.sub_eq_add_neg]
      exact C_lkB hP hM hL sL last q k n (by omega) (by omega) nr
    by_cases s : slN f k
    · have nz : ¬ x3 = -1 := by rw [e3]; exact mkM_n hP s
      refine ⟨fun z => absurd z nz, fun _ => ⟨fun z => ?_, fun z => ⟨fun y => absurd y nz, fun _ => ⟨fun _ => next (fun j a b c => ?_), fun y => absurd (nI_pos' (by omega)) y⟩⟩⟩⟩
      · rw [e3, mkM_alk hP s sL] at z
        refine q _ (Or.inr ⟨k, L, by omega, hL, sL, last, s, z, fun j a b c => near j (by omega) b c, ?_⟩)
        exact nI_sub (by omega) (by omega)
      · by_cases e : j = k
        · subst e
          rw [e3, mkM_alk hP s sL] at z; exact z
        · exact near j (by omega) b c
    · have ez : x3 = -1 := by rw [e3]; exact mkM_no s
      refine ⟨fun _ => ⟨fun _ => next (fun j a b c => ?_), fun y => absurd ez y⟩, fun y => absurd ez y⟩
      by_cases e : j = k
      · subst e; exact absurd c s
      · exact near j (by omega) b c
theorem C_lkA {hv : HV} {post : Int32 → HV → Prop} (hP : PI f) (hM : ∀ j, j < 2000 → lgv (hv 14 0) j = mkM f j) (q : ∀ r, perC f 2000 r → post r hv) : ∀ (k n : Nat), k < n → k ≤ 2000 → (∀ j, k ≤ j → j < 2000 → ¬ slN f j) → V_X8_ticksFromSlamLikeLast_15 post n (-1) (-1) (nI k - 1) hv
  | 0, n + 1, _, _, no => by
    rw [V_X8_ticksFromSlamLikeLast_15]
    exact ⟨fun _ => q _ (Or.inl ⟨rfl, Or.inl (fun j hj => no j (Nat.zero_le _) hj)⟩), fun c => absurd (by decide) c⟩
  | k + 1, n + 1, hn, hk, no => by
    rw [V_X8_ticksFromSlamLikeLast_15, show nI (k + 1) - 1 = nI k from nI_pred k]
    refine ⟨fun c => absurd c (nI_pos (by omega)), fun _ => ⟨vp_in_nI (by omega) (by omega), fun x3 e3 => ?_⟩⟩
    rw [nI_clamp (by omega), hM k (by omega)] at e3
    simp only [lg_cmp_eq]
    by_cases s : slN f k
    · have nz : ¬ x3 = -1 := by rw [e3]; exact mkM_n hP s
      refine ⟨fun z => absurd z nz, fun _ => ⟨fun z => absurd z nz, fun _ => ⟨fun y => absurd y nz, fun _ => ⟨fun y => absurd y (by decide), fun _ x e => ?_⟩⟩⟩⟩
      rw [e, e3, ← Int32.sub_eq_add_neg]
      exact C_lkB hP hM (by omega) s (fun j a b => no j (by omega) b) q k n (by omega) (Nat.le_refl _) (fun j a b => absurd b (by omega))
    · have ez : x3 = -1 := by rw [e3]; exact mkM_no s
      refine ⟨fun _ => ⟨fun _ x e => ?_, fun y => absurd ez y⟩, fun y => absurd ez y⟩
      rw [e, ← Int32.sub_eq_add_neg]
      refine C_lkA hP hM q k n (by omega) (by omega) (fun j a b => ?_)
      by_cases e : j = k
      · subst e; exact s
      · exact no j (by omega) b
theorem C_look {hv : HV} {post : Int32 → HV → Prop} (hP : PI f) (hM : ∀ j, j < 2000 → lgv (hv 14 0) j = mkM f j) (q : ∀ r, perC f 2000 r → post r hv) : V_X8_ticksFromSlamLikeLast hv post := by
  unfold V_X8_ticksFromSlamLikeLast
  have e : (1999 : Int32) = nI 2000 - 1 := by decide
  rw [e]
  exact ⟨2001, C_lkA hP hM q 2000 2001 (by omega) (by omega) (fun j a b => absurd b (by omega))⟩
theorem C_mark {hv : HV} {g : Nat → Int32} {post : Int64 → HV → Prop} (h : CTr hv g) (q : post (mkF g) hv) : V_X4_slamMark 36 hv post := by
  obtain ⟨x, _, hE, hS⟩ := h
  unfold V_X4_slamMark
  rw [PS_4 hS (show 6 ≤ 10 by omega), PS_03 hS, PS_04 hS, hE.1 6 (by omega) (by omega) (by omega), hE.1 13 (by omega) (by omega) (by omega), hE.1 14 (by omega) (by omega) (by omega)]
  exact q
theorem CTr_14 {hv : HV} {g X : Nat → Int32} (h : CTr hv g) : CTr (up hv 14 0 X) g := by
  obtain ⟨x, h1, h2, h3⟩ := h
  exact ⟨x, h1, h2, PS_fr (up_n _ _ (by omega)) (up_n _ _ (by omega)) (up_n _ _ (by omega)) h3⟩
theorem C_pdLoop {a1 : Int32} {post : Int32 → HV → Prop} {hv0 : HV} {K : HV → Prop} (q : ∀ hv, (∀ j, j < 2000 → lgv (hv 14 0) j = mkM f j) → (∀ c i, ¬ tkey c i → hv c i = hv0 c i) → K hv) : ∀ (m n k : Nat) (hv : HV), m < n → k + m = 2000 → CTr hv (trN f k) → (∀ j, j < k → lgv (hv 14 0) j = mkM f j) → (∀ c i, ¬ tkey c i → hv c i = hv0 c i) → V_X8_period_27 a1 post K n (nI k) hv
  | 0, n + 1, k, hv, _, hk, _, hM, hf => by
    rw [V_X8_period_27]
    refine ⟨fun _ => q hv (fun j hj => hM j (by omega)) hf, fun c => absurd (show nI 2000 ≤ nI k from nI_le (by omega) (by omega)) c⟩
  | m + 1, n + 1, k, hv, hn, hk, hc, hM, hf => by
    rw [V_X8_period_27]
    refine ⟨fun c => absurd (show nI 2000 ≤ nI k from c) (nI_ge (by omega) (by omega)), fun _ => C_tT hc ?_⟩
    intro hv1 g1 _ _ r2 gf
    have f14 : hv1 14 0 = hv 14 0 := gf 14 0 (by unfold pkey; omega)
    rw [r2]
    have step : ∀ x : Int64, x = mkM f k → (vp_in (nI k) 2000 ∧ ∀ hv6 : HV, hv6 = up hv1 14 0 (lgu (hv1 14 0) (Int32.toNatClampNeg (nI k)) x) → (∀ x7 : Int32, x7 = nI k + 1 → V_X8_period_27 a1 post K n x7 hv6)) := by
      intro x ex
      refine ⟨vp_in_nI (by omega) (by omega), fun hv6 e6 x7 e7 => ?_⟩
      rw [nI_clamp (by omega), f14] at e6
      rw [e7, nI_1, e6]
      refine C_pdLoop q m n (k + 1) _ (by omega) (by omega) (CTr_14 g1) (fun j hj => ?_) (fun c i z => ?_)
      · rw [up_s, ← lgv_u]
        unfold vp_updL
        by_cases c : j = k
        · rw [if_pos c, c]; exact ex
        · rw [if_neg c]; exact hM j (by omega)
      · rw [up_n _ _ (fun y => z (Or.inr y)), gf c i (tk_p z)]; exact hf c i z
    by_cases c : slamQ (trN f k)
    · rw [if_pos c]
      refine ⟨fun z => absurd z (by decide), fun _ => C_mark g1 (step _ ?_)⟩
      exact (mkM_yes (show slN f k from c)).symm
    · rw [if_neg c]
      exact ⟨fun _ => step (-1) (mkM_no (show ¬ slN f k from c)).symm, fun z => absurd rfl z⟩
-- the reference
/-- its rows of slams: n of them, those of the ticks w 0, w 1 .. -/
def SLr (f A : Nat → Int32) (n : Nat) (w : Nat → Nat) : Prop := ∀ k, k < n → A (4 * k) = nI (w k + 1) ∧ A (4 * k + 1) = trN f (w k + 1) 6 ∧ A (4 * k + 2) = trN f (w k + 1) 13 ∧ A (4 * k + 3) = trN f (w k + 1) 14
theorem R_54 {a1 : Int32} {n0 t : Nat} {w : Nat → Nat} {hv : HV} {post : Int32 → HV → Prop} {K : HV → Prop} (hn0 : n0 ≤ 2000) (ht : t < 2000) (hA : SLr f (hv 21 0) n0 w) (hw : ∀ k, k < n0 → w k < t) (g6 : hv 15 0 303 = trN f (t + 1) 6) (g13 : hv 15 0 310 = trN f (t + 1) 13) (g14 : hv 15 0 311 = trN f (t + 1) 14)
    (yes : ∀ k, k < n0 → alk f (w k) t → post (nI (t - w k)) hv) (no : (∀ k, k < n0 → ¬ alk f (w k) t) → K hv) : ∀ (m n k : Nat), m < n → k + m = n0 → (∀ j, j < k → ¬ alk f (w j) t) → V_X9_period_54 a1 (nI n0) (nI (t + 1)) post K n (nI (4 * k)) hv
  | 0, n + 1, k, _, hk, hno => by
    rw [V_X9_period_54, show (4 : Int32) * nI n0 = nI (4 * n0) from pk_mul 4 n0]
    refine ⟨fun _ => no (fun j hj => hno j (by omega)), fun c => absurd (nI_le (by omega) (by omega)) c⟩
  | m + 1, n + 1, k, hn, hk, hno => by
    obtain ⟨a0, a1', a2, a3⟩ := hA k (by omega)
    rw [V_X9_period_54, show (4 : Int32) * nI n0 = nI (4 * n0) from pk_mul 4 n0]
    have e1 : nI (4 * k) + 1 = nI (4 * k + 1) := nI_1 _
    have e2 : nI (4 * k) + 2 = nI (4 * k + 2) := nI_add _ 2
    have e3 : nI (4 * k) + 3 = nI (4 * k + 3) := nI_add _ 3
    have e4 : nI (4 * k) + 4 = nI (4 * (k + 1)) := nI_add _ 4
    rw [e1, e2, e3, e4, nI_clamp (show 4 * k + 1 < 2 ^ 31 by omega), nI_clamp (show 4 * k + 2 < 2 ^ 31 by omega), nI_clamp (show 4 * k + 3 < 2 ^ 31 by omega), nI_clamp (show 4 * k < 2 ^ 31 by omega), a0, a1', a2, a3, g6, g13, g14]
    have next : ¬ alk f (w k) t → ∀ x : Int32, x = nI (4 * (k + 1)) → V_X9_period_54 a1 (nI n0) (nI (t + 1)) post K n x hv := fun na x e => by
      rw [e]
      refine R_54 hn0 ht hA hw g6 g13 g14 yes no m n (k + 1) (by omega) (by omega) (fun j hj => ?_)
      by_cases c : j = k
      · rw [c]; exact na
      · exact hno j (by omega)
    refine ⟨fun c => absurd c (nI_ge (by omega) (by omega)), fun _ => ⟨vp_in_nI (by omega) (by omega), fun c1 => ⟨vp_in_nI (by omega) (by omega), fun c2 => ⟨vp_in_nI (by omega) (by omega), fun c3 => ⟨vp_in_nI (by omega) (by omega), ?_⟩, fun c3 => next (fun z => c3 z.2.2)⟩, fun c2 => next (fun z => c2 z.2.1)⟩, fun c1 => next (fun z => c1 z.1)⟩⟩
    have hlt := hw k (by omega)
    have es : nI (t + 1) - nI (w k + 1) = nI (t - w k) := by
      rw [nI_sub (by omega) (by omega)]
      congr 1; omega
    rw [es]
    exact yes k (by omega) ⟨c1, c2, c3⟩
theorem R_pdLoop {a1 : Int32} {v : Nat → Int32} {hv0 : HV} {post : Int32 → HV → Prop} (hP : PI f) (h6 : ¬ hv0 9 0 6 < 0) (q : ∀ hv' g r, perR f 2000 r → hv' 15 0 = putW v 297 g → mT (hv0 9 0) (hv' 9 0) → rfT hv0 hv' → post r hv') : ∀ (m n t n0 : Nat) (w : Nat → Nat) (hv : HV), m < n → t + m = 2000 → n0 ≤ t → hv 15 0 = putW v 297 (trN f t) → mT (hv0 9 0) (hv 9 0) → rfT hv0 hv → SLr f (hv 21 0) n0 w → (∀ k, k < n0 → w k < t ∧ slN f (w k)) → (∀ j, j < t → slN f j → ∃ k, k < n0 ∧ w k = j) → (∀ i j, i < j → j < t → slN f i → slN f j → ¬ alk f i j) →
    V_X9_period_22 a1 post n (nI n0) (nI (t + 1)) hv
  | 0, n + 1, t, n0, w, hv, _, ht, _, h15, hm, hf, _, _, _, hno => by
    rw [V_X9_period_22]
    refine ⟨fun _ => q hv _ _ (Or.inl ⟨rfl, fun i j a b c d => hno i j a (by omega) c d⟩) h15 hm hf, fun c => absurd (show nI 2000 < nI (t + 1) from nI_lt (by omega) (by omega)) c⟩
  | m + 1, n + 1, t, n0, w, hv, hn, ht, hn0, h15, hm, hf, hA, hw, hall, hno => by
    rw [V_X9_period_22]
    refine ⟨fun c => absurd (show nI 2000 < nI (t + 1) from c) (nI_nlt (by omega) (by omega)), fun _ hv5 e5 => ?_⟩
    have m5 : mT (hv0 9 0) (hv5 9 0) := by
      rw [e5, up_s]
      exact mT_t hm (fun i h7 _ _ => upd_n _ _ h7)
    have f5 : ∀ c i, ¬ (c = 9 ∧ i = 0) → hv5 c i = hv c i := fun c i z => by rw [e5]; exact up_n _ _ z
    refine R_tT (v := v) (g := trN f t) (by rw [f5 15 0 (by omega)]; exact h15) (by rw [m5 6 (by omega) (by omega) (by omega)]; exact h6) (PI_trN hP t) ?_
    intro hv6 k15 k9 kf
    have m6 : mT (hv0 9 0) (hv6 9 0) := mT_t m5 (by rw [k9]; exact trialM_o _ _)
    have f6 : rfT hv0 hv6 := rfT_t hf (fun c i z => by rw [kf c i (fun y => z (by omega)), f5 c i (fun y => z (by omega))])
    have e7 : hv6 9 0 7 = if slamQ (trN f t) then 1 else 0 := by rw [k9, trialM_7, e5, up_s, upd_s]
    have e21 : hv6 21 0 = hv 21 0 := by rw [kf 21 0 (by omega), f5 21 0 (by omega)]
    rw [e7]
    by_cases c : slamQ (trN f t)
    · have st : slN f t := c
      rw [if_pos c]
      refine ⟨fun z => absurd z (by decide), fun _ => ⟨n0 + 1, ?_⟩⟩
      have G : ∀ j, j < 73 → hv6 15 0 (297 + j) = trN f (t + 1) j := fun j hj => by rw [k15]; exact pw_r _ _ _ _ hj
      refine R_54 (w := w) (by omega) (by omega) (by rw [e21]; exact hA) (fun k hk => (hw k hk).1) (G 6 (by omega)) (G 13 (by omega)) (G 14 (by omega)) (fun k hk ha => ?_) (fun nk => ?_) n0 (n0 + 1) 0 (by omega) (by omega) (fun j hj => absurd hj (by omega))
      · exact q hv6 _ _ (Or.inr ⟨w k, t, (hw k hk).1, by omega, (hw k hk).2, st, ha, hno, rfl⟩) k15 m6 f6
      · have e1 : nI (4 * n0) + 1 = nI (4 * n0 + 1) := nI_1 _
        have e2 : nI (4 * n0) + 2 = nI (4 * n0 + 2) := nI_add _ 2
        have e3 : nI (4 * n0) + 3 = nI (4 * n0 + 3) := nI_add _ 3
        rw [show (4 : Int32) * nI n0 = nI (4 * n0) from pk_mul 4 n0, e1, e2, e3, nI_clamp (show 4 * n0 + 1 < 2 ^ 31 by omega), nI_clamp (show 4 * n0 + 2 < 2 ^ 31 by omega), nI_clamp (show 4 * n0 + 3 < 2 ^ 31 by omega), nI_clamp (show 4 * n0 < 2 ^ 31 by omega)]
        refine ⟨vp_in_nI (by omega) (by omega), fun hv21 g21 => ⟨vp_in_nI (by omega) (by omega), fun hv22 g22 => ⟨vp_in_nI (by omega) (by omega), fun hv23 g23 => ⟨vp_in_nI (by omega) (by omega), fun hv24 g24 x25 e25 x26 e26 => ?_⟩⟩⟩⟩
        have p21 : hv21 15 0 = hv6 15 0 := by rw [g21]; exact up_n _ _ (by omega)
        have p22 : hv22 15 0 = hv6 15 0 := by rw [g22, up_n _ _ (by omega), p21]
        have p23 : hv23 15 0 = hv6 15 0 := by rw [g23, up_n _ _ (by omega), p22]
        have p24 : hv24 15 0 = hv6 15 0 := by rw [g24, up_n _ _ (by omega), p23]
        have ff : ∀ c i, ¬ (c = 21 ∧ i = 0) → hv24 c i = hv6 c i := fun c i z => by rw [g24, up_n _ _ z, g23, up_n _ _ z, g22, up_n _ _ z, g21, up_n _ _ z]
        have A24 : hv24 21 0 = upd (upd (upd (upd (hv 21 0) (4 * n0) (nI (t + 1))) (4 * n0 + 1) (trN f (t + 1) 6)) (4 * n0 + 2) (trN f (t + 1) 13)) (4 * n0 + 3) (trN f (t + 1) 14) := by
          rw [g24, up_s, p23, G 14 (by omega), g23, up_s, p22, G 13 (by omega), g22, up_s, p21, G 6 (by omega), g21, up_s, e21]
        rw [e25, e26, nI_1, nI_1]
        refine R_pdLoop hP h6 q m n (t + 1) (n0 + 1) (fun k => if k = n0 then t else w k) hv24 (by omega) (by omega) (by omega) (by rw [p24]; exact k15) (by rw [ff 9 0 (by omega)]; exact m6) (rfT_t f6 (fun c i z => ff c i (fun y => z (by omega)))) (fun k hk => ?_) (fun k hk => ?_) (fun j hj sj => ?_) (fun i j hij hj si sj => ?_)
        · rw [A24]
          dsimp only
          by_cases e : k = n0
          · subst e
            rw [if_pos rfl]
            refine ⟨?_, ?_, ?_, ?_⟩
            · rw [upd_n _ _ (by omega), upd_n _ _ (by omega), upd_n _ _ (by omega), upd_s]
            · rw [upd_n _ _ (by omega), upd_n _ _ (by omega), upd_s]
            · rw [upd_n _ _ (by omega), upd_s]
            · rw [upd_s]
          · rw [if_neg e]
            have u : ∀ j, j < 4 → upd (upd (upd (upd (hv 21 0) (4 * n0) (nI (t + 1))) (4 * n0 + 1) (trN f (t + 1) 6)) (4 * n0 + 2) (trN f (t + 1) 13)) (4 * n0 + 3) (trN f (t + 1) 14) (4 * k + j) = hv 21 0 (4 * k + j) := fun j hj => by
              rw [upd_n _ _ (by omega), upd_n _ _ (by omega), upd_n _ _ (by omega), upd_n _ _ (by omega)]
            rw [u 1 (by omega), u 2 (by omega), u 3 (by omega), show 4 * k = 4 * k + 0 by omega, u 0 (by omega)]
            exact hA k (by omega)
        · by_cases e : k = n0
          · rw [if_pos e]; exact ⟨by omega, st⟩
          · rw [if_neg e]
            obtain ⟨z1, z2⟩ := hw k (by omega)
            exact ⟨by omega, z2⟩
        · by_cases e : j = t
          · exact ⟨n0, by omega, by rw [if_pos rfl]; exact e.symm⟩
          · obtain ⟨k, z1, z2⟩ := hall j (by omega) sj
            exact ⟨k, by omega, by rw [if_neg (by omega)]; exact z2⟩
        · by_cases e : j = t
          · subst e
            obtain ⟨k, z1, z2⟩ := hall i hij si
            rw [← z2]; exact nk k z1
          · exact hno i j hij (by omega) si sj
    · have st : ¬ slN f t := c
      rw [if_neg c]
      refine ⟨fun _ x e => ?_, fun z => absurd rfl z⟩
      rw [e, nI_1]
      refine R_pdLoop hP h6 q m n (t + 1) n0 w hv6 (by omega) (by omega) (by omega) k15 m6 f6 (by rw [e21]; exact hA) (fun k hk => ?_) (fun j hj sj => ?_) (fun i j hij hj si sj => ?_)
      · obtain ⟨z1, z2⟩ := hw k hk
        exact ⟨by omega, z2⟩
      · by_cases e : j = t
        · subst e; exact absurd sj st
        · exact hall j (by omega) sj
      · by_cases e : j = t
        · subst e; exact absurd sj st
        · exact hno i j hij (by omega) si sj
end MK
theorem J_period (a : Int32) : JJ (V_X8_period a) (V_X9_period a) := by
  intro B hv hB hRel
  obtain ⟨v, K, h1, h2, h3, h4⟩ := hRel
  have hn := h3.1.1.1
  unfold V_X8_period
  rcases pn_cases h3.1 a with ⟨hp, ea⟩ | ⟨hno, e4⟩
  · have hP := (h3.1.2.1 _ hp).1
    refine C_yes h1 h3 hp ea (C_take h3 h1 hp (fun hv1 k1 k2 => ⟨2001, ?_⟩))
    refine C_pdLoop (f := sl v (pn v a)) (hv0 := hv1) (fun hv2 hM hf => C_look hP hM (fun r hr => ?_)) 2000 2001 0 hv1 (by omega) (by omega) (CTr_of hP k1) (fun j hj => absurd hj (by omega)) (fun _ _ _ => rfl)
    have f2 : ∀ c i, ¬ tkey c i → hv2 c i = hv c i := fun c i z => (hf c i z).trans (k2 c i z)
    have h22 := RX_fr (cfr_tk f2) h2
    unfold V_X9_period
    refine R_yes h22 h3 hp ea (R_begin (v := v) ea (by omega) (by rw [h22.1]; exact putW_self v) ?_)
    intro hv3 k15 k9 kf
    rw [if_pos rfl] at k15
    have m3 : mT (hv2 9 0) (hv3 9 0) := by rw [k9]; exact up9_m _
    have f3 : rfT hv2 hv3 := fun c i z => kf c i (fun y => z (by omega))
    refine ⟨2001, R_pdLoop (f := sl v (pn v a)) (hv0 := hv2) hP (RX_h6 h22 (by omega)) (fun hv4 g r2 hr2 q1 q2 q3 => ?_) 2000 2001 0 0 (fun _ => 0) hv3 (by omega) (by omega) (by omega) k15 m3 f3 (fun k hk => absurd hk (by omega)) (fun k hk => absurd hk (by omega)) (fun j hj => absurd hj (by omega)) (fun i j _ hj => absurd hj (by omega))⟩
    have c4 : CR hv4 0 v K := CR_fr h3 (rfT_r q3) (CR_tr h3 h1 f2)
    exact ⟨per_eq hr hr2, putW v 297 g, K, CR_cg h3 c4 putW_e, RX_T h22 q1 q2 q3, IV_cg h3 putW_e, by omega⟩
  · refine C_no h1 h3 hno ?_
    unfold V_X9_period
    exact R_no h2 h3 hno ⟨rfl, v, K, h1, h2, h3, by omega⟩
