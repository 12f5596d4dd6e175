/-! deliveredIn, drawnIn, ticksToSlam, bestLength, bestSetting. -/
theorem RX_h6 {hv : HV} {v : Nat → Int32} {K : KS} (h : RX hv v K) (hL : K.1.1 < 2 ^ 31) : ¬ hv 9 0 6 < 0 := by
  rw [h.2.1.1]; exact nI_pos hL
theorem C_dlLoop {a1 : Int32} {T : Nat} {f : Nat → Int32} {post : Int32 → HV → Prop} (ha : a1 = nI T) (hT : T ≤ 500) : ∀ (m n i : Nat) (hv : HV), m < n → i + m = T → CTr hv (trN f i) → (∀ hv', (∀ c i, ¬ tkey c i → hv' c i = hv c i) → post (dlN f T) hv') → V_X8_trialDelivery_4 a1 post n (dlN f i) (nI i) hv
  | 0, n + 1, i, hv, _, hi, _, q => by
    rw [V_X8_trialDelivery_4, ha]
    refine ⟨fun _ => ?_, fun c => absurd (nI_le (by omega) (by omega)) c⟩
    have e : i = T := by omega
    rw [e]; exact q hv (fun _ _ _ => rfl)
  | m + 1, n + 1, i, hv, hn, hi, hc, q => by
    rw [V_X8_trialDelivery_4, ha]
    refine ⟨fun c => by rw [nI_leI (by omega) (by omega)] at c; omega, fun _ => C_tT hc ?_⟩
    intro hv' g1 _ r1 _ gf x3 e3 x4 e4
    rw [e3, e4, r1, nI_1, ← ha]
    exact C_dlLoop ha hT m n (i + 1) hv' (by omega) (by omega) g1 (fun hv2 k => q hv2 (fun c i z => (k c i z).trans (gf c i (tk_p z))))
theorem C_dl {T : Nat} {f : Nat → Int32} {hv : HV} {post : Int32 → HV → Prop} (hT : T ≤ 500) (hc : CTr hv f) (q : ∀ hv', (∀ c i, ¬ tkey c i → hv' c i = hv c i) → post (dlN f T) hv') : V_X8_trialDelivery (nI T) hv post := by
  unfold V_X8_trialDelivery
  exact ⟨T + 1, C_dlLoop rfl hT T (T + 1) 0 hv (by omega) (by omega) hc q⟩
theorem up9_m (m : Nat → Int32) : mT m (upd (upd m 8 0) 9 0) := fun i _ h8 h9 => by rw [upd_n _ _ h9, upd_n _ _ h8]
theorem C_trOut {x M : Int32} {hv : HV} {p : Nat} {a : Int32} {v : Nat → Int32} {post : Int32 → HV → Prop} {Q : HV → Prop} (hp : pn v a < cntN v) (hn : cntN v ≤ 4) (no : ¬ rfTr a x M v = 0 → post (rfTr a x M v) hv) (yes : rfTr a x M v = 0 → Q hv) :
    V_X8_outside x 1 M hv (fun r2 hv2 => ((r2 = 0 → Q hv2) ∧ (¬ (r2 = 0) → post (-1002) hv2))) := by
  rw [C_outside]
  unfold rfTr at no yes
  rw [if_neg (show ¬ pn v a = 4 by omega)] at no yes
  by_cases c1 : x < 1
  · rw [if_pos c1] at no ⊢
    exact ⟨fun z => absurd z (by decide), fun _ => no (by decide)⟩
  rw [if_neg c1] at no yes ⊢
  by_cases c2 : M < x
  · rw [if_pos c2] at no
    rw [if_neg (fun z => i_nlt.mpr z c2)]
    exact ⟨fun z => absurd z (by decide), fun _ => no (by decide)⟩
  rw [if_neg c2] at yes
  rw [if_pos (nl_le c2)]
  exact ⟨fun _ => yes rfl, fun z => absurd rfl z⟩
theorem rfTr_no {a x M : Int32} {v : Nat → Int32} (h : pn v a = 4) : rfTr a x M v = -1001 := by unfold rfTr; rw [if_pos h]
theorem C_drLoop {a1 a2 : Int32} {T : Nat} {f : Nat → Int32} {post : Int32 → HV → Prop} (ha : a2 = nI T) (hT : T ≤ 500) : ∀ (m n i : Nat) (hv : HV), m < n → i + m = T → CTr hv (trN f i) → (∀ hv', (∀ c i, ¬ tkey c i → hv' c i = hv c i) → post (drN f T) hv') → V_X8_drawnIn_46 a1 a2 post n (drN f i) (nI i) hv
  | 0, n + 1, i, hv, _, hi, _, q => by
    rw [V_X8_drawnIn_46, ha]
    refine ⟨fun _ => ?_, fun c => absurd (nI_le (by omega) (by omega)) c⟩
    have e : i = T := by omega
    rw [e]; exact q hv (fun _ _ _ => rfl)
  | m + 1, n + 1, i, hv, hn, hi, hc, q => by
    rw [V_X8_drawnIn_46, ha]
    refine ⟨fun c => by rw [nI_leI (by omega) (by omega)] at c; omega, fun _ => C_tT hc ?_⟩
    intro hv' g1 r0 _ _ gf x3 e3 x4 e4
    rw [e3, e4, r0, nI_1, ← ha]
    exact C_drLoop ha hT m n (i + 1) hv' (by omega) (by omega) g1 (fun hv2 k => q hv2 (fun c i z => (k c i z).trans (gf c i (tk_p z))))
/-- the first slam from tick k + 1 on -/
def tsF (f : Nat → Int32) : Nat → Nat → Int32
  | 0, _ => -1005
  | m + 1, k => if slamQ (trN f k) then nI (k + 1) else tsF f m (k + 1)
theorem C_tsLoop {a1 : Int32} {f : Nat → Int32} {post : Int32 → HV → Prop} : ∀ (m n k : Nat) (hv : HV), m < n → k + m = 2000 → CTr hv (trN f k) → (∀ hv', (∀ c i, ¬ tkey c i → hv' c i = hv c i) → post (tsF f m k) hv') → V_X8_ticksToSlam_27 a1 post n (nI (k + 1)) hv
  | 0, n + 1, k, hv, _, hi, _, q => by
    rw [V_X8_ticksToSlam_27]
    refine ⟨fun _ => q hv (fun _ _ _ => rfl), fun c => absurd (show nI 2000 < nI (k + 1) from nI_lt (by omega) (by omega)) c⟩
  | m + 1, n + 1, k, hv, hn, hi, hc, q => by
    rw [V_X8_ticksToSlam_27]
    refine ⟨fun c => absurd (show nI 2000 < nI (k + 1) from c) (nI_nlt (by omega) (by omega)), fun _ => C_tT hc ?_⟩
    intro hv' g1 _ _ r2 gf
    rw [r2]
    unfold tsF at q
    by_cases c : slamQ (trN f k)
    · rw [if_pos c] at q ⊢
      exact ⟨fun z => absurd z (by decide), fun _ => q hv' (fun c i z => gf c i (tk_p z))⟩
    · rw [if_neg c] at q ⊢
      refine ⟨fun _ x e => ?_, fun z => absurd rfl z⟩
      rw [e, nI_1]
      exact C_tsLoop m n (k + 1) hv' (by omega) (by omega) g1 (fun hv2 g => q hv2 (fun c i z => (g c i z).trans (gf c i (tk_p z))))
def rfP (a : Int32) (v : Nat → Int32) : Int32 := if pn v a = 4 then -1001 else 0
/-- the best of the numbers L, L + 10 .. -/
def bsF (D : Nat → Int32) : Nat → Nat → Int32 → Int32 → Int32
  | 0, _, b, _ => b
  | m + 1, L, b, mo => if D L ≤ mo then bsF D m (L + 10) b mo else bsF D m (L + 10) (nI L) (D L)
theorem bsF_eq {D : Nat → Int32} (m L : Nat) (b : Int32) (h : 0 ≤ (D L).toInt) : bsF D (m + 1) L b (-1) = bsF D (m + 1) L b (-1005) := by
  have m1 : (-1 : Int32).toInt = -1 := by decide
  have m2 : (-1005 : Int32).toInt = -1005 := by decide
  unfold bsF
  rw [if_neg (by rw [i_le, m1]; omega), if_neg (by rw [i_le, m2]; omega)]
theorem PI_1 {f : Nat → Int32} {x : Int32} (h : 10 ≤ x.toInt ∧ x.toInt ≤ 400) (hf : PI f) : PI (upd f 1 x) := by
  unfold PI at hf ⊢
  simp (decide := true) only [upd_r, if_true, if_false]
  obtain ⟨a0, a1, a2⟩ := hf
  exact ⟨a0, h, a2⟩
/-- a pump at rest with a number put anew -/
def rsF (f : Nat → Int32) (what L : Nat) : Nat → Int32 := upd (openF f) what (nI L)
