/-! deliveredIn, drawnIn, ticksToSlam, bestLength, bestSetting. -/
theorem RX_h6 {hv : HV} {v : Nat → Int32} {K : KS} (h : RX hv v K) (hL : K.1.1 < 2 ^ 31) : ¬ hv 9 0 6 < 0 := by
  rw [h.2.1.1]; exact nI_pos hL
theorem C_dlLoop {a1 : Int32} {T : Nat} {f : Nat → Int32} {post : Int32 → HV → Prop} (ha : a1 = nI T) (hT : T ≤ 500) : ∀ (m n i : Nat) (hv : HV), m < n → i + m = T → CTr hv (trN f i) → (∀ hv', (∀ c i, ¬ tkey c i → hv' c i = hv c i) → post (dlN f T) hv') → V_X8_trialDelivery_4 a1 post n (dlN f i) (nI i) hv
  | 0, n + 1, i, hv, _, hi, _, q => by
    rw [V_X8_trialDelivery_4, ha]
    refine ⟨fun _ => ?_, fun c => absurd (nI_le (by omega) (by omega)) c⟩
    have e : i = T := by omega
    rw [e]; exact q hv (fun _ _ _ => rfl)
  | m + 1, n + 1, i, hv, hn, hi, hc, q => by
    rw [V_X8_trialDelivery_4, ha]
    refine ⟨fun c => by rw [nI_leI (by omega) (by omega)] at c; omega, fun _ => C_tT hc ?_⟩
    intro hv' g1 _ r1 _ gf x3 e3 x4 e4
    rw [e3, e4, r1, nI_1, ← ha]
    exact C_dlLoop ha hT m n (i + 1) hv' (by omega) (by omega) g1 (fun hv2 k => q hv2 (fun c i z => (k c i z).trans (gf c i (tk_p z))))
theorem C_dl {T : Nat} {f : Nat → Int32} {hv : HV} {post : Int32 → HV → Prop} (hT : T ≤ 500) (hc : CTr hv f) (q : ∀ hv', (∀ c i, ¬ tkey c i → hv' c i = hv c i) → post (dlN f T) hv') : V_X8_trialDelivery (nI T) hv post := by
  unfold V_X8_trialDelivery
  exact ⟨T + 1, C_dlLoop rfl hT T (T + 1) 0 hv (by omega) (by omega) hc q⟩
theorem R_goLoop {a1 : Int32} {T : Nat} {v f : Nat → Int32} {hv0 : HV} {post : HV → Prop} (ha : a1 = nI T) (hT : T ≤ 500) (hP : PI f) (h6 : ¬ hv0 9 0 6 < 0) : ∀ (m n i : Nat) (hv : HV), m < n → i + m = T → hv 15 0 = putW v 297 (trN f i) → mT (hv0 9 0) (hv 9 0) → rfT hv0 hv → hv 9 0 9 = dlN f i → hv 9 0 8 = drN f i →
    (∀ hv', hv' 15 0 = putW v 297 (trN f T) → mT (hv0 9 0) (hv' 9 0) → rfT hv0 hv' → hv' 9 0 9 = dlN f T → hv' 9 0 8 = drN f T → post hv') → V_X9_goOn_2 a1 post n (nI i) hv
  | 0, n + 1, i, hv, _, hi, h15, hm, hf, h9, h8, q => by
    rw [V_X9_goOn_2, ha]
    refine ⟨fun _ => ?_, fun c => absurd (nI_le (by omega) (by omega)) c⟩
    have e : i = T := by omega
    subst e
    exact q hv h15 hm hf h9 h8
  | m + 1, n + 1, i, hv, hn, hi, h15, hm, hf, h9, h8, q => by
    rw [V_X9_goOn_2, ha]
    refine ⟨fun c => by rw [nI_leI (by omega) (by omega)] at c; omega, fun _ => R_tT h15 (by rw [hm 6 (by omega) (by omega) (by omega)]; exact h6) (PI_trN hP i) ?_⟩
    intro hv' k15 k9 kf x3 e3
    rw [e3, nI_1, ← ha]
    refine R_goLoop ha hT hP h6 m n (i + 1) hv' (by omega) (by omega) k15 (mT_t hm (by rw [k9]; exact trialM_o _ _)) (rfT_t hf (fun c i z => kf c i (fun y => z (by omega)))) ?_ ?_ q
    · rw [k9, trialM_9, h9]; rfl
    · rw [k9, trialM_8, h8]; rfl
theorem R_go {T : Nat} {v f : Nat → Int32} {hv : HV} {post : HV → Prop} (hT : T ≤ 500) (hP : PI f) (h6 : ¬ hv 9 0 6 < 0) (h15 : hv 15 0 = putW v 297 f) (h9 : hv 9 0 9 = 0) (h8 : hv 9 0 8 = 0)
    (q : ∀ hv', hv' 15 0 = putW v 297 (trN f T) → mT (hv 9 0) (hv' 9 0) → rfT hv hv' → hv' 9 0 9 = dlN f T → hv' 9 0 8 = drN f T → post hv') : V_X9_goOn (nI T) hv post := by
  unfold V_X9_goOn
  exact ⟨T + 1, R_goLoop rfl hT hP h6 T (T + 1) 0 hv (by omega) (by omega) h15 (fun _ _ _ _ => rfl) (rfT_i _) h9 h8 q⟩
theorem up9_m (m : Nat → Int32) : mT m (upd (upd m 8 0) 9 0) := fun i _ h8 h9 => by rw [upd_n _ _ h9, upd_n _ _ h8]
/-- the reference's trial from a pump's own state -/
theorem R_run1 {a x : Int32} {p T : Nat} {v : Nat → Int32} {K : KS} {hv : HV} {post : HV → Prop} (hI : IV v K) (h : RX hv v K) (hL : K.1.1 < 2 ^ 31) (hp : p < cntN v) (ea : a = nI p) (ex : x = nI T) (hT : T ≤ 500)
    (q : ∀ hv' g, hv' 15 0 = putW v 297 g → mT (hv 9 0) (hv' 9 0) → rfT hv hv' → hv' 9 0 9 = dlN (sl v p) T → hv' 9 0 8 = drN (sl v p) T → post hv') : V_X9_beginTrial a 0 hv (fun hv3 => (V_X9_goOn x hv3 (fun hv4 => post hv4))) := by
  have hn := hI.1.1.1
  refine R_begin (v := v) ea (by omega) (by rw [h.1]; exact putW_self v) ?_
  intro hv1 k15 k9 kf
  rw [if_pos rfl] at k15
  rw [ex]
  refine R_go hT (hI.1.2.1 p hp).1 (by rw [k9, upd_n _ _ (by omega), upd_n _ _ (by omega)]; exact RX_h6 h hL) k15 (by rw [k9, upd_s]) (by rw [k9, upd_n _ _ (by omega), upd_s]) ?_
  intro hv2 g15 gm gf g9 g8
  exact q hv2 _ g15 (mT_t (by rw [k9]; exact up9_m _) gm) (rfT_t (fun c i z => kf c i (fun y => z (by omega))) gf) g9 g8
theorem C_trOut {x M : Int32} {hv : HV} {p : Nat} {a : Int32} {v : Nat → Int32} {post : Int32 → HV → Prop} {Q : HV → Prop} (hp : pn v a < cntN v) (hn : cntN v ≤ 4) (no : ¬ rfTr a x M v = 0 → post (rfTr a x M v) hv) (yes : rfTr a x M v = 0 → Q hv) :
    V_X8_outside x 1 M hv (fun r2 hv2 => ((r2 = 0 → Q hv2) ∧ (¬ (r2 = 0) → post (-1002) hv2))) := by
  rw [C_outside]
  unfold rfTr at no yes
  rw [if_neg (show ¬ pn v a = 4 by omega)] at no yes
  by_cases c1 : x < 1
  · rw [if_pos c1] at no ⊢
    exact ⟨fun z => absurd z (by decide), fun _ => no (by decide)⟩
  rw [if_neg c1] at no yes ⊢
  by_cases c2 : M < x
  · rw [if_pos c2] at no
    rw [if_neg (fun z => i_nlt.mpr z c2)]
    exact ⟨fun z => absurd z (by decide), fun _ => no (by decide)⟩
  rw [if_neg c2] at yes
  rw [if_pos (nl_le c2)]
  exact ⟨fun _ => yes rfl, fun z => absurd rfl z⟩
theorem rfTr_no {a x M : Int32} {v : Nat → Int32} (h : pn v a = 4) : rfTr a x M v = -1001 := by unfold rfTr; rw [if_pos h]
theorem J_deliveredIn (a x : Int32) : JJ (V_X8_deliveredIn a x) (V_X9_deliveredIn a x) := by
  refine J_try (rfTr a x 500) (fun v => dlN (sl v (pn v a)) x.toNatClampNeg) (fun hv v K hI h post no yes => ?_) (fun hv v K hI h hL post no yes => ?_)
  · unfold V_X8_deliveredIn
    rcases pn_cases hI.1 a with ⟨hp, ea⟩ | ⟨hno, e4⟩
    · refine C_yes h hI hp ea (C_trOut (p := 0) hp hI.1.1.1 no (fun hr => ?_))
      obtain ⟨_, _, b3, b4⟩ := rfTr_b (N := 500) rfl (by omega) hI.1 hr
      refine C_take hI h hp (fun hv1 k1 k2 => ?_)
      have key := C_dl (T := x.toNatClampNeg) (post := fun r5 hv5 => post r5 hv5) (by omega) (CTr_of (hI.1.2.1 _ hp).1 k1) (fun hv2 g => yes hr hv2 (fun c i z => (g c i z).trans (k2 c i z)))
      rw [← b3] at key
      exact key
    · rw [rfTr_no e4] at no
      exact C_no h hI hno (no (by decide))
  · unfold V_X9_deliveredIn
    refine R_trRef hI h ⟨fun hr => ?_, no⟩
    obtain ⟨b1, b2, b3, b4⟩ := rfTr_b (N := 500) rfl (by omega) hI.1 hr
    refine R_run1 (p := pn v a) (T := x.toNatClampNeg) (post := fun hv4 => post (hv4 9 0 9) hv4) hI h hL b1 b2 b3 (by omega) ?_
    intro hv' g g15 gm gf g9 _
    rw [g9]; exact yes hr hv' g g15 gm gf
theorem C_drLoop {a1 a2 : Int32} {T : Nat} {f : Nat → Int32} {post : Int32 → HV → Prop} (ha : a2 = nI T) (hT : T ≤ 500) : ∀ (m n i : Nat) (hv : HV), m < n → i + m = T → CTr hv (trN f i) → (∀ hv', (∀ c i, ¬ tkey c i → hv' c i = hv c i) → post (drN f T) hv') → V_X8_drawnIn_46 a1 a2 post n (drN f i) (nI i) hv
  | 0, n + 1, i, hv, _, hi, _, q => by
    rw [V_X8_drawnIn_46, ha]
    refine ⟨fun _ => ?_, fun c => absurd (nI_le (by omega) (by omega)) c⟩
    have e : i = T := by omega
    rw [e]; exact q hv (fun _ _ _ => rfl)
  | m + 1, n + 1, i, hv, hn, hi, hc, q => by
    rw [V_X8_drawnIn_46, ha]
    refine ⟨fun c => by rw [nI_leI (by omega) (by omega)] at c; omega, fun _ => C_tT hc ?_⟩
    intro hv' g1 r0 _ _ gf x3 e3 x4 e4
    rw [e3, e4, r0, nI_1, ← ha]
    exact C_drLoop ha hT m n (i + 1) hv' (by omega) (by omega) g1 (fun hv2 k => q hv2 (fun c i z => (k c i z).trans (gf c i (tk_p z))))
theorem J_drawnIn (a x : Int32) : JJ (V_X8_drawnIn a x) (V_X9_drawnIn a x) := by
  refine J_try (rfTr a x 500) (fun v => drN (sl v (pn v a)) x.toNatClampNeg) (fun hv v K hI h post no yes => ?_) (fun hv v K hI h hL post no yes => ?_)
  · unfold V_X8_drawnIn
    rcases pn_cases hI.1 a with ⟨hp, ea⟩ | ⟨hno, e4⟩
    · refine C_yes h hI hp ea (C_trOut (p := 0) hp hI.1.1.1 no (fun hr => ?_))
      obtain ⟨_, _, b3, b4⟩ := rfTr_b (N := 500) rfl (by omega) hI.1 hr
      refine C_take hI h hp (fun hv1 k1 k2 => ⟨x.toNatClampNeg + 1, ?_⟩)
      exact C_drLoop (f := sl v (pn v a)) b3 (by omega) x.toNatClampNeg _ 0 hv1 (by omega) (by omega) (CTr_of (hI.1.2.1 _ hp).1 k1) (fun hv2 g => yes hr hv2 (fun c i z => (g c i z).trans (k2 c i z)))
    · rw [rfTr_no e4] at no
      exact C_no h hI hno (no (by decide))
  · unfold V_X9_drawnIn
    refine R_trRef hI h ⟨fun hr => ?_, no⟩
    obtain ⟨b1, b2, b3, b4⟩ := rfTr_b (N := 500) rfl (by omega) hI.1 hr
    refine R_run1 (p := pn v a) (T := x.toNatClampNeg) (post := fun hv4 => post (hv4 9 0 8) hv4) hI h hL b1 b2 b3 (by omega) ?_
    intro hv' g g15 gm gf _ g8
    rw [g8]; exact yes hr hv' g g15 gm gf
/-- the first slam from tick k + 1 on -/
def tsF (f : Nat → Int32) : Nat → Nat → Int32
  | 0, _ => -1005
  | m + 1, k => if slamQ (trN f k) then nI (k + 1) else tsF f m (k + 1)
theorem C_tsLoop {a1 : Int32} {f : Nat → Int32} {post : Int32 → HV → Prop} : ∀ (m n k : Nat) (hv : HV), m < n → k + m = 2000 → CTr hv (trN f k) → (∀ hv', (∀ c i, ¬ tkey c i → hv' c i = hv c i) → post (tsF f m k) hv') → V_X8_ticksToSlam_27 a1 post n (nI (k + 1)) hv
  | 0, n + 1, k, hv, _, hi, _, q => by
    rw [V_X8_ticksToSlam_27]
    refine ⟨fun _ => q hv (fun _ _ _ => rfl), fun c => absurd (show nI 2000 < nI (k + 1) from nI_lt (by omega) (by omega)) c⟩
  | m + 1, n + 1, k, hv, hn, hi, hc, q => by
    rw [V_X8_ticksToSlam_27]
    refine ⟨fun c => absurd (show nI 2000 < nI (k + 1) from c) (nI_nlt (by omega) (by omega)), fun _ => C_tT hc ?_⟩
    intro hv' g1 _ _ r2 gf
    rw [r2]
    unfold tsF at q
    by_cases c : slamQ (trN f k)
    · rw [if_pos c] at q ⊢
      exact ⟨fun z => absurd z (by decide), fun _ => q hv' (fun c i z => gf c i (tk_p z))⟩
    · rw [if_neg c] at q ⊢
      refine ⟨fun _ x e => ?_, fun z => absurd rfl z⟩
      rw [e, nI_1]
      exact C_tsLoop m n (k + 1) hv' (by omega) (by omega) g1 (fun hv2 g => q hv2 (fun c i z => (g c i z).trans (gf c i (tk_p z))))
theorem R_tsLoop {a1 : Int32} {v f : Nat → Int32} {hv0 : HV} {post : Int32 → HV → Prop} (hP : PI f) (h6 : ¬ hv0 9 0 6 < 0) : ∀ (m n k : Nat) (hv : HV), m < n → k + m = 2000 → hv 15 0 = putW v 297 (trN f k) → mT (hv0 9 0) (hv 9 0) → rfT hv0 hv → hv 9 0 7 = 0 →
    (∀ hv' g, hv' 15 0 = putW v 297 g → mT (hv0 9 0) (hv' 9 0) → rfT hv0 hv' → post (tsF f m k) hv') → V_X9_ticksToSlam_25 a1 post n (nI (k + 1)) hv
  | 0, n + 1, k, hv, _, hi, h15, hm, hf, _, q => by
    rw [V_X9_ticksToSlam_25]
    refine ⟨fun _ => q hv _ h15 hm hf, fun c => absurd (show nI 2000 < nI (k + 1) from nI_lt (by omega) (by omega)) c⟩
  | m + 1, n + 1, k, hv, hn, hi, h15, hm, hf, h7, q => by
    rw [V_X9_ticksToSlam_25]
    refine ⟨fun c => absurd (show nI 2000 < nI (k + 1) from c) (nI_nlt (by omega) (by omega)), fun _ => R_tT h15 (by rw [hm 6 (by omega) (by omega) (by omega)]; exact h6) (PI_trN hP k) ?_⟩
    intro hv' k15 k9 kf
    have m2 : mT (hv0 9 0) (hv' 9 0) := mT_t hm (by rw [k9]; exact trialM_o _ _)
    have f2 : rfT hv0 hv' := rfT_t hf (fun c i z => kf c i (fun y => z (by omega)))
    have e7 : hv' 9 0 7 = if slamQ (trN f k) then 1 else 0 := by rw [k9, trialM_7, h7]
    rw [e7]
    unfold tsF at q
    by_cases c : slamQ (trN f k)
    · rw [if_pos c] at q ⊢
      exact ⟨fun z => absurd z (by decide), fun _ => q hv' _ k15 m2 f2⟩
    · rw [if_neg c] at q e7 ⊢
      refine ⟨fun _ x e => ?_, fun z => absurd rfl z⟩
      rw [e, nI_1]
      exact R_tsLoop hP h6 m n (k + 1) hv' (by omega) (by omega) k15 m2 f2 e7 q
def rfP (a : Int32) (v : Nat → Int32) : Int32 := if pn v a = 4 then -1001 else 0
theorem J_ticksToSlam (a : Int32) : JJ (V_X8_ticksToSlam a) (V_X9_ticksToSlam a) := by
  refine J_try (rfP a) (fun v => tsF (sl v (pn v a)) 2000 0) (fun hv v K hI h post no yes => ?_) (fun hv v K hI h hL post no yes => ?_)
  · unfold V_X8_ticksToSlam
    unfold rfP at no yes
    have hn := hI.1.1.1
    rcases pn_cases hI.1 a with ⟨hp, ea⟩ | ⟨hno, e4⟩
    · rw [if_neg (by omega)] at yes
      refine C_yes h hI hp ea (C_take hI h hp (fun hv1 k1 k2 => ⟨2001, ?_⟩))
      exact C_tsLoop (f := sl v (pn v a)) 2000 2001 0 hv1 (by omega) (by omega) (CTr_of (hI.1.2.1 _ hp).1 k1) (fun hv2 g => yes rfl hv2 (fun c i z => (g c i z).trans (k2 c i z)))
    · rw [if_pos e4] at no
      exact C_no h hI hno (no (by decide))
  · unfold V_X9_ticksToSlam
    unfold rfP at no yes
    have hn := hI.1.1.1
    rcases pn_cases hI.1 a with ⟨hp, ea⟩ | ⟨hno, e4⟩
    · rw [if_neg (by omega)] at yes
      refine R_yes h hI hp ea (R_begin (v := v) ea (by omega) (by rw [h.1]; exact putW_self v) ?_)
      intro hv1 k15 k9 kf hv2 e2
      rw [if_pos rfl] at k15
      have m2 : mT (hv 9 0) (hv2 9 0) := by
        rw [e2, up_s, k9]
        exact fun i h7 h8 h9 => by rw [upd_n _ _ h7, upd_n _ _ h9, upd_n _ _ h8]
      have f2 : rfT hv hv2 := fun c i z => by rw [e2, up_n _ _ (fun y => z (by omega))]; exact kf c i (fun y => z (by omega))
      exact ⟨2001, R_tsLoop (f := sl v (pn v a)) (hI.1.2.1 _ hp).1 (RX_h6 h hL) 2000 2001 0 hv2 (by omega) (by omega) (by rw [e2, up_n _ _ (by omega)]; exact k15) m2 f2 (by rw [e2, up_s, upd_s]) (fun hv' g g15 gm gf => yes rfl hv' g g15 gm gf)⟩
    · rw [if_pos e4] at no
      exact R_no h hI hno (no (by decide))
/-- the best of the numbers L, L + 10 .. -/
def bsF (D : Nat → Int32) : Nat → Nat → Int32 → Int32 → Int32
  | 0, _, b, _ => b
  | m + 1, L, b, mo => if D L ≤ mo then bsF D m (L + 10) b mo else bsF D m (L + 10) (nI L) (D L)
theorem bsF_eq {D : Nat → Int32} (m L : Nat) (b : Int32) (h : 0 ≤ (D L).toInt) : bsF D (m + 1) L b (-1) = bsF D (m + 1) L b (-1005) := by
  have m1 : (-1 : Int32).toInt = -1 := by decide
  have m2 : (-1005 : Int32).toInt = -1005 := by decide
  unfold bsF
  rw [if_neg (by rw [i_le, m1]; omega), if_neg (by rw [i_le, m2]; omega)]
theorem PI_1 {f : Nat → Int32} {x : Int32} (h : 10 ≤ x.toInt ∧ x.toInt ≤ 400) (hf : PI f) : PI (upd f 1 x) := by
  unfold PI at hf ⊢
  simp (decide := true) only [upd_r, if_true, if_false]
  obtain ⟨a0, a1, a2⟩ := hf
  exact ⟨a0, h, a2⟩
/-- a pump at rest with a number put anew -/
def rsF (f : Nat → Int32) (what L : Nat) : Nat → Int32 := upd (openF f) what (nI L)
theorem C_from {len set : Int32} {T p L what : Nat} {hv : HV} {v : Nat → Int32} {K : KS} {post : Int32 → HV → Prop} (hI : IV v K) (h : CR hv 0 v K) (hp : p < cntN v) (hT : T ≤ 500) (hP : PI (rsF (sl v p) what L)) (h1 : len = rsF (sl v p) what L 1) (h10 : set = rsF (sl v p) what L 10) (hw : what = 1 ∨ what = 10)
    (q : ∀ hv', (∀ c i, ¬ tkey c i → hv' c i = hv c i) → post (dlN (rsF (sl v p) what L) T) hv') : V_X8_deliveryFromRest p len set (nI T) hv post := by
  unfold V_X8_deliveryFromRest
  refine C_take hI h hp (fun hv1 k1 k2 => ?_)
  unfold V_X4_rest
  intro hv2 e2 hv3 e3 hv4 e4 hv5 e5 hv6 e6
  have s2 : PS hv2 36 (upd (sl v p) 6 0) := by rw [e2]; exact PS_w4 k1 (by omega)
  have s3 : PS hv3 36 (upd (upd (sl v p) 6 0) 7 0) := by rw [e3]; exact PS_w4 s2 (by omega)
  have s4 : PS hv4 36 (openF (sl v p)) := by rw [e4]; exact PS_w4 s3 (by omega)
  have s5 : PS hv5 36 (upd (openF (sl v p)) 1 len) := by rw [e5]; exact PS_w4 s4 (by omega)
  have s6 : PS hv6 36 (upd (upd (openF (sl v p)) 1 len) 10 set) := by rw [e6]; exact PS_w4 s5 (by omega)
  have ef : upd (upd (openF (sl v p)) 1 len) 10 set = rsF (sl v p) what L := by
    funext j
    rw [h1, h10]
    unfold rsF
    by_cases c : j = 10
    · rw [c, upd_s]
    rw [upd_n _ _ c]
    by_cases d : j = 1
    · rw [d, upd_s]
    rw [upd_n _ _ d, upd_n _ _ (by omega)]
  rw [ef] at s6
  have f : ∀ c i, ¬ tkey c i → hv6 c i = hv c i := fun c i z => by
    have n : ¬ (c = 4 ∧ i = 36) := fun y => z (Or.inl (Or.inl y))
    rw [e6, up_n _ _ n, e5, up_n _ _ n, e4, up_n _ _ n, e3, up_n _ _ n, e2, up_n _ _ n]; exact k2 c i z
  exact C_dl hT (CTr_of hP s6) (fun hv7 g => q hv7 (fun c i z => (g c i z).trans (f c i z)))
theorem C_lenLoop {a1 a2 : Int32} {p T : Nat} {v : Nat → Int32} {K : KS} {hv0 : HV} {post : Int32 → HV → Prop} (hI : IV v K) (h0 : CR hv0 0 v K) (hp : p < cntN v) (ha : a2 = nI T) (hT : T ≤ 500) : ∀ (m n L : Nat) (b mo : Int32) (hv : HV), m < n → L + 10 * m = 410 → 10 ≤ L → (∀ c i, ¬ tkey c i → hv c i = hv0 c i) →
    (∀ hv', (∀ c i, ¬ tkey c i → hv' c i = hv0 c i) → post (bsF (fun L => dlN (rsF (sl v p) 1 L) T) m L b mo) hv') → V_X8_bestLength_42 a1 a2 p post n b mo (nI L) hv
  | 0, n + 1, L, b, mo, hv, _, hL, _, f, q => by
    rw [V_X8_bestLength_42]
    refine ⟨fun _ => q hv f, fun c => absurd (show nI 400 < nI L from nI_lt (by omega) (by omega)) c⟩
  | m + 1, n + 1, L, b, mo, hv, hn, hL, hL0, f, q => by
    have h := CR_tr hI h0 f
    have hPI := (hI.1.2.1 p hp).1
    have eL := nI_toInt (n := L) (by omega)
    rw [V_X8_bestLength_42, ha]
    have s10 : hv 4 p 10 = sl v p 10 := PS_4 (CR_PS h hp) (by omega)
    refine ⟨fun c => absurd (show nI 400 < nI L from c) (nI_nlt (by omega) (by omega)), fun _ => C_from (what := 1) (L := L) hI h hp hT (PI_1 (by omega) (PI_open hPI)) (by unfold rsF; rw [upd_s]) (by unfold rsF; rw [upd_n _ _ (by omega), openF_o _ (by omega)]; exact s10) (Or.inl rfl) ?_⟩
    intro hv' g
    have f2 : ∀ c i, ¬ tkey c i → hv' c i = hv0 c i := fun c i z => (g c i z).trans (f c i z)
    unfold bsF at q
    refine ⟨fun c x e => ?_, fun c x e => ?_⟩
    · rw [if_pos c] at q
      rw [e, show nI L + 10 = nI (L + 10) from nI_add L 10, ← ha]
      exact C_lenLoop hI h0 hp ha hT m n (L + 10) b mo hv' (by omega) (by omega) (by omega) f2 q
    · rw [if_neg c] at q
      rw [e, show nI L + 10 = nI (L + 10) from nI_add L 10, ← ha]
      exact C_lenLoop hI h0 hp ha hT m n (L + 10) _ _ hv' (by omega) (by omega) (by omega) f2 q
theorem C_setLoop {a1 a2 : Int32} {p T : Nat} {v : Nat → Int32} {K : KS} {hv0 : HV} {post : Int32 → HV → Prop} (hI : IV v K) (h0 : CR hv0 0 v K) (hp : p < cntN v) (ha : a2 = nI T) (hT : T ≤ 500) : ∀ (m n L : Nat) (b mo : Int32) (hv : HV), m < n → L + 10 * m = 510 → 10 ≤ L → (∀ c i, ¬ tkey c i → hv c i = hv0 c i) →
    (∀ hv', (∀ c i, ¬ tkey c i → hv' c i = hv0 c i) → post (bsF (fun L => dlN (rsF (sl v p) 10 L) T) m L b mo) hv') → V_X8_bestSetting_42 a1 a2 p post n b mo (nI L) hv
  | 0, n + 1, L, b, mo, hv, _, hL, _, f, q => by
    rw [V_X8_bestSetting_42]
    refine ⟨fun _ => q hv f, fun c => absurd (show nI 500 < nI L from nI_lt (by omega) (by omega)) c⟩
  | m + 1, n + 1, L, b, mo, hv, hn, hL, hL0, f, q => by
    have h := CR_tr hI h0 f
    have hPI := (hI.1.2.1 p hp).1
    have eL := nI_toInt (n := L) (by omega)
    rw [V_X8_bestSetting_42, ha]
    have s1 : hv 4 p 1 = sl v p 1 := PS_4 (CR_PS h hp) (by omega)
    refine ⟨fun c => absurd (show nI 500 < nI L from c) (nI_nlt (by omega) (by omega)), fun _ => C_from (what := 10) (L := L) hI h hp hT (PI_10 (by omega) (PI_open hPI)) (by unfold rsF; rw [upd_n _ _ (by omega), openF_o _ (by omega)]; exact s1) (by unfold rsF; rw [upd_s]) (Or.inr rfl) ?_⟩
    intro hv' g
    have f2 : ∀ c i, ¬ tkey c i → hv' c i = hv0 c i := fun c i z => (g c i z).trans (f c i z)
    unfold bsF at q
    refine ⟨fun c x e => ?_, fun c x e => ?_⟩
    · rw [if_pos c] at q
      rw [e, show nI L + 10 = nI (L + 10) from nI_add L 10, ← ha]
      exact C_setLoop hI h0 hp ha hT m n (L + 10) b mo hv' (by omega) (by omega) (by omega) f2 q
    · rw [if_neg c] at q
      rw [e, show nI L + 10 = nI (L + 10) from nI_add L 10, ← ha]
      exact C_setLoop hI h0 hp ha hT m n (L + 10) _ _ hv' (by omega) (by omega) (by omega) f2 q
theorem R_bsLoop {a1 a2 a4 : Int32} {p T W what : Nat} {v : Nat → Int32} {hv0 : HV} {post : Int32 → HV → Prop} (ea : a1 = nI p) (hp : p < 4) (ha : a2 = nI T) (hT : T ≤ 500) (hW : W < 1000) (h4 : a4 = nI W) (hw : what < 73) (hP : ∀ L, 10 ≤ L → L ≤ W → PI (rsF (sl v p) what L)) (h6 : ¬ hv0 9 0 6 < 0) : ∀ (m n L : Nat) (b mo : Int32) (hv : HV) (g : Nat → Int32), m < n → L + 10 * m = W + 10 → 10 ≤ L → hv 15 0 = putW v 297 g → mT (hv0 9 0) (hv 9 0) → rfT hv0 hv →
    (∀ hv' g, hv' 15 0 = putW v 297 g → mT (hv0 9 0) (hv' 9 0) → rfT hv0 hv' → post (bsF (fun L => dlN (rsF (sl v p) what L) T) m L b mo) hv') → V_X9_best_12 a1 a2 what a4 post n b mo (nI L) hv
  | 0, n + 1, L, b, mo, hv, g, _, hL, _, h15, hm, hf, q => by
    rw [V_X9_best_12, h4]
    refine ⟨fun _ => q hv g h15 hm hf, fun c => absurd (nI_lt (by omega) (by omega)) c⟩
  | m + 1, n + 1, L, b, mo, hv, g, hn, hL, hL0, h15, hm, hf, q => by
    rw [V_X9_best_12, h4]
    refine ⟨fun c => absurd c (nI_nlt (by omega) (by omega)), fun _ => R_begin ea hp h15 ?_⟩
    intro hv1 k15 k9 kf hv3 e3
    rw [if_neg (by decide)] at k15
    have c15 : hv3 15 0 = putW v 297 (rsF (sl v p) what L) := by
      rw [e3, up_s, k15, pw_w _ _ _ _ _ hw]; rfl
    have c9 : hv3 9 0 = upd (upd (hv 9 0) 8 0) 9 0 := by rw [e3, up_n _ _ (by omega)]; exact k9
    have cf : rfT hv hv3 := fun c i z => by rw [e3, up_n _ _ (fun y => z (by omega))]; exact kf c i (fun y => z (by omega))
    have cm : mT (hv 9 0) (hv3 9 0) := by rw [c9]; exact up9_m _
    have c6 : ¬ hv3 9 0 6 < 0 := by rw [cm 6 (by omega) (by omega) (by omega), hm 6 (by omega) (by omega) (by omega)]; exact h6
    rw [ha]
    refine R_go hT (hP L hL0 (by omega)) c6 c15 (by rw [c9, upd_s]) (by rw [c9, upd_n _ _ (by omega), upd_s]) ?_
    intro hv4 g15 gm gf g9 _
    have m4 := mT_t hm (mT_t cm gm)
    have f4 := rfT_t hf (rfT_t cf gf)
    rw [g9, show nI L + 10 = nI (L + 10) from nI_add L 10, ← ha, ← h4]
    unfold bsF at q
    refine ⟨fun c => ⟨fun _ x e => ?_, fun z => absurd c z⟩, fun c => ⟨fun z => absurd z c, fun _ y ey x e => ?_⟩⟩
    · rw [if_pos c] at q
      rw [e]
      exact R_bsLoop ea hp ha hT hW h4 hw hP h6 m n (L + 10) b mo hv4 _ (by omega) (by omega) (by omega) g15 m4 f4 q
    · rw [if_neg c] at q
      rw [e, ey]
      exact R_bsLoop ea hp ha hT hW h4 hw hP h6 m n (L + 10) _ _ hv4 _ (by omega) (by omega) (by omega) g15 m4 f4 q
theorem J_bestLength (a x : Int32) : JJ (V_X8_bestLength a x) (V_X9_bestLength a x) := by
  have hP : ∀ v K, IV v K → pn v a < cntN v → ∀ L, 10 ≤ L → L ≤ 400 → PI (rsF (sl v (pn v a)) 1 L) := fun v K hI hp L h1 h2 => by
    have eL := nI_toInt (n := L) (by omega)
    exact PI_1 (by omega) (PI_open (hI.1.2.1 _ hp).1)
  refine J_try (rfTr a x 300) (fun v => bsF (fun L => dlN (rsF (sl v (pn v a)) 1 L) x.toNatClampNeg) 40 10 0 (-1005)) (fun hv v K hI h post no yes => ?_) (fun hv v K hI h hL post no yes => ?_)
  · unfold V_X8_bestLength
    rcases pn_cases hI.1 a with ⟨hp, ea⟩ | ⟨hno, e4⟩
    · refine C_yes h hI hp ea (C_trOut (p := 0) hp hI.1.1.1 no (fun hr => ?_))
      obtain ⟨_, _, b3, b4⟩ := rfTr_b (N := 300) rfl (by omega) hI.1 hr
      have yes := yes hr
      rw [← bsF_eq (D := fun L => dlN (rsF (sl v (pn v a)) 1 L) x.toNatClampNeg) 39 10 0 (dlN_b (hP v K hI hp 10 (by omega) (by omega)) _ (by omega)).1] at yes
      exact ⟨41, C_lenLoop hI h hp b3 (by omega) 40 41 10 0 (-1) hv (by omega) (by omega) (by omega) (fun _ _ _ => rfl) yes⟩
    · rw [rfTr_no e4] at no
      exact C_no h hI hno (no (by decide))
  · unfold V_X9_bestLength
    refine R_trRef hI h ⟨fun hr => ?_, no⟩
    obtain ⟨b1, b2, b3, b4⟩ := rfTr_b (N := 300) rfl (by omega) hI.1 hr
    have hn := hI.1.1.1
    unfold V_X9_best
    exact ⟨41, R_bsLoop (W := 400) b2 (by omega) b3 (by omega) (by omega) rfl (by omega) (hP v K hI b1) (RX_h6 h hL) 40 41 10 0 (-1005) hv _ (by omega) (by omega) (by omega) (by rw [h.1]; exact putW_self v) (fun _ _ _ _ => rfl) (rfT_i _) (yes hr)⟩
theorem J_bestSetting (a x : Int32) : JJ (V_X8_bestSetting a x) (V_X9_bestSetting a x) := by
  have hP : ∀ v K, IV v K → pn v a < cntN v → ∀ L, 10 ≤ L → L ≤ 500 → PI (rsF (sl v (pn v a)) 10 L) := fun v K hI hp L h1 h2 => by
    have eL := nI_toInt (n := L) (by omega)
    exact PI_10 (by omega) (PI_open (hI.1.2.1 _ hp).1)
  refine J_try (rfTr a x 300) (fun v => bsF (fun L => dlN (rsF (sl v (pn v a)) 10 L) x.toNatClampNeg) 50 10 0 (-1005)) (fun hv v K hI h post no yes => ?_) (fun hv v K hI h hL post no yes => ?_)
  · unfold V_X8_bestSetting
    rcases pn_cases hI.1 a with ⟨hp, ea⟩ | ⟨hno, e4⟩
    · refine C_yes h hI hp ea (C_trOut (p := 0) hp hI.1.1.1 no (fun hr => ?_))
      obtain ⟨_, _, b3, b4⟩ := rfTr_b (N := 300) rfl (by omega) hI.1 hr
      have yes := yes hr
      rw [← bsF_eq (D := fun L => dlN (rsF (sl v (pn v a)) 10 L) x.toNatClampNeg) 49 10 0 (dlN_b (hP v K hI hp 10 (by omega) (by omega)) _ (by omega)).1] at yes
      exact ⟨51, C_setLoop hI h hp b3 (by omega) 50 51 10 0 (-1) hv (by omega) (by omega) (by omega) (fun _ _ _ => rfl) yes⟩
    · rw [rfTr_no e4] at no
      exact C_no h hI hno (no (by decide))
  · unfold V_X9_bestSetting
    refine R_trRef hI h ⟨fun hr => ?_, no⟩
    obtain ⟨b1, b2, b3, b4⟩ := rfTr_b (N := 300) rfl (by omega) hI.1 hr
    have hn := hI.1.1.1
    unfold V_X9_best
    exact ⟨51, R_bsLoop (W := 500) b2 (by omega) b3 (by omega) (by omega) rfl (by omega) (hP v K hI b1) (RX_h6 h hL) 50 51 10 0 (-1005) hv _ (by omega) (by omega) (by omega) (by rw [h.1]; exact putW_self v) (fun _ _ _ _ => rfl) (rfT_i _) (yes hr)⟩
