/-! execute: both, from a command's start on. -/
def exF (t : Nat) (tx : Nat → Int32) : Nat → Nat → Int32 → (Nat → Int32) → KS → Int32 × (Nat → Int32) × KS
  | 0, _, n, v, K => (n, v, K)
  | m + 1, a, n, v, K =>
    if cmR (sg t tx a) (whF t tx a) (vaF t tx a) v = 0 then
      (if 0 ≤ cmA (sg t tx a) (whF t tx a) (vaF t tx a) v K then
        (if bF t tx a = t then (n + 1, cmS (sg t tx a) (whF t tx a) (vaF t tx a) v K)
         else exF t tx m (bF t tx a + 1) (n + 1) (cmS (sg t tx a) (whF t tx a) (vaF t tx a) v K).1 (cmS (sg t tx a) (whF t tx a) (vaF t tx a) v K).2)
       else (n, (cmS (sg t tx a) (whF t tx a) (vaF t tx a) v K).1, withF (cmS (sg t tx a) (whF t tx a) (vaF t tx a) v K).2 (cmA (sg t tx a) (whF t tx a) (vaF t tx a) v K)))
    else (n, v, withF K (cmR (sg t tx a) (whF t tx a) (vaF t tx a) v))
theorem L_step {x B a b : Nat} (h : x ≤ B + 1600 * a + 1600) (hab : a < b) : x ≤ B + 1600 * (b + 1) := by
  have h1 : 1600 * (a + 1) ≤ 1600 * b := Nat.mul_le_mul_left _ hab
  rw [Nat.mul_add, Nat.mul_one] at h1
  rw [Nat.mul_add, Nat.mul_one]
  rw [Nat.add_assoc] at h
  exact Nat.le_trans h (Nat.add_le_add_left (Nat.le_trans h1 (Nat.le_add_right _ _)) _)
theorem withF_id {K : KS} {x : Int32} (h : K.2.2.2 = x) : withF K x = K := by subst h; rfl
theorem IV_F {v : Nat → Int32} {K : KS} (x : Int32) (h : IV v K) : IV v (withF K x) := h
theorem exF_IV {B t : Nat} {tx : Nat → Int32} (ht : t ≤ 40) : ∀ (m a : Nat) (n : Int32) (v : Nat → Int32) (K : KS), a < t → errF t tx 0 a = -1005 → K.1.1 ≤ B + 1600 * a → IV v K → IV (exF t tx m a n v K).2.1 (exF t tx m a n v K).2.2 ∧ (exF t tx m a n v K).2.2.1.1 ≤ B + 64000
  | 0, a, n, v, K, ha, _, hL, hI => ⟨hI, by show K.1.1 ≤ _; omega⟩
  | m + 1, a, n, v, K, ha, he, hL, hI => by
    have ok := okF_of ht (by omega) he
    obtain ⟨b1, b2, b3, _⟩ := okF_fin (by omega) ok
    unfold exF
    by_cases c : cmR (sg t tx a) (whF t tx a) (vaF t tx a) v = 0
    · rw [if_pos c]
      obtain ⟨i1, i2⟩ := IV_cm (okF_6 ok) hI hL c
      by_cases d : 0 ≤ cmA (sg t tx a) (whF t tx a) (vaF t tx a) v K
      · rw [if_pos d]
        by_cases e : bF t tx a = t
        · rw [if_pos e]; exact ⟨i1, by show (cmS (sg t tx a) (whF t tx a) (vaF t tx a) v K).2.1.1 ≤ _; omega⟩
        · rw [if_neg e]
          rw [b3] at he
          obtain ⟨_, f⟩ := fin_of ht b2 he
          rcases f with f | ⟨f1, f2, f3⟩
          · exact absurd f e
          · have hL2 : (cmS (sg t tx a) (whF t tx a) (vaF t tx a) v K).2.1.1 ≤ B + 1600 * (bF t tx a + 1) := L_step i2 b1
            exact exF_IV ht m _ _ _ _ f1 f3 hL2 i1
      · rw [if_neg d]; exact ⟨i1, by show (cmS (sg t tx a) (whF t tx a) (vaF t tx a) v K).2.1.1 ≤ _; omega⟩
    · rw [if_neg c]; exact ⟨hI, by show K.1.1 ≤ _; omega⟩
/-- the class's own cell put anew: its marks of execution -/
theorem CR_8 {hv : HV} {ex : Int32} {v : Nat → Int32} {K : KS} {X : Nat → Int32} (hI : IV v K) (h : CR hv ex v K) (h2 : X 2 = hv 8 0 2) (h3 : X 3 = hv 8 0 3) : CR (up hv 8 0 X) (X 4) v (withF K (X 5)) := by
  obtain ⟨a1, a2, a3, ⟨a4, a5⟩, a6⟩ := h
  have f : ∀ c i, ¬ c = 8 → up hv 8 0 X c i = hv c i := fun c i z => up_n _ _ (fun y => z y.1)
  refine ⟨CS_fr hI.1.1.1 (fun c i z => f c i (fun y => by unfold skey at z; omega)) a1, CL_fr (fun c i z => f c i (fun y => by unfold lkey at z; omega)) a2, HC_fr hI.2.1.2 (by rw [up_s]; exact h2) (by rw [up_s]; exact h3) (fun c i _ z => f c i z) a3, ⟨by rw [f 1 0 (by omega)]; exact a4, by rw [f 13 0 (by omega)]; exact a5⟩, by rw [up_s], by rw [up_s]; rfl⟩
theorem cfr_8 {hv : HV} (X : Nat → Int32) : cfr hv (up hv 8 0 X) := fun c i h => up_n _ _ (fun z => by omega)
theorem CR_5 {hv : HV} {ex : Int32} {v : Nat → Int32} {K : KS} (r : Int32) (hI : IV v K) (h : CR hv ex v K) : CR (up hv 8 0 (upd (hv 8 0) 5 r)) ex v (withF K r) := by
  have z := CR_8 (X := upd (hv 8 0) 5 r) hI h (upd_n _ _ (by omega)) (upd_n _ _ (by omega))
  rw [upd_n _ _ (by omega), upd_s, h.2.2.2.2.1] at z
  exact z
theorem CR_4 {hv : HV} {ex : Int32} {v : Nat → Int32} {K : KS} (r : Int32) (hI : IV v K) (h : CR hv ex v K) : CR (up hv 8 0 (upd (hv 8 0) 4 r)) r v K := by
  have z := CR_8 (X := upd (hv 8 0) 4 r) hI h (upd_n _ _ (by omega)) (upd_n _ _ (by omega))
  rw [upd_n _ _ (show ¬ 5 = 4 by omega), upd_s, h.2.2.2.2.2] at z
  exact z
/-- signs where no command starts are skipped -/
theorem C_skip {t : Nat} {tx : Nat → Int32} {v2 : Int32} {hv : HV} {post : Int32 → HV → Prop} (h : CTx hv t tx) (h5 : hv 8 0 5 = 0) : ∀ (d n j : Nat), j + d ≤ t → 1 ≤ j → (∀ k, j ≤ k → k < j + d → ¬ sg t tx (k - 1) = 59) → V_X8_execute_39 post n v2 (nI (j + d)) hv → V_X8_execute_39 post (n + d) v2 (nI j) hv
  | 0, n, j, _, _, _, q => q
  | d + 1, n, j, hj, h1, hs, q => by
    have ht := h.2.1
    show V_X8_execute_39 post (n + d + 1) v2 (nI j) hv
    rw [V_X8_execute_39, h.1.1]
    refine ⟨fun c => by rw [nI_leI (by omega) (by omega)] at c; omega, fun _ => ⟨fun _ => ?_, fun z => absurd h5 z⟩⟩
    unfold V_X1_commandStartsAt
    refine ⟨fun z => ?_, fun _ => ?_⟩
    · have z2 : nI j = nI 0 := z
      rw [nI_eq (by omega) (by omega)] at z2; omega
    · have e1 : nI j - 1 = nI (j - 1) := nI_sub (b := 1) h1 (by omega)
      rw [e1]
      refine C_signAt h (by omega) ⟨fun z => absurd z (hs j (Nat.le_refl _) (by omega)), fun _ => ⟨fun _ x e => ?_, fun z => absurd rfl z⟩⟩
      rw [e, nI_1]
      exact C_skip h h5 d n (j + 1) (by omega) (by omega) (fun k k1 k2 => hs k (by omega) (by omega)) (by rw [show j + 1 + d = j + (d + 1) by omega]; exact q)
/-- the loop's end -/
theorem C_exEnd {t i n : Nat} {tx : Nat → Int32} {v2 : Int32} {v : Nat → Int32} {K : KS} {hv : HV} {post : Int32 → HV → Prop} (eT : K.2.2.1 = (t, tx)) (hi : i < 2 ^ 31) (hI : IV v K) (h : CR hv 1 v K) (hc : t ≤ i ∨ ¬ K.2.2.2 = 0)
    (q : ∀ hv', CR hv' 0 v K → cfr hv hv' → post v2 hv') : V_X8_execute_39 post (n + 1) v2 (nI i) hv := by
  have hT : CTx hv t tx := by
    have z := CR_CT h hI
    rw [eT] at z; exact z
  have ht := hT.2.1
  have fin : ∀ hw, hw = up hv 8 0 (upd (hv 8 0) 4 0) → post v2 hw := fun hw e => by
    rw [e]; exact q _ (CR_4 0 hI h) (cfr_8 _)
  rw [V_X8_execute_39, hT.1.1]
  refine ⟨fun _ => fin, fun c => ⟨fun z => ?_, fun _ => fin⟩⟩
  rw [nI_leI (by omega) hi] at c
  rw [h.2.2.2.2.2] at z
  rcases hc with hc | hc
  · exact absurd hc c
  · exact absurd z hc
theorem C_exL {B t : Nat} {tx : Nat → Int32} {post : Int32 → HV → Prop} (hB : B + 65000 < 2 ^ 31) (ht : t ≤ 40) : ∀ (m a N : Nat) (n : Int32) (v : Nat → Int32) (K : KS) (hv : HV), a < t → t ≤ a + m → t - a < N → (a = 0 ∨ sg t tx (a - 1) = 59) → errF t tx 0 a = -1005 → K.2.2.1 = (t, tx) → K.2.2.2 = 0 → K.1.1 ≤ B + 1600 * a → IV v K → CR hv 1 v K →
    (∀ hv', CR hv' 0 (exF t tx m a n v K).2.1 (exF t tx m a n v K).2.2 → cfr hv hv' → post (exF t tx m a n v K).1 hv') → V_X8_execute_39 post N n (nI a) hv
  | 0, a, N, n, v, K, hv, ha, hm, _, _, _, _, _, _, _, _, _ => by omega
  | m + 1, a, N + 1, n, v, K, hv, ha, hm, hN, hst, he, eT, eF, hL, hI, h, q => by
    have hT : CTx hv t tx := by
      have z := CR_CT h hI
      rw [eT] at z; exact z
    have ok := okF_of ht (by omega) he
    obtain ⟨b1, b2, b3, b4⟩ := okF_fin (by omega) ok
    have he2 := he
    rw [b3] at he2
    obtain ⟨nd, f⟩ := fin_of ht b2 he2
    have hc := okF_6 ok
    have main : V_X8_perform (nI a) hv (fun r13 hv13 => ((0 ≤ r13 → (∀ x15 : Int32, x15 = n + 1 → (∀ x16 : Int32, x16 = nI a + 1 → V_X8_execute_39 post N x15 x16 hv13))) ∧ (¬ (0 ≤ r13) → (∀ hv17 : HV, hv17 = up hv13 8 0 (upd (hv13 8 0) 5 r13) → (∀ x18 : Int32, x18 = nI a + 1 → V_X8_execute_39 post N n x18 hv17))))) := by
      obtain ⟨N2, rfl⟩ : ∃ N2, N = N2 + 1 := ⟨N - 1, by omega⟩
      unfold exF at q
      refine C_perform hB (by omega) hI h eT (by omega) ok nd (fun hr => ?_) (fun hr hv2 k1 k2 => ?_)
      · rw [if_neg hr] at q
        refine ⟨fun z => absurd z (cmR_n hc hr), fun _ hw ew x ex => ?_⟩
        rw [ew, ex, nI_1]
        refine C_exEnd (K := withF K (cmR (sg t tx a) (whF t tx a) (vaF t tx a) v)) eT (by omega) (IV_F _ hI) (CR_5 _ hI h) (Or.inr hr) (fun hv' g1 g2 => q hv' g1 (cfr_t (cfr_8 _) g2))
      · rw [if_pos hr] at q
        obtain ⟨i1, i2⟩ := IV_cm hc hI hL hr
        have eK : (cmS (sg t tx a) (whF t tx a) (vaF t tx a) v K).2.2 = K.2 := cmS_K hc
        have eT2 : (cmS (sg t tx a) (whF t tx a) (vaF t tx a) v K).2.2.2.1 = (t, tx) := by rw [eK]; exact eT
        have eF2 : (cmS (sg t tx a) (whF t tx a) (vaF t tx a) v K).2.2.2.2 = 0 := by rw [eK]; exact eF
        by_cases d : 0 ≤ cmA (sg t tx a) (whF t tx a) (vaF t tx a) v K
        · rw [if_pos d] at q
          refine ⟨fun _ x15 e15 x16 e16 => ?_, fun z => absurd d z⟩
          rw [e15, e16, nI_1]
          have hT2 : CTx hv2 t tx := by
            have z := CR_CT k1 i1
            rw [eT2] at z; exact z
          have h52 : hv2 8 0 5 = 0 := by rw [k1.2.2.2.2.2]; exact eF2
          by_cases e : bF t tx a = t
          · rw [if_pos e] at q
            obtain ⟨N3, hN3⟩ : ∃ N3, N2 + 1 = N3 + 1 + (t - (a + 1)) := ⟨N2 - (t - (a + 1)), by omega⟩
            rw [hN3]
            refine C_skip hT2 h52 (t - (a + 1)) (N3 + 1) (a + 1) (by omega) (by omega) (fun k s1 s2 => b4 (k - 1) (by omega) (by omega)) ?_
            rw [show a + 1 + (t - (a + 1)) = t by omega]
            exact C_exEnd eT2 (by omega) i1 k1 (Or.inl (Nat.le_refl _)) (fun hv' g1 g2 => q hv' g1 (cfr_t k2 g2))
          · rw [if_neg e] at q
            rcases f with f | ⟨f1, f2, f3⟩
            · exact absurd f e
            · obtain ⟨N3, hN3⟩ : ∃ N3, N2 + 1 = N3 + (bF t tx a - a) := ⟨N2 + 1 - (bF t tx a - a), by omega⟩
              rw [hN3]
              refine C_skip hT2 h52 (bF t tx a - a) N3 (a + 1) (by omega) (by omega) (fun k s1 s2 => b4 (k - 1) (by omega) (by omega)) ?_
              rw [show a + 1 + (bF t tx a - a) = bF t tx a + 1 by omega]
              have hL2 : (cmS (sg t tx a) (whF t tx a) (vaF t tx a) v K).2.1.1 ≤ B + 1600 * (bF t tx a + 1) := L_step i2 b1
              exact C_exL hB ht m (bF t tx a + 1) N3 (n + 1) _ _ hv2 f1 (by omega) (by omega) (Or.inr (by rw [Nat.add_sub_cancel]; exact f2)) f3 eT2 eF2 hL2 i1 k1 (fun hv' g1 g2 => q hv' g1 (cfr_t k2 g2))
        · rw [if_neg d] at q
          refine ⟨fun z => absurd z d, fun _ hw ew x ex => ?_⟩
          rw [ew, ex, nI_1]
          exact C_exEnd (K := withF (cmS (sg t tx a) (whF t tx a) (vaF t tx a) v K).2 (cmA (sg t tx a) (whF t tx a) (vaF t tx a) v K)) eT2 (by omega) (IV_F _ i1) (CR_5 _ i1 k1) (Or.inr (fun z => by
            have z2 : cmA (sg t tx a) (whF t tx a) (vaF t tx a) v K = 0 := z
            rw [z2] at d; exact d (by decide))) (fun hv' g1 g2 => q hv' g1 (cfr_t k2 (cfr_t (cfr_8 _) g2)))
    rw [V_X8_execute_39, hT.1.1]
    refine ⟨fun c => by rw [nI_leI (by omega) (by omega)] at c; omega, fun _ => ⟨fun _ => ?_, fun z => absurd (by rw [h.2.2.2.2.2]; exact eF) z⟩⟩
    unfold V_X1_commandStartsAt
    refine ⟨fun _ => ⟨fun z => absurd z (by decide), fun _ => main⟩, fun z => ?_⟩
    rcases hst with hst | hst
    · subst hst; exact absurd rfl z
    · have h1 : 1 ≤ a := by
        rcases Nat.eq_zero_or_pos a with e | e
        · subst e; exact absurd rfl z
        · exact e
      have e1 : nI a - 1 = nI (a - 1) := nI_sub (b := 1) h1 (by omega)
      rw [e1]
      exact C_signAt hT (by omega) ⟨fun _ => ⟨fun z => absurd z (by decide), fun _ => main⟩, fun z => absurd hst z⟩
/-- the reference: its failure put anew -/
theorem RX_12 {hv : HV} {v : Nat → Int32} {K : KS} (r : Int32) (h : RX hv v K) : RX (up hv 9 0 (upd (hv 9 0) 12 r)) v (withF K r) := by
  unfold RX RH RLm HRr at h ⊢
  rw [up_s, upd_n _ _ (show ¬ 2 = 12 by omega), upd_n _ _ (show ¬ 6 = 12 by omega), upd_n _ _ (show ¬ 11 = 12 by omega), upd_s, up_n _ _ (show ¬ (15 = 9 ∧ 0 = 0) by omega), up_n _ _ (show ¬ (17 = 9 ∧ 0 = 0) by omega), up_n _ _ (show ¬ (18 = 9 ∧ 0 = 0) by omega), up_n _ _ (show ¬ (19 = 9 ∧ 0 = 0) by omega), up_n _ _ (show ¬ (16 = 9 ∧ 0 = 0) by omega), up_n _ _ (show ¬ (20 = 9 ∧ 0 = 0) by omega)]
  obtain ⟨h1, h2, h3, h4, h5⟩ := h
  exact ⟨h1, h2, h3, h4, rfl⟩
theorem R_exL {B t : Nat} {tx : Nat → Int32} {post : Int32 → HV → Prop} (hB : B + 65000 < 2 ^ 31) (ht : t ≤ 40) : ∀ (m a p0 N k : Nat) (v : Nat → Int32) (K : KS) (hv : HV), a < t → t ≤ a + m → t - a < N → ((k = 0 ∧ p0 = a) ∨ (0 < k ∧ p0 + 1 = a ∧ sg t tx p0 = 59 ∧ hv 9 0 14 = 0)) → k ≤ a → errF t tx 0 a = -1005 → K.2.2.1 = (t, tx) → K.2.2.2 = 0 → K.1.1 ≤ B + 1600 * a → IV v K → RX hv v K → hv 9 0 13 = nI p0 →
    (∀ hv', RX hv' (exF t tx m a (nI k) v K).2.1 (exF t tx m a (nI k) v K).2.2 → rfr hv hv' → post (exF t tx m a (nI k) v K).1 hv') → V_X9_execute_34 post N (nI k) hv
  | 0, a, p0, N, k, v, K, hv, ha, hm, _, _, _, _, _, _, _, _, _, _, _ => by omega
  | m + 1, a, p0, N + 1, k, v, K, hv, ha, hm, hN, hst, hka, he, eT, eF, hL, hI, h, h13, q => by
    have ok := okF_of ht (by omega) he
    obtain ⟨b1, b2, b3, b4⟩ := okF_fin (by omega) ok
    have he2 := he
    rw [b3] at he2
    obtain ⟨nd, f⟩ := fin_of ht b2 he2
    have hc := okF_6 ok
    have h11 : hv 9 0 11 = nI t := by rw [h.2.2.2.1.1, eT]
    have h20 : hv 20 0 = tx := by rw [h.2.2.2.1.2, eT]
    -- from the command's start on
    have main : ∀ m1 : Nat → Int32, m1 13 = nI a → ot5 (hv 9 0) m1 → V_X9_readCommand (up hv 9 0 m1) (fun hv8 => (V_X9_perform hv8 (fun r9 hv9 => (∀ hv10 : HV, hv10 = up hv9 9 0 (upd (hv9 9 0) 12 r9) → (((hv10 9 0 12) = 0 → (∀ x12 : Int32, x12 = nI k + 1 → V_X9_execute_34 post N x12 hv10)) ∧ (¬ ((hv10 9 0 12) = 0) → post (nI k) hv10)))))) := by
      intro m1 q13 o1
      obtain ⟨N2, rfl⟩ : ∃ N2, N = N2 + 1 := ⟨N - 1, by omega⟩
      refine R_readCmd ht (a := a) (by omega) h20 (by rw [o1 11 (by omega)]; exact h11) q13 (fun _ m2 g13 g14 g15 g16 g17 go => ?_) (fun nok => absurd ok nok)
      have hX : RX (up hv 9 0 m2) v K := RX_ot h (ot5_t o1 go)
      have fX : rfr hv (up hv 9 0 m2) := rfr_9 m2
      unfold exF at q
      refine R_perform (c := sg t tx a) (w := whF t tx a) (x := vaF t tx a) hB (by omega) hI hX hc (by rw [up_s]; exact g15) (by rw [up_s]; exact g16) (by rw [up_s]; exact g17) (fun hr hw ew => ?_) (fun hr hv2 k1 k2 k3 hw ew => ?_)
      · rw [if_neg hr] at q
        have e12 : hw 9 0 12 = cmR (sg t tx a) (whF t tx a) (vaF t tx a) v := by rw [ew, up_s, upd_s]
        rw [e12]
        refine ⟨fun z => absurd z hr, fun _ => ?_⟩
        rw [ew]
        exact q _ (RX_12 _ hX) (rfr_t fX (rfr_9 _))
      · rw [if_pos hr] at q
        obtain ⟨i1, i2⟩ := IV_cm hc hI hL hr
        have eK : (cmS (sg t tx a) (whF t tx a) (vaF t tx a) v K).2.2 = K.2 := cmS_K hc
        have eT2 : (cmS (sg t tx a) (whF t tx a) (vaF t tx a) v K).2.2.2.1 = (t, tx) := by rw [eK]; exact eT
        have eF2 : (cmS (sg t tx a) (whF t tx a) (vaF t tx a) v K).2.2.2.2 = 0 := by rw [eK]; exact eF
        by_cases d : 0 ≤ cmA (sg t tx a) (whF t tx a) (vaF t tx a) v K
        · rw [if_pos d] at q ew
          have e12 : hw 9 0 12 = 0 := by rw [ew, up_s, upd_s]
          rw [e12]
          refine ⟨fun _ x ex => ?_, fun z => absurd rfl z⟩
          have hX2 : RX hw (cmS (sg t tx a) (whF t tx a) (vaF t tx a) v K).1 (cmS (sg t tx a) (whF t tx a) (vaF t tx a) v K).2 := by
            have z := RX_12 0 k1
            rw [withF_id eF2, ← ew] at z
            exact z
          have fX2 : rfr hv hw := rfr_t fX (rfr_t k2 (by rw [ew]; exact rfr_9 _))
          have w13 : hw 9 0 13 = nI (bF t tx a) := by rw [ew, up_s, upd_n _ _ (by omega), k3 13 (by omega), up_s]; exact g13
          have w14 : hw 9 0 14 = 0 := by rw [ew, up_s, upd_n _ _ (by omega), k3 14 (by omega), up_s]; exact g14
          have w11 : hw 9 0 11 = nI t := by rw [hX2.2.2.2.1.1, eT2]
          rw [ex, nI_1]
          by_cases e : bF t tx a = t
          · rw [if_pos e] at q
            rw [V_X9_execute_34, w11, w13]
            refine ⟨fun _ => ?_, fun z => absurd (nI_le (by omega) (by omega)) z⟩
            have z := q hw hX2 fX2
            rw [nI_1] at z
            exact z
          · rw [if_neg e] at q
            rcases f with f | ⟨f1, f2, f3⟩
            · exact absurd f e
            · have hL2 : (cmS (sg t tx a) (whF t tx a) (vaF t tx a) v K).2.1.1 ≤ B + 1600 * (bF t tx a + 1) := L_step i2 b1
              refine R_exL hB ht m (bF t tx a + 1) (bF t tx a) (N2 + 1) (k + 1) _ _ hw f1 (by omega) (by omega) (Or.inr ⟨by omega, rfl, f2, w14⟩) (by omega) f3 eT2 eF2 hL2 i1 hX2 w13 (fun hv' g1 g2 => ?_)
              rw [← nI_1] at g1 ⊢
              exact q hv' g1 (rfr_t fX2 g2)
        · rw [if_neg d] at q ew
          have nz : ¬ cmA (sg t tx a) (whF t tx a) (vaF t tx a) v K = 0 := fun z => by rw [z] at d; exact d (by decide)
          have e12 : hw 9 0 12 = cmA (sg t tx a) (whF t tx a) (vaF t tx a) v K := by rw [ew, up_s, upd_s]
          rw [e12]
          refine ⟨fun z => absurd z nz, fun _ => ?_⟩
          rw [ew]
          exact q _ (RX_12 _ k1) (rfr_t fX (rfr_t k2 (rfr_9 _)))
    rw [V_X9_execute_34, h11, h13]
    rcases hst with ⟨hk, hp⟩ | ⟨hk, hp, hs, h14⟩
    · subst hk
      subst hp
      refine ⟨fun c => by rw [nI_leI (by omega) (by omega)] at c; omega, fun _ => ⟨fun _ => ?_, fun c => absurd (show nI 0 ≤ 0 by decide) c⟩⟩
      have z := main (hv 9 0) h13 (fun _ _ => rfl)
      rw [up_id] at z
      exact z
    · refine ⟨fun c => by rw [nI_leI (by omega) (by omega)] at c; omega, fun _ => ⟨fun c => absurd c (nI_nle hk (by omega)), fun _ => ?_⟩⟩
      have z := R_sign (c := 59) (hv := hv) (m := hv 9 0) (a := p0) (t := t) (tx := tx) (post := fun hv13 => (V_X9_readCommand hv13 (fun hv14 => (V_X9_perform hv14 (fun r15 hv15 => (∀ hv16 : HV, hv16 = up hv15 9 0 (upd (hv15 9 0) 12 r15) → (((hv16 9 0 12) = 0 → (∀ x18 : Int32, x18 = nI k + 1 → V_X9_execute_34 post N x18 hv16)) ∧ (¬ ((hv16 9 0 12) = 0) → post (nI k) hv16)))))))) (by decide) ht (by omega) h20 h11 h13 (Or.inl h14)
        (fun _ _ m1 g13 g14 go => main m1 (by rw [g13, hp]) (ot5_o go)) (fun z => absurd ⟨h14, hs⟩ z)
      rw [up_id] at z
      exact z
theorem J_execute : JJ V_X8_execute V_X9_execute := by
  intro B hv hB hRel
  obtain ⟨v, K, h1, h2, h3, h4⟩ := hRel
  have ht := h3.2.2.1
  unfold V_X8_execute
  refine C_err (CR_CT h1 h3) ⟨fun e => ?_, fun e => ?_⟩
  · have t0 : 0 < K.2.2.1.1 := by
      rcases Nat.eq_zero_or_pos K.2.2.1.1 with z | z
      · rw [z, err_t, if_pos (by decide)] at e
        exact absurd e (nI_n5 (by omega))
      · exact z
    refine C_keepK h3 h1 ?_
    intro hv3 k1 k2 _ hv4 e4 hv5 e5
    have hk := IV_keep 0 h3
    have kT : (keepK 0 v K).2.2.1 = (K.2.2.1.1, K.2.2.1.2) := by rw [keepK_F]
    have kL : (keepK 0 v K).1 = K.1 := keepK_L 0 v K
    have c4 : CR hv4 1 v (keepK 0 v K) := by rw [e4]; exact CR_4 1 hk k1
    have c5 : CR hv5 1 v (withF (keepK 0 v K) 0) := by rw [e5]; exact CR_5 0 hk c4
    have fr4 : cfr hv3 hv4 := by rw [e4]; exact cfr_8 _
    have fr45 : cfr hv4 hv5 := by rw [e5]; exact cfr_8 _
    have fr5 : cfr hv hv5 := cfr_t k2 (cfr_t fr4 fr45)
    have eL : (withF (keepK 0 v K) 0).1.1 ≤ B + 1600 * 0 := by show (keepK 0 v K).1.1 ≤ _; rw [kL]; omega
    refine ⟨K.2.2.1.1 + 1, C_exL hB ht K.2.2.1.1 0 (K.2.2.1.1 + 1) 0 v (withF (keepK 0 v K) 0) hv5 t0 (by omega) (by omega) (Or.inl rfl) e kT rfl eL hk c5 (fun hv6 g1 g2 => ?_)⟩
    have h6 : RX hv6 v K := RX_fr (cfr_t fr5 g2) h2
    unfold V_X9_execute
    refine R_check2 h3 h6 (fun m' ho => ⟨fun _ => ?_, fun z => absurd e z⟩)
    refine R_keepK h3 (RX_ot h6 ho) ?_
    intro hv7 r1 r2 hv8 e8 hv9 e9
    have q9 : hv9 = up hv7 9 0 (upd (upd (hv7 9 0) 13 0) 12 0) := by rw [e9, e8, up_s, up_up]
    have x8 : RX hv8 v (keepK 0 v K) := by rw [e8]; exact RX_ot r1 (fun k hk => upd_n _ _ (by omega))
    have x9 : RX hv9 v (withF (keepK 0 v K) 0) := by rw [e9]; exact RX_12 0 x8
    refine ⟨K.2.2.1.1 + 1, R_exL hB ht K.2.2.1.1 0 0 (K.2.2.1.1 + 1) 0 v (withF (keepK 0 v K) 0) hv9 t0 (by omega) (by omega) (Or.inl ⟨rfl, rfl⟩) (Nat.le_refl _) e kT rfl eL hk x9 (by rw [q9, up_s, upd_n _ _ (by omega), upd_s]; rfl) (fun hv10 s1 s2 => ?_)⟩
    obtain ⟨i1, i2⟩ := exF_IV (B := B) ht K.2.2.1.1 0 0 v (withF (keepK 0 v K) 0) t0 e eL hk
    refine ⟨rfl, _, _, CR_fr i1 ?_ g1, s1, i1, i2⟩
    refine rfr_t (rfr_9 m') (rfr_t r2 (rfr_t ?_ s2))
    rw [q9]; exact rfr_9 _
  · unfold V_X9_execute
    refine R_check2 h3 h2 (fun m' ho => ⟨fun z => absurd z e, fun _ => ?_⟩)
    exact ⟨rfl, v, K, CR_fr h3 (rfr_9 m') h1, RX_ot h2 ho, h3, by omega⟩
