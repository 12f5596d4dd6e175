/-! Acts: what both refuse, do and answer. -/
def pn (v : Nat → Int32) (a : Int32) : Nat := if a < 0 then 4 else if v 4 ≤ a then 4 else a.toNatClampNeg
theorem pn_cases {v : Nat → Int32} (hV : VI v) (a : Int32) : (pn v a < cntN v ∧ a = nI (pn v a)) ∨ ((∀ p, p < cntN v → ¬ a = nI p) ∧ pn v a = 4) := by
  have hn := hV.1.1
  unfold pn
  rw [hV.1.2]
  by_cases h0 : a < 0
  · rw [if_pos h0]
    exact Or.inr ⟨fun p hp e => by rw [e] at h0; exact nI_pos (by omega) h0, rfl⟩
  · rw [if_neg h0]
    obtain ⟨j, hj, e⟩ := nI_of h0
    subst e
    by_cases c : nI (cntN v) ≤ nI j
    · rw [if_pos c]
      rw [nI_leI (by omega) hj] at c
      refine Or.inr ⟨fun p hp e => ?_, rfl⟩
      rw [nI_eq hj (by omega)] at e; omega
    · rw [if_neg c, nI_clamp hj]
      rw [nI_leI (by omega) hj] at c
      exact Or.inl ⟨by omega, rfl⟩
def runF (v : Nat → Int32) : Nat → Nat → Int32 → Int32
  | 0, _, acc => acc
  | m + 1, p, acc => runF v m (p + 1) (acc + sl v p 5)
def runN (v : Nat → Int32) : Int32 := runF v (cntN v) 0 0
theorem C_runL {v : Nat → Int32} {hv : HV} {post : Int32 → HV → Prop} (h : CS hv 0 v) (hV : VI v) : ∀ (m n p : Nat) (acc : Int32), m < n → p + m = cntN v → post (runF v m p acc) hv → V_X7_runningPumps_4 0 post n acc (nI p) hv
  | 0, n + 1, p, acc, _, hm, q => by
    have hn := hV.1.1
    rw [V_X7_runningPumps_4, h.1.2.2.2.2, hV.1.2]
    exact ⟨fun _ => q, fun c => absurd (nI_le (by omega) (by omega)) c⟩
  | m + 1, n + 1, p, acc, hlt, hm, q => by
    have hn := hV.1.1
    have hPI := (hV.2.1 p (by omega)).1
    have s5 : hv 4 (4 * 0 + p) 5 = sl v p 5 := PS_4 (h.2 p (by omega)).1 (by omega)
    rw [V_X7_runningPumps_4]
    unfold runF at q
    refine ⟨fun c => ?_, fun _ => C_pumpAt (n := cntN v) (h.1.2.2.2.2.trans hV.1.2) hn (fun k1 hk1 e1 => ?_) (fun z => absurd rfl (z p (by omega)))⟩
    · rw [h.1.2.2.2.2, hV.1.2, nI_leI (by omega) (by omega)] at c; omega
    rw [nI_eq (by omega) (by omega)] at e1
    rw [← e1]
    refine ⟨fun z => (Option.some_ne_none _ z).elim, fun r2 e2 _ => ?_⟩
    rw [← Option.some.inj e2, s5]
    refine ⟨fun c x e => ?_, fun c x6 e6 x e => ?_⟩
    · rw [c, Int32.add_zero] at q
      rw [e, nI_1]; exact C_runL h hV m n (p + 1) _ (by omega) (by omega) q
    · rw [hPI.h5.resolve_left c] at q
      rw [e6, e, nI_1]; exact C_runL h hV m n (p + 1) _ (by omega) (by omega) q
theorem C_run {v : Nat → Int32} {hv : HV} {post : Int32 → HV → Prop} (h : CS hv 0 v) (hV : VI v) (q : post (runN v) hv) : V_X7_runningPumps 0 hv post := by
  unfold V_X7_runningPumps
  exact ⟨cntN v + 1, C_runL h hV (cntN v) _ 0 0 (by omega) (by omega) q⟩
theorem RX_up {hv : HV} {v : Nat → Int32} {K : KS} (X : Nat → Int32) (h : RX hv v K) : RX (up hv 15 0 X) X K := by
  unfold RX RH HRr at h ⊢
  rw [up_s, up_n _ _ (show ¬ (9 = 15 ∧ 0 = 0) by omega), up_n _ _ (show ¬ (17 = 15 ∧ 0 = 0) by omega), up_n _ _ (show ¬ (18 = 15 ∧ 0 = 0) by omega), up_n _ _ (show ¬ (19 = 15 ∧ 0 = 0) by omega), up_n _ _ (show ¬ (16 = 15 ∧ 0 = 0) by omega), up_n _ _ (show ¬ (20 = 15 ∧ 0 = 0) by omega)]
  exact ⟨rfl, h.2⟩
theorem rfr_up {hv : HV} (X : Nat → Int32) : rfr hv (up hv 15 0 X) := fun c i h => up_n _ _ (fun z => h (by omega))
/-- a station's numbers with pump p's changed by F -/
def onP (v : Nat → Int32) (p : Nat) (F : (Nat → Int32) → Nat → Int32) : Nat → Int32 := putW v (5 + 73 * p) (F (sl v p))
theorem onP_up (v : Nat → Int32) (p j : Nat) (x : Int32) (h : j < 73) : upd v (5 + 73 * p + j) x = onP v p (fun f => upd f j x) := by
  unfold onP
  rw [← pw_w _ _ _ _ _ h]
  congr 1
  exact (pw_id v (5 + 73 * p)).symm
theorem onP_w (v : Nat → Int32) (p j : Nat) (F : (Nat → Int32) → Nat → Int32) (x : Int32) (h : j < 73) : upd (onP v p F) (5 + 73 * p + j) x = onP v p (fun f => upd (F f) j x) := pw_w _ _ _ _ _ h
theorem onP_lo (v : Nat → Int32) (p j : Nat) (F : (Nat → Int32) → Nat → Int32) (h : j < 5) : onP v p F j = v j := pw_lo _ _ _ _ (by omega)
theorem sl_onP (v : Nat → Int32) (p j : Nat) (F : (Nat → Int32) → Nat → Int32) (h : j < 73) : onP v p F (5 + 73 * p + j) = F (sl v p) j := pw_r _ _ _ _ h
/-- the class: after it kept its state, pump p's numbers change to g -/
theorem CR_on {hv hv' : HV} {ex : Int32} {v : Nat → Int32} {K : KS} {p : Nat} {F : (Nat → Int32) → Nat → Int32} (hI : IV v K) (h : CR hv ex v K) (hp : p < cntN v) (hg : ∀ j, 23 ≤ j → j < 73 → F (sl v p) j = sl v p j) (hS : PS hv' p (F (sl v p))) (f : ∀ c i, ¬ ((c = 4 ∨ c = 0 ∨ c = 2) ∧ i = p) → hv' c i = hv c i) : CR hv' ex (onP v p F) K := by
  have hn := hI.1.1.1
  refine CR_new hI h (CS_pump hn hp h.1 hg ?_ (fun c i z => f c i (by rw [Nat.mul_zero, Nat.zero_add] at z; exact z))) (fun c i z => f c i (fun y => z ?_))
  · rw [Nat.mul_zero, Nat.zero_add]; exact hS
  · unfold skey; omega
theorem cfr_on {hv hv' : HV} {p : Nat} (f : ∀ c i, ¬ ((c = 4 ∨ c = 0 ∨ c = 2) ∧ i = p) → hv' c i = hv c i) : cfr hv hv' := fun c i h => f c i (by omega)
/-- the general act of the reference: refused, or recorded and done -/
theorem J_act {C R : HV → (Int32 → HV → Prop) → Prop} (rf : (Nat → Int32) → Int32) (st : (Nat → Int32) → KS → (Nat → Int32) × KS) (an : (Nat → Int32) → KS → Int32)
    (hC : ∀ B hv v K, B + 65000 < 2 ^ 31 → K.1.1 ≤ B → IV v K → CR hv 0 v K → ∀ post, (¬ rf v = 0 → post (rf v) hv) → (rf v = 0 → ∀ hv', CR hv' 0 (st v (keepK 0 v K)).1 (st v (keepK 0 v K)).2 → cfr hv hv' → post (an v (keepK 0 v K)) hv') → C hv post)
    (hR : ∀ B hv v K, B + 65000 < 2 ^ 31 → K.1.1 ≤ B → IV v K → RX hv v K → ∀ post, (¬ rf v = 0 → post (rf v) hv) → (rf v = 0 → ∀ hv', RX hv' (st v (keepK 0 v K)).1 (st v (keepK 0 v K)).2 → rfr hv hv' → post (an v (keepK 0 v K)) hv') → R hv post)
    (hI : ∀ B v K, B + 65000 < 2 ^ 31 → K.1.1 ≤ B → IV v K → rf v = 0 → IV (st v K).1 (st v K).2 ∧ (st v K).2.1.1 ≤ B + 64000) : JJ C R := by
  intro B hv hB hRel
  obtain ⟨v, K, h1, h2, h3, h4⟩ := hRel
  refine hC B hv v K hB h4 h3 h1 _ (fun hr => ?_) (fun hr hv1 k1 k2 => ?_)
  · exact hR B hv v K hB h4 h3 h2 _ (fun _ => ⟨rfl, v, K, h1, h2, h3, by omega⟩) (fun z => absurd z hr)
  · refine hR B hv1 v K hB h4 h3 (RX_fr k2 h2) _ (fun z => absurd hr z) (fun _ hv2 k3 k4 => ?_)
    have hk := IV_keep 0 h3
    obtain ⟨i1, i2⟩ := hI B v (keepK 0 v K) hB (by rw [keepK_L]; exact h4) hk hr
    exact ⟨rfl, _, _, CR_fr i1 k4 k1, k3, i1, i2⟩

