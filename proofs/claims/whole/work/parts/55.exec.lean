/-! execute: one command. -/
def withF (K : KS) (r : Int32) : KS := (K.1, K.2.1, K.2.2.1, r)
def kdV (v : Nat → Int32) (w : Int32) : Int32 := if pn v w = 4 then 0 else sl v (pn v w) 9
def cmR (c w x : Int32) (v : Nat → Int32) : Int32 := if c = 114 then rfRun 1 w v else if c = 104 then rfRun 0 w v else if c = 101 then rfTank w v else if c = 115 then rfValve w (kdV v w) x v else if c = 105 then rfFlow x else rfPass x v
def cmS (c w x : Int32) (v : Nat → Int32) (K : KS) : (Nat → Int32) × KS := if c = 114 then (startV w v, K) else if c = 104 then (stopV w v, K) else if c = 101 then (tankV w v, K) else if c = 115 then (valveV w (kdV v w) x v, K) else if c = 105 then (upd v 1 x, K) else passV x v K
def cmA (c w x : Int32) (v : Nat → Int32) (K : KS) : Int32 := if c = 114 then runN (startV w v) else if c = 104 then runN (stopV w v) else if c = 101 then sl v (pn v w) 15 else if c = 115 then sl v (pn v w) 10 else if c = 105 then v 1 else (passE x v K).2.2
section CM
variable {w x : Int32} {v : Nat → Int32} {K : KS}
theorem cmR_r : cmR 114 w x v = rfRun 1 w v := by unfold cmR; simp (decide := true) only [if_true, if_false]
theorem cmR_h : cmR 104 w x v = rfRun 0 w v := by unfold cmR; simp (decide := true) only [if_true, if_false]
theorem cmR_e : cmR 101 w x v = rfTank w v := by unfold cmR; simp (decide := true) only [if_true, if_false]
theorem cmR_s : cmR 115 w x v = rfValve w (kdV v w) x v := by unfold cmR; simp (decide := true) only [if_true, if_false]
theorem cmR_i : cmR 105 w x v = rfFlow x := by unfold cmR; simp (decide := true) only [if_true, if_false]
theorem cmR_w : cmR 119 w x v = rfPass x v := by unfold cmR; simp (decide := true) only [if_true, if_false]
theorem cmS_r : cmS 114 w x v K = (startV w v, K) := by unfold cmS; simp (decide := true) only [if_true, if_false]
theorem cmS_h : cmS 104 w x v K = (stopV w v, K) := by unfold cmS; simp (decide := true) only [if_true, if_false]
theorem cmS_e : cmS 101 w x v K = (tankV w v, K) := by unfold cmS; simp (decide := true) only [if_true, if_false]
theorem cmS_s : cmS 115 w x v K = (valveV w (kdV v w) x v, K) := by unfold cmS; simp (decide := true) only [if_true, if_false]
theorem cmS_i : cmS 105 w x v K = (upd v 1 x, K) := by unfold cmS; simp (decide := true) only [if_true, if_false]
theorem cmS_w : cmS 119 w x v K = passV x v K := by unfold cmS; simp (decide := true) only [if_true, if_false]
theorem cmA_r : cmA 114 w x v K = runN (startV w v) := by unfold cmA; simp (decide := true) only [if_true, if_false]
theorem cmA_h : cmA 104 w x v K = runN (stopV w v) := by unfold cmA; simp (decide := true) only [if_true, if_false]
theorem cmA_e : cmA 101 w x v K = sl v (pn v w) 15 := by unfold cmA; simp (decide := true) only [if_true, if_false]
theorem cmA_s : cmA 115 w x v K = sl v (pn v w) 10 := by unfold cmA; simp (decide := true) only [if_true, if_false]
theorem cmA_i : cmA 105 w x v K = v 1 := by unfold cmA; simp (decide := true) only [if_true, if_false]
theorem cmA_w : cmA 119 w x v K = (passE x v K).2.2 := by unfold cmA; simp (decide := true) only [if_true, if_false]
def let6 (c : Int32) : Prop := c = 114 ∨ c = 104 ∨ c = 101 ∨ c = 115 ∨ c = 105 ∨ c = 119
def refV (r : Int32) : Prop := r = 0 ∨ r = -1001 ∨ r = -1002 ∨ r = -1003
theorem refV_n {r : Int32} (h : refV r) (hn : ¬ r = 0) : ¬ 0 ≤ r := by
  rcases h with h | h | h | h
  · exact absurd h hn
  · rw [h]; decide
  · rw [h]; decide
  · rw [h]; decide
theorem refV_run {r a : Int32} : refV (rfRun r a v) := by
  unfold rfRun refV
  by_cases c : pn v a = 4
  · rw [if_pos c]; exact Or.inr (Or.inl rfl)
  rw [if_neg c]
  by_cases d : sl v (pn v a) 5 = r
  · rw [if_pos d]; exact Or.inr (Or.inr (Or.inr rfl))
  · rw [if_neg d]; exact Or.inl rfl
theorem refV_tank {a : Int32} : refV (rfTank a v) := by
  unfold rfTank refV
  by_cases c : pn v a = 4
  · rw [if_pos c]; exact Or.inr (Or.inl rfl)
  rw [if_neg c]
  by_cases d : sl v (pn v a) 15 = 0
  · rw [if_pos d]; exact Or.inr (Or.inr (Or.inr rfl))
  · rw [if_neg d]; exact Or.inl rfl
theorem refV_valve {a k s : Int32} : refV (rfValve a k s v) := by
  unfold rfValve refV
  by_cases c : pn v a = 4
  · rw [if_pos c]; exact Or.inr (Or.inl rfl)
  rw [if_neg c]
  by_cases c1 : k < 0
  · rw [if_pos c1]; exact Or.inr (Or.inr (Or.inl rfl))
  rw [if_neg c1]
  by_cases c2 : 2 < k
  · rw [if_pos c2]; exact Or.inr (Or.inr (Or.inl rfl))
  rw [if_neg c2]
  by_cases c3 : s < 1
  · rw [if_pos c3]; exact Or.inr (Or.inr (Or.inl rfl))
  rw [if_neg c3]
  by_cases c4 : 500 < s
  · rw [if_pos c4]; exact Or.inr (Or.inr (Or.inl rfl))
  rw [if_neg c4]
  by_cases d : sl v (pn v a) 5 = 1
  · rw [if_pos d]; exact Or.inr (Or.inr (Or.inr rfl))
  · rw [if_neg d]; exact Or.inl rfl
theorem refV_flow : refV (rfFlow x) := by
  unfold rfFlow refV
  by_cases c : x < 0
  · rw [if_pos c]; exact Or.inr (Or.inr (Or.inl rfl))
  rw [if_neg c]
  by_cases d : 500 < x
  · rw [if_pos d]; exact Or.inr (Or.inr (Or.inl rfl))
  · rw [if_neg d]; exact Or.inl rfl
theorem refV_pass : refV (rfPass x v) := by
  unfold rfPass refV
  by_cases c : x < 1
  · rw [if_pos c]; exact Or.inr (Or.inr (Or.inl rfl))
  rw [if_neg c]
  by_cases d : 200 < x
  · rw [if_pos d]; exact Or.inr (Or.inr (Or.inl rfl))
  rw [if_neg d]
  by_cases e : v 2 + x ≤ 20000
  · rw [if_pos e]; exact Or.inl rfl
  · rw [if_neg e]; exact Or.inr (Or.inr (Or.inr rfl))
theorem cmR_n {c : Int32} (hc : let6 c) (hn : ¬ cmR c w x v = 0) : ¬ 0 ≤ cmR c w x v := by
  refine refV_n ?_ hn
  rcases hc with e | e | e | e | e | e <;> subst e
  · rw [cmR_r]; exact refV_run
  · rw [cmR_h]; exact refV_run
  · rw [cmR_e]; exact refV_tank
  · rw [cmR_s]; exact refV_valve
  · rw [cmR_i]; exact refV_flow
  · rw [cmR_w]; exact refV_pass
theorem cmS_K {c : Int32} (hc : let6 c) : (cmS c w x v K).2.2 = K.2 := by
  rcases hc with e | e | e | e | e | e <;> subst e
  · rw [cmS_r]
  · rw [cmS_h]
  · rw [cmS_e]
  · rw [cmS_s]
  · rw [cmS_i]
  · rw [cmS_w]; rfl
theorem IV_cm {B : Nat} {c : Int32} (hc : let6 c) (hI : IV v K) (hL : K.1.1 ≤ B) (hr : cmR c w x v = 0) : IV (cmS c w x v K).1 (cmS c w x v K).2 ∧ (cmS c w x v K).2.1.1 ≤ B + 1600 := by
  rcases hc with e | e | e | e | e | e <;> subst e
  · rw [cmR_r] at hr; rw [cmS_r]; exact ⟨⟨VI_start hI.1 (rfRun_p hI.1 hr), hI.2⟩, by show K.1.1 ≤ _; omega⟩
  · rw [cmR_h] at hr; rw [cmS_h]; exact ⟨⟨VI_stop hI.1 (rfRun_p hI.1 hr), hI.2⟩, by show K.1.1 ≤ _; omega⟩
  · rw [cmR_e] at hr; rw [cmS_e]; exact ⟨⟨VI_tank hI.1 (rfTank_p hI.1 hr), hI.2⟩, by show K.1.1 ≤ _; omega⟩
  · rw [cmR_s] at hr; rw [cmS_s]; exact ⟨⟨(VI_valve hI.1 hr).1, hI.2⟩, by show K.1.1 ≤ _; omega⟩
  · rw [cmR_i] at hr; rw [cmS_i]; exact ⟨⟨VI_flow hI.1 hr, hI.2⟩, by show K.1.1 ≤ _; omega⟩
  · rw [cmR_w] at hr; rw [cmS_w]; exact IV_pass hI hr hL
end CM
theorem C_num {t i : Nat} {tx : Nat → Int32} {hv : HV} {post : Int32 → HV → Prop} (h : CTx hv t tx) (hi : i + 3 < 2 ^ 31) (d : dgv (sg t tx i)) (q : post (nvF t tx i) hv) : V_X1_numberAt (nI i) hv post := by
  have st : ∀ (k n : Nat) (x : Int32), k < 3 → (dgv (sg t tx (i + k)) → V_X1_numberAt_4 (nI i) post n (x * 10 + sg t tx (i + k) - 48) (nI (i + (k + 1))) hv) → (¬ dgv (sg t tx (i + k)) → post x hv) → V_X1_numberAt_4 (nI i) post (n + 1) x (nI (i + k)) hv := by
    intro k n x hk y nn
    rw [V_X1_numberAt_4]
    refine ⟨fun c => ?_, fun _ => C_signAt h (by omega) (C_isDigit ?_)⟩
    · have c2 : nI (i + 3) ≤ nI (i + k) := by rw [← nI_add i 3]; exact c
      rw [nI_leI (by omega) (by omega)] at c2; omega
    · by_cases e : dgv (sg t tx (i + k))
      · rw [if_pos e]
        refine ⟨fun z => absurd z (by decide), fun _ => C_signAt h (by omega) ?_⟩
        intro x6 e6 x7 e7
        rw [e6, e7, nI_1]
        exact y e
      · rw [if_neg e]
        exact ⟨fun _ => nn e, fun z => absurd rfl z⟩
  unfold V_X1_numberAt
  refine ⟨4, ?_⟩
  refine st 0 3 0 (by omega) (fun d0 => ?_) (fun z => absurd d z)
  rw [Int32.zero_mul, Int32.zero_add]
  unfold nvF at q
  by_cases d1 : dgv (sg t tx (i + 1))
  · rw [if_pos d1] at q
    refine st 1 2 _ (by omega) (fun _ => ?_) (fun z => absurd d1 z)
    by_cases d2 : dgv (sg t tx (i + 2))
    · rw [if_pos d2] at q
      refine st 2 1 _ (by omega) (fun _ => ?_) (fun z => absurd d2 z)
      rw [V_X1_numberAt_4]
      refine ⟨fun _ => ?_, fun c => absurd (show nI i + nI 3 ≤ nI (i + 3) by rw [nI_add]; exact nI_le (Nat.le_refl _) (by omega)) c⟩
      rw [Int32.mul_comm _ 10, Int32.mul_comm _ 10]
      exact q
    · rw [if_neg d2] at q
      refine st 2 1 _ (by omega) (fun z => absurd z d2) (fun _ => ?_)
      rw [Int32.mul_comm _ 10]
      exact q
  · rw [if_neg d1] at q
    exact st 1 2 _ (by omega) (fun z => absurd z d1) (fun _ => q)
theorem C_kind {ex w : Int32} {hv : HV} {v : Nat → Int32} {K : KS} {post : Int32 → HV → Prop} (hI : IV v K) (h : CR hv ex v K) (q : post (kdV v w) hv) : V_X8_valveKindOf w hv post := by
  unfold V_X8_valveKindOf
  unfold kdV at q
  rcases pn_cases hI.1 w with ⟨hp, ea⟩ | ⟨hno, e4⟩
  · have hn := hI.1.1.1
    rw [if_neg (by omega)] at q
    refine C_yes h hI hp ea ?_
    rw [PS_4 (CR_PS h hp) (by omega)]; exact q
  · rw [if_pos e4] at q
    exact C_no h hI hno q
theorem C_perform {B i t : Nat} {tx : Nat → Int32} {hv : HV} {v : Nat → Int32} {K : KS} {post : Int32 → HV → Prop} (hB : B + 65000 < 2 ^ 31) (hL : K.1.1 ≤ B + 63000) (hI : IV v K) (h : CR hv 1 v K) (eT : K.2.2.1 = (t, tx)) (hi : i ≤ t) (ok : okF t tx i) (nd : ¬ dgv (sg t tx (bF t tx i)))
    (no : ¬ cmR (sg t tx i) (whF t tx i) (vaF t tx i) v = 0 → post (cmR (sg t tx i) (whF t tx i) (vaF t tx i) v) hv)
    (yes : cmR (sg t tx i) (whF t tx i) (vaF t tx i) v = 0 → ∀ hv', CR hv' 1 (cmS (sg t tx i) (whF t tx i) (vaF t tx i) v K).1 (cmS (sg t tx i) (whF t tx i) (vaF t tx i) v K).2 → cfr hv hv' → post (cmA (sg t tx i) (whF t tx i) (vaF t tx i) v K) hv') : V_X8_perform (nI i) hv post := by
  have hT : CTx hv t tx := by
    have z := CR_CT h hI
    rw [eT] at z; exact z
  have ht := hT.2.1
  have kk := keepK_1 v K
  unfold V_X8_perform
  rw [nI_1, show nI i + 3 = nI (i + 3) from nI_add i 3]
  generalize ew : whF t tx i = w at no yes
  generalize ev : vaF t tx i = x at no yes
  rcases ok with ⟨l, d⟩ | ⟨l, d, e2, d3⟩ | ⟨l, d⟩
  · obtain ⟨n1, n2, n3⟩ := letP_n l
    have eb : bF t tx i = i + 2 := by unfold bF; rw [if_neg n1, if_neg n2, if_neg n3]
    rw [eb] at nd
    have en : nvF t tx (i + 1) = w := by
      rw [← ew]; unfold nvF whF
      rw [if_neg n2, if_neg n3, if_neg nd]
    refine C_num hT (by omega) d (C_signAt hT (by omega) ?_)
    rw [en]
    rcases l with c | c | c
    · rw [c] at no yes ⊢
      rw [cmR_r] at no yes
      rw [cmS_r, cmA_r] at yes
      exact ⟨fun z => absurd z (by decide), fun _ => ⟨fun z => absurd z (by decide), fun _ => ⟨fun z => absurd z (by decide), fun _ => ⟨fun _ => C_start hI h no (fun hr hv' k1 k2 => yes hr hv' (by rw [kk] at k1; exact k1) k2), fun z => absurd rfl z⟩⟩⟩⟩
    · rw [c] at no yes ⊢
      rw [cmR_h] at no yes
      rw [cmS_h, cmA_h] at yes
      exact ⟨fun z => absurd z (by decide), fun _ => ⟨fun _ => C_stop hI h no (fun hr hv' k1 k2 => yes hr hv' (by rw [kk] at k1; exact k1) k2), fun z => absurd rfl z⟩⟩
    · rw [c] at no yes ⊢
      rw [cmR_e] at no yes
      rw [cmS_e, cmA_e] at yes
      exact ⟨fun _ => C_tank hI h no (fun hr hv' k1 k2 => yes hr hv' (by rw [kk] at k1; exact k1) k2), fun z => absurd rfl z⟩
  · have n2 : ¬ sg t tx i = 105 := by rw [l]; decide
    have n3 : ¬ sg t tx i = 119 := by rw [l]; decide
    have en : nvF t tx (i + 1) = w := by
      rw [← ew]; unfold nvF whF
      rw [if_neg n2, if_neg n3, if_neg (show ¬ dgv (sg t tx (i + 1 + 1)) by rw [e2]; decide)]
    have ev2 : nvF t tx (i + 3) = x := by
      rw [← ev]; unfold vaF; rw [if_pos l]
    refine C_num hT (by omega) d (C_signAt hT (by omega) ?_)
    rw [en]
    rw [l] at no yes ⊢
    rw [cmR_s] at no yes
    rw [cmS_s, cmA_s] at yes
    refine ⟨fun z => absurd z (by decide), fun _ => ⟨fun z => absurd z (by decide), fun _ => ⟨fun z => absurd z (by decide), fun _ => ⟨fun z => absurd z (by decide), fun _ => ⟨fun _ => C_kind hI h (C_num hT (by omega) d3 ?_), fun z => absurd rfl z⟩⟩⟩⟩⟩
    rw [ev2]
    exact C_valve hI h no (fun hr hv' k1 k2 => yes hr hv' (by rw [kk] at k1; exact k1) k2)
  · obtain ⟨n1, n2⟩ := letN_n l
    have en : nvF t tx (i + 1) = x := by
      rw [← ev]; unfold vaF; rw [if_neg n1]
      have l' : sg t tx i = 105 ∨ sg t tx i = 119 := l
      rcases l' with z | z
      · rw [if_pos z]
      · rw [if_pos z]; split <;> rfl
    refine C_num hT (by omega) d (C_signAt hT (by omega) ?_)
    rw [en]
    rcases l with c | c
    · rw [c] at no yes ⊢
      rw [cmR_i] at no yes
      rw [cmS_i, cmA_i] at yes
      exact ⟨fun z => absurd z (by decide), fun _ => ⟨fun z => absurd z (by decide), fun _ => ⟨fun _ => C_flow hI h no (fun hr hv' k1 k2 => yes hr hv' (by rw [kk] at k1; exact k1) k2), fun z => absurd rfl z⟩⟩⟩
    · rw [c] at no yes ⊢
      rw [cmR_w] at no yes
      rw [cmS_w, cmA_w] at yes
      exact ⟨fun z => absurd z (by decide), fun _ => ⟨fun z => absurd z (by decide), fun _ => ⟨fun z => absurd z (by decide), fun _ => ⟨fun z => absurd z (by decide), fun _ => ⟨fun z => absurd z (by decide), fun _ => C_pass hB hL hI h no (fun hr hv' k1 k2 => by rw [kk] at k1 ⊢; exact yes hr hv' k1 k2)⟩⟩⟩⟩⟩
theorem okF_6 {t a : Nat} {tx : Nat → Int32} (h : okF t tx a) : let6 (sg t tx a) := by
  unfold let6
  rcases h with ⟨l, _⟩ | ⟨l, _⟩ | ⟨l, _⟩
  · rcases l with z | z | z
    · exact Or.inl z
    · exact Or.inr (Or.inl z)
    · exact Or.inr (Or.inr (Or.inl z))
  · exact Or.inr (Or.inr (Or.inr (Or.inl l)))
  · rcases l with z | z
    · exact Or.inr (Or.inr (Or.inr (Or.inr (Or.inl z))))
    · exact Or.inr (Or.inr (Or.inr (Or.inr (Or.inr z))))
theorem nI_n5 {k : Nat} (h : k < 2 ^ 31) : ¬ nI k = -1005 := fun e => by
  have z := congrArg Int32.toInt e
  rw [nI_toInt h] at z
  have q : (-1005 : Int32).toInt = -1005 := by decide
  omega
theorem okF_of {t a : Nat} {tx : Nat → Int32} (ht : t ≤ 40) (ha : a ≤ t) (h : errF t tx 0 a = -1005) : okF t tx a := by
  by_cases l1 : letP (sg t tx a)
  · rw [(err_P ha l1).2] at h
    by_cases d : dgv (sg t tx (a + 1))
    · exact Or.inl ⟨l1, d⟩
    · rw [if_neg d] at h; exact absurd h (nI_n5 (by omega))
  by_cases l2 : sg t tx a = 115
  · rw [(err_S ha l2).2] at h
    by_cases d : dgv (sg t tx (a + 1))
    · rw [if_pos d] at h
      by_cases e : sg t tx (a + 2) = 61
      · rw [if_pos e] at h
        by_cases d3 : dgv (sg t tx (a + 3))
        · exact Or.inr (Or.inl ⟨l2, d, e, d3⟩)
        · rw [if_neg d3] at h; exact absurd h (nI_n5 (by omega))
      · rw [if_neg e] at h; exact absurd h (nI_n5 (by omega))
    · rw [if_neg d] at h; exact absurd h (nI_n5 (by omega))
  by_cases l3 : letN (sg t tx a)
  · rw [(err_N ha l3).2] at h
    by_cases d : dgv (sg t tx (a + 1))
    · exact Or.inr (Or.inr ⟨l3, d⟩)
    · rw [if_neg d] at h; exact absurd h (nI_n5 (by omega))
  · have hp : pl (sg t tx a) = -1 := pl_no (fun z => l1 (Or.inl z)) (fun z => l1 (Or.inr (Or.inl z))) (fun z => l1 (Or.inr (Or.inr z))) l2 (fun z => l3 (Or.inl z)) (fun z => l3 (Or.inr z))
    rw [err_0 ha, if_pos hp] at h
    exact absurd h (nI_n5 (by omega))
/-- behind a command of a correct text: the end, or a semicolon and a correct rest -/
theorem fin_of {t b : Nat} {tx : Nat → Int32} (ht : t ≤ 40) (hb : b ≤ t) (h : finF t tx b = -1005) : ¬ dgv (sg t tx b) ∧ (b = t ∨ (b + 1 < t ∧ sg t tx b = 59 ∧ errF t tx 0 (b + 1) = -1005)) := by
  unfold finF at h
  by_cases c : b = t
  · subst c
    exact ⟨by rw [sg_t]; decide, Or.inl rfl⟩
  · rw [if_neg c] at h
    by_cases e : sg t tx b = 59
    · rw [if_pos e] at h
      refine ⟨by rw [e]; exact dg59, Or.inr ⟨?_, e, h⟩⟩
      by_cases d : b + 1 = t
      · rw [d, err_t, if_pos (by decide)] at h
        exact absurd h (nI_n5 (by omega))
      · omega
    · rw [if_neg e] at h; exact absurd h (nI_n5 (by omega))
