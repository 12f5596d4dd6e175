/-! Trials over the world. -/
def tkey (c i : Nat) : Prop := pkey 36 c i ∨ (c = 14 ∧ i = 0)
/-- the class's trial pump stands for the numbers g -/
def CTr (hv : HV) (g : Nat → Int32) : Prop := ∃ h, PI h ∧ eqE h g ∧ PS hv 36 h
theorem C_tT {hv : HV} {g : Nat → Int32} {post : HV → Prop} (hg : CTr hv g) (hp : ∀ hv', CTr hv' (trialF g) → hv' 5 0 0 = flowF g → hv' 5 0 1 = litF (midF false 0 g) → hv' 5 0 2 = (if slamQ g then 1 else 0) → (∀ c i, ¬ pkey 36 c i → hv' c i = hv c i) → post hv') : V_X8_tickTrial hv post := by
  obtain ⟨h, hP, hE, hS⟩ := hg
  unfold V_X8_tickTrial
  refine C_tickW (by omega) hP hS ?_
  intro hv' hR hS' hf
  have hw := hP.flow
  have e6 : (1000000 : Int32).toInt = 1000000 := by decide
  have ef : flowF h ≤ 1000000 := by rw [i_le, e6]; omega
  obtain ⟨r0, r1, r2, _, _⟩ := hR
  have e1 : st1F (hv 7 0 0) 1000000 h = midF true (hv 7 0 0) h := by unfold st1F; rw [if_pos ef]
  refine hp hv' ⟨_, PI_tick hP _ _, tick_E hP hE _, hS'⟩ ?_ ?_ ?_ hf
  · rw [r0, if_pos ef, hE.flow]
  · rw [r1, e1]; exact (mid_E hE true false _ 0).lit
  · rw [r2]
    by_cases c : slamQ g
    · rw [if_pos c, if_pos ⟨ef, hE.slam.mpr c⟩]
    · rw [if_neg c, if_neg (fun z => c (hE.slam.mp z.2))]
theorem CR_tr {hv hv' : HV} {ex : Int32} {v : Nat → Int32} {K : KS} (hI : IV v K) (h : CR hv ex v K) (f : ∀ c i, ¬ tkey c i → hv' c i = hv c i) : CR hv' ex v K := by
  obtain ⟨h1, h2, h3, ⟨h4, h5⟩, h6⟩ := h
  have f8 : hv' 8 0 = hv 8 0 := f 8 0 (by unfold tkey pkey; omega)
  refine ⟨CS_fr hI.1.1.1 (fun c i z => f c i (fun y => ?_)) h1, CL_fr (fun c i z => f c i (fun y => ?_)) h2, HC_fr hI.2.1.2 (by rw [f8]) (by rw [f8]) (fun c i z _ => f c i (fun y => ?_)) h3, ⟨?_, ?_⟩, by rw [f8]; exact h6⟩
  · unfold skey at z; unfold tkey pkey at y; omega
  · unfold lkey at z; unfold tkey pkey at y; omega
  · unfold hkey at z; unfold tkey pkey at y; omega
  · rw [f 1 0 (by unfold tkey pkey; omega)]; exact h4
  · rw [f 13 0 (by unfold tkey pkey; omega)]; exact h5
theorem tk_p {c i : Nat} (h : ¬ tkey c i) : ¬ pkey 36 c i := fun z => h (Or.inl z)
theorem tk_q {c i : Nat} (h : ¬ tkey c i) : ¬ qkey 36 c i := fun z => h (by unfold qkey at z; unfold tkey pkey; omega)
theorem cfr_tk {hv hv' : HV} (f : ∀ c i, ¬ tkey c i → hv' c i = hv c i) : cfr hv hv' := fun c i h => f c i (by unfold tkey pkey; omega)
/-- the class takes a copy of pump p -/
theorem C_take {ex : Int32} {p : Nat} {hv : HV} {v : Nat → Int32} {K : KS} {post : HV → Prop} (hI : IV v K) (h : CR hv ex v K) (hp : p < cntN v) (q : ∀ hv', PS hv' 36 (sl v p) → (∀ c i, ¬ tkey c i → hv' c i = hv c i) → post hv') : V_X4_copyFrom 36 p hv post := by
  have hn := hI.1.1.1
  have hPI := (hI.1.2.1 p hp).1
  exact C_copyPump (by omega) (by omega) (by omega) (CR_PS h hp) (CR_PG h hp) hPI.h5 hPI.h7 hPI.h12 (fun hv' k1 _ k3 => q hv' k1 (fun c i z => k3 c i (tk_q z)))
theorem CTr_of {hv : HV} {f : Nat → Int32} (hP : PI f) (h : PS hv 36 f) : CTr hv f := ⟨f, hP, eqE_i, h⟩
-- the reference
def rfT (hv hv' : HV) : Prop := ∀ c i, ¬ (i = 0 ∧ (c = 15 ∨ c = 9 ∨ c = 21)) → hv' c i = hv c i
theorem rfT_t {a b c : HV} (h1 : rfT a b) (h2 : rfT b c) : rfT a c := fun k i h => (h2 k i h).trans (h1 k i h)
theorem rfT_i (a : HV) : rfT a a := fun _ _ _ => rfl
def mT (m m' : Nat → Int32) : Prop := ∀ i, ¬ i = 7 → ¬ i = 8 → ¬ i = 9 → m' i = m i
theorem mT_t {a b c : Nat → Int32} (h1 : mT a b) (h2 : mT b c) : mT a c := fun i x y z => (h2 i x y z).trans (h1 i x y z)
theorem rfT_r {hv hv' : HV} (h : rfT hv hv') : rfr hv hv' := fun c i z => h c i (fun y => z (by omega))
theorem trialM_o (g m : Nat → Int32) : mT m (trialM g m) := by
  intro i h7 h8 h9
  unfold trialM
  rw [upd_n _ _ h9, mS_6 _ _ _ h7, upd_n _ _ h8]
theorem trialM_7 (g m : Nat → Int32) : trialM g m 7 = if slamQ g then 1 else m 7 := by
  unfold trialM mS
  rw [upd_n _ _ (by omega)]
  by_cases c : slamQ g
  · rw [if_pos c, if_pos c, upd_s]
  · rw [if_neg c, if_neg c, upd_n _ _ (by omega)]
theorem trialM_8 (g m : Nat → Int32) : trialM g m 8 = m 8 + flowF g := by
  unfold trialM
  rw [upd_n _ _ (by omega), mS_6 _ _ _ (by omega), upd_s]
theorem trialM_9 (g m : Nat → Int32) : trialM g m 9 = m 9 + litF (midF false 0 g) := by
  unfold trialM
  rw [upd_s, mS_6 _ _ _ (by omega), upd_n _ _ (by omega)]
theorem putW_put (v : Nat → Int32) (k : Nat) (f g : Nat → Int32) : putW (putW v k f) k g = putW v k g := by
  funext j
  unfold putW
  by_cases c : k ≤ j ∧ j < k + 73
  · rw [if_pos c, if_pos c]
  · rw [if_neg c, if_neg c, if_neg c]
theorem putW_cg {v f g : Nat → Int32} {k : Nat} (h : ∀ j, j < 73 → f j = g j) : putW v k f = putW v k g := by
  funext j
  unfold putW
  by_cases c : k ≤ j ∧ j < k + 73
  · rw [if_pos c, if_pos c, h _ (by omega)]
  · rw [if_neg c, if_neg c]
/-- the first n of the 73 numbers are copied -/
def mixW (n : Nat) (f g : Nat → Int32) : Nat → Int32 := fun j => if j < n then f j else g j
/-- behind a trial: the relation holds again -/
theorem RX_T {hv hv' : HV} {v v' : Nat → Int32} {K : KS} (h : RX hv v K) (h15 : hv' 15 0 = v') (hm : mT (hv 9 0) (hv' 9 0)) (f : rfT hv hv') : RX hv' v' K := by
  obtain ⟨_, h2, h3, ⟨h4, h5⟩, h6⟩ := h
  refine ⟨h15, ?_, ⟨?_, ?_⟩, ⟨?_, ?_⟩, ?_⟩
  · unfold RH RLm at h2 ⊢
    rw [hm 6 (by omega) (by omega) (by omega), f 17 0 (by omega), f 18 0 (by omega), f 19 0 (by omega)]; exact h2
  · rw [hm 2 (by omega) (by omega) (by omega)]; exact h3.1
  · rw [f 16 0 (by omega)]; exact h3.2
  · rw [hm 11 (by omega) (by omega) (by omega)]; exact h4
  · rw [f 20 0 (by omega)]; exact h5
  · rw [hm 12 (by omega) (by omega) (by omega)]; exact h6
theorem CR_cg {hv : HV} {ex : Int32} {v v' : Nat → Int32} {K : KS} (hI : IV v K) (h : CR hv ex v K) (e : ∀ j, j < 297 → v j = v' j) : CR hv ex v' K := ⟨CS_cg hI.1.1.1 e h.1, h.2⟩
theorem IV_cg {v v' : Nat → Int32} {K : KS} (hI : IV v K) (e : ∀ j, j < 297 → v j = v' j) : IV v' K := ⟨VI_cg e hI.1, hI.2⟩
theorem putW_e {v g : Nat → Int32} (j : Nat) (h : j < 297) : v j = putW v 297 g j := (pw_lo _ _ _ _ h).symm
theorem putW_self (v : Nat → Int32) : v = putW v 297 (fun j => v (297 + j)) := (pw_id v 297).symm
/-- a call that tries: refused alike, or each in its own trial to the same answer -/
theorem J_try {C R : HV → (Int32 → HV → Prop) → Prop} (rf : (Nat → Int32) → Int32) (an : (Nat → Int32) → Int32)
    (hC : ∀ hv v K, IV v K → CR hv 0 v K → ∀ post, (¬ rf v = 0 → post (rf v) hv) → (rf v = 0 → ∀ hv', (∀ c i, ¬ tkey c i → hv' c i = hv c i) → post (an v) hv') → C hv post)
    (hR : ∀ hv v K, IV v K → RX hv v K → K.1.1 < 2 ^ 31 → ∀ post, (¬ rf v = 0 → post (rf v) hv) → (rf v = 0 → ∀ hv' g, hv' 15 0 = putW v 297 g → mT (hv 9 0) (hv' 9 0) → rfT hv hv' → post (an v) hv') → R hv post) : JJ C R := by
  intro B hv hB hRel
  obtain ⟨v, K, h1, h2, h3, h4⟩ := hRel
  refine hC hv v K h3 h1 _ (fun hr => ?_) (fun hr hv1 k1 => ?_)
  · exact hR hv v K h3 h2 (by omega) _ (fun _ => ⟨rfl, v, K, h1, h2, h3, by omega⟩) (fun z => absurd z hr)
  · have h21 := RX_fr (cfr_tk k1) h2
    refine hR hv1 v K h3 h21 (by omega) _ (fun z => absurd hr z) (fun _ hv2 g q1 q2 q3 => ?_)
    have c2 : CR hv2 0 v K := CR_fr h3 (rfT_r q3) (CR_tr h3 h1 k1)
    exact ⟨rfl, putW v 297 g, K, CR_cg h3 c2 putW_e, RX_T h21 q1 q2 q3, IV_cg h3 putW_e, by omega⟩
def rfTr (a x : Int32) (M : Int32) (v : Nat → Int32) : Int32 := if pn v a = 4 then -1001 else if x < 1 then -1002 else if M < x then -1002 else 0
theorem rfTr_b {a x M : Int32} {v : Nat → Int32} {N : Nat} (hM : M = nI N) (hN : N ≤ 500) (hV : VI v) (h : rfTr a x M v = 0) : pn v a < cntN v ∧ a = nI (pn v a) ∧ x = nI x.toNatClampNeg ∧ x.toNatClampNeg ≤ N := by
  unfold rfTr at h
  rcases pn_cases hV a with z | z
  · have hn := hV.1.1
    rw [if_neg (by omega)] at h
    by_cases c1 : x < 1
    · rw [if_pos c1] at h; exact absurd h (by decide)
    rw [if_neg c1] at h
    by_cases c2 : M < x
    · rw [if_pos c2] at h; exact absurd h (by decide)
    rw [i_lt, i1] at c1
    have n0 : ¬ x < 0 := by rw [i_lt, i0]; omega
    obtain ⟨j, hj, e⟩ := nI_of n0
    subst e
    rw [hM, nI_ltI (by omega) hj] at c2
    rw [nI_clamp hj]
    exact ⟨z.1, z.2, rfl, by omega⟩
  · rw [if_pos z.2] at h; exact absurd h (by decide)
