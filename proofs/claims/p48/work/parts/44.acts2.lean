/-! start, stop, emptyTank, setValve, setInflow. -/
section ACT
variable {hv : HV} {q j : Nat} {f : Nat → Int32} {x : Int32}
theorem encC_uu (J : Nat → Int32) (hj : j < 11 ∨ 15 ≤ j) : encC (upd f j x) J = encC f J := by
  funext k; unfold encC
  rw [upd_n f x (show ¬ 11 = j by omega), upd_n f x (show ¬ 12 = j by omega), upd_n f x (show ¬ 13 = j by omega), upd_n f x (show ¬ 14 = j by omega)]
theorem encO_uu (J : Nat → Int32) (hj : j < 16 ∨ 22 ≤ j) : encO (upd f j x) J = encO f J := by
  funext k; unfold encO
  by_cases a : k < 6
  · rw [if_pos a, if_pos a, upd_n f x (by omega)]
  · rw [if_neg a, if_neg a]
theorem PS_w4 (h : PS hv q f) (hj : j ≤ 10) : PS (up hv 4 q (upd (hv 4 q) j x)) q (upd f j x) := by
  refine ⟨?_, ?_, ?_⟩
  · rw [up_s]
    refine encP_of (fun k hk => ?_) ?_ ?_
    · rw [upd_r, upd_r, PS_4 h hk]
    · rw [upd_n _ _ (by omega), upd_n _ _ (by omega)]; exact PS_411 h
    · rw [upd_n _ _ (by omega), upd_n _ _ (by omega), h.1]; rfl
  · rw [up_n _ _ (by omega), encC_uu _ (by omega)]; exact h.2.1
  · rw [up_n _ _ (by omega), encO_uu _ (by omega)]; exact h.2.2
theorem PS_w11 (h : PS hv q f) : PS (up hv 4 q (upd (hv 4 q) 11 x)) q (upd f 15 x) := by
  refine ⟨?_, ?_, ?_⟩
  · rw [up_s]
    refine encP_of (fun k hk => ?_) ?_ ?_
    · rw [upd_n _ _ (by omega), upd_n _ _ (by omega), PS_4 h hk]
    · rw [upd_s, upd_s]
    · rw [upd_n _ _ (by omega), upd_n _ _ (by omega), h.1]; rfl
  · rw [up_n _ _ (by omega), encC_uu _ (by omega)]; exact h.2.1
  · rw [up_n _ _ (by omega), encO_uu _ (by omega)]; exact h.2.2
theorem PS_w12 (h : PS hv q f) : PS (up hv 4 q (upd (hv 4 q) 12 x)) q (upd f 22 x) := by
  refine ⟨?_, ?_, ?_⟩
  · rw [up_s]
    refine encP_of (fun k hk => ?_) ?_ ?_
    · rw [upd_n _ _ (by omega), upd_n _ _ (by omega), PS_4 h hk]
    · rw [upd_n _ _ (by omega), upd_n _ _ (by omega)]; exact PS_411 h
    · rw [upd_s, upd_s]
  · rw [up_n _ _ (by omega), encC_uu _ (by omega)]; exact h.2.1
  · rw [up_n _ _ (by omega), encO_uu _ (by omega)]; exact h.2.2
theorem PI_5 (h : x = 0 ∨ x = 1) (hf : PI f) : PI (upd f 5 x) := by
  unfold PI at hf ⊢
  simp (decide := true) only [upd_r, if_true, if_false]
  obtain ⟨a0, a1, a2, a3, a4, a5, a6⟩ := hf
  exact ⟨a0, a1, a2, a3, a4, h, a6⟩
theorem PI_9 (h : 0 ≤ x.toInt ∧ x.toInt ≤ 2) (hf : PI f) : PI (upd f 9 x) := by
  unfold PI at hf ⊢
  simp (decide := true) only [upd_r, if_true, if_false]
  obtain ⟨a0, a1, a2, a3, a4, a5, a6, a7, a8, a9⟩ := hf
  exact ⟨a0, a1, a2, a3, a4, a5, a6, a7, h, a9⟩
theorem PI_10 (h : 1 ≤ x.toInt ∧ x.toInt ≤ 500) (hf : PI f) : PI (upd f 10 x) := by
  unfold PI at hf ⊢
  simp (decide := true) only [upd_r, if_true, if_false]
  obtain ⟨a0, a1, a2, a3, a4, a5, a6, a7, a8, a9, a10⟩ := hf
  exact ⟨a0, a1, a2, a3, a4, a5, a6, a7, a8, h, a10⟩
end ACT
def rfRun (r : Int32) (a : Int32) (v : Nat → Int32) : Int32 := if pn v a = 4 then -1001 else if sl v (pn v a) 5 = r then -1003 else 0
def startV (a : Int32) (v : Nat → Int32) : Nat → Int32 := onP v (pn v a) (fun f => upd (upd f 5 1) 22 (v 2))
def stopV (a : Int32) (v : Nat → Int32) : Nat → Int32 := onP v (pn v a) (fun f => openF (upd f 5 0))
def rfTank (a : Int32) (v : Nat → Int32) : Int32 := if pn v a = 4 then -1001 else if sl v (pn v a) 15 = 0 then -1003 else 0
def tankV (a : Int32) (v : Nat → Int32) : Nat → Int32 := onP v (pn v a) (fun f => upd f 15 0)
def rfValve (a k s : Int32) (v : Nat → Int32) : Int32 := if pn v a = 4 then -1001 else if k < 0 then -1002 else if 2 < k then -1002 else if s < 1 then -1002 else if 500 < s then -1002 else if sl v (pn v a) 5 = 1 then -1003 else 0
def valveV (a k s : Int32) (v : Nat → Int32) : Nat → Int32 := onP v (pn v a) (fun f => upd (upd f 9 k) 10 s)
def rfFlow (x : Int32) : Int32 := if x < 0 then -1002 else if 500 < x then -1002 else 0
theorem VI_on {v : Nat → Int32} {p : Nat} {F : (Nat → Int32) → Nat → Int32} (hV : VI v) (hg : PI (F (sl v p))) (h3 : ∀ j, 17 ≤ j → j < 20 → F (sl v p) j = sl v p j) : VI (onP v p F) := VI_pump hV hg h3
theorem VI_start {a : Int32} {v : Nat → Int32} (hV : VI v) (hp : pn v a < cntN v) : VI (startV a v) :=
  VI_on hV (PI_u 22 _ (Or.inl (by omega)) (PI_5 (Or.inr rfl) (hV.2.1 _ hp).1)) (fun j h1 h2 => by rw [upd_n _ _ (by omega), upd_n _ _ (by omega)])
theorem openF_o (f : Nat → Int32) {j : Nat} (h : ¬ j = 6 ∧ ¬ j = 7 ∧ ¬ j = 8) : openF f j = f j := by
  unfold openF; rw [upd_n _ _ h.2.2, upd_n _ _ h.2.1, upd_n _ _ h.1]
theorem VI_stop {a : Int32} {v : Nat → Int32} (hV : VI v) (hp : pn v a < cntN v) : VI (stopV a v) :=
  VI_on hV (PI_open (PI_5 (Or.inl rfl) (hV.2.1 _ hp).1)) (fun j h1 h2 => by rw [openF_o _ (by omega), upd_n _ _ (by omega)])
theorem VI_tank {a : Int32} {v : Nat → Int32} (hV : VI v) (hp : pn v a < cntN v) : VI (tankV a v) :=
  VI_on hV (PI_15 ⟨by decide, by decide⟩ (hV.2.1 _ hp).1) (fun j h1 h2 => by rw [upd_n _ _ (by omega)])
theorem VI_valve {a k s : Int32} {v : Nat → Int32} (hV : VI v) (hr : rfValve a k s v = 0) : VI (valveV a k s v) ∧ pn v a < cntN v := by
  unfold rfValve at hr
  by_cases c : pn v a = 4
  · rw [if_pos c] at hr; exact absurd hr (by decide)
  rw [if_neg c] at hr
  by_cases c1 : k < 0
  · rw [if_pos c1] at hr; exact absurd hr (by decide)
  rw [if_neg c1] at hr
  by_cases c2 : 2 < k
  · rw [if_pos c2] at hr; exact absurd hr (by decide)
  rw [if_neg c2] at hr
  by_cases c3 : s < 1
  · rw [if_pos c3] at hr; exact absurd hr (by decide)
  rw [if_neg c3] at hr
  by_cases c4 : 500 < s
  · rw [if_pos c4] at hr; exact absurd hr (by decide)
  have e2 : (2 : Int32).toInt = 2 := rfl
  have e5 : (500 : Int32).toInt = 500 := rfl
  rw [i_lt, i0] at c1
  rw [i_lt, e2] at c2
  rw [i_lt, i1] at c3
  rw [i_lt, e5] at c4
  have hp : pn v a < cntN v := by
    rcases pn_cases hV a with z | z
    · exact z.1
    · exact absurd z.2 c
  exact ⟨VI_on hV (PI_10 (by omega) (PI_9 (by omega) (hV.2.1 _ hp).1)) (fun j h1 h2 => by rw [upd_n _ _ (by omega), upd_n _ _ (by omega)]), hp⟩
theorem rfRun_p {r a : Int32} {v : Nat → Int32} (hV : VI v) (h : rfRun r a v = 0) : pn v a < cntN v := by
  unfold rfRun at h
  rcases pn_cases hV a with z | z
  · exact z.1
  · rw [if_pos z.2] at h; exact absurd h (by decide)
theorem rfTank_p {a : Int32} {v : Nat → Int32} (hV : VI v) (h : rfTank a v = 0) : pn v a < cntN v := by
  unfold rfTank at h
  rcases pn_cases hV a with z | z
  · exact z.1
  · rw [if_pos z.2] at h; exact absurd h (by decide)
theorem C_start {ex a : Int32} {hv : HV} {v : Nat → Int32} {K : KS} {post : Int32 → HV → Prop} (hI : IV v K) (h : CR hv ex v K) (no : ¬ rfRun 1 a v = 0 → post (rfRun 1 a v) hv)
    (yes : rfRun 1 a v = 0 → ∀ hv', CR hv' ex (startV a v) (keepK ex v K) → cfr hv hv' → post (runN (startV a v)) hv') : V_X8_start a hv post := by
  have hn := hI.1.1.1
  unfold V_X8_start
  rcases pn_cases hI.1 a with ⟨hp, ea⟩ | ⟨hno, e4⟩
  · refine C_yes h hI hp ea ?_
    have hPI := (hI.1.2.1 _ hp).1
    rw [PS_4 (CR_PS h hp) (show 5 ≤ 10 by omega)]
    have n4 : ¬ pn v a = 4 := by omega
    refine ⟨fun c => ?_, fun c => ?_⟩
    · have er : rfRun 1 a v = 0 := by unfold rfRun; rw [if_neg n4, c, if_neg (by decide)]
      refine C_keepK hI h ?_
      intro hv3 k1 k2 k3 hv4 e4 hv5 e5
      have hk := IV_keep ex hI
      have q7 : hv4 7 0 0 = v 2 := by rw [e4, up_n _ _ (by omega)]; exact k1.1.1.1
      have f5 : ∀ c i, ¬ ((c = 4 ∨ c = 0 ∨ c = 2) ∧ i = pn v a) → hv5 c i = hv3 c i := fun c i z => by rw [e5, up_n _ _ (fun y => z ⟨Or.inl y.1, y.2⟩), e4, up_n _ _ (fun y => z ⟨Or.inl y.1, y.2⟩)]
      have k5 : CR hv5 ex (startV a v) (keepK ex v K) := by
        refine CR_on hk k1 hp (fun j a b => by rw [upd_n _ _ (by omega), upd_n _ _ (by omega)]) ?_ f5
        rw [e5, q7, e4]
        exact PS_w12 (PS_w4 (CR_PS k1 hp) (by omega))
      exact C_run k5.1 (VI_start hI.1 hp) (yes er hv5 k5 (cfr_t k2 (cfr_on f5)))
    · have er : rfRun 1 a v = -1003 := by unfold rfRun; rw [if_neg n4, if_pos (hPI.h5.resolve_left c)]
      rw [er] at no
      exact no (by decide)
  · have er : rfRun 1 a v = -1001 := if_pos e4
    rw [er] at no
    exact C_no h hI hno (no (by decide))
theorem C_stop {ex a : Int32} {hv : HV} {v : Nat → Int32} {K : KS} {post : Int32 → HV → Prop} (hI : IV v K) (h : CR hv ex v K) (no : ¬ rfRun 0 a v = 0 → post (rfRun 0 a v) hv)
    (yes : rfRun 0 a v = 0 → ∀ hv', CR hv' ex (stopV a v) (keepK ex v K) → cfr hv hv' → post (runN (stopV a v)) hv') : V_X8_stop a hv post := by
  have hn := hI.1.1.1
  unfold V_X8_stop
  rcases pn_cases hI.1 a with ⟨hp, ea⟩ | ⟨hno, e4⟩
  · refine C_yes h hI hp ea ?_
    have hPI := (hI.1.2.1 _ hp).1
    rw [PS_4 (CR_PS h hp) (show 5 ≤ 10 by omega)]
    have n4 : ¬ pn v a = 4 := by omega
    refine ⟨fun c => ?_, fun c => ?_⟩
    · have er : rfRun 0 a v = -1003 := by unfold rfRun; rw [if_neg n4, if_pos c]
      rw [er] at no
      exact no (by decide)
    · have er : rfRun 0 a v = 0 := by unfold rfRun; rw [if_neg n4, if_neg c]
      refine C_keepK hI h ?_
      intro hv3 k1 k2 k3 hv4 e4
      unfold V_X4_rest
      intro hv5 e5 hv6 e6 hv7 e7
      have hk := IV_keep ex hI
      have f5 : ∀ c i, ¬ ((c = 4 ∨ c = 0 ∨ c = 2) ∧ i = pn v a) → hv7 c i = hv3 c i := fun c i z => by rw [e7, up_n _ _ (fun y => z ⟨Or.inl y.1, y.2⟩), e6, up_n _ _ (fun y => z ⟨Or.inl y.1, y.2⟩), e5, up_n _ _ (fun y => z ⟨Or.inl y.1, y.2⟩), e4, up_n _ _ (fun y => z ⟨Or.inl y.1, y.2⟩)]
      have k5 : CR hv7 ex (stopV a v) (keepK ex v K) := by
        refine CR_on hk k1 hp (fun j a b => by rw [openF_o _ (by omega), upd_n _ _ (by omega)]) ?_ f5
        rw [e7, e6, e5, e4]
        exact PS_w4 (PS_w4 (PS_w4 (PS_w4 (CR_PS k1 hp) (by omega)) (by omega)) (by omega)) (by omega)
      exact C_run k5.1 (VI_stop hI.1 hp) (yes er hv7 k5 (cfr_t k2 (cfr_on f5)))
  · have er : rfRun 0 a v = -1001 := if_pos e4
    rw [er] at no
    exact C_no h hI hno (no (by decide))
theorem C_tank {ex a : Int32} {hv : HV} {v : Nat → Int32} {K : KS} {post : Int32 → HV → Prop} (hI : IV v K) (h : CR hv ex v K) (no : ¬ rfTank a v = 0 → post (rfTank a v) hv)
    (yes : rfTank a v = 0 → ∀ hv', CR hv' ex (tankV a v) (keepK ex v K) → cfr hv hv' → post (sl v (pn v a) 15) hv') : V_X8_emptyTank a hv post := by
  have hn := hI.1.1.1
  unfold V_X8_emptyTank
  rcases pn_cases hI.1 a with ⟨hp, ea⟩ | ⟨hno, e4⟩
  · refine C_yes h hI hp ea ?_
    rw [PS_411 (CR_PS h hp)]
    have n4 : ¬ pn v a = 4 := by omega
    refine ⟨fun c => ?_, fun c => ?_⟩
    · have er : rfTank a v = -1003 := by unfold rfTank; rw [if_neg n4, if_pos c]
      rw [er] at no
      exact no (by decide)
    · have er : rfTank a v = 0 := by unfold rfTank; rw [if_neg n4, if_neg c]
      refine C_keepK hI h ?_
      intro hv3 k1 k2 k3 x4 e4 hv5 e5
      have hk := IV_keep ex hI
      have f5 : ∀ c i, ¬ ((c = 4 ∨ c = 0 ∨ c = 2) ∧ i = pn v a) → hv5 c i = hv3 c i := fun c i z => by rw [e5, up_n _ _ (fun y => z ⟨Or.inl y.1, y.2⟩)]
      have k5 : CR hv5 ex (tankV a v) (keepK ex v K) := by
        refine CR_on hk k1 hp (fun j a b => by rw [upd_n _ _ (by omega)]) ?_ f5
        rw [e5]
        exact PS_w11 (CR_PS k1 hp)
      rw [e4, PS_411 (CR_PS k1 hp)]
      exact yes er hv5 k5 (cfr_t k2 (cfr_on f5))
  · have er : rfTank a v = -1001 := if_pos e4
    rw [er] at no
    exact C_no h hI hno (no (by decide))

