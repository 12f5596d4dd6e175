section RT3
variable {k : Nat} {hv : HV} {N f m kd pu ti : Nat → Int32} {a2 : Int32}
theorem iM_0 (m : Nat → Int32) : iM 0 m = m := rfl
theorem iK_0 (m r : Nat → Int32) (v : Int32) : iK 0 m r v = r := rfl
theorem iM_6 {m : Nat → Int32} (kind : Int32) (i : Nat) (h : ¬ i = 6) : iM kind m i = m i := by
  unfold iM
  by_cases c : kind = 0
  · rw [if_pos c]
  · rw [if_neg c, upd_n _ _ h]
theorem iK_v {kind v : Int32} (h : kind = 0 ∨ kind = v) (m r : Nat → Int32) : iK kind m r v = iK kind m r kind := by
  rcases h with rfl | rfl
  · rfl
  · rfl
theorem mS_6 (f m : Nat → Int32) (i : Nat) (h : ¬ i = 7) : mS f m i = m i := by
  unfold mS
  by_cases c : f 7 = 0 ∧ slamsF (gain1F f (flowF f))
  · rw [if_pos c, upd_n _ _ h]
  · rw [if_neg c]
theorem iK_c (kind : Int32) (m m2 r : Nat → Int32) (v : Int32) (h : m 6 = m2 6) : iK kind m r v = iK kind m2 r v := by unfold iK plI; rw [h]
theorem slamF_f (t t2 : Int32) (f : Nat → Int32) : slamF false t f = slamF false t2 f := rfl
theorem midF_f (t t2 : Int32) (f : Nat → Int32) : midF false t f = midF false t2 f := rfl
/-- the middle of a tick: the valve open or closed -/
theorem R_mid {st : Bool} {post : HV → Prop} (hk : 5 ≤ k) (hst : (st = true ∧ ¬ a2 < 0) ∨ (st = false ∧ a2 < 0)) (h6 : ¬ m 6 < 0) (hf1 : ¬ f 1 = 0) (hsp : f 7 = 0 ∨ ¬ f 11 - (f 13 + takeF f (flowF f)) = 0)
    (hp : post (mkR hv (putW N k (midF st (N 2) f)) (iM (midI st f) (mS f m)) (iK (midI st f) (mS f m) kd (midI st f)) (iK (midI st f) (mS f m) pu a2) (iK (midI st f) (mS f m) ti (N 2)))) :
    ((f 7 = 0 → V_X9_gain k a2 (flowF f) (mkR hv (putW N k f) m kd pu ti) post) ∧ (¬ (f 7 = 0) → V_X9_push k a2 (flowF f) (mkR hv (putW N k f) m kd pu ti) post)) := by
  have hc : ∀ r v, iK (midI st f) (mS f m) r v = iK (midI st f) m r v := fun r v => iK_c _ _ _ _ _ (mS_6 _ _ _ (by omega))
  rw [hc, hc, hc] at hp
  refine ⟨fun c => ?_, fun c => ?_⟩
  · have e1 : midF st (N 2) f = gainF st (N 2) f (flowF f) := by unfold midF; rw [if_pos c]
    have e2 : midI st f = gainI st f (flowF f) := by unfold midI; rw [if_pos c]
    have e3 : mS f m = if slamsF (gain1F f (flowF f)) then upd m 7 1 else m := by
      unfold mS
      by_cases d : slamsF (gain1F f (flowF f))
      · rw [if_pos ⟨c, d⟩, if_pos d]
      · rw [if_neg (fun z => d z.2), if_neg d]
    rw [e1, e2, e3, ← iK_v (v := 4) (by unfold gainI; split <;> simp)] at hp
    exact R_gain hk hst h6 hf1 hp
  · have e1 : midF st (N 2) f = pushF f (flowF f) := by unfold midF; rw [if_neg c]
    have e2 : midI st f = pushI st f (flowF f) := by unfold midI; rw [if_neg c]
    have e3 : mS f m = m := by unfold mS; rw [if_neg (fun z => c z.1)]
    rw [e1, e2, e3, ← iK_v (v := 2) (by unfold pushI; split <;> simp)] at hp
    exact R_push hk hst h6 hf1 (hsp.resolve_left c) hp
theorem iM_n6 {m : Nat → Int32} (kind : Int32) (h : 0 ≤ (m 6).toInt) (h2 : (m 6).toInt < 2147483647) : ¬ iM kind m 6 < 0 := by
  unfold iM
  by_cases c : kind = 0
  · rw [if_pos c, Int32.lt_iff_toInt_lt]
    show ¬ (m 6).toInt < 0
    omega
  · rw [if_neg c, upd_s, Int32.lt_iff_toInt_lt, Int32.toInt_add]
    show ¬ ((m 6).toInt + 1).bmod _ < 0
    rw [Int.bmod_eq_of_le (by show -(4294967296 / 2 : Int) ≤ _; omega) (by show _ < ((4294967296 + 1) / 2 : Int); omega)]
    omega
theorem R_tickT {post : HV → Prop} (hk : 5 ≤ k) (ha : a2 < 0) (h6 : ¬ m 6 < 0) (hf1 : ¬ f 1 = 0) (hsp : f 7 = 0 ∨ ¬ f 11 - (f 13 + takeF f (flowF f)) = 0) (hd : ¬ (midF false 0 f) 11 - (midF false 0 f) 13 = 0)
    (hp : post (mkR hv (putW N k (trialF f)) (trialM f m) kd pu ti)) : V_X9_tick k a2 (mkR hv (putW N k f) m kd pu ti) post := by
  unfold V_X9_tick
  simp only [forall_eq, mkR_15, mkR_9, mkR_w9, pw_lo _ _ _ _ (show 0 < k by omega), pw_wlo _ _ _ _ _ (show 0 < k by omega), mkR_w15, pw_r _ _ _ _ (show 2 < 73 by omega), pw_r _ _ _ _ (show 6 < 73 by omega), pw_r _ _ _ _ (show 7 < 73 by omega)]
  refine ⟨fun _ => ⟨fun _ => ?_, fun z => absurd ha z⟩, fun z => absurd ha z⟩
  have eN : upd N 0 (N 0 - 0) = N := fa_same (Int32.sub_zero (N 0)).symm
  rw [eN]
  have h60 : ¬ (upd m 8 (m 8 + flowF f)) 6 < 0 := by rw [upd_n _ _ (by omega)]; exact h6
  have e0 : midI false f = 0 := by
    unfold midI gainI pushI
    simp
  have key := R_mid (st := false) (m := upd m 8 (m 8 + flowF f)) (kd := kd) (pu := pu) (ti := ti) (N := N) (hv := hv) (post := fun hv7 => V_X9_tick_120 k a2 post hv7) hk (Or.inr ⟨rfl, ha⟩) h60 hf1 hsp ?_
  · exact ⟨key.1, key.2⟩
  rw [e0, iM_0, iK_0, iK_0, iK_0]
  show V_X9_tick_120 k a2 post _
  unfold V_X9_tick_120
  have h61 : ¬ (mS f (upd m 8 (m 8 + flowF f))) 6 < 0 := by rw [mS_6 _ _ _ (by omega)]; exact h60
  have e1 : delI false (midF false (N 2) f) = 0 := by unfold delI; simp
  refine R_deliver (st := false) hk (Or.inr ⟨rfl, ha⟩) h61 hd ?_
  rw [e1, iM_0, iK_0, iK_0, iK_0]
  exact ⟨fun _ => hp, fun z => absurd ha z⟩
theorem R_tickS {post : HV → Prop} (hk : 5 ≤ k) (ha : ¬ a2 < 0) (h6 : 0 ≤ (m 6).toInt) (h62 : (m 6).toInt < 2147483647) (hf1 : ¬ f 1 = 0) (hsp : f 7 = 0 ∨ ¬ f 11 - (f 13 + takeF f (flowF f)) = 0) (hd : ¬ (st1F (N 2) (N 0) f) 11 - (st1F (N 2) (N 0) f) 13 = 0)
    (hp : post (mkR hv (putW (upd N 0 (basF (N 0) f)) k (tickF (N 2) (N 0) f)) (iM (delI true (st1F (N 2) (N 0) f)) (tkM (N 2) (N 0) f m)) (tkK (N 2) (N 0) f m kd (st1I (N 0) f) 3) (tkK (N 2) (N 0) f m pu a2 a2) (tkK (N 2) (N 0) f m ti (N 2) (N 2)))) : V_X9_tick k a2 (mkR hv (putW N k f) m kd pu ti) post := by
  have h60 : ¬ m 6 < 0 := by rw [Int32.lt_iff_toInt_lt]; show ¬ (m 6).toInt < 0; omega
  have tail : ∀ N' : Nat → Int32, N' 2 = N 2 → N' = upd N 0 (basF (N 0) f) → V_X9_tick_120 k a2 post (mkR hv (putW N' k (st1F (N 2) (N 0) f)) (iM (st1I (N 0) f) (st1M (N 0) f m)) (iK (st1I (N 0) f) (st1M (N 0) f m) kd (st1I (N 0) f)) (iK (st1I (N 0) f) (st1M (N 0) f m) pu a2) (iK (st1I (N 0) f) (st1M (N 0) f m) ti (N 2))) := by
    intro N' h2 hN'
    unfold V_X9_tick_120
    have e6 : (st1M (N 0) f m) 6 = m 6 := by
      unfold st1M
      by_cases c : flowF f ≤ N 0
      · rw [if_pos c, mS_6 _ _ _ (by omega), upd_n _ _ (by omega)]
      · rw [if_neg c]
    refine R_deliver (st := true) hk (Or.inl ⟨rfl, ha⟩) (iM_n6 _ (by rw [e6]; exact h6) (by rw [e6]; exact h62)) hd ?_
    refine ⟨fun z => absurd z ha, fun _ => ?_⟩
    refine R_addTrace ?_
    rw [h2, hN']
    have q : ∀ r v, iK (delI true (st1F (N 2) (N 0) f)) (iM (st1I (N 0) f) (st1M (N 0) f m)) r v = iK (delI true (st1F (N 2) (N 0) f)) (tkM (N 2) (N 0) f m) r v := fun r v => iK_c _ _ _ _ _ (by unfold tkM; rw [upd_n _ _ (by omega)])
    rw [q, q, q]
    exact hp
  unfold V_X9_tick
  simp only [forall_eq, mkR_15, mkR_9, mkR_w9, pw_lo _ _ _ _ (show 0 < k by omega), pw_wlo _ _ _ _ _ (show 0 < k by omega), mkR_w15, pw_r _ _ _ _ (show 2 < 73 by omega), pw_r _ _ _ _ (show 6 < 73 by omega), pw_r _ _ _ _ (show 7 < 73 by omega)]
  refine ⟨fun z => absurd z ha, fun _ => ⟨fun c => ⟨fun z => absurd z ha, fun _ => ?_⟩, fun c => ?_⟩⟩
  · have h61 : ¬ (upd m 8 (m 8 + flowF f)) 6 < 0 := by rw [upd_n _ _ (by omega)]; exact h60
    have c' : flowF f ≤ N 0 := c
    have e1 : st1F (N 2) (N 0) f = midF true (N 2) f := by unfold st1F; rw [if_pos c']
    have e2 : st1I (N 0) f = midI true f := by unfold st1I; rw [if_pos c']
    have e3 : st1M (N 0) f m = mS f (upd m 8 (m 8 + flowF f)) := by unfold st1M; rw [if_pos c']
    have e4 : basF (N 0) f = N 0 - flowF f := by unfold basF; rw [if_pos c']
    have e5 : (upd N 0 (N 0 - flowF f)) 2 = N 2 := upd_n _ _ (by omega)
    have key := R_mid (st := true) (m := upd m 8 (m 8 + flowF f)) (kd := kd) (pu := pu) (ti := ti) (N := upd N 0 (N 0 - flowF f)) (hv := hv) (post := fun hv7 => V_X9_tick_120 k a2 post hv7) hk (Or.inl ⟨rfl, ha⟩) h61 hf1 hsp ?_
    · exact ⟨key.1, key.2⟩
    rw [e5]
    have z := tail (upd N 0 (N 0 - flowF f)) e5 (by rw [e4])
    rw [e1, e2, e3] at z
    exact z
  · have c' : ¬ flowF f ≤ N 0 := c
    have e1 : st1F (N 2) (N 0) f = upd (openF f) 21 (f 21 + 1) := by unfold st1F; rw [if_neg c']
    have e2 : st1I (N 0) f = 1 := by unfold st1I; rw [if_neg c']
    have e3 : st1M (N 0) f m = m := by unfold st1M; rw [if_neg c']
    have e4 : basF (N 0) f = N 0 := by unfold basF; rw [if_neg c']
    rw [R_open]
    simp only [mkR_15, pw_r _ _ _ _ (show 21 < 73 by omega), pw_w _ _ _ _ _ (show 21 < 73 by omega), mkR_w15]
    refine R_incident h60 ?_
    rw [pw_lo _ _ _ _ (show 2 < k by omega)]
    have eo : (openF f) 21 = f 21 := by unfold openF; rw [upd_n _ _ (by omega), upd_n _ _ (by omega), upd_n _ _ (by omega)]
    rw [eo]
    have z := tail N rfl (by rw [e4, fa_same rfl])
    rw [e1, e2, e3] at z
    exact z
end RT3
