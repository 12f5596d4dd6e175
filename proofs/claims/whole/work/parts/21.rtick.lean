section RT
variable {k : Nat} {hv : HV} {N f m kd pu ti : Nat → Int32}
theorem R_leastSpace {post : Int32 → HV → Prop} : V_X9_leastSpace k (mkR hv (putW N k f) m kd pu ti) post ↔ post (f 11 / 10) (mkR hv (putW N k f) m kd pu ti) := by
  unfold V_X9_leastSpace
  rw [mkR_15, pw_r _ _ _ _ (by omega)]
theorem R_head {post : Int32 → HV → Prop} (h : ¬ f 11 - f 13 = 0) : V_X9_head k (mkR hv (putW N k f) m kd pu ti) post ↔ post (headF f) (mkR hv (putW N k f) m kd pu ti) := by
  unfold V_X9_head headF
  simp only [mkR_15, pw_r _ _ _ _ (show 11 < 73 by omega), pw_r _ _ _ _ (show 13 < 73 by omega), pw_r _ _ _ _ (show 14 < 73 by omega), forall_eq, br_if]
  constructor
  · intro h1
    split
    · rename_i q; have := h1.2; rwa [if_pos q] at this
    · rename_i q; have := h1.2; rwa [if_neg q] at this
  · intro h1
    refine ⟨h, ?_⟩
    split
    · rename_i q; rwa [if_pos q] at h1
    · rename_i q; rwa [if_neg q] at h1
theorem R_slamsBy {post : Int32 → HV → Prop} : V_X9_slamsBy k (mkR hv (putW N k f) m kd pu ti) post ↔ post (if slamV f < f 10 then 0 else 1) (mkR hv (putW N k f) m kd pu ti) := by
  unfold V_X9_slamsBy slamV
  simp only [mkR_15, pw_r _ _ _ _ (show 6 < 73 by omega), pw_r _ _ _ _ (show 8 < 73 by omega), pw_r _ _ _ _ (show 9 < 73 by omega), pw_r _ _ _ _ (show 10 < 73 by omega), forall_eq, br_if]
  by_cases h0 : f 9 = 0
  · simp only [h0, if_true]; split <;> rfl
  · by_cases h1 : f 9 = 1
    · rw [if_neg h0, if_pos h1, if_neg h0, if_pos h1]; split <;> rfl
    · simp only [h0, h1, if_false]; split <;> rfl
theorem R_open {post : HV → Prop} : V_X9_open k (mkR hv (putW N k f) m kd pu ti) post ↔ post (mkR hv (putW N k (openF f)) m kd pu ti) := by
  unfold V_X9_open openF
  simp only [forall_eq, mkR_15, pw_w _ _ _ _ _ (show 6 < 73 by omega), pw_w _ _ _ _ _ (show 7 < 73 by omega), pw_w _ _ _ _ _ (show 8 < 73 by omega), mkR_w15]
theorem rem20 {x : Int32} (h : ¬ x < 0) : x - x / 20 * 20 = nI (x.toNatClampNeg % 20) := by
  obtain ⟨j, hj, rfl⟩ := nI_of h
  rw [nI_clamp hj]
  exact pk_rem (a := j) (d := 20) hj (by omega) (by omega)
theorem R_incident {a b : Int32} {post : HV → Prop} (h : ¬ m 6 < 0) (hp : post (mkR hv N (upd m 6 (m 6 + 1)) (upd kd (plI m) a) (upd pu (plI m) b) (upd ti (plI m) (N 2)))) : V_X9_incident a b (mkR hv N m kd pu ti) post := by
  unfold V_X9_incident
  simp only [forall_eq, mkR_9, mkR_15, mkR_17, mkR_18, mkR_19, mkR_w17, mkR_w18, mkR_w19, mkR_w9, rem20 h]
  have hl : (m 6).toNatClampNeg % 20 < 20 := Nat.mod_lt _ (by omega)
  rw [nI_clamp (by omega)]
  exact ⟨vp_in_nI hl (by omega), vp_in_nI hl (by omega), vp_in_nI hl (by omega), hp⟩
theorem shiftF_step (f : Nat → Int32) (a v : Nat) : shiftF (upd f (a + (v + 1)) (f (a + (v + 1) - 1))) a (v + 1) = shiftF f a (v + 1 + 1) := by
  funext j
  unfold shiftF
  by_cases e : j = a + (v + 1)
  · subst e
    rw [if_neg (by omega), if_pos ⟨by omega, by omega⟩, upd_s]
  · by_cases z : a < j ∧ j < a + (v + 1)
    · rw [if_pos z, if_pos ⟨z.1, by omega⟩, upd_n _ _ (by omega)]
    · rw [if_neg z, if_neg (by omega), upd_n _ _ e]
theorem shiftF_1 (f : Nat → Int32) (a : Nat) : shiftF f a 1 = f := by
  funext j
  unfold shiftF
  rw [if_neg (by omega)]
theorem R_ivLoop {post K : HV → Prop} : ∀ (v n : Nat) (f : Nat → Int32), v < n → 24 + v < 73 → K (mkR hv (putW N k (shiftF f 24 (v + 1))) m kd pu ti) → V_X9_addInterval_3 k post K n v (mkR hv (putW N k f) m kd pu ti)
  | 0, n + 1, f, _, _, h => by
    rw [V_X9_addInterval_3]
    rw [shiftF_1] at h
    exact ⟨fun _ => h, fun c => absurd (Nat.le_refl 0) c⟩
  | v + 1, n + 1, f, hn, hv1, h => by
    rw [V_X9_addInterval_3]
    refine ⟨fun c => absurd c (by omega), fun _ => ?_⟩
    intro hv2 e
    rw [e, mkR_15, show k + 24 + (v + 1) = k + (24 + (v + 1)) by omega, show k + (24 + (v + 1)) - 1 = k + (24 + (v + 1) - 1) by omega, pw_r _ _ _ _ (by omega), pw_w _ _ _ _ _ (by omega), mkR_w15]
    refine R_ivLoop v n _ (by omega) (by omega) ?_
    rw [shiftF_step]
    exact h
theorem R_trLoop {post K : HV → Prop} : ∀ (v n : Nat) (f : Nat → Int32), v < n → 41 + v < 73 → K (mkR hv (putW N k (shiftF f 41 (v + 1))) m kd pu ti) → V_X9_addTrace_3 k post K n v (mkR hv (putW N k f) m kd pu ti)
  | 0, n + 1, f, _, _, h => by
    rw [V_X9_addTrace_3]
    rw [shiftF_1] at h
    exact ⟨fun _ => h, fun c => absurd (Nat.le_refl 0) c⟩
  | v + 1, n + 1, f, hn, hv1, h => by
    rw [V_X9_addTrace_3]
    refine ⟨fun c => absurd c (by omega), fun _ => ?_⟩
    intro hv2 e
    rw [e, mkR_15, show k + 41 + (v + 1) = k + (41 + (v + 1)) by omega, show k + (41 + (v + 1)) - 1 = k + (41 + (v + 1) - 1) by omega, pw_r _ _ _ _ (by omega), pw_w _ _ _ _ _ (by omega), mkR_w15]
    refine R_trLoop v n _ (by omega) (by omega) ?_
    rw [shiftF_step]
    exact h
theorem shiftF_o (f : Nat → Int32) (a n j : Nat) (h : j ≤ a ∨ a + n ≤ j) : shiftF f a n j = f j := if_neg (by omega)
theorem R_addInterval {post : HV → Prop} (hk : 5 ≤ k) (hp : post (mkR hv (putW N k (ivF (N 2) f)) m kd pu ti)) : V_X9_addInterval k (mkR hv (putW N k f) m kd pu ti) post := by
  unfold V_X9_addInterval
  refine ⟨16, R_ivLoop 15 16 f (by omega) (by omega) ?_⟩
  simp only [forall_eq, mkR_15, pw_lo _ _ _ _ (show 2 < k by omega), pw_r _ _ _ _ (show 22 < 73 by omega), pw_w _ _ _ _ _ (show 22 < 73 by omega), pw_r _ _ _ _ (show 23 < 73 by omega), pw_w _ _ _ _ _ (show 23 < 73 by omega), pw_w _ _ _ _ _ (show 24 < 73 by omega), mkR_w15, upd_n _ _ (show ¬ 22 = 24 by omega), upd_n _ _ (show ¬ 23 = 24 by omega), upd_n _ _ (show ¬ 23 = 22 by omega), shiftF_o _ 24 _ 22 (Or.inl (by omega)), shiftF_o _ 24 _ 23 (Or.inl (by omega))]
  unfold ivF at hp
  refine ⟨fun c => ?_, fun c => ?_⟩
  · rwa [if_pos c] at hp
  · rwa [if_neg c] at hp
theorem R_addTrace {post : HV → Prop} (hp : post (mkR hv (putW N k (trF f)) m kd pu ti)) : V_X9_addTrace k (mkR hv (putW N k f) m kd pu ti) post := by
  unfold V_X9_addTrace
  refine ⟨32, R_trLoop 31 32 f (by omega) (by omega) ?_⟩
  simp only [forall_eq, mkR_15, pw_r _ _ _ _ (show 6 < 73 by omega), pw_r _ _ _ _ (show 40 < 73 by omega), pw_w _ _ _ _ _ (show 40 < 73 by omega), pw_w _ _ _ _ _ (show 41 < 73 by omega), mkR_w15, upd_n _ _ (show ¬ 40 = 41 by omega), shiftF_o _ 41 _ 6 (Or.inl (by omega)), shiftF_o _ 41 _ 40 (Or.inl (by omega))]
  unfold trF byteF at hp
  refine ⟨fun c => ⟨fun d => ?_, fun d => ?_⟩, fun c => ⟨fun d => ?_, fun d => ?_⟩⟩
  · rwa [if_pos c, if_pos d] at hp
  · rwa [if_pos c, if_neg d] at hp
  · rwa [if_neg c, if_pos d] at hp
  · rwa [if_neg c, if_neg d] at hp
end RT
