section RT2
variable {k : Nat} {hv : HV} {N f m kd pu ti : Nat → Int32} {st : Bool} {a2 : Int32}
theorem R_slam37 {post : HV → Prop} (hk : 5 ≤ k) (hst : (st = true ∧ ¬ a2 < 0) ∨ (st = false ∧ a2 < 0)) (h6 : ¬ m 6 < 0) {kind : Int32} (hkind : kind = if st = true ∧ goneF f then 4 else 0)
    (hp : post (mkR hv (putW N k (upd f 14 (airF f))) (iM kind m) (iK kind m kd 4) (iK kind m pu a2) (iK kind m ti (N 2)))) : V_X9_slam_37 k a2 post (mkR hv (putW N k f) m kd pu ti) := by
  have tail : ∀ X : Int32, airF f = X → ((a2 < 0 → post (mkR hv (putW N k (upd f 14 X)) m kd pu ti)) ∧ (¬ (a2 < 0) → ((X = f 11 / 10 → ((f 14 ≤ f 11 / 10 → post (mkR hv (putW N k (upd f 14 X)) m kd pu ti)) ∧ (¬ (f 14 ≤ f 11 / 10) → V_X9_incident 4 a2 (mkR hv (putW N k (upd f 14 X)) m kd pu ti) post))) ∧ (¬ (X = f 11 / 10) → post (mkR hv (putW N k (upd f 14 X)) m kd pu ti))))) := by
    intro X hX
    rw [hX] at hp
    have none : ¬ (st = true ∧ goneF f) → post (mkR hv (putW N k (upd f 14 X)) m kd pu ti) := by
      intro hn
      rw [if_neg hn] at hkind
      subst hkind
      exact hp
    rcases hst with ⟨h1, h2⟩ | ⟨h1, h2⟩
    · refine ⟨fun c => absurd c h2, fun _ => ⟨fun e => ⟨fun g => none (fun z => z.2.2 g), fun g => ?_⟩, fun e => none (fun z => e (hX.symm.trans z.2.1))⟩⟩
      rw [if_pos ⟨h1, hX.trans e, g⟩] at hkind
      subst hkind
      refine R_incident h6 ?_
      rw [pw_lo _ _ _ _ (by omega)]
      exact hp
    · exact ⟨fun _ => none (fun z => by rw [h1] at z; exact Bool.noConfusion z.1), fun c => absurd h2 c⟩
  unfold V_X9_slam_37
  simp only [forall_eq, R_leastSpace, mkR_15, pw_r _ _ _ _ (show 11 < 73 by omega), pw_r _ _ _ _ (show 12 < 73 by omega), pw_r _ _ _ _ (show 14 < 73 by omega), pw_w _ _ _ _ _ (show 14 < 73 by omega), mkR_w15, upd_s]
  refine ⟨fun c => ⟨fun d => tail _ ?_, fun d => tail _ ?_⟩, fun c => ⟨fun d => tail _ ?_, fun d => ?_⟩⟩
  · unfold airF; rw [if_pos c, if_pos d]
  · unfold airF; rw [if_pos c, if_neg d]
  · unfold airF; rw [if_neg c, if_pos d]
  · have z := tail (f 11 / 10) (by unfold airF; rw [if_neg c, if_neg d])
    exact ⟨z.1, fun c => ⟨fun _ => (z.2 c).1 rfl, fun q => absurd trivial q⟩⟩
theorem airF_c {f g : Nat → Int32} (h1 : f 11 = g 11) (h2 : f 12 = g 12) (h3 : f 14 = g 14) : airF f = airF g := by unfold airF; rw [h1, h2, h3]
theorem ivF_o (t : Int32) (f : Nat → Int32) (j : Nat) (h : j < 22) : ivF t f j = f j := by
  unfold ivF
  rw [upd_n _ _ (by omega), upd_n _ _ (by omega), upd_n _ _ (by omega), shiftF_o _ _ _ _ (Or.inl (by omega))]
theorem R_slam {post : HV → Prop} (hk : 5 ≤ k) (hst : (st = true ∧ ¬ a2 < 0) ∨ (st = false ∧ a2 < 0)) (h6 : ¬ m 6 < 0) {kind : Int32} (hkind : kind = if st = true ∧ goneF f then 4 else 0)
    (hp : post (mkR hv (putW N k (slamF st (N 2) f)) (iM kind (upd m 7 1)) (iK kind m kd 4) (iK kind m pu a2) (iK kind m ti (N 2)))) : V_X9_slam k a2 (mkR hv (putW N k f) m kd pu ti) post := by
  unfold V_X9_slam
  simp only [forall_eq, mkR_9, mkR_w9, mkR_15, pw_r _ _ _ _ (show 16 < 73 by omega), pw_w _ _ _ _ _ (show 7 < 73 by omega), pw_w _ _ _ _ _ (show 16 < 73 by omega), mkR_w15, upd_n _ _ (show ¬ 16 = 7 by omega)]
  have h6' : ¬ (upd m 7 1) 6 < 0 := by rw [upd_n _ _ (by omega)]; exact h6
  have hpl : plI (upd m 7 1) = plI m := by unfold plI; rw [upd_n _ _ (by omega)]
  have hiK : ∀ r v, iK kind (upd m 7 1) r v = iK kind m r v := by intro r v; unfold iK; rw [hpl]
  have hA : airF (upd (upd f 7 1) 16 (f 16 + 1)) = airF f := airF_c (by rw [upd_n _ _ (by omega), upd_n _ _ (by omega)]) (by rw [upd_n _ _ (by omega), upd_n _ _ (by omega)]) (by rw [upd_n _ _ (by omega), upd_n _ _ (by omega)])
  have e11 : (upd (upd f 7 1) 16 (f 16 + 1)) 11 = f 11 := by rw [upd_n _ _ (by omega), upd_n _ _ (by omega)]
  have e14 : (upd (upd f 7 1) 16 (f 16 + 1)) 14 = f 14 := by rw [upd_n _ _ (by omega), upd_n _ _ (by omega)]
  have hB : airF (ivF (N 2) (upd (upd f 7 1) 16 (f 16 + 1))) = airF f := (airF_c (ivF_o _ _ _ (by omega)) (ivF_o _ _ _ (by omega)) (ivF_o _ _ _ (by omega))).trans hA
  refine ⟨fun c => ?_, fun c => ?_⟩
  · rcases hst with ⟨h1, h2⟩ | ⟨h1, h2⟩
    · exact absurd c h2
    · refine R_slam37 (kind := kind) hk (Or.inr ⟨h1, h2⟩) h6' (by rw [hkind]; unfold goneF; rw [hA, e11, e14]) ?_
      rw [hA, hiK, hiK, hiK]
      unfold slamF at hp
      rw [h1] at hp
      exact hp
  · rcases hst with ⟨h1, h2⟩ | ⟨h1, h2⟩
    · refine R_addInterval hk ?_
      refine R_slam37 (kind := kind) hk (Or.inl ⟨h1, h2⟩) h6' (by rw [hkind]; unfold goneF; rw [hB, ivF_o _ _ _ (by omega), ivF_o _ _ _ (by omega), e11, e14]) ?_
      rw [hB, hiK, hiK, hiK]
      unfold slamF at hp
      rw [h1, if_pos rfl] at hp
      exact hp
    · exact absurd h2 c
theorem R_gain {post : HV → Prop} {w : Int32} (hk : 5 ≤ k) (hst : (st = true ∧ ¬ a2 < 0) ∨ (st = false ∧ a2 < 0)) (h6 : ¬ m 6 < 0) (hf1 : ¬ f 1 = 0)
    (hp : post (mkR hv (putW N k (gainF st (N 2) f w)) (iM (gainI st f w) (if slamsF (gain1F f w) then upd m 7 1 else m)) (iK (gainI st f w) m kd 4) (iK (gainI st f w) m pu a2) (iK (gainI st f w) m ti (N 2)))) : V_X9_gain k a2 w (mkR hv (putW N k f) m kd pu ti) post := by
  have tail : V_X9_slamsBy k (mkR hv (putW N k (gain1F f w)) m kd pu ti) (fun r hv2 => (r = 0 → post hv2) ∧ (¬ (r = 0) → V_X9_slam k a2 hv2 post)) := by
    rw [R_slamsBy]
    by_cases hs : slamV (gain1F f w) < (gain1F f w) 10
    · rw [if_pos hs]
      refine ⟨fun _ => ?_, fun z => absurd rfl z⟩
      have e1 : gainI st f w = 0 := by unfold gainI; rw [if_neg (fun z => z.1 hs)]
      have e2 : gainF st (N 2) f w = gain1F f w := by unfold gainF; rw [if_neg (fun z => z hs)]
      rw [e1, e2, if_neg (fun z => z hs)] at hp
      exact hp
    · rw [if_neg hs]
      refine ⟨fun z => absurd z (by decide), fun _ => ?_⟩
      have e2 : gainF st (N 2) f w = slamF st (N 2) (gain1F f w) := by unfold gainF; rw [if_pos hs]
      rw [e2, if_pos hs] at hp
      refine R_slam hk hst h6 (kind := gainI st f w) ?_ hp
      unfold gainI
      by_cases hg : st = true ∧ goneF (gain1F f w)
      · rw [if_pos hg, if_pos ⟨hs, hg⟩]
      · rw [if_neg hg, if_neg (fun z => hg z.2)]
  unfold V_X9_gain
  simp only [forall_eq, mkR_15, pw_r _ _ _ _ (show 17 < 73 by omega), pw_w _ _ _ _ _ (show 17 < 73 by omega), mkR_w15, pw_r _ _ _ _ (show 6 < 73 by omega), pw_r _ _ _ _ (show 1 < 73 by omega), pw_r _ _ _ _ (show 0 < 73 by omega), pw_r _ _ _ _ (show 3 < 73 by omega), pw_r _ _ _ _ (show 8 < 73 by omega), pw_w _ _ _ _ _ (show 6 < 73 by omega), pw_w _ _ _ _ _ (show 8 < 73 by omega),
    upd_n _ _ (show ¬ 6 = 17 by omega), upd_n _ _ (show ¬ 1 = 17 by omega), upd_n _ _ (show ¬ 0 = 17 by omega), upd_n _ _ (show ¬ 3 = 17 by omega), upd_n _ _ (show ¬ 8 = 17 by omega), upd_n _ _ (show ¬ 8 = 6 by omega)]
  refine ⟨hf1, fun c => ⟨fun d => ?_, fun d => ?_⟩, fun c => ?_⟩
  · have e : gain1F f w = upd (upd (upd f 17 (f 17 + w)) 6 (f 6 + 100 * f 0 / f 1 - f 3 * f 6 * f 6 / 100000)) 8 (f 8 + 1) := by
      unfold gain1F clampF spdF; rw [if_pos c, if_pos d]
    rw [← e]; exact tail
  · have e : gain1F f w = upd (upd (upd f 17 (f 17 + w)) 6 2000) 8 (f 8 + 1) := by
      unfold gain1F clampF spdF; rw [if_pos c, if_neg d]
    rw [← e]; exact tail
  · have e : gain1F f w = upd (upd (upd f 17 (f 17 + w)) 6 0) 8 (f 8 + 1) := by
      unfold gain1F clampF spdF; rw [if_neg c]
    rw [← e]; exact tail
theorem R_push87 {post : HV → Prop} {a3 : Int32} (hf1 : ¬ f 1 = 0) (hsp : ¬ f 11 - f 13 = 0) (hp : post (mkR hv (putW N k (push2F f)) m kd pu ti)) : V_X9_push_87 k a2 a3 post (mkR hv (putW N k f) m kd pu ti) := by
  have tail : ∀ X : Int32, overF f = X → ∀ (Y : Int32), Y = f 6 - (1 + 100 * X / f 1) → ((1 ≤ Y → post (mkR hv (putW N k (upd f 6 Y)) m kd pu ti)) ∧ (¬ (1 ≤ Y) → V_X9_open k (mkR hv (putW N k (upd f 6 Y)) m kd pu ti) post)) := by
    intro X hX Y hY
    unfold push2F at hp
    rw [hX, ← hY] at hp
    refine ⟨fun c => ?_, fun c => ?_⟩
    · rw [if_pos c] at hp; exact hp
    · rw [if_neg c] at hp
      rw [R_open]
      have e : openF (upd f 6 Y) = openF f := by
        unfold openF; congr 2
        funext j
        by_cases h : j = 6
        · subst h; rw [upd_s, upd_s]
        · rw [upd_n _ _ h, upd_n _ _ h, upd_n _ _ h]
      rw [e]; exact hp
  unfold V_X9_push_87
  rw [R_head hsp]
  simp only [forall_eq, mkR_15, pw_r _ _ _ _ (show 0 < 73 by omega), pw_r _ _ _ _ (show 1 < 73 by omega), pw_r _ _ _ _ (show 6 < 73 by omega), pw_w _ _ _ _ _ (show 6 < 73 by omega), mkR_w15, upd_s]
  refine ⟨fun c => ⟨hf1, ?_⟩, fun c => ⟨hf1, ?_⟩⟩
  · exact tail _ (by unfold overF; rw [if_pos c]) _ rfl
  · exact tail 0 (by unfold overF; rw [if_neg c]) _ rfl
theorem R_push {post : HV → Prop} {w : Int32} (hk : 5 ≤ k) (hst : (st = true ∧ ¬ a2 < 0) ∨ (st = false ∧ a2 < 0)) (h6 : ¬ m 6 < 0) (hf1 : ¬ f 1 = 0) (hsp : ¬ f 11 - (f 13 + takeF f w) = 0)
    (hp : post (mkR hv (putW N k (pushF f w)) (iM (pushI st f w) m) (iK (pushI st f w) m kd 2) (iK (pushI st f w) m pu a2) (iK (pushI st f w) m ti (N 2)))) : V_X9_push k a2 w (mkR hv (putW N k f) m kd pu ti) post := by
  have hs11 : (push1F f w) 11 = f 11 := by unfold push1F; rw [upd_n _ _ (by omega), upd_n _ _ (by omega)]
  have hs13 : (push1F f w) 13 = f 13 + takeF f w := by unfold push1F; rw [upd_n _ _ (by omega), upd_s]
  have hs1 : (push1F f w) 1 = f 1 := by unfold push1F; rw [upd_n _ _ (by omega), upd_n _ _ (by omega)]
  have tail : ∀ X : Int32, takeF f w = X → ∀ f', f' = push1F f w → ((a2 < 0 → V_X9_push_87 k a2 w post (mkR hv (putW N k f') m kd pu ti)) ∧ (¬ (a2 < 0) → ((w ≤ X → V_X9_push_87 k a2 w post (mkR hv (putW N k f') m kd pu ti)) ∧ (¬ (w ≤ X) → V_X9_incident 2 a2 (mkR hv (putW N k f') m kd pu ti) (fun hv2 => V_X9_push_87 k a2 w post hv2))))) := by
    intro X hX f' hf'
    subst hf'
    have none : ¬ (st = true ∧ ¬ w ≤ takeF f w) → V_X9_push_87 k a2 w post (mkR hv (putW N k (push1F f w)) m kd pu ti) := by
      intro hn
      have e : pushI st f w = 0 := by unfold pushI; rw [if_neg hn]
      rw [e] at hp
      exact R_push87 (by rw [hs1]; exact hf1) (by rw [hs11, hs13]; exact hsp) hp
    rcases hst with ⟨h1, h2⟩ | ⟨h1, h2⟩
    · refine ⟨fun c => absurd c h2, fun _ => ⟨fun g => none (fun z => z.2 (by rw [hX]; exact g)), fun g => ?_⟩⟩
      have e : pushI st f w = 2 := by unfold pushI; rw [if_pos ⟨h1, by rw [hX]; exact g⟩]
      rw [e] at hp
      refine R_incident h6 ?_
      rw [pw_lo _ _ _ _ (by omega)]
      exact R_push87 (by rw [hs1]; exact hf1) (by rw [hs11, hs13]; exact hsp) hp
    · exact ⟨fun _ => none (fun z => by rw [h1] at z; exact Bool.noConfusion z.1), fun c => absurd h2 c⟩
  unfold V_X9_push
  simp only [forall_eq, R_leastSpace, mkR_15, pw_r _ _ _ _ (show 11 < 73 by omega), pw_r _ _ _ _ (show 13 < 73 by omega), pw_w _ _ _ _ _ (show 13 < 73 by omega), pw_r _ _ _ _ (show 18 < 73 by omega), pw_w _ _ _ _ _ (show 18 < 73 by omega), mkR_w15, upd_n _ _ (show ¬ 18 = 13 by omega)]
  refine ⟨fun c => ?_, fun c => ?_⟩
  · have e : takeF f w = f 11 - f 11 / 10 - f 13 := by unfold takeF roomF; rw [if_pos c]
    exact tail _ e _ (by unfold push1F; rw [e])
  · have e : takeF f w = w := by unfold takeF roomF; rw [if_neg c]
    have z := tail _ e _ (show upd (upd f 13 (f 13 + w)) 18 (f 18 + (w - w)) = push1F f w by unfold push1F; rw [e])
    exact z
theorem fa_same {f : Nat → Int32} {i : Nat} {x : Int32} (h : f i = x) : upd f i x = f := by
  funext j
  by_cases e : j = i
  · subst e; rw [upd_s, h]
  · rw [upd_n _ _ e]
theorem R_deliver {post : HV → Prop} (hk : 5 ≤ k) (hst : (st = true ∧ ¬ a2 < 0) ∨ (st = false ∧ a2 < 0)) (h6 : ¬ m 6 < 0) (hsp : ¬ f 11 - f 13 = 0)
    (hp : post (mkR hv (putW N k (delF f)) (iM (delI st f) (upd m 9 (m 9 + litF f))) (iK (delI st f) m kd 3) (iK (delI st f) m pu a2) (iK (delI st f) m ti (N 2)))) : V_X9_deliver k a2 (mkR hv (putW N k f) m kd pu ti) post := by
  unfold V_X9_deliver
  rw [R_head hsp]
  have hpl : plI (upd m 9 (m 9 + litF f)) = plI m := by unfold plI; rw [upd_n _ _ (by omega)]
  have tail : ∀ X : Int32, litF f = X → 0 < headF f - f 4 → ((f 15 + X ≤ 30000 → post (mkR hv (putW N k (upd (upd (upd f 13 (f 13 - X)) 19 (f 19 + X)) 15 (f 15 + X))) (upd m 9 (m 9 + X)) kd pu ti)) ∧ (¬ (f 15 + X ≤ 30000) → ((a2 < 0 → post (mkR hv (putW N k (upd (upd (upd (upd (upd f 13 (f 13 - X)) 19 (f 19 + X)) 15 (f 15 + X)) 20 (f 20 + (f 15 + X - 30000))) 15 30000)) (upd m 9 (m 9 + X)) kd pu ti)) ∧ (¬ (a2 < 0) → V_X9_incident 3 a2 (mkR hv (putW N k (upd (upd (upd (upd (upd f 13 (f 13 - X)) 19 (f 19 + X)) 15 (f 15 + X)) 20 (f 20 + (f 15 + X - 30000))) 15 30000)) (upd m 9 (m 9 + X)) kd pu ti) post)))) := by
    intro X hX c
    unfold delF del1F at hp
    rw [if_pos c] at hp
    refine ⟨fun d => ?_, fun d => ?_⟩
    · have e : delI st f = 0 := by unfold delI; rw [if_neg (fun z => z.2.2 (by rw [hX]; exact d))]
      rw [e, hX, if_pos d] at hp
      exact hp
    · rw [hX, if_neg d] at hp
      rcases hst with ⟨h1, h2⟩ | ⟨h1, h2⟩
      · have e : delI st f = 3 := by unfold delI; rw [if_pos ⟨h1, c, by rw [hX]; exact d⟩]
        refine ⟨fun z => absurd z h2, fun _ => ?_⟩
        refine R_incident (by rw [upd_n _ _ (by omega)]; exact h6) ?_
        rw [pw_lo _ _ _ _ (by omega), ← hX, hpl, hX]
        rw [e] at hp
        exact hp
      · have e : delI st f = 0 := by unfold delI; rw [if_neg (fun z => by rw [h1] at z; exact Bool.noConfusion z.1)]
        rw [e] at hp
        exact ⟨fun _ => hp, fun z => absurd h2 z⟩
  simp only [forall_eq, mkR_15, mkR_9, mkR_w9, pw_r _ _ _ _ (show 4 < 73 by omega), pw_r _ _ _ _ (show 13 < 73 by omega), pw_w _ _ _ _ _ (show 13 < 73 by omega), pw_r _ _ _ _ (show 19 < 73 by omega), pw_w _ _ _ _ _ (show 19 < 73 by omega), pw_r _ _ _ _ (show 15 < 73 by omega), pw_w _ _ _ _ _ (show 15 < 73 by omega), pw_r _ _ _ _ (show 20 < 73 by omega), pw_w _ _ _ _ _ (show 20 < 73 by omega), mkR_w15, upd_s,
    upd_n _ _ (show ¬ 19 = 13 by omega), upd_n _ _ (show ¬ 15 = 13 by omega), upd_n _ _ (show ¬ 15 = 19 by omega), upd_n _ _ (show ¬ 20 = 15 by omega), upd_n _ _ (show ¬ 20 = 19 by omega), upd_n _ _ (show ¬ 20 = 13 by omega), upd_n _ _ (show ¬ 15 = 20 by omega)]
  refine ⟨fun c => ⟨fun d => ?_, fun d => ?_⟩, fun c => ?_⟩
  · exact tail _ (by unfold litF mostF; rw [if_pos c, if_pos d]) c
  · exact tail _ (by unfold litF mostF; rw [if_pos c, if_neg d]) c
  · have e1 : litF f = 0 := by unfold litF; rw [if_neg c]
    have e2 : delF f = f := by unfold delF; rw [if_neg c]
    have e3 : delI st f = 0 := by unfold delI; rw [if_neg (fun z => c z.2.1)]
    rw [e1, e2, e3, fa_same (show m 9 = m 9 + 0 from (Int32.add_zero _).symm)] at hp
    exact hp
end RT2
