theorem min_sw2 (a b : Int32) : (if a < b then a else b) = (if b ≤ a then b else a) := by
  by_cases h : a < b
  · rw [if_pos h, if_neg (by rw [i_le]; rw [i_lt] at h; omega)]
  · rw [if_neg h, if_pos (i_nlt.mp h)]
theorem mkC_congr {hv : HV} {q : Nat} {f g : Nat → Int32} {J : Nat → Nat → Int32} {rp I1 J1 I2 J2 : Nat → Int32} (h : ∀ j, j < 23 → f j = g j) : mkC hv q f J rp I1 J1 I2 J2 = mkC hv q g J rp I1 J1 I2 J2 := by
  have e4 : ∀ J, encP f J = encP g J := by
    intro J; funext k; unfold encP
    by_cases a : k ≤ 10
    · rw [if_pos a, if_pos a, h k (by omega)]
    · rw [if_neg a, if_neg a, h 15 (by omega), h 22 (by omega)]
  have e0 : ∀ J, encC f J = encC g J := by
    intro J; funext k; unfold encC
    rw [h 11 (by omega), h 12 (by omega), h 13 (by omega), h 14 (by omega)]
  have e2 : ∀ J, encO f J = encO g J := by
    intro J; funext k; unfold encO
    by_cases a : k < 6
    · rw [if_pos a, if_pos a, h (16 + k) (by omega)]
    · rw [if_neg a, if_neg a]
  unfold mkC
  rw [e4, e0, e2]
theorem rl_i {q : Nat} (h : q < 37) : rl (2 * q) = 16 := by unfold rl; rw [if_pos (by omega), if_pos (by omega)]
theorem rl_t {q : Nat} (h : q < 37) : rl (2 * q + 1) = 32 := by unfold rl; rw [if_pos (by omega), if_neg (by omega)]
section CT
variable {q : Nat} {hv : HV} {f : Nat → Int32} {J : Nat → Nat → Int32} {rp I1 J1 I2 J2 : Nat → Int32}
theorem C_clear {post : HV → Prop} (hp : post (mkC hv q f J (upd (upd (upd (upd (upd rp 0 0) 1 0) 2 0) 3 0) 4 0) I1 J1 I2 J2)) : V_X5_clear (mkC hv q f J rp I1 J1 I2 J2) post := by
  unfold V_X5_clear
  simp only [forall_eq, mkC_5, mkC_w5]
  exact hp
theorem C_rest {post : HV → Prop} (hp : post (mkC hv q (openF f) J rp I1 J1 I2 J2)) : V_X4_rest q (mkC hv q f J rp I1 J1 I2 J2) post := by
  unfold V_X4_rest
  simp only [forall_eq, mkC_4, mkC_p6, mkC_p7, mkC_p8]
  exact hp
theorem C_head {post : Int32 → HV → Prop} (h : 1 ≤ f 11 - f 13) (hp : post (headF f) (mkC hv q f J rp I1 J1 I2 J2)) : V_X0_head q (mkC hv q f J rp I1 J1 I2 J2) post := by
  unfold V_X0_head
  simp only [forall_eq, mkC_0, encC_0, encC_3, encC_4]
  refine ⟨fun _ => ⟨fun z => by rw [z] at h; exact absurd h (by decide), ?_⟩, fun c => absurd h c⟩
  rw [max_sw]
  exact hp
theorem C_speedFrom {a : Int32} {post : Int32 → HV → Prop} (h : 1 ≤ f 1) (hp : post (100 * a / f 1) (mkC hv q f J rp I1 J1 I2 J2)) : V_X4_speedFrom q a (mkC hv q f J rp I1 J1 I2 J2) post := by
  unfold V_X4_speedFrom
  simp only [mkC_4, encP_1]
  exact ⟨fun _ => ⟨fun z => by rw [z] at h; exact absurd h (by decide), hp⟩, fun c => absurd h c⟩
theorem clamp_c (x : Int32) : (if 2000 < (if x < 0 then 0 else x) then 2000 else (if x < 0 then 0 else x)) = clampF x := by
  unfold clampF
  rw [max_sw]
  by_cases h : 0 ≤ x
  · rw [if_pos h, if_pos h]
    by_cases h2 : x ≤ 2000
    · rw [if_pos h2, if_neg (by rw [i_lt]; rw [i_le] at h2; omega)]
    · rw [if_neg h2, if_pos (i_nle.mp h2)]
  · rw [if_neg h, if_neg h, if_neg (by decide)]
theorem C_gainSpeed {w : Int32} {post : HV → Prop} (h : 1 ≤ f 1) (hp : post (mkC hv q (gain1F f w) J rp I1 J1 I2 J2)) : V_X4_gainSpeed q w (mkC hv q f J rp I1 J1 I2 J2) post := by
  unfold V_X4_gainSpeed
  simp only [forall_eq, mkC_2, encO_1, mkC_o1, mkC_4, encP_0, encP_6]
  refine C_speedFrom (f := upd f 17 (f 17 + w)) (by rw [upd_n _ _ (by omega)]; exact h) ?_
  simp only [mkC_4, encP_3, encP_6, encP_8, mkC_p6, mkC_p8, clamp_c, upd_n _ _ (show ¬ 0 = 17 by omega), upd_n _ _ (show ¬ 1 = 17 by omega), upd_n _ _ (show ¬ 3 = 17 by omega), upd_n _ _ (show ¬ 6 = 17 by omega), upd_n _ _ (show ¬ 8 = 17 by omega), upd_n _ _ (show ¬ 8 = 6 by omega)]
  exact hp
theorem C_slamRule {post : Int32 → HV → Prop} (hp : post (if slamV f < f 10 then 0 else 1) (mkC hv q f J rp I1 J1 I2 J2)) : V_X4_slamRuleHolds q (mkC hv q f J rp I1 J1 I2 J2) post := by
  unfold V_X4_slamRuleHolds
  simp only [mkC_4, encP_6, encP_8, encP_9, encP_10]
  unfold slamV at hp
  refine ⟨fun a => ⟨fun b => ?_, fun b => ?_⟩, fun a => ⟨fun a2 => ⟨fun b => ?_, fun b => ?_⟩, fun a2 => ⟨fun b => ?_, fun b => ?_⟩⟩⟩
  · rwa [if_pos a, if_pos b] at hp
  · rwa [if_pos a, if_neg b] at hp
  · rwa [if_neg a, if_pos a2, if_pos b] at hp
  · rwa [if_neg a, if_pos a2, if_neg b] at hp
  · rwa [if_neg a, if_neg a2, if_pos b] at hp
  · rwa [if_neg a, if_neg a2, if_neg b] at hp
theorem slamT_low (t : Int32) (f : Nat → Int32) (j : Nat) (h : j < 23) : slamF true t f j = (upd (upd (upd (upd f 7 1) 16 (f 16 + 1)) 22 t) 14 (airF f)) j := by
  unfold slamF ivF
  rw [if_pos rfl]
  by_cases e14 : j = 14
  · subst e14; rw [upd_s, upd_s]
  rw [upd_n _ _ e14, upd_n _ _ e14, upd_n _ _ (by omega)]
  by_cases e22 : j = 22
  · subst e22; rw [upd_s, upd_s]
  rw [upd_n _ _ e22, upd_n _ _ e22, upd_n _ _ (by omega), shiftF_o _ _ _ _ (Or.inl (by omega))]
theorem C_slam {t : Int32} {post : HV → Prop} (hq : q < 37) (h12 : f 12 = 0 ∨ f 12 = 1)
    (hp : ∀ I J', AddR 16 (t - f 22) I1 J1 I J' → post (mkC hv q (slamF true t f) J (if goneF f then upd (upd rp 2 1) 3 4 else upd rp 2 1) I J' I2 J2)) : V_X4_slam q t (mkC hv q f J rp I1 J1 I2 J2) post := by
  unfold V_X4_slam
  simp only [forall_eq, mkC_4, mkC_p7, mkC_5, mkC_w5, mkC_2, encO_0, mkC_o0, encP_12, upd_n _ _ (show ¬ 16 = 7 by omega), upd_n _ _ (show ¬ 22 = 16 by omega), upd_n _ _ (show ¬ 22 = 7 by omega)]
  refine C_add (rl_i hq) (Or.inl rfl) ?_
  intro I J' hA
  rw [mkC_6, mkC_10] at hA
  have hp := hp I J' hA
  rw [mkC_congr (slamT_low t f)] at hp
  have e11 : (upd (upd (upd f 7 1) 16 (f 16 + 1)) 22 t) 11 = f 11 := by rw [upd_n _ _ (by omega), upd_n _ _ (by omega), upd_n _ _ (by omega)]
  have e12 : (upd (upd (upd f 7 1) 16 (f 16 + 1)) 22 t) 12 = f 12 := by rw [upd_n _ _ (by omega), upd_n _ _ (by omega), upd_n _ _ (by omega)]
  have e14 : (upd (upd (upd f 7 1) 16 (f 16 + 1)) 22 t) 14 = f 14 := by rw [upd_n _ _ (by omega), upd_n _ _ (by omega), upd_n _ _ (by omega)]
  simp only [mkC_w6, mkC_w10, mkC_4, mkC_p12, mkC_0, encC_4, e14]
  unfold V_X0_changeAir
  simp only [forall_eq, mkC_0, encC_0, encC_1, encC_2, encC_4, mkC_c4, e11, e12, e14, upd_n _ _ (show ¬ 11 = 14 by omega), upd_s, mkC_5, mkC_w5]
  have tail : ∀ X : Int32, airF f = X → ((X = f 11 / 10 → ((f 14 ≤ f 11 / 10 → post (mkC hv q (upd (upd (upd (upd f 7 1) 16 (f 16 + 1)) 22 t) 14 X) J (upd rp 2 1) I J' I2 J2)) ∧ (¬ f 14 ≤ f 11 / 10 → post (mkC hv q (upd (upd (upd (upd f 7 1) 16 (f 16 + 1)) 22 t) 14 X) J (upd (upd rp 2 1) 3 4) I J' I2 J2)))) ∧ (¬ X = f 11 / 10 → post (mkC hv q (upd (upd (upd (upd f 7 1) 16 (f 16 + 1)) 22 t) 14 X) J (upd rp 2 1) I J' I2 J2))) := by
    intro X hX
    subst hX
    refine ⟨fun a => ⟨fun b => ?_, fun b => ?_⟩, fun a => ?_⟩
    · rwa [if_neg (fun z => z.2 b)] at hp
    · rwa [if_pos ⟨a, b⟩] at hp
    · rwa [if_neg (fun z => a z.1)] at hp

  exact ⟨fun a => tail _ (by unfold airF; rw [if_neg (by rw [a]; decide), max_sw]), fun a => tail _ (by unfold airF; rw [if_pos (h12.resolve_left a), min_sw2])⟩
end CT

