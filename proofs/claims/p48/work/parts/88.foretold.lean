/-! The pump that runs alone does what its trials tell; all is taken back. -/
theorem rg_z {a b : Int32} (h : a + b = a) : b = 0 := by grind
section FOR
variable {B Tt : Nat} {hv : HV} {v : Nat → Int32} {K : KS} {post : Int32 → HV → Prop}
theorem L_foretold {p T : Nat} (hN : INV B Tt hv v K) (hBb : B ≤ 1000000) (hTb : Tt ≤ 10000) (hp : p < cntN v) (hl : lone p v) (hT1 : 1 ≤ T) (hT : T ≤ 50) (hq : ∀ hv', IN (B + 1600) Tt hv' → post 1 hv') : V_L_isForetold (nI p) (nI T) hv post := by
  obtain ⟨h1, h2, h3, h4, h5, h6⟩ := id hN
  have hn := h2.1.1.1
  have ht := h2.1.2.2.2.2
  have hPB := h3.2.2.1 p hp
  have h16 := hPB.2.2.1
  unfold V_L_isForetold
  refine g_time h1 (g_basin h1 (g_lifted h1 h2 hp (g_beats h1 h2 hp (g_starved h1 h2 hp (L_through h1 h2 hp (g_ticksToSlam h1 h2 hp ?_))))))
  intro hv7 f7
  have c7 := CR_tr h2 h1 f7
  refine g_deliveredIn c7 h2 hp hT1 (by omega) ?_
  intro hv8 f8
  have c8 := CR_tr h2 c7 f8
  refine g_drawnIn c8 h2 hp hT1 (by omega) ?_
  intro hv9 f9
  have c9 := CR_tr h2 c8 f9
  have e9 : hv9 9 0 = hv 9 0 := (cfr_tk f9 9 0 (Or.inl rfl)).trans ((cfr_tk f8 9 0 (Or.inl rfl)).trans (cfr_tk f7 9 0 (Or.inl rfl)))
  have er : rfPass (nI T) v = 0 := rfPass_ok hT1 (by omega) ⟨ht.1, by omega⟩
  have hk := IV_keep 0 h2
  have hkL : (keepK 0 v K).1.1 ≤ B := by rw [keepK_L]; exact h5
  obtain ⟨iP, bP⟩ := IV_pass hk er hkL
  refine C_pass (B := B) (by omega) (by omega) h2 c9 (fun z => absurd er z) (fun _ hvP k1 k2 => ?_)
  have eP : hvP 9 0 = hv 9 0 := (k2 9 0 (Or.inl rfl)).trans e9
  have eT : (nI T).toNatClampNeg = T := nI_clamp (by omega)
  obtain ⟨c, ec⟩ : ∃ c, bN K.2.1.1 = c + 1 := ⟨bN K.2.1.1 - 1, by unfold bN; omega⟩
  have hc8 : c < 8 := by unfold bN at ec; omega
  have eK : keepK 0 v K = (K.1, (c + 1, pushH v K.2.1.2), K.2.2) := by rw [keepK_0, ec]
  rw [eK] at iP bP k1 ⊢
  unfold passV passE at iP bP k1
  unfold passE
  rw [eT] at iP bP k1 ⊢
  have hLK := (passS_T (tk := fun p => hv 9 0 (2 + p)) T (v, K.1, 0) h2.1 (by show (v 2).toInt + T ≤ 20000; omega) h3.2.2.1 h4).2.1
  obtain ⟨_, ecn, hF⟩ := FT_all (L := K.1) hp hl T
  show V_X8_lifted (nI p) hvP _
  dsimp only at iP bP k1
  generalize passS T (v, K.1, 0) = S at iP bP k1 hLK ecn hF
  obtain ⟨h19, k, hk1, h21, hk0⟩ := hF
  have hpS : p < cntN S.1 := by rw [ecn]; exact hp
  have fin : V_L_isForetold_165 (nI p) (nI T) post (v 2) (v 0) (sl v p 19) (sl v p 16) 1 hvP := by
    unfold V_L_isForetold_165
    refine g_undo k1 iP (v0 := v) rfl ?_
    intro hv2 c1 cf iv
    refine ⟨fun z => absurd z (nI_pos (by omega)), fun _ => ⟨fun z => absurd z (by decide), fun _ => g_time c1 ⟨fun _ => g_basin c1 ⟨fun _ => g_lifted c1 iv hp ⟨fun _ => g_beats c1 iv hp ⟨fun _ => hq _ ⟨v, _, c1, iv, ?_, hLK, bP, h6⟩, fun z => absurd rfl z⟩, fun z => absurd rfl z⟩, fun z => absurd rfl z⟩, fun z => absurd rfl z⟩⟩⟩
    rw [cf 9 0 (Or.inl rfl), eP]; exact h3
  refine g_lifted k1 iP hpS ⟨fun _ => g_starved k1 iP hpS ⟨fun z => ?_, fun _ => fin⟩, fun z => absurd ?_ z⟩
  · rw [h21] at z
    have hk2 : k = 0 := (nI_eq (a := k) (b := 0) (by omega) (by omega)).mp (rg_z z)
    obtain ⟨a1, a2, a3, a4⟩ := hk0 hk2
    have hc := slC_le (sl v p) T
    obtain ⟨s1, s2⟩ := ts_sl (f := sl v p) (T := T) (by omega)
    have ei := nI_toInt (n := slC (sl v p) T) (by omega)
    have ea : (sl v p 16 + nI (slC (sl v p) T)).toInt = (sl v p 16).toInt + (slC (sl v p) T : Int) := by rw [i_add (by rw [ei]; omega) (by rw [ei]; omega), ei]
    refine ⟨fun _ => L_through k1 iP hpS ⟨fun _ => g_beats k1 iP hpS ⟨fun y => ?_, fun y => ?_⟩, fun y => absurd ?_ y⟩, fun y => absurd a2 y⟩
    · rw [a4, i_le, ea] at y
      have e0 : slC (sl v p) T = 0 := by omega
      refine ⟨fun _ => fin, fun w => ⟨fun _ => fin, fun w2 => ?_⟩⟩
      rcases s1 e0 with x | x
      · exact absurd x w
      · exact absurd x w2
    · rw [a4, i_le, ea] at y
      have e0 : ¬ slC (sl v p) T = 0 := by omega
      exact ⟨fun w => absurd w (s2 e0).1, fun _ => ⟨fun w => absurd w (s2 e0).2, fun _ => fin⟩⟩
    · rw [a3]; exact rg_sub _ _
  · rw [h19]; exact (rg_sub _ _).symm
end FOR
