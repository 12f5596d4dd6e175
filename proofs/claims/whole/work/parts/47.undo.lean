/-! undo, type. -/
theorem J_undo : JJ V_X8_undo V_X9_undo := by
  intro B hv hB hRel
  obtain ⟨v, K, h1, h2, h3, h4⟩ := hRel
  obtain ⟨a1, a2, a3, ⟨a4, a5⟩, a6, a7⟩ := id h1
  obtain ⟨b1, b2, b3, ⟨b4, b5⟩, b6⟩ := id h2
  refine C_undo h3.2.1.1 h3.2.1.2 a3 (fun e0 => ?_) (fun c ec hv1 k1 k2 k3 k4 => ?_)
  · refine R_undo h3.2.1.1 b3 (fun _ => ⟨rfl, v, K, h1, h2, h3, by omega⟩) (fun c ec => ?_)
    rw [e0] at ec; exact absurd ec (by omega)
  · have c1 : cfr hv hv1 := fun c i z => k4 c i (fun y => by unfold skey at y; omega) (by omega)
    have b3' : HRr hv1 K.2.1.1 K.2.1.2 := (RX_fr c1 h2).2.2.1
    refine R_undo h3.2.1.1 b3' (fun e0 => by rw [e0] at ec; exact absurd ec (by omega)) (fun c2 ec2 hv2 g1 g2 g3 g4 => ?_)
    have e2 : c2 = c := by omega
    subst e2
    have c2f : rfr hv1 hv2 := fun c i z => g4 c i (by omega) (by omega)
    have hV0 := h3.2.1.2 0 (by omega)
    have hcg : ∀ i, i < 297 → K.2.1.2 0 i = hv2 15 0 i := fun i hi => (g1 i hi).symm
    have hcn := hV0.1.1
    have hH : ∀ j, j < c2 → VI (K.2.1.2 (j + 1)) := fun j hj => h3.2.1.2 (j + 1) (by omega)
    have f : ∀ c i, ¬ (c = 9 ∨ 15 ≤ c) → ¬ skey 0 c i → ¬ (c = 8 ∧ i = 0) → hv2 c i = hv c i := fun c i z z2 z3 => by rw [c2f c i z]; exact k4 c i z2 z3
    refine ⟨rfl, hv2 15 0, (K.1, (c2, fun j => K.2.1.2 (j + 1)), K.2.2), ⟨?_, ?_, ?_, ⟨?_, ?_⟩, ?_, ?_⟩, ⟨rfl, ?_, g2, ⟨?_, ?_⟩, ?_⟩, ⟨VI_cg hcg hV0, ⟨by show c2 ≤ 8; have := h3.2.1.1; omega, hH⟩, h3.2.2⟩, by show K.1.1 ≤ _; omega⟩
    · exact CS_cg hcn hcg (CS_fr hcn (fun c i z => c2f c i (skey_c z)) k1)
    · exact CL_fr (fun c i z => f c i (lkey_c z) (fun y => by unfold skey at y; unfold lkey at z; omega) (by unfold lkey at z; omega)) a2
    · exact HC_fr hH (by rw [c2f 8 0 (by omega)]) (by rw [c2f 8 0 (by omega)]) (fun c i z _ => c2f c i (hkey_c z)) k2
    · rw [f 1 0 (by omega) (by unfold skey; omega) (by omega)]; exact a4
    · rw [f 13 0 (by omega) (by unfold skey; omega) (by omega)]; exact a5
    · rw [c2f 8 0 (by omega), k3 4 (by omega) (by omega)]; exact a6
    · rw [c2f 8 0 (by omega), k3 5 (by omega) (by omega)]; exact a7
    · unfold RH RLm at b2 ⊢
      rw [g3 6 (by omega), g4 17 0 (by omega) (by omega), g4 18 0 (by omega) (by omega), g4 19 0 (by omega) (by omega), c1 9 0 (by omega), c1 17 0 (by omega), c1 18 0 (by omega), c1 19 0 (by omega)]; exact b2
    · rw [g3 11 (by omega), c1 9 0 (by omega)]; exact b4
    · rw [g4 20 0 (by omega) (by omega), c1 20 0 (by omega)]; exact b5
    · rw [g3 12 (by omega), c1 9 0 (by omega)]; exact b6
set_option maxRecDepth 10000 in
theorem char_nI : ∀ j : Nat, j < 127 → vp_nar .char (UInt32.toInt32 (Int32.toUInt32 (nI j) % 65536)) = nI j := by decide +kernel
theorem J_type (x : Int32) : JJ (V_X8_type x) (V_X9_type x) := by
  intro B hv hB hRel
  obtain ⟨v, K, h1, h2, h3, h4⟩ := hRel
  obtain ⟨a1, a2, a3, ⟨a4, a5⟩, a6⟩ := id h1
  obtain ⟨b1, b2, b3, ⟨b4, b5⟩, b6⟩ := id h2
  have ht := h3.2.2.1
  have same : ∀ r : Int32, r = r ∧ Rel (B + 64000) hv := fun r => ⟨rfl, v, K, h1, h2, h3, by omega⟩
  unfold V_X8_type
  rw [C_outside]
  by_cases c1 : x < 33
  · rw [if_pos c1]
    refine ⟨fun z => absurd z (by decide), fun _ => ?_⟩
    show V_X9_type x hv (fun r2 hv2 => (-1002 : Int32) = r2 ∧ Rel (B + 64000) hv2)
    unfold V_X9_type
    rw [R_in, if_pos c1]
    exact ⟨fun _ => same _, fun z => absurd rfl z⟩
  rw [if_neg c1]
  by_cases c2 : 126 < x
  · rw [if_neg (fun z => i_nlt.mpr z c2)]
    refine ⟨fun z => absurd z (by decide), fun _ => ?_⟩
    show V_X9_type x hv (fun r2 hv2 => (-1002 : Int32) = r2 ∧ Rel (B + 64000) hv2)
    unfold V_X9_type
    rw [R_in, if_neg c1, if_pos c2]
    exact ⟨fun _ => same _, fun z => absurd rfl z⟩
  rw [if_pos (nl_le c2)]
  refine ⟨fun _ => ?_, fun z => absurd rfl z⟩
  have e33 : (33 : Int32).toInt = 33 := rfl
  have e126 : (126 : Int32).toInt = 126 := rfl
  have x1 : 33 ≤ x.toInt := by rw [i_lt, e33] at c1; omega
  have x2 : x.toInt ≤ 126 := by rw [i_lt, e126] at c2; omega
  have n0 : ¬ x < 0 := by rw [i_lt, i0]; omega
  obtain ⟨w, hw, ew⟩ := nI_of n0
  have hw2 : w < 127 := by rw [ew, nI_toInt hw] at x2; omega
  rw [C_outside, a4, if_neg (nI_pos (by omega))]
  by_cases c3 : K.2.2.1.1 < 40
  · rw [if_pos (show nI K.2.2.1.1 ≤ 39 from nI_le (b := 39) (by omega) (by omega)), nI_clamp (by omega)]
    refine ⟨fun _ => ⟨vp_in_nI c3 (by omega), ?_⟩, fun z => absurd rfl z⟩
    intro hv1 e1 hv2 e2
    have n3 : hv2 = up (up hv 13 0 (upd (hv 13 0) K.2.2.1.1 x)) 1 0 (upd (hv 1 0) 1 (nI (K.2.2.1.1 + 1))) := by
      rw [e2, e1, up_n _ _ (show ¬ (1 = 13 ∧ 0 = 0) by omega), a4, nI_1, ew, char_nI w hw2]
    rw [n3]
    unfold V_X9_type
    rw [R_in, if_neg c1, if_neg c2, up_n _ _ (show ¬ (9 = 1 ∧ 0 = 0) by omega), up_n _ _ (show ¬ (9 = 13 ∧ 0 = 0) by omega), b4]
    refine ⟨fun z => absurd z (by decide), fun _ => ⟨fun z => ?_, fun _ => ⟨vp_in_nI c3 (by omega), ?_⟩⟩⟩
    · have z2 : nI K.2.2.1.1 = nI 40 := z
      rw [nI_eq (by omega) (by omega)] at z2; omega
    rw [nI_clamp (by omega), up_s, upd_s, up_n _ _ (show ¬ (20 = 1 ∧ 0 = 0) by omega), up_n _ _ (show ¬ (20 = 13 ∧ 0 = 0) by omega), b5]
    intro hv4 e4 hv5 e5
    have f4 : ∀ c i, ¬ (c = 20 ∧ i = 0) → ¬ (c = 1 ∧ i = 0) → ¬ (c = 13 ∧ i = 0) → hv4 c i = hv c i := fun c i z1 z2 z3 => by rw [e4, up_n _ _ z1, up_n _ _ z2, up_n _ _ z3]
    have q94 : hv4 9 0 = hv 9 0 := f4 9 0 (by omega) (by omega) (by omega)
    have q9 : hv5 9 0 = upd (hv 9 0) 11 (nI (K.2.2.1.1 + 1)) := by rw [e5, up_s, q94, b4, nI_1]
    have f : ∀ c i, ¬ (c = 9 ∧ i = 0) → ¬ (c = 20 ∧ i = 0) → ¬ (c = 1 ∧ i = 0) → ¬ (c = 13 ∧ i = 0) → hv5 c i = hv c i := fun c i z0 z1 z2 z3 => by rw [e5, up_n _ _ z0]; exact f4 c i z1 z2 z3
    have q1 : hv5 1 0 = upd (hv 1 0) 1 (nI (K.2.2.1.1 + 1)) := by rw [e5, up_n _ _ (by omega), e4, up_n _ _ (by omega), up_s]
    have q13 : hv5 13 0 = upd (hv 13 0) K.2.2.1.1 x := by rw [e5, up_n _ _ (by omega), e4, up_n _ _ (by omega), up_n _ _ (by omega), up_s]
    have q20 : hv5 20 0 = upd K.2.2.1.2 K.2.2.1.1 x := by rw [e5, up_n _ _ (by omega), e4, up_s]
    refine ⟨by rw [q9, upd_s], v, (K.1, K.2.1, (K.2.2.1.1 + 1, upd K.2.2.1.2 K.2.2.1.1 x), K.2.2.2), ⟨?_, ?_, ?_, ⟨?_, fun j hj => ?_⟩, ?_⟩, ⟨?_, ?_, ⟨?_, ?_⟩, ⟨?_, ?_⟩, ?_⟩, ⟨h3.1, h3.2.1, ⟨by show K.2.2.1.1 + 1 ≤ 40; omega, fun j hj => ?_⟩⟩, by show K.1.1 ≤ _; omega⟩
    · exact CS_fr h3.1.1.1 (fun c i z => f c i (fun y => by unfold skey at z; omega) (fun y => by unfold skey at z; omega) (fun y => by unfold skey at z; omega) (fun y => by unfold skey at z; omega)) a1
    · exact CL_fr (fun c i z => f c i (fun y => by unfold lkey at z; omega) (fun y => by unfold lkey at z; omega) (fun y => by unfold lkey at z; omega) (fun y => by unfold lkey at z; omega)) a2
    · exact HC_fr h3.2.1.2 (by rw [f 8 0 (by omega) (by omega) (by omega) (by omega)]) (by rw [f 8 0 (by omega) (by omega) (by omega) (by omega)]) (fun c i z _ => f c i (fun y => by unfold hkey at z; omega) (fun y => by unfold hkey at z; omega) (fun y => by unfold hkey at z; omega) (fun y => by unfold hkey at z; omega)) a3
    · rw [q1, upd_s]
    · have hj2 : j < K.2.2.1.1 + 1 := hj
      show hv5 13 0 j = upd K.2.2.1.2 K.2.2.1.1 x j
      rw [q13, upd_r, upd_r]
      by_cases e : j = K.2.2.1.1
      · rw [if_pos e, if_pos e]
      · rw [if_neg e, if_neg e]; exact a5 j (by omega)
    · rw [f 8 0 (by omega) (by omega) (by omega) (by omega)]; exact a6
    · rw [f 15 0 (by omega) (by omega) (by omega) (by omega)]; exact b1
    · unfold RH RLm at b2 ⊢
      rw [q9, upd_n _ _ (by omega), f 17 0 (by omega) (by omega) (by omega) (by omega), f 18 0 (by omega) (by omega) (by omega) (by omega), f 19 0 (by omega) (by omega) (by omega) (by omega)]; exact b2
    · rw [q9, upd_n _ _ (by omega)]; exact b3.1
    · rw [f 16 0 (by omega) (by omega) (by omega) (by omega)]; exact b3.2
    · rw [q9, upd_s]
    · exact q20
    · rw [q9, upd_n _ _ (by omega)]; exact b6
    · have hj2 : j < K.2.2.1.1 + 1 := hj
      show 33 ≤ (upd K.2.2.1.2 K.2.2.1.1 x j).toInt ∧ (upd K.2.2.1.2 K.2.2.1.1 x j).toInt ≤ 126
      rw [upd_r]
      by_cases e : j = K.2.2.1.1
      · rw [if_pos e]; exact ⟨x1, x2⟩
      · rw [if_neg e]; exact h3.2.2.2 j (by omega)
  · have e40 : K.2.2.1.1 = 40 := by omega
    rw [e40] at b4 ⊢
    rw [if_neg (show ¬ nI 40 ≤ 39 by decide)]
    refine ⟨fun z => absurd z (by decide), fun _ => ?_⟩
    show V_X9_type x hv (fun r2 hv2 => (-1004 : Int32) = r2 ∧ Rel (B + 64000) hv2)
    unfold V_X9_type
    rw [R_in, if_neg c1, if_neg c2, b4]
    exact ⟨fun z => absurd z (by decide), fun _ => ⟨fun _ => same _, fun z => absurd rfl z⟩⟩
