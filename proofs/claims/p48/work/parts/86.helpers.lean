/-! The law's helpers: their answers. -/
theorem ph_c {f : Nat → Int32} (h : PI f) : (f 5 = 0 ∧ phF f = 0) ∨ (f 5 = 1 ∧ (phF f = 1 ∨ phF f = 2)) := by
  unfold phF
  rcases h.h5 with e | e
  · exact Or.inl ⟨e, if_pos e⟩
  · refine Or.inr ⟨e, ?_⟩
    rw [if_neg (by rw [e]; decide)]
    rcases h.h7 with e7 | e7
    · rw [e7]; exact Or.inl (by decide)
    · rw [e7]; exact Or.inr (by decide)
theorem ef_pos2 {t : Int} {f : Nat → Int32} (h : PI f) (hc : CI t f) (ht : 0 ≤ t ∧ t ≤ 20000) (c : ¬ allF f = 0) : 0 ≤ (efF f).toInt := by
  unfold efF
  rw [if_neg c]
  obtain ⟨e1, e2, e3⟩ := ef_b h hc ht
  obtain ⟨n1, n2⟩ := ef_nz h hc ht c
  obtain ⟨h17, h18, h19⟩ := hc
  have hh0 := h.h0
  have hh4 := h.2.2.2.2.1
  have d1 : 0 ≤ (1000 * (f 19).toInt) * (f 4).toInt := Int.mul_nonneg (by omega) (by omega)
  have q := q64_div (a := (1000 * (Int32.toInt64 (f 19))) * (Int32.toInt64 (f 4))) (b := allF f * Int32.toInt64 (f 0)) (by rw [e3]; exact d1) (by omega)
  have q0 : 0 ≤ 1000 * (f 19).toInt * (f 4).toInt / (allF f * Int32.toInt64 (f 0)).toInt := Int.ediv_nonneg d1 (by omega)
  have q1 : 1000 * (f 19).toInt * (f 4).toInt / (allF f * Int32.toInt64 (f 0)).toInt ≤ 50000 := by
    refine Int.ediv_le_of_le_mul (by omega) ?_
    have m1 : (1000 * (f 19).toInt) * (f 4).toInt ≤ (1000 * (f 19).toInt) * 500 := Int.mul_le_mul_of_nonneg_left (by omega) (by omega)
    have m2 : (allF f).toInt * 10 ≤ (allF f).toInt * (f 0).toInt := Int.mul_le_mul_of_nonneg_left (by omega) (by omega)
    rw [e2]
    omega
  rw [e3] at q
  rw [q64_32 (by rw [q]; omega) (by rw [q]; omega), q]
  exact q0
theorem all_0 {t : Int} {f : Nat → Int32} (h : PI f) (hc : CI t f) (ht : 0 ≤ t ∧ t ≤ 20000) : (f 17 + f 18 + f 19 = 0 ↔ allF f = 0) := by
  obtain ⟨e1, _, _⟩ := ef_b h hc ht
  obtain ⟨h17, h18, h19⟩ := hc
  have a1 : (f 17 + f 18).toInt = (f 17).toInt + (f 18).toInt := i_add (by omega) (by omega)
  have a2 : (f 17 + f 18 + f 19).toInt = (f 17).toInt + (f 18).toInt + (f 19).toInt := by rw [i_add (by rw [a1]; omega) (by rw [a1]; omega), a1]
  refine ⟨fun z => ?_, fun z => ?_⟩
  · rw [z, i0] at a2
    refine Int64.toInt_inj.mp ?_
    rw [e1, ← a2]; rfl
  · rw [z] at e1
    have e0 : (0 : Int64).toInt = 0 := rfl
    rw [e0] at e1
    rw [i_eq, a2, ← e1, i0]
section HL
variable {hv : HV} {v : Nat → Int32} {K : KS} {post : Int32 → HV → Prop}
theorem L_manyL (h : CR hv 0 v K) (hI : IV v K) : ∀ (m n p : Nat) (acc : Int32), m < n → p + m = cntN v → post (runF v m p acc) hv → V_L_many_4 1 post n acc (nI p) hv
  | 0, n + 1, p, acc, _, hm, q => by
    have hn := hI.1.1.1
    rw [V_L_many_4]
    exact g_pumps h hI ⟨fun _ => q, fun c => absurd (nI_le (by omega) (by omega)) c⟩
  | m + 1, n + 1, p, acc, hlt, hm, q => by
    have hn := hI.1.1.1
    have hp : p < cntN v := by omega
    rw [V_L_many_4]
    unfold runF at q
    refine g_pumps h hI ⟨fun c => by rw [nI_leI (by omega) (by omega)] at c; omega, fun _ => g_phase h hI hp ?_⟩
    rcases ph_c (hI.1.2.1 p hp).1 with ⟨e5, ep⟩ | ⟨e5, ep⟩
    · rw [ep]
      rw [e5, Int32.add_zero] at q
      refine ⟨fun _ x e => ?_, fun z => absurd (by decide) z⟩
      rw [e, nI_1]; exact L_manyL h hI m n (p + 1) _ (by omega) (by omega) q
    · rw [e5] at q
      refine ⟨fun z => ?_, fun _ x6 e6 x7 e7 => ?_⟩
      · rcases ep with ep | ep
        · rw [ep] at z; exact absurd z (by decide)
        · rw [ep] at z; exact absurd z (by decide)
      · rw [e6, e7, nI_1]; exact L_manyL h hI m n (p + 1) _ (by omega) (by omega) q
theorem L_many (h : CR hv 0 v K) (hI : IV v K) (q : post (runN v) hv) : V_L_many 1 hv post :=
  ⟨cntN v + 1, L_manyL h hI (cntN v) _ 0 0 (by omega) (by omega) q⟩
theorem L_liftL (h : CR hv 0 v K) (hI : IV v K) : ∀ (m n p : Nat) (acc : Int32), m < n → p + m = cntN v → post (smF (fun q => sl v q 19) m p acc) hv → V_L_lifted_4 post n acc (nI p) hv
  | 0, n + 1, p, acc, _, hm, q => by
    have hn := hI.1.1.1
    rw [V_L_lifted_4]
    exact g_pumps h hI ⟨fun _ => q, fun c => absurd (nI_le (by omega) (by omega)) c⟩
  | m + 1, n + 1, p, acc, hlt, hm, q => by
    have hn := hI.1.1.1
    have hp : p < cntN v := by omega
    rw [V_L_lifted_4]
    refine g_pumps h hI ⟨fun c => by rw [nI_leI (by omega) (by omega)] at c; omega, fun _ => g_lifted h hI hp ?_⟩
    intro x4 e4 x5 e5
    rw [e4, e5, nI_1]; exact L_liftL h hI m n (p + 1) _ (by omega) (by omega) q
theorem L_lifted (h : CR hv 0 v K) (hI : IV v K) (q : post (LFT v) hv) : V_L_lifted hv post :=
  ⟨cntN v + 1, L_liftL h hI (cntN v) _ 0 0 (by omega) (by omega) q⟩
theorem L_through {p : Nat} (h : CR hv 0 v K) (hI : IV v K) (hp : p < cntN v) (q : post (thF (sl v p)) hv) : V_L_through (nI p) hv post :=
  g_wasted h hI hp (g_relieved h hI hp (g_lifted h hI hp (g_chamberWater h hI hp q)))
theorem L_balL {k : Int32 → Int32 → HV → Prop} (h : CR hv 0 v K) (hI : IV v K) (hB : BK (hv 9 0) v) : ∀ (m n p : Nat) (acc : Int32), m < n → p + m = cntN v → k (smF (fun q => thF (sl v q)) m p acc) 1 hv → V_L_isBalanced_29 post k n acc 1 (nI p) hv
  | 0, n + 1, p, acc, _, hm, q => by
    have hn := hI.1.1.1
    rw [V_L_isBalanced_29]
    exact g_pumps h hI ⟨fun _ => q, fun c => absurd (nI_le (by omega) (by omega)) c⟩
  | m + 1, n + 1, p, acc, hlt, hm, q => by
    have hn := hI.1.1.1
    have hp : p < cntN v := by omega
    have e2 : (2 : Int32) + nI p = nI (2 + p) := nI_add 2 p
    have hPB := hB.2.2.1 p hp
    have h15 := (hI.1.2.1 p hp).1.h15
    have e30 : (30000 : Int32).toInt = 30000 := rfl
    rw [V_L_isBalanced_29]
    refine g_pumps h hI ⟨fun c => by rw [nI_leI (by omega) (by omega)] at c; omega, fun _ => L_through h hI hp ?_⟩
    intro x9 e9
    refine ⟨fun z => absurd z (by decide), fun _ => g_lifted h hI hp (g_tank h hI hp (g_overflowed h hI hp ?_))⟩
    rw [e2, nI_clamp (by omega)]
    refine ⟨vp_in_nI (by omega) (by omega), fun _ => g_tank h hI hp ⟨fun z => ?_, fun _ x e => ?_⟩, fun z => absurd hPB.2.1 z⟩
    · rw [i_lt, e30] at z; omega
    · rw [e, e9, nI_1]; exact L_balL h hI hB m n (p + 1) _ (by omega) (by omega) q
theorem L_balanced (h : CR hv 0 v K) (hI : IV v K) (hB : BK (hv 9 0) v) (q : post 1 hv) : V_L_isBalanced hv post := by
  have hb := hI.1.2.2.1
  have e20 : (20000 : Int32).toInt = 20000 := rfl
  refine g_basin h (g_spilled h ?_)
  intro x3 e3
  refine g_basin h ⟨fun z => ?_, fun _ => ⟨cntN v + 1, L_balL h hI hB (cntN v) _ 0 _ (by omega) (by omega) ⟨fun z => absurd z (by decide), fun _ => ⟨fun _ => q, fun z => absurd ?_ z⟩⟩⟩⟩
  · rw [i_lt, e20] at z; omega
  · rw [e3]; exact hB.2.1
theorem L_bestL {k : Int32 → HV → Prop} (h : CR hv 0 v K) (hI : IV v K) : ∀ (m n : Nat) (best : Int32), m < n → m ≤ cntN v → (best = -1005 ∨ ∃ b, b < cntN v ∧ best = nI b) → k (dwF v m best) hv → V_L_isBest_11 post k n best (nI m - 1) hv
  | 0, n + 1, best, _, _, _, q => by
    rw [V_L_isBest_11]
    exact ⟨fun _ => q, fun z => absurd (by decide) z⟩
  | m + 1, n + 1, best, hlt, hm, hb, q => by
    have hn := hI.1.1.1
    have hp : m < cntN v := by omega
    have es : ∀ x : Int32, x = nI m + (-1) → x = nI m - 1 := fun x e => by rw [e, Int32.sub_eq_add_neg]
    rw [nI_pred, V_L_isBest_11]
    unfold dwF at q
    refine ⟨fun z => absurd z (nI_pos (by omega)), fun _ => g_efficiency h hI hp ⟨fun c x e => ?_, fun c => ⟨fun d x e => ?_, fun d => ?_⟩⟩⟩
    · rw [if_pos c] at q
      rw [es x e]; exact L_bestL h hI m n _ (by omega) (by omega) hb q
    · rw [if_neg c, if_pos d] at q
      rw [es x e]; exact L_bestL h hI m n _ (by omega) (by omega) (Or.inr ⟨m, hp, rfl⟩) q
    · obtain ⟨b, hb1, hb2⟩ := hb.resolve_left d
      rw [if_neg c, if_neg d, hb2, nI_clamp (by omega)] at q
      rw [hb2]
      refine g_efficiency h hI hp (g_efficiency h hI hb1 ⟨fun z x e => ?_, fun z x e => ?_⟩)
      · rw [if_pos z] at q
        rw [es x e]; exact L_bestL h hI m n _ (by omega) (by omega) (Or.inr ⟨b, hb1, rfl⟩) q
      · rw [if_neg z] at q
        rw [es x e]; exact L_bestL h hI m n _ (by omega) (by omega) (Or.inr ⟨m, hp, rfl⟩) q
theorem L_best (h : CR hv 0 v K) (hI : IV v K) (q : post 1 hv) : V_L_isBest hv post := by
  refine g_pumps h hI ?_
  intro x2 e2
  rw [e2]
  refine ⟨cntN v + 1, L_bestL h hI (cntN v) _ _ (by omega) (Nat.le_refl _) (Or.inl rfl) ?_⟩
  exact g_bestPump h hI ⟨fun _ => q, fun z => absurd (best_eq hI.1) z⟩
/-! isPump. -/
theorem L_trL {p c : Nat} {t : Int} {tk : Int32} {k : Int32 → Int32 → HV → Prop} (h : CR hv 0 v K) (hI : IV v K) (hp : p < cntN v) (hB : PB t tk (sl v p)) (hc : sl v p 40 = nI c) (hc2 : c ≤ 32) : ∀ (m n i : Nat), m < n → i + m = c → k 1 (nI c) hv → V_L_isPump_65 (nI p) post k n 1 (nI i) hv
  | 0, n + 1, i, _, hi, q => by
    rw [V_L_isPump_65]
    refine g_trace h hI hp (j := i) (by omega) ?_
    rw [if_pos (by rw [hc]; exact nI_le (by omega) (by omega)), show i = c by omega]
    exact ⟨fun _ => q, fun z => absurd rfl z⟩
  | m + 1, n + 1, i, hn, hi, q => by
    rw [V_L_isPump_65]
    have hx := hB.2.2.2.2.2.2.2 i (by omega)
    have e1 : (-128 : Int32).toInt = -128 := by decide
    have e2 : (127 : Int32).toInt = 127 := by decide
    have ne : ¬ sl v p 40 ≤ nI i := by rw [hc]; exact nI_ge (by omega) (by omega)
    refine g_trace h hI hp (j := i) (by omega) ?_
    rw [if_neg ne]
    refine ⟨fun z => ?_, fun _ => ⟨fun z => absurd z (by decide), fun _ => g_trace h hI hp (j := i) (by omega) ?_⟩⟩
    · rw [z, m1005] at hx; omega
    rw [if_neg ne]
    refine ⟨fun z => ?_, fun _ => g_trace h hI hp (j := i) (by omega) ?_⟩
    · rw [i_lt, e1] at z; omega
    rw [if_neg ne]
    refine ⟨fun z => ?_, fun _ x e => ?_⟩
    · rw [i_lt, e2] at z; omega
    rw [e, nI_1]; exact L_trL h hI hp hB hc hc2 m n (i + 1) (by omega) (by omega) q
theorem L_ivL {p c : Nat} {t : Int} {tk f5 : Int32} {k : Int32 → Int32 → HV → Prop} (h : CR hv 0 v K) (hI : IV v K) (hp : p < cntN v) (hB : PB t tk (sl v p)) (hc : sl v p 23 = nI c) (hc2 : c ≤ 16) : ∀ (m n i : Nat), m < n → i + m = c → k 1 (nI c) hv → V_L_isPump_126 (nI p) f5 post k n 1 (nI i) hv
  | 0, n + 1, i, _, hi, q => by
    rw [V_L_isPump_126]
    refine g_interval h hI hp (j := i) (by omega) ?_
    rw [if_pos (by rw [hc]; exact nI_le (by omega) (by omega)), show i = c by omega]
    exact ⟨fun _ => q, fun z => absurd rfl z⟩
  | m + 1, n + 1, i, hn, hi, q => by
    rw [V_L_isPump_126]
    have hx := hB.2.2.2.2.2.1 i (by omega)
    have ne : ¬ sl v p 23 ≤ nI i := by rw [hc]; exact nI_ge (by omega) (by omega)
    refine g_interval h hI hp (j := i) (by omega) ?_
    rw [if_neg ne]
    refine ⟨fun z => ?_, fun _ => ⟨fun z => absurd z (by decide), fun _ => g_interval h hI hp (j := i) (by omega) ?_⟩⟩
    · rw [z, m1005] at hx; omega
    rw [if_neg ne]
    refine ⟨fun z => ?_, fun _ x e => ?_⟩
    · rw [i_lt, i0] at z; omega
    rw [e, nI_1]; exact L_ivL h hI hp hB hc hc2 m n (i + 1) (by omega) (by omega) q
/-- the last of isPump's questions -/
theorem L_effQ {p : Nat} {x : Int32} (h : CR hv 0 v K) (hI : IV v K) (hp : p < cntN v) (hx : x = sl v p 17 + sl v p 18 + sl v p 19) (q : post 1 hv) :
    (x = 0 → (V_X8_efficiency (nI p) hv (fun r37 hv37 => ((r37 = (-1005) → post 1 hv37) ∧ (¬ (r37 = (-1005)) → post 0 hv37))))) ∧ (¬ (x = 0) → (V_X8_efficiency (nI p) hv (fun r35 hv35 => ((r35 < 0 → post 0 hv35) ∧ (¬ (r35 < 0) → post 1 hv35))))) := by
  obtain ⟨h1, h2⟩ := hI.1.2.1 p hp
  have ht := hI.1.2.2.2.2
  have ha := all_0 h1 h2 ht
  rw [← hx] at ha
  refine ⟨fun z => g_efficiency h hI hp ⟨fun _ => q, fun y => absurd ?_ y⟩, fun z => g_efficiency h hI hp ⟨fun y => ?_, fun _ => q⟩⟩
  · unfold efF; rw [if_pos (ha.mp z)]
  · have := ef_pos2 h1 h2 ht (fun w => z (ha.mpr w))
    rw [i_lt, i0] at y; omega
theorem L_isPump {p : Nat} {t : Int} {tk : Int32} (h : CR hv 0 v K) (hI : IV v K) (hp : p < cntN v) (hB : PB t tk (sl v p)) (q : post 1 hv) : V_L_isPump (nI p) hv post := by
  have hPI := (hI.1.2.1 p hp).1
  have h6 := hPI.h6
  have h13 := hPI.h13
  have hh := hPI.head
  have h40 := hB.2.2.2.2.2.2.1
  have h16 := hB.2.2.1
  have h23 := hB.2.2.2.1
  have e20 : (2000 : Int32).toInt = 2000 := rfl
  have e16 : (16 : Int32).toInt = 16 := rfl
  obtain ⟨c, hc, ec⟩ := nI_of (x := sl v p 40) (by rw [i_lt, i0]; omega)
  obtain ⟨d, hd, ed⟩ := nI_of (x := sl v p 23) (by rw [i_lt, i0, h23]; by_cases z : (sl v p 16).toInt < 16 <;> simp only [z, if_true, if_false] <;> omega)
  have hc2 : c ≤ 32 := by rw [ec, nI_toInt hc] at h40; omega
  have hd2 : d ≤ 16 := by
    rw [ed, nI_toInt hd] at h23
    by_cases z : (sl v p 16).toInt < 16
    · rw [if_pos z] at h23; omega
    · rw [if_neg z] at h23; omega
  unfold V_L_isPump
  refine g_phase h hI hp (g_speed h hI hp ⟨fun z => ?_, fun _ => ⟨fun z => ?_, fun _ => ⟨fun c1 => ?_, fun c1 => ?_⟩⟩⟩)
  · rw [i_lt, i0] at z; omega
  · rw [i_lt, e20] at z; omega
  · refine g_chamberWater h hI hp ⟨fun z => ?_, fun _ => g_chamberHead h hI hp ⟨fun z => ?_, fun _ => ?_⟩⟩
    · rw [i_lt, i0] at z; omega
    · rw [i_lt, i0] at z; omega
    refine ⟨c + 1, L_trL h hI hp hB ec hc2 c _ 0 (by omega) (by omega) ⟨d + 1, L_ivL h hI hp hB ed hd2 d _ 0 (by omega) (by omega) ?_⟩⟩
    refine g_wasted h hI hp (g_relieved h hI hp (g_lifted h hI hp ?_))
    intro x28 e28
    refine ⟨fun z => absurd z (by decide), fun _ => ⟨fun z => ?_, fun _ => g_beats h hI hp ⟨fun z => ⟨fun _ => L_effQ h hI hp e28 q, fun y => ?_⟩, fun z => g_beats h hI hp ⟨fun _ => L_effQ h hI hp e28 q, fun y => ?_⟩⟩⟩⟩
    · exact absurd (show nI 32 < nI c from z) (nI_nlt hc2 (by omega))
    · rw [i_le, e16] at z
      rw [if_neg (by omega)] at h23
      exact absurd (by rw [← ed, i_eq, h23, e16]) y
    · rw [i_le, e16] at z
      rw [if_pos (by omega)] at h23
      exact absurd (by rw [← ed, i_eq, h23]) y
  · rcases ph_c hPI with ⟨e5, _⟩ | ⟨_, ep⟩
    · obtain ⟨s6, s8⟩ := hB.1 e5
      refine ⟨fun _ => g_openTicks h hI hp ⟨fun _ => ?_, fun z => absurd s8 z⟩, fun z => absurd s6 z⟩
      refine g_chamberWater h hI hp ⟨fun z => ?_, fun _ => g_chamberHead h hI hp ⟨fun z => ?_, fun _ => ?_⟩⟩
      · rw [i_lt, i0] at z; omega
      · rw [i_lt, i0] at z; omega
      refine ⟨c + 1, L_trL h hI hp hB ec hc2 c _ 0 (by omega) (by omega) ⟨d + 1, L_ivL h hI hp hB ed hd2 d _ 0 (by omega) (by omega) ?_⟩⟩
      refine g_wasted h hI hp (g_relieved h hI hp (g_lifted h hI hp ?_))
      intro x28 e28
      refine ⟨fun z => absurd z (by decide), fun _ => ⟨fun z => ?_, fun _ => g_beats h hI hp ⟨fun z => ⟨fun _ => L_effQ h hI hp e28 q, fun y => ?_⟩, fun z => g_beats h hI hp ⟨fun _ => L_effQ h hI hp e28 q, fun y => ?_⟩⟩⟩⟩
      · exact absurd (show nI 32 < nI c from z) (nI_nlt hc2 (by omega))
      · rw [i_le, e16] at z
        rw [if_neg (by omega)] at h23
        exact absurd (by rw [← ed, i_eq, h23, e16]) y
      · rw [i_le, e16] at z
        rw [if_pos (by omega)] at h23
        exact absurd (by rw [← ed, i_eq, h23]) y
    · rcases ep with ep | ep
      · rw [ep] at c1; exact absurd (by decide) c1
      · rw [ep] at c1; exact absurd (by decide) c1
end HL
