/-! The law: its loops over pumps and incidents. -/
/-- how many pumps run -/
def cR (v : Nat → Int32) : Nat → Nat → Nat
  | 0, _ => 0
  | m + 1, k => (if sl v k 5 = 0 then 0 else 1) + cR v m (k + 1)
theorem cR_run {v : Nat → Int32} (hV : VI v) : ∀ (m k a : Nat), k + m = cntN v → runF v m k (nI a) = nI (a + cR v m k)
  | 0, _, _, _ => rfl
  | m + 1, k, a, h => by
    have hPI := (hV.2.1 k (by omega)).1
    unfold runF cR
    rcases hPI.h5 with e | e
    · rw [e, if_pos rfl, Int32.add_zero, Nat.zero_add]
      exact cR_run hV m (k + 1) a (by omega)
    · rw [e, if_neg (by decide), nI_1, cR_run hV m (k + 1) (a + 1) (by omega)]
      congr 1
      omega
theorem cR_le (v : Nat → Int32) : ∀ (m k : Nat), cR v m k ≤ m
  | 0, _ => Nat.le_refl _
  | m + 1, k => by
    have h := cR_le v m (k + 1)
    unfold cR
    by_cases c : sl v k 5 = 0
    · rw [if_pos c]; omega
    · rw [if_neg c]; omega
theorem cR_one {v : Nat → Int32} {p : Nat} (h : ¬ sl v p 5 = 0) : ∀ (m k : Nat), k ≤ p → p < k + m → 1 ≤ cR v m k
  | 0, _, _, _ => by omega
  | m + 1, k, h1, h2 => by
    unfold cR
    by_cases e : k = p
    · rw [e, if_neg h]; omega
    · have := cR_one h m (k + 1) (by omega) (by omega)
      omega
theorem cR_two {v : Nat → Int32} {p q : Nat} (hp : ¬ sl v p 5 = 0) (hq : ¬ sl v q 5 = 0) (hpq : p < q) : ∀ (m k : Nat), k ≤ p → q < k + m → 2 ≤ cR v m k
  | 0, _, _, _ => by omega
  | m + 1, k, h1, h2 => by
    unfold cR
    by_cases e : k = p
    · have := cR_one hq m (k + 1) (by omega) (by omega)
      rw [e, if_neg hp]
      rw [e] at this
      omega
    · have := cR_two hp hq hpq m (k + 1) (by omega) (by omega)
      omega
theorem lone_of {v : Nat → Int32} {p : Nat} (hV : VI v) (hp : p < cntN v) (hr : runN v = 1) (h5 : ¬ sl v p 5 = 0) : lone p v := by
  have hn := hV.1.1
  have hc := cR_le v (cntN v) 0
  have e : nI (cR v (cntN v) 0) = nI 1 := by
    rw [← Nat.zero_add (cR v (cntN v) 0), ← cR_run hV (cntN v) 0 0 (by omega)]; exact hr
  have e1 : cR v (cntN v) 0 = 1 := (nI_eq (by omega) (by omega)).mp e
  refine ⟨h5, fun q hq hne => ?_⟩
  by_cases c : sl v q 5 = 0
  · exact c
  · exfalso
    rcases Nat.lt_or_gt_of_ne hne with z | z
    · have := cR_two c h5 z (cntN v) 0 (Nat.zero_le _) (by omega); omega
    · have := cR_two h5 c z (cntN v) 0 (Nat.zero_le _) (by omega); omega
theorem inc_at {h k : Nat} {arr : Nat → Int32} {P : Int32 → Prop} (hk : k < h) (hk2 : k < 20) (hP : ∀ j, j < h → j < 20 → P (arr j)) : P (incF h arr (nI k)) := by
  unfold incF
  rw [if_pos (nI_pos' (by omega)), if_neg (nI_ge (by omega) (by omega)), nI_clamp (by omega)]
  have h1 : (h - 1 - k) % 20 ≤ h - 1 - k := Nat.mod_le _ _
  exact hP _ (by omega) (Nat.mod_lt _ (by omega))

set_option maxHeartbeats 4000000 in
theorem law_inc {p : Program} {l : Launch} {e : Env} {s : State} {m : MethodId} {args : Array Value} {below : List Frame} {meth : Method} {c : Code} {cells slots : Nat} {Q : State → Prop} {G : wG} {b : Nat} {n : Nat} {v : Nat → Int32} {K : KS} {hv : HV} (C0 : cx p s m args meth c "RamStationLaw" code 8 G) (hcs : cells ≤ room_1.cells ∧ slots ≤ room_1.slots) (h1 : CR hv 0 v K) (hO : LOK K.1) (hb31 : K.1.1 < 2 ^ 31)
    (next : ∀ (H : Heap) (locs : List Loc) (ls : Array Slot), wd G (lA s) hv H → va_S (lA s) s.heap H locs → lv_has ls 8 [(0, .ref b), (1, .ref (ad G 8 0)), (2, .ref (ad G 9 0)), (3, .int (nI n))] → W p l e room_1 s m args below meth c H locs cells slots Q (F0 m 230 ls [])) : ∀ (M k : Nat) (H : Heap) (locs : List Loc) (ls : Array Slot), k + M = 20 → wd G (lA s) hv H → va_S (lA s) s.heap H locs → lv_has ls 8 [(6, .int (nI k)), (0, .ref b), (1, .ref (ad G 8 0)), (2, .ref (ad G 9 0)), (3, .int (nI n))] → W p l e room_1 s m args below meth c H locs cells slots Q (F0 m 158 ls [])
  | M, k, H, locs, ls, hk, hW, hS, hl => by
    have hx := C0.1
    have hb := C0.2.1
    refine lv_iload hx hb dL_158 (lv_at hl 0 rfl) ?_
    refine lv_aload_n hx hb dL_160 rfl (lv_at hl 2 rfl) ?_
    refine w_ci hS (w_runV (As := []) C0 hW 8 0 (by decide) (by decide) rfl rfl (c_X8_incidents l G (lA s) _ _ (g_incidents (post := fun r hv' => r = nI K.1.1 ∧ hv' = hv) h1 ⟨rfl, rfl⟩)) ⟨⟨w_323, w_6, w_326⟩, pl_X8_incidents, ⟨(Nat.le_of_ble_eq_true rfl), (Nat.le_of_ble_eq_true rfl)⟩, hcs⟩ ⟨w_324, w_325⟩ rfl hl.1 rfl (Nat.le_of_ble_eq_true rfl) dL_161) (fun r1 hv1 h H locs hW hS => ?_)
    obtain ⟨rfl, ev⟩ := h
    rw [ev] at hW
    refine lv_icmp_ge (tgt := 230) hx hb dL_164 (by decide) (fun _ => next H locs ls hW hS (lv_sub hl [1, 2, 3, 4] rfl)) (fun c1 => ?_)
    rw [nI_leI hb31 (by omega)] at c1
    refine lv_iload hx hb dL_167 (lv_at hl 0 rfl) ?_
    refine lv_bipush (v := 20) hx hb dL_169 (by decide) ?_
    refine lv_icmp_ge (tgt := 230) hx hb dL_171 (by decide) (fun _ => next H locs ls hW hS (lv_sub hl [1, 2, 3, 4] rfl)) (fun c2 => ?_)
    have c3 : ¬ nI 20 ≤ nI k := c2
    rw [nI_leI (by omega) (by omega)] at c3
    obtain ⟨M2, rfl⟩ : ∃ M2, M = M2 + 1 := ⟨M - 1, by omega⟩
    have hA : ∀ j, j < K.1.1 → j < 20 → 1 ≤ (K.1.2.1 j).toInt ∧ (K.1.2.1 j).toInt ≤ 4 := fun j a b => (hO j a b).1
    have hB : ∀ j, j < K.1.1 → j < 20 → 0 ≤ (K.1.2.2.1 j).toInt ∧ (K.1.2.2.1 j).toInt ≤ 3 := fun j a b => (hO j a b).2.1
    have hC : ∀ j, j < K.1.1 → j < 20 → 0 ≤ (K.1.2.2.2 j).toInt := fun j a b => (hO j a b).2.2
    have kA := inc_at (P := fun x => 1 ≤ x.toInt ∧ x.toInt ≤ 4) (h := K.1.1) (k := k) (by omega) (by omega) hA
    have kB := inc_at (P := fun x => 0 ≤ x.toInt ∧ x.toInt ≤ 3) (h := K.1.1) (k := k) (by omega) (by omega) hB
    have kC := inc_at (P := fun x => 0 ≤ x.toInt) (h := K.1.1) (k := k) (by omega) (by omega) hC
    have e3 : (3 : Int32).toInt = 3 := rfl
    have e4 : (4 : Int32).toInt = 4 := rfl
    refine lv_aload_n hx hb dL_174 rfl (lv_at hl 2 rfl) ?_
    refine lv_iload hx hb dL_175 (lv_at hl 0 rfl) ?_
    refine w_ci hS (w_runV (As := [.int (nI k)]) C0 hW 8 0 (by decide) (by decide) rfl rfl (c_X8_incidentKind l G (lA s) (nI k) _ _ (g_incidentKind (post := fun r hv' => r = incF K.1.1 K.1.2.1 (nI k) ∧ hv' = _) h1 ⟨rfl, rfl⟩)) ⟨⟨w_327, w_6, w_330⟩, pl_X8_incidentKind, ⟨(Nat.le_of_ble_eq_true rfl), (Nat.le_of_ble_eq_true rfl)⟩, hcs⟩ ⟨w_328, w_329⟩ rfl hl.1 rfl (Nat.le_of_ble_eq_true rfl) dL_177) (fun r2 hv1 h H locs hW hS => ?_)
    obtain ⟨rfl, ev⟩ := h
    rw [ev] at hW
    refine lv_istore (lv' := [(7, .int (incF K.1.1 K.1.2.1 (nI k))), (6, .int (nI k)), (0, .ref b), (1, .ref (ad G 8 0)), (2, .ref (ad G 9 0)), (3, .int (nI n))]) hx hb dL_180 hl (by decide) rfl (fun ls hl => ?_)
    refine lv_iload hx hb dL_182 (lv_at hl 0 rfl) ?_
    refine lv_iconst (v := 1) hx hb dL_184 (by decide) ?_
    refine lv_icmp_lt (tgt := 222) hx hb dL_185 (by decide) (fun z => absurd z (by rw [i_lt, i1]; omega)) (fun _ => ?_)
    refine lv_iload hx hb dL_188 (lv_at hl 0 rfl) ?_
    refine lv_iconst (v := 4) hx hb dL_190 (by decide) ?_
    refine lv_icmp_gt (tgt := 222) hx hb dL_191 (by decide) (fun z => absurd z (by rw [i_lt, e4]; omega)) (fun _ => ?_)
    refine lv_aload_n hx hb dL_194 rfl (lv_at hl 3 rfl) ?_
    refine lv_iload hx hb dL_195 (lv_at hl 1 rfl) ?_
    refine w_ci hS (w_runV (As := [.int (nI k)]) C0 hW 8 0 (by decide) (by decide) rfl rfl (c_X8_incidentPump l G (lA s) (nI k) _ _ (g_incidentPump (post := fun r hv' => r = incF K.1.1 K.1.2.2.1 (nI k) ∧ hv' = _) h1 ⟨rfl, rfl⟩)) ⟨⟨w_338, w_6, w_341⟩, pl_X8_incidentPump, ⟨(Nat.le_of_ble_eq_true rfl), (Nat.le_of_ble_eq_true rfl)⟩, hcs⟩ ⟨w_339, w_340⟩ rfl hl.1 rfl (Nat.le_of_ble_eq_true rfl) dL_197) (fun r3 hv1 h H locs hW hS => ?_)
    obtain ⟨rfl, ev⟩ := h
    rw [ev] at hW
    refine lv_if_lt (tgt := 222) hx hb dL_200 (by decide) (fun z => absurd z (by rw [i_lt, i0]; omega)) (fun _ => ?_)
    refine lv_aload_n hx hb dL_203 rfl (lv_at hl 3 rfl) ?_
    refine lv_iload hx hb dL_204 (lv_at hl 1 rfl) ?_
    refine w_ci hS (w_runV (As := [.int (nI k)]) C0 hW 8 0 (by decide) (by decide) rfl rfl (c_X8_incidentPump l G (lA s) (nI k) _ _ (g_incidentPump (post := fun r hv' => r = incF K.1.1 K.1.2.2.1 (nI k) ∧ hv' = _) h1 ⟨rfl, rfl⟩)) ⟨⟨w_338, w_6, w_341⟩, pl_X8_incidentPump, ⟨(Nat.le_of_ble_eq_true rfl), (Nat.le_of_ble_eq_true rfl)⟩, hcs⟩ ⟨w_339, w_340⟩ rfl hl.1 rfl (Nat.le_of_ble_eq_true rfl) dL_206) (fun r4 hv1 h H locs hW hS => ?_)
    obtain ⟨rfl, ev⟩ := h
    rw [ev] at hW
    refine lv_iconst (v := 3) hx hb dL_209 (by decide) ?_
    refine lv_icmp_gt (tgt := 222) hx hb dL_210 (by decide) (fun z => absurd z (by rw [i_lt, e3]; omega)) (fun _ => ?_)
    refine lv_aload_n hx hb dL_213 rfl (lv_at hl 3 rfl) ?_
    refine lv_iload hx hb dL_214 (lv_at hl 1 rfl) ?_
    refine w_ci hS (w_runV (As := [.int (nI k)]) C0 hW 8 0 (by decide) (by decide) rfl rfl (c_X8_incidentTime l G (lA s) (nI k) _ _ (g_incidentTime (post := fun r hv' => r = incF K.1.1 K.1.2.2.2 (nI k) ∧ hv' = _) h1 ⟨rfl, rfl⟩)) ⟨⟨w_342, w_6, w_345⟩, pl_X8_incidentTime, ⟨(Nat.le_of_ble_eq_true rfl), (Nat.le_of_ble_eq_true rfl)⟩, hcs⟩ ⟨w_343, w_344⟩ rfl hl.1 rfl (Nat.le_of_ble_eq_true rfl) dL_216) (fun r5 hv1 h H locs hW hS => ?_)
    obtain ⟨rfl, ev⟩ := h
    rw [ev] at hW
    refine lv_if_ge (tgt := 224) hx hb dL_219 (by decide) (fun _ => ?_) (fun z => absurd (by rw [i_le, i0]; omega) z)
    refine lv_iinc (v := nI (k + 1)) (lv' := [(6, .int (nI (k + 1))), (7, .int (incF K.1.1 K.1.2.1 (nI k))), (0, .ref b), (1, .ref (ad G 8 0)), (2, .ref (ad G 9 0)), (3, .int (nI n))]) hx hb dL_224 hl (k := 1) rfl (nI_1 k) (by decide) rfl (fun ls hl => ?_)
    refine lv_goto (tgt := 158) hx hb dL_227 (by decide) ?_
    exact law_inc C0 hcs h1 hO hb31 next M2 (k + 1) H locs ls (by omega) hW hS (lv_sub hl [0, 2, 3, 4, 5] rfl)
  termination_by M => M
set_option maxHeartbeats 4000000 in
theorem law_pumps {p : Program} {l : Launch} {e : Env} {s : State} {m : MethodId} {args : Array Value} {below : List Frame} {meth : Method} {c : Code} {cells slots : Nat} {Q : State → Prop} {G : wG} {b : Nat} {n : Nat} {B Tt : Nat} {y : Int32} (C0 : cx p s m args meth c "RamStationLaw" code 8 G) (hcs : cells ≤ room_1.cells ∧ slots ≤ room_1.slots) (hBb : B + 8000 ≤ 1000000) (hTb : Tt ≤ 10000) (hn24 : n ≤ 24)
    (next : ∀ (hv : HV) (H : Heap) (locs : List Loc) (ls : Array Slot), IN (B + 1600 * 4) Tt hv → wd G (lA s) hv H → va_S (lA s) s.heap H locs → lv_has ls 8 [(0, .ref b), (1, .ref (ad G 8 0)), (2, .ref (ad G 9 0)), (3, .int (nI n))] → W p l e room_1 s m args below meth c H locs cells slots Q (F0 m 155 ls [])) : ∀ (M k : Nat) (hv : HV) (H : Heap) (locs : List Loc) (ls : Array Slot), k + M = 4 → IN (B + 1600 * k) Tt hv → wd G (lA s) hv H → va_S (lA s) s.heap H locs → lv_has ls 8 [(6, .int (nI k)), (5, .int y), (0, .ref b), (1, .ref (ad G 8 0)), (2, .ref (ad G 9 0)), (3, .int (nI n))] → W p l e room_1 s m args below meth c H locs cells slots Q (F0 m 84 ls [])
  | M, k, hv, H, locs, ls, hk, hN, hW, hS, hl => by
    have hx := C0.1
    have hb := C0.2.1
    obtain ⟨v, K, hN0⟩ := id hN
    obtain ⟨h1, h2, h3, h4, h5, h6⟩ := id hN0
    have hn := h2.1.1.1
    refine lv_iload hx hb dL_84 (lv_at hl 0 rfl) ?_
    refine lv_aload_n hx hb dL_86 rfl (lv_at hl 3 rfl) ?_
    refine w_ci hS (w_runV (As := []) C0 hW 8 0 (by decide) (by decide) rfl rfl (c_X8_pumps l G (lA s) _ _ (g_pumps (post := fun r hv' => r = nI (cntN v) ∧ hv' = hv) h1 h2 ⟨rfl, rfl⟩)) ⟨⟨w_319, w_6, w_322⟩, pl_X8_pumps, ⟨(Nat.le_of_ble_eq_true rfl), (Nat.le_of_ble_eq_true rfl)⟩, hcs⟩ ⟨w_320, w_321⟩ rfl hl.1 rfl (Nat.le_of_ble_eq_true rfl) dL_87) (fun r1 hv1 h H locs hW hS => ?_)
    obtain ⟨rfl, ev⟩ := h
    rw [ev] at hW
    refine lv_icmp_ge (tgt := 155) hx hb dL_90 (by decide) (fun _ => next _ H locs ls (IN_up (by omega) (Nat.le_refl _) hN) hW hS (lv_sub hl [2, 3, 4, 5] rfl)) (fun c1 => ?_)
    rw [nI_leI (by omega) (by omega)] at c1
    have hp : k < cntN v := by omega
    obtain ⟨M2, rfl⟩ : ∃ M2, M = M2 + 1 := ⟨M - 1, by omega⟩
    have step : ∀ (hv' : HV) (H : Heap) (locs : List Loc), IN (B + 1600 * (k + 1)) Tt hv' → wd G (lA s) hv' H → va_S (lA s) s.heap H locs → W p l e room_1 s m args below meth c H locs cells slots Q (F0 m 149 ls []) := by
      intro hv' H locs hN hW hS
      refine lv_iinc (v := nI (k + 1)) (lv' := [(6, .int (nI (k + 1))), (5, .int y), (0, .ref b), (1, .ref (ad G 8 0)), (2, .ref (ad G 9 0)), (3, .int (nI n))]) hx hb dL_149 hl (k := 0) rfl (nI_1 k) (by decide) rfl (fun ls hl => ?_)
      refine lv_goto (tgt := 84) hx hb dL_152 (by decide) ?_
      exact law_pumps C0 hcs hBb hTb hn24 next M2 (k + 1) hv' H locs ls (by omega) hN hW hS hl
    have keep : IN (B + 1600 * (k + 1)) Tt hv := IN_up (by omega) (Nat.le_refl _) hN
    refine lv_aload_n hx hb dL_93 rfl (lv_at hl 3 rfl) ?_
    refine lv_iload hx hb dL_94 (lv_at hl 0 rfl) ?_
    refine w_ci hS (w_runS (As := [.ref (ad G 8 0), .int (nI k)]) C0 hW (c_L_isPump l G (lA s) (nI k) _ _ (L_isPump (post := fun r hv' => r = 1 ∧ hv' = _) h1 h2 hp (h3.2.2.1 k hp) ⟨rfl, rfl⟩)) ⟨⟨w_562, w_5, w_564⟩, pl_L_isPump, ⟨(Nat.le_of_ble_eq_true rfl), (Nat.le_of_ble_eq_true rfl)⟩, hcs⟩ w_563 rfl hl.1 rfl (Nat.le_of_ble_eq_true rfl) dL_96) (fun r2 hv2 h H locs hW hS => ?_)
    obtain ⟨rfl, ev⟩ := h
    rw [ev] at hW
    refine lv_if_eq (tgt := 147) hx hb dL_99 (by decide) (fun z => absurd z (by decide)) (fun _ => ?_)
    refine lv_aload_n hx hb dL_102 rfl (lv_at hl 3 rfl) ?_
    refine lv_iconst (v := 1) hx hb dL_103 (by decide) ?_
    refine w_ci hS (w_runS (As := [.ref (ad G 8 0), .int 1]) C0 hW (c_L_many l G (lA s) 1 _ _ (L_many (post := fun r hv' => r = runN v ∧ hv' = _) h1 h2 ⟨rfl, rfl⟩)) ⟨⟨w_363, w_5, w_365⟩, pl_L_many, ⟨(Nat.le_of_ble_eq_true rfl), (Nat.le_of_ble_eq_true rfl)⟩, hcs⟩ w_364 rfl hl.1 rfl (Nat.le_of_ble_eq_true rfl) dL_104) (fun r3 hv3 h H locs hW hS => ?_)
    obtain ⟨rfl, ev⟩ := h
    rw [ev] at hW
    refine lv_iconst (v := 1) hx hb dL_107 (by decide) ?_
    refine lv_icmp_ne (tgt := 149) hx hb dL_108 (by decide) (fun _ => step _ H locs keep hW hS) (fun c2 => ?_)
    refine lv_aload_n hx hb dL_111 rfl (lv_at hl 3 rfl) ?_
    refine lv_iload hx hb dL_112 (lv_at hl 0 rfl) ?_
    refine w_ci hS (w_runV (As := [.int (nI k)]) C0 hW 8 0 (by decide) (by decide) rfl rfl (c_X8_phase l G (lA s) (nI k) _ _ (g_phase (post := fun r hv' => r = phF (sl v k) ∧ hv' = _) h1 h2 hp ⟨rfl, rfl⟩)) ⟨⟨w_346, w_6, w_349⟩, pl_X8_phase, ⟨(Nat.le_of_ble_eq_true rfl), (Nat.le_of_ble_eq_true rfl)⟩, hcs⟩ ⟨w_347, w_348⟩ rfl hl.1 rfl (Nat.le_of_ble_eq_true rfl) dL_114) (fun r4 hv4 h H locs hW hS => ?_)
    obtain ⟨rfl, ev⟩ := h
    rw [ev] at hW
    refine lv_if_le (tgt := 149) hx hb dL_117 (by decide) (fun _ => step _ H locs keep hW hS) (fun c3 => ?_)
    have r5 : ¬ sl v k 5 = 0 := fun z => c3 (by unfold phF; rw [if_pos z]; decide)
    have hl1 : lone k v := lone_of h2.1 hp c2 r5
    refine lv_iload_n hx hb dL_120 rfl (lv_at hl 5 rfl) ?_
    refine lv_iconst (v := 2) hx hb dL_121 (by decide) ?_
    refine lv_irem hx hb dL_122 (by decide) ?_
    refine lv_if_ne (tgt := 149) hx hb dL_123 (by decide) (fun _ => step _ H locs keep hW hS) (fun _ => ?_)
    refine lv_aload_n hx hb dL_126 rfl (lv_at hl 3 rfl) ?_
    refine lv_iload hx hb dL_127 (lv_at hl 0 rfl) ?_
    refine lv_iconst (v := 1) hx hb dL_129 (by decide) ?_
    refine lv_iload hx hb dL_130 (lv_at hl 1 rfl) ?_
    refine lv_bipush (v := 9) hx hb dL_132 (by decide) ?_
    refine lv_ishr hx hb dL_134 ?_
    refine lv_bipush (v := 50) hx hb dL_135 (by decide) ?_
    refine w_ci hS (w_runS (As := [.int (y >>> (9 &&& 31)), .int 50]) C0 hW (c_L_low l G (lA s) _ 50 _ _ (L_low (N := 50) (post := fun r hv' => (∃ j : Nat, j < 50 ∧ r = nI j) ∧ hv' = _) rfl (by omega) (by omega) (fun j hj => ⟨⟨j, hj, rfl⟩, rfl⟩))) ⟨⟨w_359, w_5, w_361⟩, pl_L_low, ⟨(Nat.le_of_ble_eq_true rfl), (Nat.le_of_ble_eq_true rfl)⟩, hcs⟩ w_360 rfl hl.1 rfl (Nat.le_of_ble_eq_true rfl) dL_137) (fun r5 hv5 h H locs hW hS => ?_)
    obtain ⟨⟨j, hj, rfl⟩, ev⟩ := h
    rw [ev] at hW
    refine lv_iadd hx hb dL_140 ?_
    refine w_top (y := nI (1 + j)) (nI_add 1 j) ?_
    refine w_ci hS (w_runS (As := [.ref (ad G 8 0), .int (nI k), .int (nI (1 + j))]) C0 hW (c_L_isForetold l G (lA s) (nI k) (nI (1 + j)) _ _ (L_foretold (T := 1 + j) (post := fun r hv' => r = 1 ∧ IN (B + 1600 * k + 1600) Tt hv') hN0 (by omega) hTb hp hl1 (by omega) (by omega) (fun hv' h => ⟨rfl, h⟩))) ⟨⟨w_599, w_5, w_601⟩, pl_L_isForetold, ⟨(Nat.le_of_ble_eq_true rfl), (Nat.le_of_ble_eq_true rfl)⟩, hcs⟩ w_600 rfl hl.1 rfl (Nat.le_of_ble_eq_true rfl) dL_141) (fun r6 hv6 h H locs hW hS => ?_)
    obtain ⟨rfl, hN⟩ := h
    refine lv_if_ne (tgt := 149) hx hb dL_144 (by decide) (fun _ => step _ H locs (IN_up (by omega) (Nat.le_refl _) hN) hW hS) (fun z => absurd z (by decide))
  termination_by M => M
