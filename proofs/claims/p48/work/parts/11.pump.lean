theorem pl_X4_copyFrom : yX4_copyFrom.cls ≠ "java/lang/invoke/MethodHandle" ∧ yX4_copyFrom.cls ≠ "java/lang/invoke/VarHandle" ∧ (parseMethodDescriptor yX4_copyFrom.desc).map (fun d => d.parameters.length) = some 1 := ⟨by decide +kernel, by decide +kernel, by decide +kernel⟩
def V_X4_copyFrom (i0 : Nat) (i1 : Nat) (hv : HV) (post : HV → Prop) : Prop := (∀ hv1 : HV, hv1 = up hv 4 i0 (upd (hv 4 i0) 0 (hv 4 i1 0)) → (∀ hv2 : HV, hv2 = up hv1 4 i0 (upd (hv1 4 i0) 1 (hv1 4 i1 1)) → (∀ hv3 : HV, hv3 = up hv2 4 i0 (upd (hv2 4 i0) 2 (hv2 4 i1 2)) → (∀ hv4 : HV, hv4 = up hv3 4 i0 (upd (hv3 4 i0) 3 (hv3 4 i1 3)) → (∀ hv5 : HV, hv5 = up hv4 4 i0 (upd (hv4 4 i0) 4 (hv4 4 i1 4)) → (bOK (hv5 4 i1 5) ∧ (∀ hv7 : HV, hv7 = up hv5 4 i0 (upd (hv5 4 i0) 5 (hv5 4 i1 5)) → (∀ hv8 : HV, hv8 = up hv7 4 i0 (upd (hv7 4 i0) 6 (hv7 4 i1 6)) → (bOK (hv8 4 i1 7) ∧ (∀ hv10 : HV, hv10 = up hv8 4 i0 (upd (hv8 4 i0) 7 (hv8 4 i1 7)) → (∀ hv11 : HV, hv11 = up hv10 4 i0 (upd (hv10 4 i0) 8 (hv10 4 i1 8)) → (∀ hv12 : HV, hv12 = up hv11 4 i0 (upd (hv11 4 i0) 9 (hv11 4 i1 9)) → (∀ hv13 : HV, hv13 = up hv12 4 i0 (upd (hv12 4 i0) 10 (hv12 4 i1 10)) → (∀ hv14 : HV, hv14 = up hv13 4 i0 (upd (hv13 4 i0) 11 (hv13 4 i1 11)) → (∀ hv15 : HV, hv15 = up hv14 4 i0 (upd (hv14 4 i0) 12 (hv14 4 i1 12)) → (V_X0_copyFrom i0 i1 hv15 (fun hv16 => (V_X2_copyFrom i0 i1 hv16 (fun hv17 => (V_X6_copyFrom (2 * i0) (2 * i1) hv17 (fun hv18 => (V_X6_copyFrom (2 * i0 + 1) (2 * i1 + 1) hv18 (fun hv19 => post hv19)))))))))))))))))))))))
set_option maxHeartbeats 4000000 in
theorem c_X4_copyFrom (l : Launch) (G : wG) (A : Nat → Prop) (i0 : Nat) (i1 : Nat) (hi0 : i0 < 37) (hi1 : i1 < 37) (hv : HV) (post : HV → Prop) (h : V_X4_copyFrom i0 i1 hv post) : wM l yX4_copyFrom cX4_copyFrom 2 ((Option.none : Option FieldType)) 2 G A hv [.ref (ad G 4 i0), .ref (ad G 4 i1)] (qV G A post) := by
  refine wM_of (by decide +kernel) (Nat.le_of_ble_eq_true rfl) ?_
  intro p e s m args below meth c C0 hr ls hl hW hS
  have hx := C0.1
  have hb := C0.2.1
  have hown := C0.2.2.2.1
  have hts := C0.2.2.2.2.1
  have hl : lv_has ls 2 [(0, .ref (ad G 4 i0)), (1, .ref (ad G 4 i1))] := hl
  unfold V_X4_copyFrom at h
  refine lv_aload_n hx hb dX4_copyFrom_0 rfl (lv_at hl 0 rfl) ?_
  refine lv_aload_n hx hb dX4_copyFrom_1 rfl (lv_at hl 1 rfl) ?_
  refine w_get (v := .int (hv 4 i1 0)) C0 hW 4 i1 (by decide) (show i1 < 37 by omega) rfl rfl in_X4 0 (by decide) w_121 rfl dX4_copyFrom_2 ?_
  refine w_put (v := (hv 4 i1 0)) C0 hW hS 4 i0 (by decide) (show i0 < 37 by omega) rfl rfl in_X4 tyX4_ok nmX4 0 (by decide) w_121 rfl rfl rfl (Nat.le_of_ble_eq_true rfl) rfl dX4_copyFrom_5 (fun hv1 ehv1 H locs hW hS => ?_)
  have h := h hv1 ehv1
  refine lv_aload_n hx hb dX4_copyFrom_8 rfl (lv_at hl 0 rfl) ?_
  refine lv_aload_n hx hb dX4_copyFrom_9 rfl (lv_at hl 1 rfl) ?_
  refine w_get (v := .int (hv1 4 i1 1)) C0 hW 4 i1 (by decide) (show i1 < 37 by omega) rfl rfl in_X4 1 (by decide) w_122 rfl dX4_copyFrom_10 ?_
  refine w_put (v := (hv1 4 i1 1)) C0 hW hS 4 i0 (by decide) (show i0 < 37 by omega) rfl rfl in_X4 tyX4_ok nmX4 1 (by decide) w_122 rfl rfl rfl (Nat.le_of_ble_eq_true rfl) rfl dX4_copyFrom_13 (fun hv2 ehv2 H locs hW hS => ?_)
  have h := h hv2 ehv2
  refine lv_aload_n hx hb dX4_copyFrom_16 rfl (lv_at hl 0 rfl) ?_
  refine lv_aload_n hx hb dX4_copyFrom_17 rfl (lv_at hl 1 rfl) ?_
  refine w_get (v := .int (hv2 4 i1 2)) C0 hW 4 i1 (by decide) (show i1 < 37 by omega) rfl rfl in_X4 2 (by decide) w_123 rfl dX4_copyFrom_18 ?_
  refine w_put (v := (hv2 4 i1 2)) C0 hW hS 4 i0 (by decide) (show i0 < 37 by omega) rfl rfl in_X4 tyX4_ok nmX4 2 (by decide) w_123 rfl rfl rfl (Nat.le_of_ble_eq_true rfl) rfl dX4_copyFrom_21 (fun hv3 ehv3 H locs hW hS => ?_)
  have h := h hv3 ehv3
  refine lv_aload_n hx hb dX4_copyFrom_24 rfl (lv_at hl 0 rfl) ?_
  refine lv_aload_n hx hb dX4_copyFrom_25 rfl (lv_at hl 1 rfl) ?_
  refine w_get (v := .int (hv3 4 i1 3)) C0 hW 4 i1 (by decide) (show i1 < 37 by omega) rfl rfl in_X4 3 (by decide) w_124 rfl dX4_copyFrom_26 ?_
  refine w_put (v := (hv3 4 i1 3)) C0 hW hS 4 i0 (by decide) (show i0 < 37 by omega) rfl rfl in_X4 tyX4_ok nmX4 3 (by decide) w_124 rfl rfl rfl (Nat.le_of_ble_eq_true rfl) rfl dX4_copyFrom_29 (fun hv4 ehv4 H locs hW hS => ?_)
  have h := h hv4 ehv4
  refine lv_aload_n hx hb dX4_copyFrom_32 rfl (lv_at hl 0 rfl) ?_
  refine lv_aload_n hx hb dX4_copyFrom_33 rfl (lv_at hl 1 rfl) ?_
  refine w_get (v := .int (hv4 4 i1 4)) C0 hW 4 i1 (by decide) (show i1 < 37 by omega) rfl rfl in_X4 4 (by decide) w_125 rfl dX4_copyFrom_34 ?_
  refine w_put (v := (hv4 4 i1 4)) C0 hW hS 4 i0 (by decide) (show i0 < 37 by omega) rfl rfl in_X4 tyX4_ok nmX4 4 (by decide) w_125 rfl rfl rfl (Nat.le_of_ble_eq_true rfl) rfl dX4_copyFrom_37 (fun hv5 ehv5 H locs hW hS => ?_)
  have h := h hv5 ehv5
  refine lv_aload_n hx hb dX4_copyFrom_40 rfl (lv_at hl 0 rfl) ?_
  refine lv_aload_n hx hb dX4_copyFrom_41 rfl (lv_at hl 1 rfl) ?_
  refine w_get (v := .int (hv5 4 i1 5)) C0 hW 4 i1 (by decide) (show i1 < 37 by omega) rfl rfl in_X4 5 (by decide) w_126 rfl dX4_copyFrom_42 ?_
  obtain ⟨q6, h⟩ := h
  refine w_put (v := (hv5 4 i1 5)) C0 hW hS 4 i0 (by decide) (show i0 < 37 by omega) rfl rfl in_X4 tyX4_ok nmX4 5 (by decide) w_126 rfl q6.1 q6.2 (Nat.le_of_ble_eq_true rfl) rfl dX4_copyFrom_45 (fun hv7 ehv7 H locs hW hS => ?_)
  have h := h hv7 ehv7
  refine lv_aload_n hx hb dX4_copyFrom_48 rfl (lv_at hl 0 rfl) ?_
  refine lv_aload_n hx hb dX4_copyFrom_49 rfl (lv_at hl 1 rfl) ?_
  refine w_get (v := .int (hv7 4 i1 6)) C0 hW 4 i1 (by decide) (show i1 < 37 by omega) rfl rfl in_X4 6 (by decide) w_129 rfl dX4_copyFrom_50 ?_
  refine w_put (v := (hv7 4 i1 6)) C0 hW hS 4 i0 (by decide) (show i0 < 37 by omega) rfl rfl in_X4 tyX4_ok nmX4 6 (by decide) w_129 rfl rfl rfl (Nat.le_of_ble_eq_true rfl) rfl dX4_copyFrom_53 (fun hv8 ehv8 H locs hW hS => ?_)
  have h := h hv8 ehv8
  refine lv_aload_n hx hb dX4_copyFrom_56 rfl (lv_at hl 0 rfl) ?_
  refine lv_aload_n hx hb dX4_copyFrom_57 rfl (lv_at hl 1 rfl) ?_
  refine w_get (v := .int (hv8 4 i1 7)) C0 hW 4 i1 (by decide) (show i1 < 37 by omega) rfl rfl in_X4 7 (by decide) w_131 rfl dX4_copyFrom_58 ?_
  obtain ⟨q9, h⟩ := h
  refine w_put (v := (hv8 4 i1 7)) C0 hW hS 4 i0 (by decide) (show i0 < 37 by omega) rfl rfl in_X4 tyX4_ok nmX4 7 (by decide) w_131 rfl q9.1 q9.2 (Nat.le_of_ble_eq_true rfl) rfl dX4_copyFrom_61 (fun hv10 ehv10 H locs hW hS => ?_)
  have h := h hv10 ehv10
  refine lv_aload_n hx hb dX4_copyFrom_64 rfl (lv_at hl 0 rfl) ?_
  refine lv_aload_n hx hb dX4_copyFrom_65 rfl (lv_at hl 1 rfl) ?_
  refine w_get (v := .int (hv10 4 i1 8)) C0 hW 4 i1 (by decide) (show i1 < 37 by omega) rfl rfl in_X4 8 (by decide) w_133 rfl dX4_copyFrom_66 ?_
  refine w_put (v := (hv10 4 i1 8)) C0 hW hS 4 i0 (by decide) (show i0 < 37 by omega) rfl rfl in_X4 tyX4_ok nmX4 8 (by decide) w_133 rfl rfl rfl (Nat.le_of_ble_eq_true rfl) rfl dX4_copyFrom_69 (fun hv11 ehv11 H locs hW hS => ?_)
  have h := h hv11 ehv11
  refine lv_aload_n hx hb dX4_copyFrom_72 rfl (lv_at hl 0 rfl) ?_
  refine lv_aload_n hx hb dX4_copyFrom_73 rfl (lv_at hl 1 rfl) ?_
  refine w_get (v := .int (hv11 4 i1 9)) C0 hW 4 i1 (by decide) (show i1 < 37 by omega) rfl rfl in_X4 9 (by decide) w_135 rfl dX4_copyFrom_74 ?_
  refine w_put (v := (hv11 4 i1 9)) C0 hW hS 4 i0 (by decide) (show i0 < 37 by omega) rfl rfl in_X4 tyX4_ok nmX4 9 (by decide) w_135 rfl rfl rfl (Nat.le_of_ble_eq_true rfl) rfl dX4_copyFrom_77 (fun hv12 ehv12 H locs hW hS => ?_)
  have h := h hv12 ehv12
  refine lv_aload_n hx hb dX4_copyFrom_80 rfl (lv_at hl 0 rfl) ?_
  refine lv_aload_n hx hb dX4_copyFrom_81 rfl (lv_at hl 1 rfl) ?_
  refine w_get (v := .int (hv12 4 i1 10)) C0 hW 4 i1 (by decide) (show i1 < 37 by omega) rfl rfl in_X4 10 (by decide) w_137 rfl dX4_copyFrom_82 ?_
  refine w_put (v := (hv12 4 i1 10)) C0 hW hS 4 i0 (by decide) (show i0 < 37 by omega) rfl rfl in_X4 tyX4_ok nmX4 10 (by decide) w_137 rfl rfl rfl (Nat.le_of_ble_eq_true rfl) rfl dX4_copyFrom_85 (fun hv13 ehv13 H locs hW hS => ?_)
  have h := h hv13 ehv13
  refine lv_aload_n hx hb dX4_copyFrom_88 rfl (lv_at hl 0 rfl) ?_
  refine lv_aload_n hx hb dX4_copyFrom_89 rfl (lv_at hl 1 rfl) ?_
  refine w_get (v := .int (hv13 4 i1 11)) C0 hW 4 i1 (by decide) (show i1 < 37 by omega) rfl rfl in_X4 11 (by decide) w_139 rfl dX4_copyFrom_90 ?_
  refine w_put (v := (hv13 4 i1 11)) C0 hW hS 4 i0 (by decide) (show i0 < 37 by omega) rfl rfl in_X4 tyX4_ok nmX4 11 (by decide) w_139 rfl rfl rfl (Nat.le_of_ble_eq_true rfl) rfl dX4_copyFrom_93 (fun hv14 ehv14 H locs hW hS => ?_)
  have h := h hv14 ehv14
  refine lv_aload_n hx hb dX4_copyFrom_96 rfl (lv_at hl 0 rfl) ?_
  refine lv_aload_n hx hb dX4_copyFrom_97 rfl (lv_at hl 1 rfl) ?_
  refine w_get (v := .int (hv14 4 i1 12)) C0 hW 4 i1 (by decide) (show i1 < 37 by omega) rfl rfl in_X4 12 (by decide) w_141 rfl dX4_copyFrom_98 ?_
  refine w_put (v := (hv14 4 i1 12)) C0 hW hS 4 i0 (by decide) (show i0 < 37 by omega) rfl rfl in_X4 tyX4_ok nmX4 12 (by decide) w_141 rfl rfl rfl (Nat.le_of_ble_eq_true rfl) rfl dX4_copyFrom_101 (fun hv15 ehv15 H locs hW hS => ?_)
  have h := h hv15 ehv15
  refine lv_aload_n hx hb dX4_copyFrom_104 rfl (lv_at hl 0 rfl) ?_
  refine w_get (v := .ref (ad G 0 i0)) C0 hW 4 i0 (by decide) (show i0 < 37 by omega) rfl rfl in_X4 13 (by decide) w_143 rfl dX4_copyFrom_105 ?_
  refine lv_aload_n hx hb dX4_copyFrom_108 rfl (lv_at hl 1 rfl) ?_
  refine w_get (v := .ref (ad G 0 i1)) C0 hW 4 i1 (by decide) (show i1 < 37 by omega) rfl rfl in_X4 13 (by decide) w_143 rfl dX4_copyFrom_109 ?_
  refine w_cv hS (w_runV (As := [.ref (ad G 0 i1)]) C0 hW 0 i0 (by decide) (show i0 < 37 by omega) rfl rfl (c_X0_copyFrom l G A i0 i1 (show i0 < 37 by omega) (show i1 < 37 by omega) hv15 _ h) ⟨⟨w_387, w_9, w_390⟩, pl_X0_copyFrom, ⟨Nat.le_of_ble_eq_true rfl, Nat.le_of_ble_eq_true rfl⟩, ⟨Nat.le_refl _, Nat.le_refl _⟩⟩ ⟨w_388, w_389⟩ rfl hl.1 rfl (Nat.le_of_ble_eq_true rfl) dX4_copyFrom_112) (fun hv16 h H locs hW hS => ?_)
  refine lv_aload_n hx hb dX4_copyFrom_115 rfl (lv_at hl 0 rfl) ?_
  refine w_get (v := .ref (ad G 2 i0)) C0 hW 4 i0 (by decide) (show i0 < 37 by omega) rfl rfl in_X4 14 (by decide) w_145 rfl dX4_copyFrom_116 ?_
  refine lv_aload_n hx hb dX4_copyFrom_119 rfl (lv_at hl 1 rfl) ?_
  refine w_get (v := .ref (ad G 2 i1)) C0 hW 4 i1 (by decide) (show i1 < 37 by omega) rfl rfl in_X4 14 (by decide) w_145 rfl dX4_copyFrom_120 ?_
  refine w_cv hS (w_runV (As := [.ref (ad G 2 i1)]) C0 hW 2 i0 (by decide) (show i0 < 37 by omega) rfl rfl (c_X2_copyFrom l G A i0 i1 (show i0 < 37 by omega) (show i1 < 37 by omega) hv16 _ h) ⟨⟨w_391, w_10, w_394⟩, pl_X2_copyFrom, ⟨Nat.le_of_ble_eq_true rfl, Nat.le_of_ble_eq_true rfl⟩, ⟨Nat.le_refl _, Nat.le_refl _⟩⟩ ⟨w_392, w_393⟩ rfl hl.1 rfl (Nat.le_of_ble_eq_true rfl) dX4_copyFrom_123) (fun hv17 h H locs hW hS => ?_)
  refine lv_aload_n hx hb dX4_copyFrom_126 rfl (lv_at hl 0 rfl) ?_
  refine w_get (v := .ref (ad G 6 (2 * i0))) C0 hW 4 i0 (by decide) (show i0 < 37 by omega) rfl rfl in_X4 15 (by decide) w_147 rfl dX4_copyFrom_127 ?_
  refine lv_aload_n hx hb dX4_copyFrom_130 rfl (lv_at hl 1 rfl) ?_
  refine w_get (v := .ref (ad G 6 (2 * i1))) C0 hW 4 i1 (by decide) (show i1 < 37 by omega) rfl rfl in_X4 15 (by decide) w_147 rfl dX4_copyFrom_131 ?_
  refine w_cv hS (w_runV (As := [.ref (ad G 6 (2 * i1))]) C0 hW 6 (2 * i0) (by decide) (show (2 * i0) < 77 by omega) rfl rfl (c_X6_copyFrom l G A (2 * i0) (2 * i1) (show (2 * i0) < 77 by omega) (show (2 * i1) < 77 by omega) hv17 _ h) ⟨⟨w_395, w_11, w_398⟩, pl_X6_copyFrom, ⟨Nat.le_of_ble_eq_true rfl, Nat.le_of_ble_eq_true rfl⟩, ⟨Nat.le_refl _, Nat.le_refl _⟩⟩ ⟨w_396, w_397⟩ rfl hl.1 rfl (Nat.le_of_ble_eq_true rfl) dX4_copyFrom_134) (fun hv18 h H locs hW hS => ?_)
  refine lv_aload_n hx hb dX4_copyFrom_137 rfl (lv_at hl 0 rfl) ?_
  refine w_get (v := .ref (ad G 6 (2 * i0 + 1))) C0 hW 4 i0 (by decide) (show i0 < 37 by omega) rfl rfl in_X4 16 (by decide) w_149 rfl dX4_copyFrom_138 ?_
  refine lv_aload_n hx hb dX4_copyFrom_141 rfl (lv_at hl 1 rfl) ?_
  refine w_get (v := .ref (ad G 6 (2 * i1 + 1))) C0 hW 4 i1 (by decide) (show i1 < 37 by omega) rfl rfl in_X4 16 (by decide) w_149 rfl dX4_copyFrom_142 ?_
  refine w_cv hS (w_runV (As := [.ref (ad G 6 (2 * i1 + 1))]) C0 hW 6 (2 * i0 + 1) (by decide) (show (2 * i0 + 1) < 77 by omega) rfl rfl (c_X6_copyFrom l G A (2 * i0 + 1) (2 * i1 + 1) (show (2 * i0 + 1) < 77 by omega) (show (2 * i1 + 1) < 77 by omega) hv18 _ h) ⟨⟨w_395, w_11, w_398⟩, pl_X6_copyFrom, ⟨Nat.le_of_ble_eq_true rfl, Nat.le_of_ble_eq_true rfl⟩, ⟨Nat.le_refl _, Nat.le_refl _⟩⟩ ⟨w_396, w_397⟩ rfl hl.1 rfl (Nat.le_of_ble_eq_true rfl) dX4_copyFrom_145) (fun hv19 h H locs hW hS => ?_)
  exact w_vret C0 hr hW hS h dX4_copyFrom_148

theorem pl_X4_rest : yX4_rest.cls ≠ "java/lang/invoke/MethodHandle" ∧ yX4_rest.cls ≠ "java/lang/invoke/VarHandle" ∧ (parseMethodDescriptor yX4_rest.desc).map (fun d => d.parameters.length) = some 0 := ⟨by decide +kernel, by decide +kernel, by decide +kernel⟩
def V_X4_rest (i0 : Nat) (hv : HV) (post : HV → Prop) : Prop := (∀ hv1 : HV, hv1 = up hv 4 i0 (upd (hv 4 i0) 6 0) → (∀ hv2 : HV, hv2 = up hv1 4 i0 (upd (hv1 4 i0) 7 0) → (∀ hv3 : HV, hv3 = up hv2 4 i0 (upd (hv2 4 i0) 8 0) → post hv3)))
set_option maxHeartbeats 4000000 in
theorem c_X4_rest (l : Launch) (G : wG) (A : Nat → Prop) (i0 : Nat) (hi0 : i0 < 37) (hv : HV) (post : HV → Prop) (h : V_X4_rest i0 hv post) : wM l yX4_rest cX4_rest 1 ((Option.none : Option FieldType)) 0 G A hv [.ref (ad G 4 i0)] (qV G A post) := by
  refine wM_of (by decide +kernel) (Nat.le_of_ble_eq_true rfl) ?_
  intro p e s m args below meth c C0 hr ls hl hW hS
  have hx := C0.1
  have hb := C0.2.1
  have hown := C0.2.2.2.1
  have hts := C0.2.2.2.2.1
  have hl : lv_has ls 1 [(0, .ref (ad G 4 i0))] := hl
  unfold V_X4_rest at h
  refine lv_aload_n hx hb dX4_rest_0 rfl (lv_at hl 0 rfl) ?_
  refine lv_iconst (v := 0) hx hb dX4_rest_1 (by decide) ?_
  refine w_put (v := 0) C0 hW hS 4 i0 (by decide) (show i0 < 37 by omega) rfl rfl in_X4 tyX4_ok nmX4 6 (by decide) w_129 rfl rfl rfl (Nat.le_of_ble_eq_true rfl) rfl dX4_rest_2 (fun hv1 ehv1 H locs hW hS => ?_)
  have h := h hv1 ehv1
  refine lv_aload_n hx hb dX4_rest_5 rfl (lv_at hl 0 rfl) ?_
  refine lv_iconst (v := 0) hx hb dX4_rest_6 (by decide) ?_
  refine w_put (v := 0) C0 hW hS 4 i0 (by decide) (show i0 < 37 by omega) rfl rfl in_X4 tyX4_ok nmX4 7 (by decide) w_131 rfl rfl rfl (Nat.le_of_ble_eq_true rfl) rfl dX4_rest_7 (fun hv2 ehv2 H locs hW hS => ?_)
  have h := h hv2 ehv2
  refine lv_aload_n hx hb dX4_rest_10 rfl (lv_at hl 0 rfl) ?_
  refine lv_iconst (v := 0) hx hb dX4_rest_11 (by decide) ?_
  refine w_put (v := 0) C0 hW hS 4 i0 (by decide) (show i0 < 37 by omega) rfl rfl in_X4 tyX4_ok nmX4 8 (by decide) w_133 rfl rfl rfl (Nat.le_of_ble_eq_true rfl) rfl dX4_rest_12 (fun hv3 ehv3 H locs hW hS => ?_)
  have h := h hv3 ehv3
  exact w_vret C0 hr hW hS h dX4_rest_15

theorem pl_X4_speedFrom : yX4_speedFrom.cls ≠ "java/lang/invoke/MethodHandle" ∧ yX4_speedFrom.cls ≠ "java/lang/invoke/VarHandle" ∧ (parseMethodDescriptor yX4_speedFrom.desc).map (fun d => d.parameters.length) = some 1 := ⟨by decide +kernel, by decide +kernel, by decide +kernel⟩
def V_X4_speedFrom (i0 : Nat) (a1 : Int32) (hv : HV) (post : Int32 → HV → Prop) : Prop := ((1 ≤ (hv 4 i0 1) → (¬ (hv 4 i0 1) = 0 ∧ post ((100 * a1) / (hv 4 i0 1)) hv)) ∧ (¬ (1 ≤ (hv 4 i0 1)) → post 0 hv))
set_option maxHeartbeats 4000000 in
theorem c_X4_speedFrom (l : Launch) (G : wG) (A : Nat → Prop) (i0 : Nat) (a1 : Int32) (hi0 : i0 < 37) (hv : HV) (post : Int32 → HV → Prop) (h : V_X4_speedFrom i0 a1 hv post) : wM l yX4_speedFrom cX4_speedFrom 2 ((Option.some FieldType.int)) 0 G A hv [.ref (ad G 4 i0), .int a1] (qI G A post) := by
  refine wM_of (by decide +kernel) (Nat.le_of_ble_eq_true rfl) ?_
  intro p e s m args below meth c C0 hr ls hl hW hS
  have hx := C0.1
  have hb := C0.2.1
  have hown := C0.2.2.2.1
  have hts := C0.2.2.2.2.1
  have hl : lv_has ls 2 [(0, .ref (ad G 4 i0)), (1, .int a1)] := hl
  unfold V_X4_speedFrom at h
  refine lv_aload_n hx hb dX4_speedFrom_0 rfl (lv_at hl 0 rfl) ?_
  refine w_get (v := .int (hv 4 i0 1)) C0 hW 4 i0 (by decide) (show i0 < 37 by omega) rfl rfl in_X4 1 (by decide) w_122 rfl dX4_speedFrom_1 ?_
  refine lv_iconst (v := 1) hx hb dX4_speedFrom_4 (by decide) ?_
  refine lv_icmp_ge (tgt := 12) hx hb dX4_speedFrom_5 (by decide) (fun c1 => ?_) (fun c1 => ?_)
  · have h := h.1 c1
    refine lv_bipush (v := 100) hx hb dX4_speedFrom_12 (by decide) ?_
    refine lv_iload_n hx hb dX4_speedFrom_14 rfl (lv_at hl 1 rfl) ?_
    refine lv_imul hx hb dX4_speedFrom_15 ?_
    refine lv_aload_n hx hb dX4_speedFrom_16 rfl (lv_at hl 0 rfl) ?_
    refine w_get (v := .int (hv 4 i0 1)) C0 hW 4 i0 (by decide) (show i0 < 37 by omega) rfl rfl in_X4 1 (by decide) w_122 rfl dX4_speedFrom_17 ?_
    obtain ⟨q2, h⟩ := h
    refine lv_idiv hx hb dX4_speedFrom_20 q2 ?_
    exact w_iret C0 hr hW hS h dX4_speedFrom_21
  · have h := h.2 c1
    refine lv_iconst (v := 0) hx hb dX4_speedFrom_8 (by decide) ?_
    refine lv_goto (tgt := 21) hx hb dX4_speedFrom_9 (by decide) ?_
    exact w_iret C0 hr hW hS h dX4_speedFrom_21

theorem pl_X4_pushIntoChamber : yX4_pushIntoChamber.cls ≠ "java/lang/invoke/MethodHandle" ∧ yX4_pushIntoChamber.cls ≠ "java/lang/invoke/VarHandle" ∧ (parseMethodDescriptor yX4_pushIntoChamber.desc).map (fun d => d.parameters.length) = some 2 := ⟨by decide +kernel, by decide +kernel, by decide +kernel⟩
def V_X4_pushIntoChamber (i0 : Nat) (a1 : Int32) (hv : HV) (post : HV → Prop) : Prop := (V_X0_take i0 a1 hv (fun r1 hv1 => (∀ x2 : Int32, x2 = (a1 - r1) → ((x2 ≤ 0 → (V_X0_head i0 hv1 (fun r4 hv4 => (V_X4_speedFrom i0 (if (r4 - (hv4 4 i0 0)) < 0 then 0 else (r4 - (hv4 4 i0 0))) hv4 (fun r5 hv5 => (∀ x6 : Int32, x6 = (((hv1 4 i0 6) - 1) - r5) → ((1 ≤ x6 → (∀ hv8 : HV, hv8 = up hv5 4 i0 (upd (hv5 4 i0) 6 x6) → post hv8)) ∧ (¬ (1 ≤ x6) → (V_X4_rest i0 hv5 (fun hv9 => post hv9)))))))))) ∧ (¬ (x2 ≤ 0) → (∀ hv10 : HV, hv10 = up hv1 2 i0 (upd (hv1 2 i0) 2 ((hv1 2 i0 2) + x2)) → (∀ hv11 : HV, hv11 = up hv10 5 0 (upd (hv10 5 0) 3 2) → (V_X0_head i0 hv11 (fun r12 hv12 => (V_X4_speedFrom i0 (if (r12 - (hv12 4 i0 0)) < 0 then 0 else (r12 - (hv12 4 i0 0))) hv12 (fun r13 hv13 => (∀ x14 : Int32, x14 = (((hv11 4 i0 6) - 1) - r13) → ((1 ≤ x14 → (∀ hv16 : HV, hv16 = up hv13 4 i0 (upd (hv13 4 i0) 6 x14) → post hv16)) ∧ (¬ (1 ≤ x14) → (V_X4_rest i0 hv13 (fun hv17 => post hv17))))))))))))))))
set_option maxHeartbeats 4000000 in
theorem c_X4_pushIntoChamber (l : Launch) (G : wG) (A : Nat → Prop) (i0 : Nat) (a1 : Int32) (hi0 : i0 < 37) (hv : HV) (post : HV → Prop) (h : V_X4_pushIntoChamber i0 a1 hv post) : wM l yX4_pushIntoChamber cX4_pushIntoChamber 5 ((Option.none : Option FieldType)) 2 G A hv [.ref (ad G 4 i0), .int a1, .ref (ad G 5 0)] (qV G A post) := by
  refine wM_of (by decide +kernel) (Nat.le_of_ble_eq_true rfl) ?_
  intro p e s m args below meth c C0 hr ls hl hW hS
  have hx := C0.1
  have hb := C0.2.1
  have hown := C0.2.2.2.1
  have hts := C0.2.2.2.2.1
  have hl : lv_has ls 5 [(0, .ref (ad G 4 i0)), (1, .int a1), (2, .ref (ad G 5 0))] := hl
  unfold V_X4_pushIntoChamber at h
  refine lv_iload_n hx hb dX4_pushIntoChamber_0 rfl (lv_at hl 1 rfl) ?_
  refine lv_aload_n hx hb dX4_pushIntoChamber_1 rfl (lv_at hl 0 rfl) ?_
  refine w_get (v := .ref (ad G 0 i0)) C0 hW 4 i0 (by decide) (show i0 < 37 by omega) rfl rfl in_X4 13 (by decide) w_143 rfl dX4_pushIntoChamber_2 ?_
  refine lv_iload_n hx hb dX4_pushIntoChamber_5 rfl (lv_at hl 1 rfl) ?_
  refine w_ci hS (w_runV (As := [.int a1]) C0 hW 0 i0 (by decide) (show i0 < 37 by omega) rfl rfl (c_X0_take l G A i0 a1 (show i0 < 37 by omega) hv _ h) ⟨⟨w_486, w_9, w_489⟩, pl_X0_take, ⟨Nat.le_of_ble_eq_true rfl, Nat.le_of_ble_eq_true rfl⟩, ⟨Nat.le_refl _, Nat.le_refl _⟩⟩ ⟨w_487, w_488⟩ rfl hl.1 rfl (Nat.le_of_ble_eq_true rfl) dX4_pushIntoChamber_6) (fun r1 hv1 h H locs hW hS => ?_)
  refine lv_isub hx hb dX4_pushIntoChamber_9 ?_
  refine lv_topi (fun x2 ex2 => ?_)
  have h := h x2 ex2
  refine lv_istore_n (lv' := [(3, .int x2), (0, .ref (ad G 4 i0)), (1, .int a1), (2, .ref (ad G 5 0))]) hx hb dX4_pushIntoChamber_10 rfl hl (by decide) rfl (fun ls hl => ?_)
  refine lv_iload_n hx hb dX4_pushIntoChamber_11 rfl (lv_at hl 0 rfl) ?_
  refine lv_if_le (tgt := 33) hx hb dX4_pushIntoChamber_12 (by decide) (fun c3 => ?_) (fun c3 => ?_)
  · have h := h.1 c3
    refine lv_aload_n hx hb dX4_pushIntoChamber_33 rfl (lv_at hl 1 rfl) ?_
    refine w_get (v := .int (hv1 4 i0 6)) C0 hW 4 i0 (by decide) (show i0 < 37 by omega) rfl rfl in_X4 6 (by decide) w_129 rfl dX4_pushIntoChamber_34 ?_
    refine lv_iconst (v := 1) hx hb dX4_pushIntoChamber_37 (by decide) ?_
    refine lv_isub hx hb dX4_pushIntoChamber_38 ?_
    refine lv_aload_n hx hb dX4_pushIntoChamber_39 rfl (lv_at hl 1 rfl) ?_
    refine lv_aload_n hx hb dX4_pushIntoChamber_40 rfl (lv_at hl 1 rfl) ?_
    refine w_get (v := .ref (ad G 0 i0)) C0 hW 4 i0 (by decide) (show i0 < 37 by omega) rfl rfl in_X4 13 (by decide) w_143 rfl dX4_pushIntoChamber_41 ?_
    refine w_ci hS (w_runV (As := []) C0 hW 0 i0 (by decide) (show i0 < 37 by omega) rfl rfl (c_X0_head l G A i0 (show i0 < 37 by omega) hv1 _ h) ⟨⟨w_491, w_9, w_494⟩, pl_X0_head, ⟨Nat.le_of_ble_eq_true rfl, Nat.le_of_ble_eq_true rfl⟩, ⟨Nat.le_refl _, Nat.le_refl _⟩⟩ ⟨w_492, w_493⟩ rfl hl.1 rfl (Nat.le_of_ble_eq_true rfl) dX4_pushIntoChamber_44) (fun r4 hv4 h H locs hW hS => ?_)
    refine lv_aload_n hx hb dX4_pushIntoChamber_47 rfl (lv_at hl 1 rfl) ?_
    refine w_get (v := .int (hv4 4 i0 0)) C0 hW 4 i0 (by decide) (show i0 < 37 by omega) rfl rfl in_X4 0 (by decide) w_121 rfl dX4_pushIntoChamber_48 ?_
    refine lv_isub hx hb dX4_pushIntoChamber_51 ?_
    refine lv_iconst (v := 0) hx hb dX4_pushIntoChamber_52 (by decide) ?_
    refine w_max C0 hl.1 w_496 w_108 w_12 w_109 (Nat.le_of_ble_eq_true rfl) (Nat.le_of_ble_eq_true rfl) (Nat.le_refl _) (Nat.le_refl _) dX4_pushIntoChamber_53 ?_
    refine w_ci hS (w_runV (As := [.int (if (r4 - (hv4 4 i0 0)) < 0 then 0 else (r4 - (hv4 4 i0 0)))]) C0 hW 4 i0 (by decide) (show i0 < 37 by omega) rfl rfl (c_X4_speedFrom l G A i0 (if (r4 - (hv4 4 i0 0)) < 0 then 0 else (r4 - (hv4 4 i0 0))) (show i0 < 37 by omega) hv4 _ h) ⟨⟨w_497, w_8, w_500⟩, pl_X4_speedFrom, ⟨Nat.le_of_ble_eq_true rfl, Nat.le_of_ble_eq_true rfl⟩, ⟨Nat.le_refl _, Nat.le_refl _⟩⟩ ⟨w_498, w_499⟩ rfl hl.1 rfl (Nat.le_of_ble_eq_true rfl) dX4_pushIntoChamber_56) (fun r5 hv5 h H locs hW hS => ?_)
    refine lv_isub hx hb dX4_pushIntoChamber_59 ?_
    refine lv_topi (fun x6 ex6 => ?_)
    have h := h x6 ex6
    refine lv_istore (lv' := [(4, .int x6), (3, .int x2), (0, .ref (ad G 4 i0)), (1, .int a1), (2, .ref (ad G 5 0))]) hx hb dX4_pushIntoChamber_60 hl (by decide) rfl (fun ls hl => ?_)
    refine lv_iload hx hb dX4_pushIntoChamber_62 (lv_at hl 0 rfl) ?_
    refine lv_iconst (v := 1) hx hb dX4_pushIntoChamber_64 (by decide) ?_
    refine lv_icmp_ge (tgt := 75) hx hb dX4_pushIntoChamber_65 (by decide) (fun c7 => ?_) (fun c7 => ?_)
    · have h := h.1 c7
      refine lv_aload_n hx hb dX4_pushIntoChamber_75 rfl (lv_at hl 2 rfl) ?_
      refine lv_iload hx hb dX4_pushIntoChamber_76 (lv_at hl 0 rfl) ?_
      refine w_put (v := x6) C0 hW hS 4 i0 (by decide) (show i0 < 37 by omega) rfl rfl in_X4 tyX4_ok nmX4 6 (by decide) w_129 rfl rfl rfl (Nat.le_of_ble_eq_true rfl) rfl dX4_pushIntoChamber_78 (fun hv8 ehv8 H locs hW hS => ?_)
      have h := h hv8 ehv8
      exact w_vret C0 hr hW hS h dX4_pushIntoChamber_81
    · have h := h.2 c7
      refine lv_aload_n hx hb dX4_pushIntoChamber_68 rfl (lv_at hl 2 rfl) ?_
      refine w_cv hS (w_runV (As := []) C0 hW 4 i0 (by decide) (show i0 < 37 by omega) rfl rfl (c_X4_rest l G A i0 (show i0 < 37 by omega) hv5 _ h) ⟨⟨w_481, w_8, w_445⟩, pl_X4_rest, ⟨Nat.le_of_ble_eq_true rfl, Nat.le_of_ble_eq_true rfl⟩, ⟨Nat.le_refl _, Nat.le_refl _⟩⟩ ⟨w_443, w_444⟩ rfl hl.1 rfl (Nat.le_of_ble_eq_true rfl) dX4_pushIntoChamber_69) (fun hv9 h H locs hW hS => ?_)
      refine lv_goto (tgt := 81) hx hb dX4_pushIntoChamber_72 (by decide) ?_
      exact w_vret C0 hr hW hS h dX4_pushIntoChamber_81
  · have h := h.2 c3
    refine lv_aload_n hx hb dX4_pushIntoChamber_15 rfl (lv_at hl 1 rfl) ?_
    refine w_get (v := .ref (ad G 2 i0)) C0 hW 4 i0 (by decide) (show i0 < 37 by omega) rfl rfl in_X4 14 (by decide) w_145 rfl dX4_pushIntoChamber_16 ?_
    refine lv_dup hx hb dX4_pushIntoChamber_19 rfl ?_
    refine w_get (v := .int (hv1 2 i0 2)) C0 hW 2 i0 (by decide) (show i0 < 37 by omega) rfl rfl in_X2 2 (by decide) w_77 rfl dX4_pushIntoChamber_20 ?_
    refine lv_iload_n hx hb dX4_pushIntoChamber_23 rfl (lv_at hl 0 rfl) ?_
    refine lv_iadd hx hb dX4_pushIntoChamber_24 ?_
    refine w_put (v := ((hv1 2 i0 2) + x2)) C0 hW hS 2 i0 (by decide) (show i0 < 37 by omega) rfl rfl in_X2 tyX2_ok nmX2 2 (by decide) w_77 rfl rfl rfl (Nat.le_of_ble_eq_true rfl) rfl dX4_pushIntoChamber_25 (fun hv10 ehv10 H locs hW hS => ?_)
    have h := h hv10 ehv10
    refine lv_aload_n hx hb dX4_pushIntoChamber_28 rfl (lv_at hl 3 rfl) ?_
    refine lv_iconst (v := 2) hx hb dX4_pushIntoChamber_29 (by decide) ?_
    refine w_put (v := 2) C0 hW hS 5 0 (by decide) (by decide) rfl rfl in_X5 tyX5_ok nmX5 3 (by decide) w_266 rfl rfl rfl (Nat.le_of_ble_eq_true rfl) rfl dX4_pushIntoChamber_30 (fun hv11 ehv11 H locs hW hS => ?_)
    have h := h hv11 ehv11
    refine lv_aload_n hx hb dX4_pushIntoChamber_33 rfl (lv_at hl 1 rfl) ?_
    refine w_get (v := .int (hv11 4 i0 6)) C0 hW 4 i0 (by decide) (show i0 < 37 by omega) rfl rfl in_X4 6 (by decide) w_129 rfl dX4_pushIntoChamber_34 ?_
    refine lv_iconst (v := 1) hx hb dX4_pushIntoChamber_37 (by decide) ?_
    refine lv_isub hx hb dX4_pushIntoChamber_38 ?_
    refine lv_aload_n hx hb dX4_pushIntoChamber_39 rfl (lv_at hl 1 rfl) ?_
    refine lv_aload_n hx hb dX4_pushIntoChamber_40 rfl (lv_at hl 1 rfl) ?_
    refine w_get (v := .ref (ad G 0 i0)) C0 hW 4 i0 (by decide) (show i0 < 37 by omega) rfl rfl in_X4 13 (by decide) w_143 rfl dX4_pushIntoChamber_41 ?_
    refine w_ci hS (w_runV (As := []) C0 hW 0 i0 (by decide) (show i0 < 37 by omega) rfl rfl (c_X0_head l G A i0 (show i0 < 37 by omega) hv11 _ h) ⟨⟨w_491, w_9, w_494⟩, pl_X0_head, ⟨Nat.le_of_ble_eq_true rfl, Nat.le_of_ble_eq_true rfl⟩, ⟨Nat.le_refl _, Nat.le_refl _⟩⟩ ⟨w_492, w_493⟩ rfl hl.1 rfl (Nat.le_of_ble_eq_true rfl) dX4_pushIntoChamber_44) (fun r12 hv12 h H locs hW hS => ?_)
    refine lv_aload_n hx hb dX4_pushIntoChamber_47 rfl (lv_at hl 1 rfl) ?_
    refine w_get (v := .int (hv12 4 i0 0)) C0 hW 4 i0 (by decide) (show i0 < 37 by omega) rfl rfl in_X4 0 (by decide) w_121 rfl dX4_pushIntoChamber_48 ?_
    refine lv_isub hx hb dX4_pushIntoChamber_51 ?_
    refine lv_iconst (v := 0) hx hb dX4_pushIntoChamber_52 (by decide) ?_
    refine w_max C0 hl.1 w_496 w_108 w_12 w_109 (Nat.le_of_ble_eq_true rfl) (Nat.le_of_ble_eq_true rfl) (Nat.le_refl _) (Nat.le_refl _) dX4_pushIntoChamber_53 ?_
    refine w_ci hS (w_runV (As := [.int (if (r12 - (hv12 4 i0 0)) < 0 then 0 else (r12 - (hv12 4 i0 0)))]) C0 hW 4 i0 (by decide) (show i0 < 37 by omega) rfl rfl (c_X4_speedFrom l G A i0 (if (r12 - (hv12 4 i0 0)) < 0 then 0 else (r12 - (hv12 4 i0 0))) (show i0 < 37 by omega) hv12 _ h) ⟨⟨w_497, w_8, w_500⟩, pl_X4_speedFrom, ⟨Nat.le_of_ble_eq_true rfl, Nat.le_of_ble_eq_true rfl⟩, ⟨Nat.le_refl _, Nat.le_refl _⟩⟩ ⟨w_498, w_499⟩ rfl hl.1 rfl (Nat.le_of_ble_eq_true rfl) dX4_pushIntoChamber_56) (fun r13 hv13 h H locs hW hS => ?_)
    refine lv_isub hx hb dX4_pushIntoChamber_59 ?_
    refine lv_topi (fun x14 ex14 => ?_)
    have h := h x14 ex14
    refine lv_istore (lv' := [(4, .int x14), (3, .int x2), (0, .ref (ad G 4 i0)), (1, .int a1), (2, .ref (ad G 5 0))]) hx hb dX4_pushIntoChamber_60 hl (by decide) rfl (fun ls hl => ?_)
    refine lv_iload hx hb dX4_pushIntoChamber_62 (lv_at hl 0 rfl) ?_
    refine lv_iconst (v := 1) hx hb dX4_pushIntoChamber_64 (by decide) ?_
    refine lv_icmp_ge (tgt := 75) hx hb dX4_pushIntoChamber_65 (by decide) (fun c15 => ?_) (fun c15 => ?_)
    · have h := h.1 c15
      refine lv_aload_n hx hb dX4_pushIntoChamber_75 rfl (lv_at hl 2 rfl) ?_
      refine lv_iload hx hb dX4_pushIntoChamber_76 (lv_at hl 0 rfl) ?_
      refine w_put (v := x14) C0 hW hS 4 i0 (by decide) (show i0 < 37 by omega) rfl rfl in_X4 tyX4_ok nmX4 6 (by decide) w_129 rfl rfl rfl (Nat.le_of_ble_eq_true rfl) rfl dX4_pushIntoChamber_78 (fun hv16 ehv16 H locs hW hS => ?_)
      have h := h hv16 ehv16
      exact w_vret C0 hr hW hS h dX4_pushIntoChamber_81
    · have h := h.2 c15
      refine lv_aload_n hx hb dX4_pushIntoChamber_68 rfl (lv_at hl 2 rfl) ?_
      refine w_cv hS (w_runV (As := []) C0 hW 4 i0 (by decide) (show i0 < 37 by omega) rfl rfl (c_X4_rest l G A i0 (show i0 < 37 by omega) hv13 _ h) ⟨⟨w_481, w_8, w_445⟩, pl_X4_rest, ⟨Nat.le_of_ble_eq_true rfl, Nat.le_of_ble_eq_true rfl⟩, ⟨Nat.le_refl _, Nat.le_refl _⟩⟩ ⟨w_443, w_444⟩ rfl hl.1 rfl (Nat.le_of_ble_eq_true rfl) dX4_pushIntoChamber_69) (fun hv17 h H locs hW hS => ?_)
      refine lv_goto (tgt := 81) hx hb dX4_pushIntoChamber_72 (by decide) ?_
      exact w_vret C0 hr hW hS h dX4_pushIntoChamber_81

theorem pl_X4_gainSpeed : yX4_gainSpeed.cls ≠ "java/lang/invoke/MethodHandle" ∧ yX4_gainSpeed.cls ≠ "java/lang/invoke/VarHandle" ∧ (parseMethodDescriptor yX4_gainSpeed.desc).map (fun d => d.parameters.length) = some 1 := ⟨by decide +kernel, by decide +kernel, by decide +kernel⟩
def V_X4_gainSpeed (i0 : Nat) (a1 : Int32) (hv : HV) (post : HV → Prop) : Prop := (∀ hv1 : HV, hv1 = up hv 2 i0 (upd (hv 2 i0) 1 ((hv 2 i0 1) + a1)) → (V_X4_speedFrom i0 (hv1 4 i0 0) hv1 (fun r2 hv2 => (∀ x3 : Int32, x3 = (((hv1 4 i0 6) + r2) - ((((hv2 4 i0 3) * (hv2 4 i0 6)) * (hv2 4 i0 6)) / 100000)) → (∀ hv4 : HV, hv4 = up hv2 4 i0 (upd (hv2 4 i0) 6 (if 2000 < (if x3 < 0 then 0 else x3) then 2000 else (if x3 < 0 then 0 else x3))) → (∀ hv5 : HV, hv5 = up hv4 4 i0 (upd (hv4 4 i0) 8 ((hv4 4 i0 8) + 1)) → post hv5))))))
set_option maxHeartbeats 4000000 in
theorem c_X4_gainSpeed (l : Launch) (G : wG) (A : Nat → Prop) (i0 : Nat) (a1 : Int32) (hi0 : i0 < 37) (hv : HV) (post : HV → Prop) (h : V_X4_gainSpeed i0 a1 hv post) : wM l yX4_gainSpeed cX4_gainSpeed 3 ((Option.none : Option FieldType)) 1 G A hv [.ref (ad G 4 i0), .int a1] (qV G A post) := by
  refine wM_of (by decide +kernel) (Nat.le_of_ble_eq_true rfl) ?_
  intro p e s m args below meth c C0 hr ls hl hW hS
  have hx := C0.1
  have hb := C0.2.1
  have hown := C0.2.2.2.1
  have hts := C0.2.2.2.2.1
  have hl : lv_has ls 3 [(0, .ref (ad G 4 i0)), (1, .int a1)] := hl
  unfold V_X4_gainSpeed at h
  refine lv_aload_n hx hb dX4_gainSpeed_0 rfl (lv_at hl 0 rfl) ?_
  refine w_get (v := .ref (ad G 2 i0)) C0 hW 4 i0 (by decide) (show i0 < 37 by omega) rfl rfl in_X4 14 (by decide) w_145 rfl dX4_gainSpeed_1 ?_
  refine lv_dup hx hb dX4_gainSpeed_4 rfl ?_
  refine w_get (v := .int (hv 2 i0 1)) C0 hW 2 i0 (by decide) (show i0 < 37 by omega) rfl rfl in_X2 1 (by decide) w_74 rfl dX4_gainSpeed_5 ?_
  refine lv_iload_n hx hb dX4_gainSpeed_8 rfl (lv_at hl 1 rfl) ?_
  refine lv_iadd hx hb dX4_gainSpeed_9 ?_
  refine w_put (v := ((hv 2 i0 1) + a1)) C0 hW hS 2 i0 (by decide) (show i0 < 37 by omega) rfl rfl in_X2 tyX2_ok nmX2 1 (by decide) w_74 rfl rfl rfl (Nat.le_of_ble_eq_true rfl) rfl dX4_gainSpeed_10 (fun hv1 ehv1 H locs hW hS => ?_)
  have h := h hv1 ehv1
  refine lv_aload_n hx hb dX4_gainSpeed_13 rfl (lv_at hl 0 rfl) ?_
  refine w_get (v := .int (hv1 4 i0 6)) C0 hW 4 i0 (by decide) (show i0 < 37 by omega) rfl rfl in_X4 6 (by decide) w_129 rfl dX4_gainSpeed_14 ?_
  refine lv_aload_n hx hb dX4_gainSpeed_17 rfl (lv_at hl 0 rfl) ?_
  refine lv_aload_n hx hb dX4_gainSpeed_18 rfl (lv_at hl 0 rfl) ?_
  refine w_get (v := .int (hv1 4 i0 0)) C0 hW 4 i0 (by decide) (show i0 < 37 by omega) rfl rfl in_X4 0 (by decide) w_121 rfl dX4_gainSpeed_19 ?_
  refine w_ci hS (w_runV (As := [.int (hv1 4 i0 0)]) C0 hW 4 i0 (by decide) (show i0 < 37 by omega) rfl rfl (c_X4_speedFrom l G A i0 (hv1 4 i0 0) (show i0 < 37 by omega) hv1 _ h) ⟨⟨w_497, w_8, w_500⟩, pl_X4_speedFrom, ⟨Nat.le_of_ble_eq_true rfl, Nat.le_of_ble_eq_true rfl⟩, ⟨Nat.le_refl _, Nat.le_refl _⟩⟩ ⟨w_498, w_499⟩ rfl hl.1 rfl (Nat.le_of_ble_eq_true rfl) dX4_gainSpeed_22) (fun r2 hv2 h H locs hW hS => ?_)
  refine lv_iadd hx hb dX4_gainSpeed_25 ?_
  refine lv_aload_n hx hb dX4_gainSpeed_26 rfl (lv_at hl 0 rfl) ?_
  refine w_get (v := .int (hv2 4 i0 3)) C0 hW 4 i0 (by decide) (show i0 < 37 by omega) rfl rfl in_X4 3 (by decide) w_124 rfl dX4_gainSpeed_27 ?_
  refine lv_aload_n hx hb dX4_gainSpeed_30 rfl (lv_at hl 0 rfl) ?_
  refine w_get (v := .int (hv2 4 i0 6)) C0 hW 4 i0 (by decide) (show i0 < 37 by omega) rfl rfl in_X4 6 (by decide) w_129 rfl dX4_gainSpeed_31 ?_
  refine lv_imul hx hb dX4_gainSpeed_34 ?_
  refine lv_aload_n hx hb dX4_gainSpeed_35 rfl (lv_at hl 0 rfl) ?_
  refine w_get (v := .int (hv2 4 i0 6)) C0 hW 4 i0 (by decide) (show i0 < 37 by omega) rfl rfl in_X4 6 (by decide) w_129 rfl dX4_gainSpeed_36 ?_
  refine lv_imul hx hb dX4_gainSpeed_39 ?_
  refine lv_ldc (v := 100000) hx hb hown (hts _ w_505) dX4_gainSpeed_40 ?_
  refine lv_idiv hx hb dX4_gainSpeed_42 (by decide) ?_
  refine lv_isub hx hb dX4_gainSpeed_43 ?_
  refine lv_topi (fun x3 ex3 => ?_)
  have h := h x3 ex3
  refine lv_istore_n (lv' := [(2, .int x3), (0, .ref (ad G 4 i0)), (1, .int a1)]) hx hb dX4_gainSpeed_44 rfl hl (by decide) rfl (fun ls hl => ?_)
  refine lv_aload_n hx hb dX4_gainSpeed_45 rfl (lv_at hl 1 rfl) ?_
  refine lv_iload_n hx hb dX4_gainSpeed_46 rfl (lv_at hl 0 rfl) ?_
  refine lv_iconst (v := 0) hx hb dX4_gainSpeed_47 (by decide) ?_
  refine w_max C0 hl.1 w_496 w_108 w_12 w_109 (Nat.le_of_ble_eq_true rfl) (Nat.le_of_ble_eq_true rfl) (Nat.le_refl _) (Nat.le_refl _) dX4_gainSpeed_48 ?_
  refine lv_sipush (v := 2000) hx hb dX4_gainSpeed_51 (by decide) ?_
  refine w_min C0 hl.1 w_506 w_400 w_12 w_401 (Nat.le_of_ble_eq_true rfl) (Nat.le_of_ble_eq_true rfl) (Nat.le_refl _) (Nat.le_refl _) dX4_gainSpeed_54 ?_
  refine w_put (v := (if 2000 < (if x3 < 0 then 0 else x3) then 2000 else (if x3 < 0 then 0 else x3))) C0 hW hS 4 i0 (by decide) (show i0 < 37 by omega) rfl rfl in_X4 tyX4_ok nmX4 6 (by decide) w_129 rfl rfl rfl (Nat.le_of_ble_eq_true rfl) rfl dX4_gainSpeed_57 (fun hv4 ehv4 H locs hW hS => ?_)
  have h := h hv4 ehv4
  refine lv_aload_n hx hb dX4_gainSpeed_60 rfl (lv_at hl 1 rfl) ?_
  refine lv_dup hx hb dX4_gainSpeed_61 rfl ?_
  refine w_get (v := .int (hv4 4 i0 8)) C0 hW 4 i0 (by decide) (show i0 < 37 by omega) rfl rfl in_X4 8 (by decide) w_133 rfl dX4_gainSpeed_62 ?_
  refine lv_iconst (v := 1) hx hb dX4_gainSpeed_65 (by decide) ?_
  refine lv_iadd hx hb dX4_gainSpeed_66 ?_
  refine w_put (v := ((hv4 4 i0 8) + 1)) C0 hW hS 4 i0 (by decide) (show i0 < 37 by omega) rfl rfl in_X4 tyX4_ok nmX4 8 (by decide) w_133 rfl rfl rfl (Nat.le_of_ble_eq_true rfl) rfl dX4_gainSpeed_67 (fun hv5 ehv5 H locs hW hS => ?_)
  have h := h hv5 ehv5
  exact w_vret C0 hr hW hS h dX4_gainSpeed_70

theorem pl_X4_slamRuleHolds : yX4_slamRuleHolds.cls ≠ "java/lang/invoke/MethodHandle" ∧ yX4_slamRuleHolds.cls ≠ "java/lang/invoke/VarHandle" ∧ (parseMethodDescriptor yX4_slamRuleHolds.desc).map (fun d => d.parameters.length) = some 0 := ⟨by decide +kernel, by decide +kernel, by decide +kernel⟩
def V_X4_slamRuleHolds (i0 : Nat) (hv : HV) (post : Int32 → HV → Prop) : Prop := (((hv 4 i0 9) = 0 → (((hv 4 i0 6) < (hv 4 i0 10) → post 0 hv) ∧ (¬ ((hv 4 i0 6) < (hv 4 i0 10)) → post 1 hv))) ∧ (¬ ((hv 4 i0 9) = 0) → (((hv 4 i0 9) = 1 → (((((hv 4 i0 6) * (hv 4 i0 6)) / 100) < (hv 4 i0 10) → post 0 hv) ∧ (¬ ((((hv 4 i0 6) * (hv 4 i0 6)) / 100) < (hv 4 i0 10)) → post 1 hv))) ∧ (¬ ((hv 4 i0 9) = 1) → (((hv 4 i0 8) < (hv 4 i0 10) → post 0 hv) ∧ (¬ ((hv 4 i0 8) < (hv 4 i0 10)) → post 1 hv))))))
set_option maxHeartbeats 4000000 in
theorem c_X4_slamRuleHolds (l : Launch) (G : wG) (A : Nat → Prop) (i0 : Nat) (hi0 : i0 < 37) (hv : HV) (post : Int32 → HV → Prop) (h : V_X4_slamRuleHolds i0 hv post) : wM l yX4_slamRuleHolds cX4_slamRuleHolds 1 ((Option.some FieldType.boolean)) 0 G A hv [.ref (ad G 4 i0)] (qI G A post) := by
  refine wM_of (by decide +kernel) (Nat.le_of_ble_eq_true rfl) ?_
  intro p e s m args below meth c C0 hr ls hl hW hS
  have hx := C0.1
  have hb := C0.2.1
  have hown := C0.2.2.2.1
  have hts := C0.2.2.2.2.1
  have hl : lv_has ls 1 [(0, .ref (ad G 4 i0))] := hl
  unfold V_X4_slamRuleHolds at h
  refine lv_aload_n hx hb dX4_slamRuleHolds_0 rfl (lv_at hl 0 rfl) ?_
  refine w_get (v := .int (hv 4 i0 9)) C0 hW 4 i0 (by decide) (show i0 < 37 by omega) rfl rfl in_X4 9 (by decide) w_135 rfl dX4_slamRuleHolds_1 ?_
  refine lv_if_ne (tgt := 24) hx hb dX4_slamRuleHolds_4 (by decide) (fun c1 => ?_) (fun c1 => ?_)
  · have h := h.2 c1
    refine lv_aload_n hx hb dX4_slamRuleHolds_24 rfl (lv_at hl 0 rfl) ?_
    refine w_get (v := .int (hv 4 i0 9)) C0 hW 4 i0 (by decide) (show i0 < 37 by omega) rfl rfl in_X4 9 (by decide) w_135 rfl dX4_slamRuleHolds_25 ?_
    refine lv_iconst (v := 1) hx hb dX4_slamRuleHolds_28 (by decide) ?_
    refine lv_icmp_ne (tgt := 57) hx hb dX4_slamRuleHolds_29 (by decide) (fun c2 => ?_) (fun c2 => ?_)
    · have h := h.2 c2
      refine lv_aload_n hx hb dX4_slamRuleHolds_57 rfl (lv_at hl 0 rfl) ?_
      refine w_get (v := .int (hv 4 i0 8)) C0 hW 4 i0 (by decide) (show i0 < 37 by omega) rfl rfl in_X4 8 (by decide) w_133 rfl dX4_slamRuleHolds_58 ?_
      refine lv_aload_n hx hb dX4_slamRuleHolds_61 rfl (lv_at hl 0 rfl) ?_
      refine w_get (v := .int (hv 4 i0 10)) C0 hW 4 i0 (by decide) (show i0 < 37 by omega) rfl rfl in_X4 10 (by decide) w_137 rfl dX4_slamRuleHolds_62 ?_
      refine lv_icmp_lt (tgt := 72) hx hb dX4_slamRuleHolds_65 (by decide) (fun c3 => ?_) (fun c3 => ?_)
      · have h := h.1 c3
        refine lv_iconst (v := 0) hx hb dX4_slamRuleHolds_72 (by decide) ?_
        exact w_zret C0 hr rfl hW hS h dX4_slamRuleHolds_73
      · have h := h.2 c3
        refine lv_iconst (v := 1) hx hb dX4_slamRuleHolds_68 (by decide) ?_
        refine lv_goto (tgt := 73) hx hb dX4_slamRuleHolds_69 (by decide) ?_
        exact w_zret C0 hr rfl hW hS h dX4_slamRuleHolds_73
    · have h := h.1 c2
      refine lv_aload_n hx hb dX4_slamRuleHolds_32 rfl (lv_at hl 0 rfl) ?_
      refine w_get (v := .int (hv 4 i0 6)) C0 hW 4 i0 (by decide) (show i0 < 37 by omega) rfl rfl in_X4 6 (by decide) w_129 rfl dX4_slamRuleHolds_33 ?_
      refine lv_aload_n hx hb dX4_slamRuleHolds_36 rfl (lv_at hl 0 rfl) ?_
      refine w_get (v := .int (hv 4 i0 6)) C0 hW 4 i0 (by decide) (show i0 < 37 by omega) rfl rfl in_X4 6 (by decide) w_129 rfl dX4_slamRuleHolds_37 ?_
      refine lv_imul hx hb dX4_slamRuleHolds_40 ?_
      refine lv_bipush (v := 100) hx hb dX4_slamRuleHolds_41 (by decide) ?_
      refine lv_idiv hx hb dX4_slamRuleHolds_43 (by decide) ?_
      refine lv_aload_n hx hb dX4_slamRuleHolds_44 rfl (lv_at hl 0 rfl) ?_
      refine w_get (v := .int (hv 4 i0 10)) C0 hW 4 i0 (by decide) (show i0 < 37 by omega) rfl rfl in_X4 10 (by decide) w_137 rfl dX4_slamRuleHolds_45 ?_
      refine lv_icmp_lt (tgt := 55) hx hb dX4_slamRuleHolds_48 (by decide) (fun c4 => ?_) (fun c4 => ?_)
      · have h := h.1 c4
        refine lv_iconst (v := 0) hx hb dX4_slamRuleHolds_55 (by decide) ?_
        exact w_zret C0 hr rfl hW hS h dX4_slamRuleHolds_56
      · have h := h.2 c4
        refine lv_iconst (v := 1) hx hb dX4_slamRuleHolds_51 (by decide) ?_
        refine lv_goto (tgt := 56) hx hb dX4_slamRuleHolds_52 (by decide) ?_
        exact w_zret C0 hr rfl hW hS h dX4_slamRuleHolds_56
  · have h := h.1 c1
    refine lv_aload_n hx hb dX4_slamRuleHolds_7 rfl (lv_at hl 0 rfl) ?_
    refine w_get (v := .int (hv 4 i0 6)) C0 hW 4 i0 (by decide) (show i0 < 37 by omega) rfl rfl in_X4 6 (by decide) w_129 rfl dX4_slamRuleHolds_8 ?_
    refine lv_aload_n hx hb dX4_slamRuleHolds_11 rfl (lv_at hl 0 rfl) ?_
    refine w_get (v := .int (hv 4 i0 10)) C0 hW 4 i0 (by decide) (show i0 < 37 by omega) rfl rfl in_X4 10 (by decide) w_137 rfl dX4_slamRuleHolds_12 ?_
    refine lv_icmp_lt (tgt := 22) hx hb dX4_slamRuleHolds_15 (by decide) (fun c5 => ?_) (fun c5 => ?_)
    · have h := h.1 c5
      refine lv_iconst (v := 0) hx hb dX4_slamRuleHolds_22 (by decide) ?_
      exact w_zret C0 hr rfl hW hS h dX4_slamRuleHolds_23
    · have h := h.2 c5
      refine lv_iconst (v := 1) hx hb dX4_slamRuleHolds_18 (by decide) ?_
      refine lv_goto (tgt := 23) hx hb dX4_slamRuleHolds_19 (by decide) ?_
      exact w_zret C0 hr rfl hW hS h dX4_slamRuleHolds_23

theorem pl_X4_slam : yX4_slam.cls ≠ "java/lang/invoke/MethodHandle" ∧ yX4_slam.cls ≠ "java/lang/invoke/VarHandle" ∧ (parseMethodDescriptor yX4_slam.desc).map (fun d => d.parameters.length) = some 2 := ⟨by decide +kernel, by decide +kernel, by decide +kernel⟩
def V_X4_slam (i0 : Nat) (a1 : Int32) (hv : HV) (post : HV → Prop) : Prop := (∀ hv1 : HV, hv1 = up hv 4 i0 (upd (hv 4 i0) 7 1) → (∀ hv2 : HV, hv2 = up hv1 5 0 (upd (hv1 5 0) 2 1) → (∀ hv3 : HV, hv3 = up hv2 2 i0 (upd (hv2 2 i0) 0 ((hv2 2 i0 0) + 1)) → (V_X6_add (2 * i0) (a1 - (hv3 4 i0 12)) hv3 (fun hv4 => (∀ hv5 : HV, hv5 = up hv4 4 i0 (upd (hv4 4 i0) 12 a1) → (∀ x6 : Int32, x6 = (hv5 0 i0 4) → (V_X0_changeAir i0 hv5 (fun hv7 => (((hv7 0 i0 4) = (hv7 0 i0 1) → ((x6 ≤ (hv7 0 i0 1) → post hv7) ∧ (¬ (x6 ≤ (hv7 0 i0 1)) → (∀ hv10 : HV, hv10 = up hv7 5 0 (upd (hv7 5 0) 3 4) → post hv10)))) ∧ (¬ ((hv7 0 i0 4) = (hv7 0 i0 1)) → post hv7)))))))))))
set_option maxHeartbeats 4000000 in
theorem c_X4_slam (l : Launch) (G : wG) (A : Nat → Prop) (i0 : Nat) (a1 : Int32) (hi0 : i0 < 37) (hv : HV) (post : HV → Prop) (h : V_X4_slam i0 a1 hv post) : wM l yX4_slam cX4_slam 4 ((Option.none : Option FieldType)) 2 G A hv [.ref (ad G 4 i0), .int a1, .ref (ad G 5 0)] (qV G A post) := by
  refine wM_of (by decide +kernel) (Nat.le_of_ble_eq_true rfl) ?_
  intro p e s m args below meth c C0 hr ls hl hW hS
  have hx := C0.1
  have hb := C0.2.1
  have hown := C0.2.2.2.1
  have hts := C0.2.2.2.2.1
  have hl : lv_has ls 4 [(0, .ref (ad G 4 i0)), (1, .int a1), (2, .ref (ad G 5 0))] := hl
  unfold V_X4_slam at h
  refine lv_aload_n hx hb dX4_slam_0 rfl (lv_at hl 0 rfl) ?_
  refine lv_iconst (v := 1) hx hb dX4_slam_1 (by decide) ?_
  refine w_put (v := 1) C0 hW hS 4 i0 (by decide) (show i0 < 37 by omega) rfl rfl in_X4 tyX4_ok nmX4 7 (by decide) w_131 rfl rfl rfl (Nat.le_of_ble_eq_true rfl) rfl dX4_slam_2 (fun hv1 ehv1 H locs hW hS => ?_)
  have h := h hv1 ehv1
  refine lv_aload_n hx hb dX4_slam_5 rfl (lv_at hl 2 rfl) ?_
  refine lv_iconst (v := 1) hx hb dX4_slam_6 (by decide) ?_
  refine w_put (v := 1) C0 hW hS 5 0 (by decide) (by decide) rfl rfl in_X5 tyX5_ok nmX5 2 (by decide) w_263 rfl rfl rfl (Nat.le_of_ble_eq_true rfl) rfl dX4_slam_7 (fun hv2 ehv2 H locs hW hS => ?_)
  have h := h hv2 ehv2
  refine lv_aload_n hx hb dX4_slam_10 rfl (lv_at hl 0 rfl) ?_
  refine w_get (v := .ref (ad G 2 i0)) C0 hW 4 i0 (by decide) (show i0 < 37 by omega) rfl rfl in_X4 14 (by decide) w_145 rfl dX4_slam_11 ?_
  refine lv_dup hx hb dX4_slam_14 rfl ?_
  refine w_get (v := .int (hv2 2 i0 0)) C0 hW 2 i0 (by decide) (show i0 < 37 by omega) rfl rfl in_X2 0 (by decide) w_71 rfl dX4_slam_15 ?_
  refine lv_iconst (v := 1) hx hb dX4_slam_18 (by decide) ?_
  refine lv_iadd hx hb dX4_slam_19 ?_
  refine w_put (v := ((hv2 2 i0 0) + 1)) C0 hW hS 2 i0 (by decide) (show i0 < 37 by omega) rfl rfl in_X2 tyX2_ok nmX2 0 (by decide) w_71 rfl rfl rfl (Nat.le_of_ble_eq_true rfl) rfl dX4_slam_20 (fun hv3 ehv3 H locs hW hS => ?_)
  have h := h hv3 ehv3
  refine lv_aload_n hx hb dX4_slam_23 rfl (lv_at hl 0 rfl) ?_
  refine w_get (v := .ref (ad G 6 (2 * i0))) C0 hW 4 i0 (by decide) (show i0 < 37 by omega) rfl rfl in_X4 15 (by decide) w_147 rfl dX4_slam_24 ?_
  refine lv_iload_n hx hb dX4_slam_27 rfl (lv_at hl 1 rfl) ?_
  refine lv_aload_n hx hb dX4_slam_28 rfl (lv_at hl 0 rfl) ?_
  refine w_get (v := .int (hv3 4 i0 12)) C0 hW 4 i0 (by decide) (show i0 < 37 by omega) rfl rfl in_X4 12 (by decide) w_141 rfl dX4_slam_29 ?_
  refine lv_isub hx hb dX4_slam_32 ?_
  refine w_cv hS (w_runV (As := [.int (a1 - (hv3 4 i0 12))]) C0 hW 6 (2 * i0) (by decide) (show (2 * i0) < 77 by omega) rfl rfl (c_X6_add l G A (2 * i0) (a1 - (hv3 4 i0 12)) (show (2 * i0) < 77 by omega) hv3 _ h) ⟨⟨w_515, w_11, w_518⟩, pl_X6_add, ⟨Nat.le_of_ble_eq_true rfl, Nat.le_of_ble_eq_true rfl⟩, ⟨Nat.le_refl _, Nat.le_refl _⟩⟩ ⟨w_516, w_517⟩ rfl hl.1 rfl (Nat.le_of_ble_eq_true rfl) dX4_slam_33) (fun hv4 h H locs hW hS => ?_)
  refine lv_aload_n hx hb dX4_slam_36 rfl (lv_at hl 0 rfl) ?_
  refine lv_iload_n hx hb dX4_slam_37 rfl (lv_at hl 1 rfl) ?_
  refine w_put (v := a1) C0 hW hS 4 i0 (by decide) (show i0 < 37 by omega) rfl rfl in_X4 tyX4_ok nmX4 12 (by decide) w_141 rfl rfl rfl (Nat.le_of_ble_eq_true rfl) rfl dX4_slam_38 (fun hv5 ehv5 H locs hW hS => ?_)
  have h := h hv5 ehv5
  refine lv_aload_n hx hb dX4_slam_41 rfl (lv_at hl 0 rfl) ?_
  refine w_get (v := .ref (ad G 0 i0)) C0 hW 4 i0 (by decide) (show i0 < 37 by omega) rfl rfl in_X4 13 (by decide) w_143 rfl dX4_slam_42 ?_
  refine w_get (v := .int (hv5 0 i0 4)) C0 hW 0 i0 (by decide) (show i0 < 37 by omega) rfl rfl in_X0 4 (by decide) w_52 rfl dX4_slam_45 ?_
  refine lv_topi (fun x6 ex6 => ?_)
  have h := h x6 ex6
  refine lv_istore_n (lv' := [(3, .int x6), (0, .ref (ad G 4 i0)), (1, .int a1), (2, .ref (ad G 5 0))]) hx hb dX4_slam_48 rfl hl (by decide) rfl (fun ls hl => ?_)
  refine lv_aload_n hx hb dX4_slam_49 rfl (lv_at hl 1 rfl) ?_
  refine w_get (v := .ref (ad G 0 i0)) C0 hW 4 i0 (by decide) (show i0 < 37 by omega) rfl rfl in_X4 13 (by decide) w_143 rfl dX4_slam_50 ?_
  refine w_cv hS (w_runV (As := []) C0 hW 0 i0 (by decide) (show i0 < 37 by omega) rfl rfl (c_X0_changeAir l G A i0 (show i0 < 37 by omega) hv5 _ h) ⟨⟨w_519, w_9, w_522⟩, pl_X0_changeAir, ⟨Nat.le_of_ble_eq_true rfl, Nat.le_of_ble_eq_true rfl⟩, ⟨Nat.le_refl _, Nat.le_refl _⟩⟩ ⟨w_520, w_521⟩ rfl hl.1 rfl (Nat.le_of_ble_eq_true rfl) dX4_slam_53) (fun hv7 h H locs hW hS => ?_)
  refine lv_aload_n hx hb dX4_slam_56 rfl (lv_at hl 1 rfl) ?_
  refine w_get (v := .ref (ad G 0 i0)) C0 hW 4 i0 (by decide) (show i0 < 37 by omega) rfl rfl in_X4 13 (by decide) w_143 rfl dX4_slam_57 ?_
  refine w_get (v := .int (hv7 0 i0 4)) C0 hW 0 i0 (by decide) (show i0 < 37 by omega) rfl rfl in_X0 4 (by decide) w_52 rfl dX4_slam_60 ?_
  refine lv_aload_n hx hb dX4_slam_63 rfl (lv_at hl 1 rfl) ?_
  refine w_get (v := .ref (ad G 0 i0)) C0 hW 4 i0 (by decide) (show i0 < 37 by omega) rfl rfl in_X4 13 (by decide) w_143 rfl dX4_slam_64 ?_
  refine w_get (v := .int (hv7 0 i0 1)) C0 hW 0 i0 (by decide) (show i0 < 37 by omega) rfl rfl in_X0 1 (by decide) w_46 rfl dX4_slam_67 ?_
  refine lv_icmp_ne (tgt := 89) hx hb dX4_slam_70 (by decide) (fun c8 => ?_) (fun c8 => ?_)
  · have h := h.2 c8
    exact w_vret C0 hr hW hS h dX4_slam_89
  · have h := h.1 c8
    refine lv_iload_n hx hb dX4_slam_73 rfl (lv_at hl 0 rfl) ?_
    refine lv_aload_n hx hb dX4_slam_74 rfl (lv_at hl 1 rfl) ?_
    refine w_get (v := .ref (ad G 0 i0)) C0 hW 4 i0 (by decide) (show i0 < 37 by omega) rfl rfl in_X4 13 (by decide) w_143 rfl dX4_slam_75 ?_
    refine w_get (v := .int (hv7 0 i0 1)) C0 hW 0 i0 (by decide) (show i0 < 37 by omega) rfl rfl in_X0 1 (by decide) w_46 rfl dX4_slam_78 ?_
    refine lv_icmp_le (tgt := 89) hx hb dX4_slam_81 (by decide) (fun c9 => ?_) (fun c9 => ?_)
    · have h := h.1 c9
      exact w_vret C0 hr hW hS h dX4_slam_89
    · have h := h.2 c9
      refine lv_aload_n hx hb dX4_slam_84 rfl (lv_at hl 3 rfl) ?_
      refine lv_iconst (v := 4) hx hb dX4_slam_85 (by decide) ?_
      refine w_put (v := 4) C0 hW hS 5 0 (by decide) (by decide) rfl rfl in_X5 tyX5_ok nmX5 3 (by decide) w_266 rfl rfl rfl (Nat.le_of_ble_eq_true rfl) rfl dX4_slam_86 (fun hv10 ehv10 H locs hW hS => ?_)
      have h := h hv10 ehv10
      exact w_vret C0 hr hW hS h dX4_slam_89

theorem pl_X4_deliver : yX4_deliver.cls ≠ "java/lang/invoke/MethodHandle" ∧ yX4_deliver.cls ≠ "java/lang/invoke/VarHandle" ∧ (parseMethodDescriptor yX4_deliver.desc).map (fun d => d.parameters.length) = some 1 := ⟨by decide +kernel, by decide +kernel, by decide +kernel⟩
def V_X4_deliver (i0 : Nat) (hv : HV) (post : HV → Prop) : Prop := (V_X0_head i0 hv (fun r1 hv1 => (((hv1 4 i0 4) < r1 → (∀ x3 : Int32, x3 = (if (1 + ((r1 - (hv1 4 i0 4)) / 10)) < (hv1 0 i0 3) then (1 + ((r1 - (hv1 4 i0 4)) / 10)) else (hv1 0 i0 3)) → (∀ hv4 : HV, hv4 = up hv1 0 i0 (upd (hv1 0 i0) 3 ((hv1 0 i0 3) - x3)) → (∀ hv5 : HV, hv5 = up hv4 2 i0 (upd (hv4 2 i0) 3 ((hv4 2 i0 3) + x3)) → (∀ hv6 : HV, hv6 = up hv5 5 0 (upd (hv5 5 0) 1 x3) → (∀ x7 : Int32, x7 = (if (30000 - (hv6 4 i0 11)) < x3 then (30000 - (hv6 4 i0 11)) else x3) → (∀ hv8 : HV, hv8 = up hv6 4 i0 (upd (hv6 4 i0) 11 ((hv6 4 i0 11) + x7)) → (∀ hv9 : HV, hv9 = up hv8 2 i0 (upd (hv8 2 i0) 4 ((hv8 2 i0 4) + (x3 - x7))) → ((x3 ≤ x7 → (∀ hv11 : HV, hv11 = up hv9 5 0 (upd (hv9 5 0) 4 0) → post hv11)) ∧ (¬ (x3 ≤ x7) → (∀ hv12 : HV, hv12 = up hv9 5 0 (upd (hv9 5 0) 4 1) → post hv12))))))))))) ∧ (¬ ((hv1 4 i0 4) < r1) → post hv1))))
set_option maxHeartbeats 4000000 in
theorem c_X4_deliver (l : Launch) (G : wG) (A : Nat → Prop) (i0 : Nat) (hi0 : i0 < 37) (hv : HV) (post : HV → Prop) (h : V_X4_deliver i0 hv post) : wM l yX4_deliver cX4_deliver 5 ((Option.none : Option FieldType)) 2 G A hv [.ref (ad G 4 i0), .ref (ad G 5 0)] (qV G A post) := by
  refine wM_of (by decide +kernel) (Nat.le_of_ble_eq_true rfl) ?_
  intro p e s m args below meth c C0 hr ls hl hW hS
  have hx := C0.1
  have hb := C0.2.1
  have hown := C0.2.2.2.1
  have hts := C0.2.2.2.2.1
  have hl : lv_has ls 5 [(0, .ref (ad G 4 i0)), (1, .ref (ad G 5 0))] := hl
  unfold V_X4_deliver at h
  refine lv_aload_n hx hb dX4_deliver_0 rfl (lv_at hl 0 rfl) ?_
  refine w_get (v := .ref (ad G 0 i0)) C0 hW 4 i0 (by decide) (show i0 < 37 by omega) rfl rfl in_X4 13 (by decide) w_143 rfl dX4_deliver_1 ?_
  refine w_ci hS (w_runV (As := []) C0 hW 0 i0 (by decide) (show i0 < 37 by omega) rfl rfl (c_X0_head l G A i0 (show i0 < 37 by omega) hv _ h) ⟨⟨w_491, w_9, w_494⟩, pl_X0_head, ⟨Nat.le_of_ble_eq_true rfl, Nat.le_of_ble_eq_true rfl⟩, ⟨Nat.le_refl _, Nat.le_refl _⟩⟩ ⟨w_492, w_493⟩ rfl hl.1 rfl (Nat.le_of_ble_eq_true rfl) dX4_deliver_4) (fun r1 hv1 h H locs hW hS => ?_)
  refine lv_istore_n (lv' := [(2, .int r1), (0, .ref (ad G 4 i0)), (1, .ref (ad G 5 0))]) hx hb dX4_deliver_7 rfl hl (by decide) rfl (fun ls hl => ?_)
  refine lv_iload_n hx hb dX4_deliver_8 rfl (lv_at hl 0 rfl) ?_
  refine lv_aload_n hx hb dX4_deliver_9 rfl (lv_at hl 1 rfl) ?_
  refine w_get (v := .int (hv1 4 i0 4)) C0 hW 4 i0 (by decide) (show i0 < 37 by omega) rfl rfl in_X4 4 (by decide) w_125 rfl dX4_deliver_10 ?_
  refine lv_icmp_gt (tgt := 17) hx hb dX4_deliver_13 (by decide) (fun c2 => ?_) (fun c2 => ?_)
  · have h := h.1 c2
    refine lv_aload_n hx hb dX4_deliver_17 rfl (lv_at hl 1 rfl) ?_
    refine w_get (v := .ref (ad G 0 i0)) C0 hW 4 i0 (by decide) (show i0 < 37 by omega) rfl rfl in_X4 13 (by decide) w_143 rfl dX4_deliver_18 ?_
    refine w_get (v := .int (hv1 0 i0 3)) C0 hW 0 i0 (by decide) (show i0 < 37 by omega) rfl rfl in_X0 3 (by decide) w_50 rfl dX4_deliver_21 ?_
    refine lv_iconst (v := 1) hx hb dX4_deliver_24 (by decide) ?_
    refine lv_iload_n hx hb dX4_deliver_25 rfl (lv_at hl 0 rfl) ?_
    refine lv_aload_n hx hb dX4_deliver_26 rfl (lv_at hl 1 rfl) ?_
    refine w_get (v := .int (hv1 4 i0 4)) C0 hW 4 i0 (by decide) (show i0 < 37 by omega) rfl rfl in_X4 4 (by decide) w_125 rfl dX4_deliver_27 ?_
    refine lv_isub hx hb dX4_deliver_30 ?_
    refine lv_bipush (v := 10) hx hb dX4_deliver_31 (by decide) ?_
    refine lv_idiv hx hb dX4_deliver_33 (by decide) ?_
    refine lv_iadd hx hb dX4_deliver_34 ?_
    refine w_min C0 hl.1 w_506 w_400 w_12 w_401 (Nat.le_of_ble_eq_true rfl) (Nat.le_of_ble_eq_true rfl) (Nat.le_refl _) (Nat.le_refl _) dX4_deliver_35 ?_
    refine lv_topi (fun x3 ex3 => ?_)
    have h := h x3 ex3
    refine lv_istore_n (lv' := [(3, .int x3), (2, .int r1), (0, .ref (ad G 4 i0)), (1, .ref (ad G 5 0))]) hx hb dX4_deliver_38 rfl hl (by decide) rfl (fun ls hl => ?_)
    refine lv_aload_n hx hb dX4_deliver_39 rfl (lv_at hl 2 rfl) ?_
    refine w_get (v := .ref (ad G 0 i0)) C0 hW 4 i0 (by decide) (show i0 < 37 by omega) rfl rfl in_X4 13 (by decide) w_143 rfl dX4_deliver_40 ?_
    refine lv_dup hx hb dX4_deliver_43 rfl ?_
    refine w_get (v := .int (hv1 0 i0 3)) C0 hW 0 i0 (by decide) (show i0 < 37 by omega) rfl rfl in_X0 3 (by decide) w_50 rfl dX4_deliver_44 ?_
    refine lv_iload_n hx hb dX4_deliver_47 rfl (lv_at hl 0 rfl) ?_
    refine lv_isub hx hb dX4_deliver_48 ?_
    refine w_put (v := ((hv1 0 i0 3) - x3)) C0 hW hS 0 i0 (by decide) (show i0 < 37 by omega) rfl rfl in_X0 tyX0_ok nmX0 3 (by decide) w_50 rfl rfl rfl (Nat.le_of_ble_eq_true rfl) rfl dX4_deliver_49 (fun hv4 ehv4 H locs hW hS => ?_)
    have h := h hv4 ehv4
    refine lv_aload_n hx hb dX4_deliver_52 rfl (lv_at hl 2 rfl) ?_
    refine w_get (v := .ref (ad G 2 i0)) C0 hW 4 i0 (by decide) (show i0 < 37 by omega) rfl rfl in_X4 14 (by decide) w_145 rfl dX4_deliver_53 ?_
    refine lv_dup hx hb dX4_deliver_56 rfl ?_
    refine w_get (v := .int (hv4 2 i0 3)) C0 hW 2 i0 (by decide) (show i0 < 37 by omega) rfl rfl in_X2 3 (by decide) w_80 rfl dX4_deliver_57 ?_
    refine lv_iload_n hx hb dX4_deliver_60 rfl (lv_at hl 0 rfl) ?_
    refine lv_iadd hx hb dX4_deliver_61 ?_
    refine w_put (v := ((hv4 2 i0 3) + x3)) C0 hW hS 2 i0 (by decide) (show i0 < 37 by omega) rfl rfl in_X2 tyX2_ok nmX2 3 (by decide) w_80 rfl rfl rfl (Nat.le_of_ble_eq_true rfl) rfl dX4_deliver_62 (fun hv5 ehv5 H locs hW hS => ?_)
    have h := h hv5 ehv5
    refine lv_aload_n hx hb dX4_deliver_65 rfl (lv_at hl 3 rfl) ?_
    refine lv_iload_n hx hb dX4_deliver_66 rfl (lv_at hl 0 rfl) ?_
    refine w_put (v := x3) C0 hW hS 5 0 (by decide) (by decide) rfl rfl in_X5 tyX5_ok nmX5 1 (by decide) w_260 rfl rfl rfl (Nat.le_of_ble_eq_true rfl) rfl dX4_deliver_67 (fun hv6 ehv6 H locs hW hS => ?_)
    have h := h hv6 ehv6
    refine lv_iload_n hx hb dX4_deliver_70 rfl (lv_at hl 0 rfl) ?_
    refine lv_sipush (v := 30000) hx hb dX4_deliver_71 (by decide) ?_
    refine lv_aload_n hx hb dX4_deliver_74 rfl (lv_at hl 2 rfl) ?_
    refine w_get (v := .int (hv6 4 i0 11)) C0 hW 4 i0 (by decide) (show i0 < 37 by omega) rfl rfl in_X4 11 (by decide) w_139 rfl dX4_deliver_75 ?_
    refine lv_isub hx hb dX4_deliver_78 ?_
    refine w_min C0 hl.1 w_506 w_400 w_12 w_401 (Nat.le_of_ble_eq_true rfl) (Nat.le_of_ble_eq_true rfl) (Nat.le_refl _) (Nat.le_refl _) dX4_deliver_79 ?_
    refine lv_topi (fun x7 ex7 => ?_)
    have h := h x7 ex7
    refine lv_istore (lv' := [(4, .int x7), (3, .int x3), (2, .int r1), (0, .ref (ad G 4 i0)), (1, .ref (ad G 5 0))]) hx hb dX4_deliver_82 hl (by decide) rfl (fun ls hl => ?_)
    refine lv_aload_n hx hb dX4_deliver_84 rfl (lv_at hl 3 rfl) ?_
    refine lv_dup hx hb dX4_deliver_85 rfl ?_
    refine w_get (v := .int (hv6 4 i0 11)) C0 hW 4 i0 (by decide) (show i0 < 37 by omega) rfl rfl in_X4 11 (by decide) w_139 rfl dX4_deliver_86 ?_
    refine lv_iload hx hb dX4_deliver_89 (lv_at hl 0 rfl) ?_
    refine lv_iadd hx hb dX4_deliver_91 ?_
    refine w_put (v := ((hv6 4 i0 11) + x7)) C0 hW hS 4 i0 (by decide) (show i0 < 37 by omega) rfl rfl in_X4 tyX4_ok nmX4 11 (by decide) w_139 rfl rfl rfl (Nat.le_of_ble_eq_true rfl) rfl dX4_deliver_92 (fun hv8 ehv8 H locs hW hS => ?_)
    have h := h hv8 ehv8
    refine lv_aload_n hx hb dX4_deliver_95 rfl (lv_at hl 3 rfl) ?_
    refine w_get (v := .ref (ad G 2 i0)) C0 hW 4 i0 (by decide) (show i0 < 37 by omega) rfl rfl in_X4 14 (by decide) w_145 rfl dX4_deliver_96 ?_
    refine lv_dup hx hb dX4_deliver_99 rfl ?_
    refine w_get (v := .int (hv8 2 i0 4)) C0 hW 2 i0 (by decide) (show i0 < 37 by omega) rfl rfl in_X2 4 (by decide) w_83 rfl dX4_deliver_100 ?_
    refine lv_iload_n hx hb dX4_deliver_103 rfl (lv_at hl 1 rfl) ?_
    refine lv_iload hx hb dX4_deliver_104 (lv_at hl 0 rfl) ?_
    refine lv_isub hx hb dX4_deliver_106 ?_
    refine lv_iadd hx hb dX4_deliver_107 ?_
    refine w_put (v := ((hv8 2 i0 4) + (x3 - x7))) C0 hW hS 2 i0 (by decide) (show i0 < 37 by omega) rfl rfl in_X2 tyX2_ok nmX2 4 (by decide) w_83 rfl rfl rfl (Nat.le_of_ble_eq_true rfl) rfl dX4_deliver_108 (fun hv9 ehv9 H locs hW hS => ?_)
    have h := h hv9 ehv9
    refine lv_aload_n hx hb dX4_deliver_111 rfl (lv_at hl 4 rfl) ?_
    refine lv_iload_n hx hb dX4_deliver_112 rfl (lv_at hl 1 rfl) ?_
    refine lv_iload hx hb dX4_deliver_113 (lv_at hl 0 rfl) ?_
    refine lv_icmp_le (tgt := 122) hx hb dX4_deliver_115 (by decide) (fun c10 => ?_) (fun c10 => ?_)
    · have h := h.1 c10
      refine lv_iconst (v := 0) hx hb dX4_deliver_122 (by decide) ?_
      refine w_put (v := 0) C0 hW hS 5 0 (by decide) (by decide) rfl rfl in_X5 tyX5_ok nmX5 4 (by decide) w_269 rfl rfl rfl (Nat.le_of_ble_eq_true rfl) rfl dX4_deliver_123 (fun hv11 ehv11 H locs hW hS => ?_)
      have h := h hv11 ehv11
      exact w_vret C0 hr hW hS h dX4_deliver_126
    · have h := h.2 c10
      refine lv_iconst (v := 1) hx hb dX4_deliver_118 (by decide) ?_
      refine lv_goto (tgt := 123) hx hb dX4_deliver_119 (by decide) ?_
      refine w_put (v := 1) C0 hW hS 5 0 (by decide) (by decide) rfl rfl in_X5 tyX5_ok nmX5 4 (by decide) w_269 rfl rfl rfl (Nat.le_of_ble_eq_true rfl) rfl dX4_deliver_123 (fun hv12 ehv12 H locs hW hS => ?_)
      have h := h hv12 ehv12
      exact w_vret C0 hr hW hS h dX4_deliver_126
  · have h := h.2 c2
    exact w_vret C0 hr hW hS h dX4_deliver_16

def V_X4_tick_91 (i0 : Nat) (a1 : Int32) (a2 : Int32) (post : HV → Prop)  (hv : HV) : Prop := (V_X4_deliver i0 hv (fun hv9 => (V_X6_add (2 * i0 + 1) (Int8.toInt32 (Int32.toInt8 (hv9 4 i0 6))) hv9 (fun hv10 => post hv10))))
set_option maxHeartbeats 4000000 in
theorem k_X4_tick_91 {p : Program} {l : Launch} {e : Env} {s : State} {m : MethodId} {args : Array Value} {below : List Frame} {meth : Method} {c : Code} {G : wG} {A : Nat → Prop} (i0 : Nat) (a1 : Int32) (a2 : Int32) (post : HV → Prop) (C0 : cx p s m args meth c "RamStation$Pump" cX4_tick 5 G) (hr : meth.sig.returnType = (Option.none : Option FieldType)) (hi0 : i0 < 37)  : ∀  (hv : HV), V_X4_tick_91 i0 a1 a2 post  hv → ∀ (H : Heap) (locs : List Loc) (ls : Array Slot), wd G A hv H → va_S A s.heap H locs → lv_has ls 5 [(0, .ref (ad G 4 i0)), (3, .ref (ad G 5 0))] → W p l e (wrm 3) s m args below meth c H locs 0 0 (MQ below (qV G A post) args s 0 0 A) (F0 m 91 ls []) := by
  have hx := C0.1
  have hb := C0.2.1
  have hown := C0.2.2.2.1
  have hts := C0.2.2.2.2.1
  intro  hv  h H locs ls hW hS hl
  unfold V_X4_tick_91 at h
  refine lv_aload_n hx hb dX4_tick_91 rfl (lv_at hl 0 rfl) ?_
  refine lv_aload_n hx hb dX4_tick_92 rfl (lv_at hl 1 rfl) ?_
  refine w_cv hS (w_runV (As := [.ref (ad G 5 0)]) C0 hW 4 i0 (by decide) (show i0 < 37 by omega) rfl rfl (c_X4_deliver l G A i0 (show i0 < 37 by omega) hv _ h) ⟨⟨w_523, w_8, w_526⟩, pl_X4_deliver, ⟨Nat.le_of_ble_eq_true rfl, Nat.le_of_ble_eq_true rfl⟩, ⟨Nat.le_refl _, Nat.le_refl _⟩⟩ ⟨w_524, w_525⟩ rfl hl.1 rfl (Nat.le_of_ble_eq_true rfl) dX4_tick_93) (fun hv9 h H locs hW hS => ?_)
  refine lv_aload_n hx hb dX4_tick_96 rfl (lv_at hl 0 rfl) ?_
  refine w_get (v := .ref (ad G 6 (2 * i0 + 1))) C0 hW 4 i0 (by decide) (show i0 < 37 by omega) rfl rfl in_X4 16 (by decide) w_149 rfl dX4_tick_97 ?_
  refine lv_aload_n hx hb dX4_tick_100 rfl (lv_at hl 0 rfl) ?_
  refine w_get (v := .int (hv9 4 i0 6)) C0 hW 4 i0 (by decide) (show i0 < 37 by omega) rfl rfl in_X4 6 (by decide) w_129 rfl dX4_tick_101 ?_
  refine lv_i2b hx hb dX4_tick_104 rfl ?_
  refine w_cv hS (w_runV (As := [.int (Int8.toInt32 (Int32.toInt8 (hv9 4 i0 6)))]) C0 hW 6 (2 * i0 + 1) (by decide) (show (2 * i0 + 1) < 77 by omega) rfl rfl (c_X6_add l G A (2 * i0 + 1) (Int8.toInt32 (Int32.toInt8 (hv9 4 i0 6))) (show (2 * i0 + 1) < 77 by omega) hv9 _ h) ⟨⟨w_515, w_11, w_518⟩, pl_X6_add, ⟨Nat.le_of_ble_eq_true rfl, Nat.le_of_ble_eq_true rfl⟩, ⟨Nat.le_refl _, Nat.le_refl _⟩⟩ ⟨w_516, w_517⟩ rfl hl.1 rfl (Nat.le_of_ble_eq_true rfl) dX4_tick_105) (fun hv10 h H locs hW hS => ?_)
  exact w_vret C0 hr hW hS h dX4_tick_108
theorem pl_X4_tick : yX4_tick.cls ≠ "java/lang/invoke/MethodHandle" ∧ yX4_tick.cls ≠ "java/lang/invoke/VarHandle" ∧ (parseMethodDescriptor yX4_tick.desc).map (fun d => d.parameters.length) = some 3 := ⟨by decide +kernel, by decide +kernel, by decide +kernel⟩
def V_X4_tick (i0 : Nat) (a1 : Int32) (a2 : Int32) (hv : HV) (post : HV → Prop) : Prop := (V_X5_clear hv (fun hv1 => (∀ x2 : Int32, x2 = (((hv1 4 i0 2) * (hv1 4 i0 6)) / 10) → ((x2 ≤ a1 → (∀ hv4 : HV, hv4 = up hv1 5 0 (upd (hv1 5 0) 0 x2) → (((hv4 4 i0 7) = 0 → (V_X4_gainSpeed i0 x2 hv4 (fun hv6 => (V_X4_slamRuleHolds i0 hv6 (fun r7 hv7 => ((r7 = 0 → (V_X4_tick_91 i0 a1 a2 post hv7)) ∧ (¬ (r7 = 0) → (V_X4_slam i0 a2 hv7 (fun hv11 => (V_X4_tick_91 i0 a1 a2 post hv11)))))))))) ∧ (¬ ((hv4 4 i0 7) = 0) → (V_X4_pushIntoChamber i0 x2 hv4 (fun hv12 => (V_X4_tick_91 i0 a1 a2 post hv12))))))) ∧ (¬ (x2 ≤ a1) → (V_X4_rest i0 hv1 (fun hv13 => (∀ hv14 : HV, hv14 = up hv13 2 i0 (upd (hv13 2 i0) 5 ((hv13 2 i0 5) + 1)) → (∀ hv15 : HV, hv15 = up hv14 5 0 (upd (hv14 5 0) 3 1) → (V_X4_tick_91 i0 a1 a2 post hv15))))))))))
set_option maxHeartbeats 4000000 in
theorem c_X4_tick (l : Launch) (G : wG) (A : Nat → Prop) (i0 : Nat) (a1 : Int32) (a2 : Int32) (hi0 : i0 < 37) (hv : HV) (post : HV → Prop) (h : V_X4_tick i0 a1 a2 hv post) : wM l yX4_tick cX4_tick 5 ((Option.none : Option FieldType)) 3 G A hv [.ref (ad G 4 i0), .int a1, .int a2, .ref (ad G 5 0)] (qV G A post) := by
  refine wM_of (by decide +kernel) (Nat.le_of_ble_eq_true rfl) ?_
  intro p e s m args below meth c C0 hr ls hl hW hS
  have hx := C0.1
  have hb := C0.2.1
  have hown := C0.2.2.2.1
  have hts := C0.2.2.2.2.1
  have hl : lv_has ls 5 [(0, .ref (ad G 4 i0)), (1, .int a1), (2, .int a2), (3, .ref (ad G 5 0))] := hl
  unfold V_X4_tick at h
  refine lv_aload_n hx hb dX4_tick_0 rfl (lv_at hl 3 rfl) ?_
  refine w_cv hS (w_runV (As := []) C0 hW 5 0 (by decide) (by decide) rfl rfl (c_X5_clear l G A hv _ h) ⟨⟨w_477, w_15, w_480⟩, pl_X5_clear, ⟨Nat.le_of_ble_eq_true rfl, Nat.le_of_ble_eq_true rfl⟩, ⟨Nat.le_refl _, Nat.le_refl _⟩⟩ ⟨w_478, w_479⟩ rfl hl.1 rfl (Nat.le_of_ble_eq_true rfl) dX4_tick_1) (fun hv1 h H locs hW hS => ?_)
  refine lv_aload_n hx hb dX4_tick_4 rfl (lv_at hl 0 rfl) ?_
  refine w_get (v := .int (hv1 4 i0 2)) C0 hW 4 i0 (by decide) (show i0 < 37 by omega) rfl rfl in_X4 2 (by decide) w_123 rfl dX4_tick_5 ?_
  refine lv_aload_n hx hb dX4_tick_8 rfl (lv_at hl 0 rfl) ?_
  refine w_get (v := .int (hv1 4 i0 6)) C0 hW 4 i0 (by decide) (show i0 < 37 by omega) rfl rfl in_X4 6 (by decide) w_129 rfl dX4_tick_9 ?_
  refine lv_imul hx hb dX4_tick_12 ?_
  refine lv_bipush (v := 10) hx hb dX4_tick_13 (by decide) ?_
  refine lv_idiv hx hb dX4_tick_15 (by decide) ?_
  refine lv_topi (fun x2 ex2 => ?_)
  have h := h x2 ex2
  refine lv_istore (lv' := [(4, .int x2), (0, .ref (ad G 4 i0)), (1, .int a1), (2, .int a2), (3, .ref (ad G 5 0))]) hx hb dX4_tick_16 hl (by decide) rfl (fun ls hl => ?_)
  refine lv_iload hx hb dX4_tick_18 (lv_at hl 0 rfl) ?_
  refine lv_iload_n hx hb dX4_tick_20 rfl (lv_at hl 2 rfl) ?_
  refine lv_icmp_le (tgt := 49) hx hb dX4_tick_21 (by decide) (fun c3 => ?_) (fun c3 => ?_)
  · have h := h.1 c3
    refine lv_aload_n hx hb dX4_tick_49 rfl (lv_at hl 4 rfl) ?_
    refine lv_iload hx hb dX4_tick_50 (lv_at hl 0 rfl) ?_
    refine w_put (v := x2) C0 hW hS 5 0 (by decide) (by decide) rfl rfl in_X5 tyX5_ok nmX5 0 (by decide) w_257 rfl rfl rfl (Nat.le_of_ble_eq_true rfl) rfl dX4_tick_52 (fun hv4 ehv4 H locs hW hS => ?_)
    have h := h hv4 ehv4
    refine lv_aload_n hx hb dX4_tick_55 rfl (lv_at hl 1 rfl) ?_
    refine w_get (v := .int (hv4 4 i0 7)) C0 hW 4 i0 (by decide) (show i0 < 37 by omega) rfl rfl in_X4 7 (by decide) w_131 rfl dX4_tick_56 ?_
    refine lv_if_eq (tgt := 72) hx hb dX4_tick_59 (by decide) (fun c5 => ?_) (fun c5 => ?_)
    · have h := h.1 c5
      refine lv_aload_n hx hb dX4_tick_72 rfl (lv_at hl 1 rfl) ?_
      refine lv_iload hx hb dX4_tick_73 (lv_at hl 0 rfl) ?_
      refine w_cv hS (w_runV (As := [.int x2]) C0 hW 4 i0 (by decide) (show i0 < 37 by omega) rfl rfl (c_X4_gainSpeed l G A i0 x2 (show i0 < 37 by omega) hv4 _ h) ⟨⟨w_501, w_8, w_504⟩, pl_X4_gainSpeed, ⟨Nat.le_of_ble_eq_true rfl, Nat.le_of_ble_eq_true rfl⟩, ⟨Nat.le_refl _, Nat.le_refl _⟩⟩ ⟨w_502, w_503⟩ rfl hl.1 rfl (Nat.le_of_ble_eq_true rfl) dX4_tick_75) (fun hv6 h H locs hW hS => ?_)
      refine lv_aload_n hx hb dX4_tick_78 rfl (lv_at hl 1 rfl) ?_
      refine w_ci hS (w_runV (As := []) C0 hW 4 i0 (by decide) (show i0 < 37 by omega) rfl rfl (c_X4_slamRuleHolds l G A i0 (show i0 < 37 by omega) hv6 _ h) ⟨⟨w_507, w_8, w_510⟩, pl_X4_slamRuleHolds, ⟨Nat.le_of_ble_eq_true rfl, Nat.le_of_ble_eq_true rfl⟩, ⟨Nat.le_refl _, Nat.le_refl _⟩⟩ ⟨w_508, w_509⟩ rfl hl.1 rfl (Nat.le_of_ble_eq_true rfl) dX4_tick_79) (fun r7 hv7 h H locs hW hS => ?_)
      refine lv_if_eq (tgt := 91) hx hb dX4_tick_82 (by decide) (fun c8 => ?_) (fun c8 => ?_)
      · have h := h.1 c8
        exact k_X4_tick_91 i0 a1 a2 post C0 hr hi0 hv7 h _ _ _ hW hS (lv_sub hl [1, 4] rfl)
      · have h := h.2 c8
        refine lv_aload_n hx hb dX4_tick_85 rfl (lv_at hl 1 rfl) ?_
        refine lv_iload_n hx hb dX4_tick_86 rfl (lv_at hl 3 rfl) ?_
        refine lv_aload_n hx hb dX4_tick_87 rfl (lv_at hl 4 rfl) ?_
        refine w_cv hS (w_runV (As := [.int a2, .ref (ad G 5 0)]) C0 hW 4 i0 (by decide) (show i0 < 37 by omega) rfl rfl (c_X4_slam l G A i0 a2 (show i0 < 37 by omega) hv7 _ h) ⟨⟨w_511, w_8, w_514⟩, pl_X4_slam, ⟨Nat.le_of_ble_eq_true rfl, Nat.le_of_ble_eq_true rfl⟩, ⟨Nat.le_refl _, Nat.le_refl _⟩⟩ ⟨w_512, w_513⟩ rfl hl.1 rfl (Nat.le_of_ble_eq_true rfl) dX4_tick_88) (fun hv11 h H locs hW hS => ?_)
        exact k_X4_tick_91 i0 a1 a2 post C0 hr hi0 hv11 h _ _ _ hW hS (lv_sub hl [1, 4] rfl)
    · have h := h.2 c5
      refine lv_aload_n hx hb dX4_tick_62 rfl (lv_at hl 1 rfl) ?_
      refine lv_iload hx hb dX4_tick_63 (lv_at hl 0 rfl) ?_
      refine lv_aload_n hx hb dX4_tick_65 rfl (lv_at hl 4 rfl) ?_
      refine w_cv hS (w_runV (As := [.int x2, .ref (ad G 5 0)]) C0 hW 4 i0 (by decide) (show i0 < 37 by omega) rfl rfl (c_X4_pushIntoChamber l G A i0 x2 (show i0 < 37 by omega) hv4 _ h) ⟨⟨w_482, w_8, w_485⟩, pl_X4_pushIntoChamber, ⟨Nat.le_of_ble_eq_true rfl, Nat.le_of_ble_eq_true rfl⟩, ⟨Nat.le_refl _, Nat.le_refl _⟩⟩ ⟨w_483, w_484⟩ rfl hl.1 rfl (Nat.le_of_ble_eq_true rfl) dX4_tick_66) (fun hv12 h H locs hW hS => ?_)
      refine lv_goto (tgt := 91) hx hb dX4_tick_69 (by decide) ?_
      exact k_X4_tick_91 i0 a1 a2 post C0 hr hi0 hv12 h _ _ _ hW hS (lv_sub hl [1, 4] rfl)
  · have h := h.2 c3
    refine lv_aload_n hx hb dX4_tick_24 rfl (lv_at hl 1 rfl) ?_
    refine w_cv hS (w_runV (As := []) C0 hW 4 i0 (by decide) (show i0 < 37 by omega) rfl rfl (c_X4_rest l G A i0 (show i0 < 37 by omega) hv1 _ h) ⟨⟨w_481, w_8, w_445⟩, pl_X4_rest, ⟨Nat.le_of_ble_eq_true rfl, Nat.le_of_ble_eq_true rfl⟩, ⟨Nat.le_refl _, Nat.le_refl _⟩⟩ ⟨w_443, w_444⟩ rfl hl.1 rfl (Nat.le_of_ble_eq_true rfl) dX4_tick_25) (fun hv13 h H locs hW hS => ?_)
    refine lv_aload_n hx hb dX4_tick_28 rfl (lv_at hl 1 rfl) ?_
    refine w_get (v := .ref (ad G 2 i0)) C0 hW 4 i0 (by decide) (show i0 < 37 by omega) rfl rfl in_X4 14 (by decide) w_145 rfl dX4_tick_29 ?_
    refine lv_dup hx hb dX4_tick_32 rfl ?_
    refine w_get (v := .int (hv13 2 i0 5)) C0 hW 2 i0 (by decide) (show i0 < 37 by omega) rfl rfl in_X2 5 (by decide) w_86 rfl dX4_tick_33 ?_
    refine lv_iconst (v := 1) hx hb dX4_tick_36 (by decide) ?_
    refine lv_iadd hx hb dX4_tick_37 ?_
    refine w_put (v := ((hv13 2 i0 5) + 1)) C0 hW hS 2 i0 (by decide) (show i0 < 37 by omega) rfl rfl in_X2 tyX2_ok nmX2 5 (by decide) w_86 rfl rfl rfl (Nat.le_of_ble_eq_true rfl) rfl dX4_tick_38 (fun hv14 ehv14 H locs hW hS => ?_)
    have h := h hv14 ehv14
    refine lv_aload_n hx hb dX4_tick_41 rfl (lv_at hl 4 rfl) ?_
    refine lv_iconst (v := 1) hx hb dX4_tick_42 (by decide) ?_
    refine w_put (v := 1) C0 hW hS 5 0 (by decide) (by decide) rfl rfl in_X5 tyX5_ok nmX5 3 (by decide) w_266 rfl rfl rfl (Nat.le_of_ble_eq_true rfl) rfl dX4_tick_43 (fun hv15 ehv15 H locs hW hS => ?_)
    have h := h hv15 ehv15
    refine lv_goto (tgt := 91) hx hb dX4_tick_46 (by decide) ?_
    exact k_X4_tick_91 i0 a1 a2 post C0 hr hi0 hv15 h _ _ _ hW hS (lv_sub hl [1, 4] rfl)

theorem pl_X4_thousandths : yX4_thousandths.cls ≠ "java/lang/invoke/MethodHandle" ∧ yX4_thousandths.cls ≠ "java/lang/invoke/VarHandle" ∧ (parseMethodDescriptor yX4_thousandths.desc).map (fun d => d.parameters.length) = some 0 := ⟨by decide +kernel, by decide +kernel, by decide +kernel⟩
def V_X4_thousandths (i0 : Nat) (hv : HV) (post : Int32 → HV → Prop) : Prop := (∀ x1 : Int64, x1 = (((Int32.toInt64 (hv 2 i0 1)) + (Int32.toInt64 (hv 2 i0 2))) + (Int32.toInt64 (hv 2 i0 3))) → (∀ x2 : Int64, x2 = (x1 * (Int32.toInt64 (hv 4 i0 0))) → ((0 ≤ (lg_cmp x2 1) → (¬ x2 = 0 ∧ post (Int64.toInt32 (((1000 * (Int32.toInt64 (hv 2 i0 3))) * (Int32.toInt64 (hv 4 i0 4))) / x2)) hv)) ∧ (¬ (0 ≤ (lg_cmp x2 1)) → post (-1005) hv))))
set_option maxHeartbeats 4000000 in
theorem c_X4_thousandths (l : Launch) (G : wG) (A : Nat → Prop) (i0 : Nat) (hi0 : i0 < 37) (hv : HV) (post : Int32 → HV → Prop) (h : V_X4_thousandths i0 hv post) : wM l yX4_thousandths cX4_thousandths 5 ((Option.some FieldType.int)) 0 G A hv [.ref (ad G 4 i0)] (qI G A post) := by
  refine wM_of (by decide +kernel) (Nat.le_of_ble_eq_true rfl) ?_
  intro p e s m args below meth c C0 hr ls hl hW hS
  have hx := C0.1
  have hb := C0.2.1
  have hown := C0.2.2.2.1
  have hts := C0.2.2.2.2.1
  have hl : lv_has ls 5 [(0, .ref (ad G 4 i0))] := hl
  unfold V_X4_thousandths at h
  refine lv_aload_n hx hb dX4_thousandths_0 rfl (lv_at hl 0 rfl) ?_
  refine w_get (v := .ref (ad G 2 i0)) C0 hW 4 i0 (by decide) (show i0 < 37 by omega) rfl rfl in_X4 14 (by decide) w_145 rfl dX4_thousandths_1 ?_
  refine w_get (v := .int (hv 2 i0 1)) C0 hW 2 i0 (by decide) (show i0 < 37 by omega) rfl rfl in_X2 1 (by decide) w_74 rfl dX4_thousandths_4 ?_
  refine lv_i2l hx hb dX4_thousandths_7 rfl ?_
  refine lv_aload_n hx hb dX4_thousandths_8 rfl (lv_at hl 0 rfl) ?_
  refine w_get (v := .ref (ad G 2 i0)) C0 hW 4 i0 (by decide) (show i0 < 37 by omega) rfl rfl in_X4 14 (by decide) w_145 rfl dX4_thousandths_9 ?_
  refine w_get (v := .int (hv 2 i0 2)) C0 hW 2 i0 (by decide) (show i0 < 37 by omega) rfl rfl in_X2 2 (by decide) w_77 rfl dX4_thousandths_12 ?_
  refine lv_i2l hx hb dX4_thousandths_15 rfl ?_
  refine lv_ladd hx hb dX4_thousandths_16 ?_
  refine lv_aload_n hx hb dX4_thousandths_17 rfl (lv_at hl 0 rfl) ?_
  refine w_get (v := .ref (ad G 2 i0)) C0 hW 4 i0 (by decide) (show i0 < 37 by omega) rfl rfl in_X4 14 (by decide) w_145 rfl dX4_thousandths_18 ?_
  refine w_get (v := .int (hv 2 i0 3)) C0 hW 2 i0 (by decide) (show i0 < 37 by omega) rfl rfl in_X2 3 (by decide) w_80 rfl dX4_thousandths_21 ?_
  refine lv_i2l hx hb dX4_thousandths_24 rfl ?_
  refine lv_ladd hx hb dX4_thousandths_25 ?_
  refine lv_topl (fun x1 ex1 => ?_)
  have h := h x1 ex1
  refine lv_lstore_n (lv' := [(1, .long x1), (0, .ref (ad G 4 i0))]) hx hb dX4_thousandths_26 rfl hl (by decide) rfl (fun ls hl => ?_)
  refine lv_lload_n hx hb dX4_thousandths_27 rfl (lv_at hl 0 rfl) ?_
  refine lv_aload_n hx hb dX4_thousandths_28 rfl (lv_at hl 1 rfl) ?_
  refine w_get (v := .int (hv 4 i0 0)) C0 hW 4 i0 (by decide) (show i0 < 37 by omega) rfl rfl in_X4 0 (by decide) w_121 rfl dX4_thousandths_29 ?_
  refine lv_i2l hx hb dX4_thousandths_32 rfl ?_
  refine lv_lmul hx hb dX4_thousandths_33 ?_
  refine lv_topl (fun x2 ex2 => ?_)
  have h := h x2 ex2
  refine lv_lstore_n (lv' := [(3, .long x2), (1, .long x1), (0, .ref (ad G 4 i0))]) hx hb dX4_thousandths_34 rfl hl (by decide) rfl (fun ls hl => ?_)
  refine lv_lload_n hx hb dX4_thousandths_35 rfl (lv_at hl 0 rfl) ?_
  refine lv_lconst (v := 1) hx hb dX4_thousandths_36 (by decide) ?_
  refine W.lcmp hx hb dX4_thousandths_37 ?_
  refine lv_if_ge (tgt := 45) hx hb dX4_thousandths_38 (by decide) (fun c3 => ?_) (fun c3 => ?_)
  · have h := h.1 c3
    refine lv_ldc2 (v := 1000) hx hb hown (hts _ w_598) dX4_thousandths_45 ?_
    refine lv_aload_n hx hb dX4_thousandths_48 rfl (lv_at hl 2 rfl) ?_
    refine w_get (v := .ref (ad G 2 i0)) C0 hW 4 i0 (by decide) (show i0 < 37 by omega) rfl rfl in_X4 14 (by decide) w_145 rfl dX4_thousandths_49 ?_
    refine w_get (v := .int (hv 2 i0 3)) C0 hW 2 i0 (by decide) (show i0 < 37 by omega) rfl rfl in_X2 3 (by decide) w_80 rfl dX4_thousandths_52 ?_
    refine lv_i2l hx hb dX4_thousandths_55 rfl ?_
    refine lv_lmul hx hb dX4_thousandths_56 ?_
    refine lv_aload_n hx hb dX4_thousandths_57 rfl (lv_at hl 2 rfl) ?_
    refine w_get (v := .int (hv 4 i0 4)) C0 hW 4 i0 (by decide) (show i0 < 37 by omega) rfl rfl in_X4 4 (by decide) w_125 rfl dX4_thousandths_58 ?_
    refine lv_i2l hx hb dX4_thousandths_61 rfl ?_
    refine lv_lmul hx hb dX4_thousandths_62 ?_
    refine lv_lload_n hx hb dX4_thousandths_63 rfl (lv_at hl 0 rfl) ?_
    obtain ⟨q4, h⟩ := h
    refine lv_ldiv hx hb dX4_thousandths_64 q4 ?_
    refine lv_l2i hx hb dX4_thousandths_65 rfl ?_
    exact w_iret C0 hr hW hS h dX4_thousandths_66
  · have h := h.2 c3
    refine lv_sipush (v := (-1005)) hx hb dX4_thousandths_41 (by decide) ?_
    exact w_iret C0 hr hW hS h dX4_thousandths_44
