theorem pl_X8_keepState : yX8_keepState.cls ≠ "java/lang/invoke/MethodHandle" ∧ yX8_keepState.cls ≠ "java/lang/invoke/VarHandle" ∧ (parseMethodDescriptor yX8_keepState.desc).map (fun d => d.parameters.length) = some 0 := ⟨by decide +kernel, by decide +kernel, by decide +kernel⟩
def V_X8_keepState  (hv : HV) (post : HV → Prop) : Prop := (((hv 8 0 4) = 0 → (V_X8_outside (hv 8 0 3) 0 7 hv (fun r2 hv2 => ((r2 = 0 → (vp_in (hv2 8 0 3) 8 ∧ (V_X7_copyFrom (1 + Int32.toNatClampNeg (hv2 8 0 3)) 0 hv2 (fun hv5 => (∀ hv6 : HV, hv6 = up hv5 8 0 (upd (hv5 8 0) 3 ((hv5 8 0 3) + 1)) → ((8 ≤ (hv6 8 0 2) → post hv6) ∧ (¬ (8 ≤ (hv6 8 0 2)) → (∀ hv8 : HV, hv8 = up hv6 8 0 (upd (hv6 8 0) 2 ((hv6 8 0 2) + 1)) → post hv8)))))))) ∧ (¬ (r2 = 0) → (∀ hv9 : HV, hv9 = up hv2 8 0 (upd (hv2 8 0) 3 0) → (vp_in (hv9 8 0 3) 8 ∧ (V_X7_copyFrom (1 + Int32.toNatClampNeg (hv9 8 0 3)) 0 hv9 (fun hv11 => (∀ hv12 : HV, hv12 = up hv11 8 0 (upd (hv11 8 0) 3 ((hv11 8 0 3) + 1)) → ((8 ≤ (hv12 8 0 2) → post hv12) ∧ (¬ (8 ≤ (hv12 8 0 2)) → (∀ hv14 : HV, hv14 = up hv12 8 0 (upd (hv12 8 0) 2 ((hv12 8 0 2) + 1)) → post hv14))))))))))))) ∧ (¬ ((hv 8 0 4) = 0) → post hv))
set_option maxHeartbeats 4000000 in
theorem c_X8_keepState (l : Launch) (G : wG) (A : Nat → Prop) (hv : HV) (post : HV → Prop) (h : V_X8_keepState hv post) : wM l yX8_keepState cX8_keepState 2 ((Option.none : Option FieldType)) 4 G A hv [.ref (ad G 8 0)] (qV G A post) := by
  refine wM_of (by decide +kernel) (Nat.le_of_ble_eq_true rfl) ?_
  intro p e s m args below meth c C0 hr ls hl hW hS
  have hx := C0.1
  have hb := C0.2.1
  have hown := C0.2.2.2.1
  have hts := C0.2.2.2.2.1
  have hl : lv_has ls 2 [(0, .ref (ad G 8 0))] := hl
  unfold V_X8_keepState at h
  refine lv_aload_n hx hb dX8_keepState_0 rfl (lv_at hl 0 rfl) ?_
  refine w_get (v := .int (hv 8 0 4)) C0 hW 8 0 (by decide) (by decide) rfl rfl in_X8 4 (by decide) w_288 rfl dX8_keepState_1 ?_
  refine lv_if_eq (tgt := 8) hx hb dX8_keepState_4 (by decide) (fun c1 => ?_) (fun c1 => ?_)
  · have h := h.1 c1
    refine lv_aload_n hx hb dX8_keepState_8 rfl (lv_at hl 0 rfl) ?_
    refine w_get (v := .int (hv 8 0 3)) C0 hW 8 0 (by decide) (by decide) rfl rfl in_X8 3 (by decide) w_287 rfl dX8_keepState_9 ?_
    refine lv_iconst (v := 0) hx hb dX8_keepState_12 (by decide) ?_
    refine lv_aload_n hx hb dX8_keepState_13 rfl (lv_at hl 0 rfl) ?_
    refine w_get (v := .ref (ad G 12 0)) C0 hW 8 0 (by decide) (by decide) rfl rfl in_X8 1 (by decide) w_285 rfl dX8_keepState_14 ?_
    refine w_alen (v := 8) C0 hW 12 0 (by decide) (by decide) rfl 4 rfl rfl dX8_keepState_17 ?_
    refine lv_iconst (v := 1) hx hb dX8_keepState_18 (by decide) ?_
    refine lv_isub hx hb dX8_keepState_19 ?_
    refine w_top (y := 7) (by decide) ?_
    refine w_ci hS (w_runS (As := [.int (hv 8 0 3), .int 0, .int 7]) C0 hW (c_X8_outside l G A (hv 8 0 3) 0 7 hv _ h) ⟨⟨w_373, w_6, w_337⟩, pl_X8_outside, ⟨Nat.le_of_ble_eq_true rfl, Nat.le_of_ble_eq_true rfl⟩, ⟨Nat.le_refl _, Nat.le_refl _⟩⟩ w_336 rfl hl.1 rfl (Nat.le_of_ble_eq_true rfl) dX8_keepState_20) (fun r2 hv2 h H locs hW hS => ?_)
    refine lv_if_eq (tgt := 31) hx hb dX8_keepState_23 (by decide) (fun c3 => ?_) (fun c3 => ?_)
    · have h := h.1 c3
      refine lv_aload_n hx hb dX8_keepState_31 rfl (lv_at hl 0 rfl) ?_
      refine w_get (v := .ref (ad G 12 0)) C0 hW 8 0 (by decide) (by decide) rfl rfl in_X8 1 (by decide) w_285 rfl dX8_keepState_32 ?_
      refine lv_aload_n hx hb dX8_keepState_35 rfl (lv_at hl 0 rfl) ?_
      refine w_get (v := .int (hv2 8 0 3)) C0 hW 8 0 (by decide) (by decide) rfl rfl in_X8 3 (by decide) w_287 rfl dX8_keepState_36 ?_
      obtain ⟨q4, h⟩ := h
      refine w_aaldS C0 hW q4 dX8_keepState_39 (fun b4 => ?_)
      refine lv_astore_n (lv' := [(1, .ref (ad G 7 (1 + Int32.toNatClampNeg (hv2 8 0 3)))), (0, .ref (ad G 8 0))]) hx hb dX8_keepState_40 rfl hl (by decide) rfl (fun ls hl => ?_)
      refine lv_aload_n hx hb dX8_keepState_41 rfl (lv_at hl 0 rfl) ?_
      refine lv_ifnull hx hb dX8_keepState_42 ?_
      refine lv_aload_n hx hb dX8_keepState_45 rfl (lv_at hl 0 rfl) ?_
      refine lv_aload_n hx hb dX8_keepState_46 rfl (lv_at hl 1 rfl) ?_
      refine w_get (v := .ref (ad G 7 0)) C0 hW 8 0 (by decide) (by decide) rfl rfl in_X8 0 (by decide) w_284 rfl dX8_keepState_47 ?_
      refine w_cv hS (w_runV (As := [.ref (ad G 7 0)]) C0 hW 7 (1 + Int32.toNatClampNeg (hv2 8 0 3)) (by decide) b4 rfl rfl (c_X7_copyFrom l G A (1 + Int32.toNatClampNeg (hv2 8 0 3)) 0 b4 (by decide) hv2 _ h) ⟨⟨w_378, w_7, w_381⟩, pl_X7_copyFrom, ⟨Nat.le_of_ble_eq_true rfl, Nat.le_of_ble_eq_true rfl⟩, ⟨Nat.le_refl _, Nat.le_refl _⟩⟩ ⟨w_379, w_380⟩ rfl hl.1 rfl (Nat.le_of_ble_eq_true rfl) dX8_keepState_50) (fun hv5 h H locs hW hS => ?_)
      refine lv_aload_n hx hb dX8_keepState_53 rfl (lv_at hl 1 rfl) ?_
      refine lv_dup hx hb dX8_keepState_54 rfl ?_
      refine w_get (v := .int (hv5 8 0 3)) C0 hW 8 0 (by decide) (by decide) rfl rfl in_X8 3 (by decide) w_287 rfl dX8_keepState_55 ?_
      refine lv_iconst (v := 1) hx hb dX8_keepState_58 (by decide) ?_
      refine lv_iadd hx hb dX8_keepState_59 ?_
      refine w_put (v := ((hv5 8 0 3) + 1)) C0 hW hS 8 0 (by decide) (by decide) rfl rfl in_X8 tyX8_ok nmX8 3 (by decide) w_287 rfl rfl rfl (Nat.le_of_ble_eq_true rfl) rfl dX8_keepState_60 (fun hv6 ehv6 H locs hW hS => ?_)
      have h := h hv6 ehv6
      refine lv_aload_n hx hb dX8_keepState_63 rfl (lv_at hl 1 rfl) ?_
      refine w_get (v := .int (hv6 8 0 2)) C0 hW 8 0 (by decide) (by decide) rfl rfl in_X8 2 (by decide) w_286 rfl dX8_keepState_64 ?_
      refine lv_aload_n hx hb dX8_keepState_67 rfl (lv_at hl 1 rfl) ?_
      refine w_get (v := .ref (ad G 12 0)) C0 hW 8 0 (by decide) (by decide) rfl rfl in_X8 1 (by decide) w_285 rfl dX8_keepState_68 ?_
      refine w_alen (v := 8) C0 hW 12 0 (by decide) (by decide) rfl 4 rfl rfl dX8_keepState_71 ?_
      refine lv_icmp_ge (tgt := 85) hx hb dX8_keepState_72 (by decide) (fun c7 => ?_) (fun c7 => ?_)
      · have h := h.1 c7
        exact w_vret C0 hr hW hS h dX8_keepState_85
      · have h := h.2 c7
        refine lv_aload_n hx hb dX8_keepState_75 rfl (lv_at hl 1 rfl) ?_
        refine lv_dup hx hb dX8_keepState_76 rfl ?_
        refine w_get (v := .int (hv6 8 0 2)) C0 hW 8 0 (by decide) (by decide) rfl rfl in_X8 2 (by decide) w_286 rfl dX8_keepState_77 ?_
        refine lv_iconst (v := 1) hx hb dX8_keepState_80 (by decide) ?_
        refine lv_iadd hx hb dX8_keepState_81 ?_
        refine w_put (v := ((hv6 8 0 2) + 1)) C0 hW hS 8 0 (by decide) (by decide) rfl rfl in_X8 tyX8_ok nmX8 2 (by decide) w_286 rfl rfl rfl (Nat.le_of_ble_eq_true rfl) rfl dX8_keepState_82 (fun hv8 ehv8 H locs hW hS => ?_)
        have h := h hv8 ehv8
        exact w_vret C0 hr hW hS h dX8_keepState_85
    · have h := h.2 c3
      refine lv_aload_n hx hb dX8_keepState_26 rfl (lv_at hl 0 rfl) ?_
      refine lv_iconst (v := 0) hx hb dX8_keepState_27 (by decide) ?_
      refine w_put (v := 0) C0 hW hS 8 0 (by decide) (by decide) rfl rfl in_X8 tyX8_ok nmX8 3 (by decide) w_287 rfl rfl rfl (Nat.le_of_ble_eq_true rfl) rfl dX8_keepState_28 (fun hv9 ehv9 H locs hW hS => ?_)
      have h := h hv9 ehv9
      refine lv_aload_n hx hb dX8_keepState_31 rfl (lv_at hl 0 rfl) ?_
      refine w_get (v := .ref (ad G 12 0)) C0 hW 8 0 (by decide) (by decide) rfl rfl in_X8 1 (by decide) w_285 rfl dX8_keepState_32 ?_
      refine lv_aload_n hx hb dX8_keepState_35 rfl (lv_at hl 0 rfl) ?_
      refine w_get (v := .int (hv9 8 0 3)) C0 hW 8 0 (by decide) (by decide) rfl rfl in_X8 3 (by decide) w_287 rfl dX8_keepState_36 ?_
      obtain ⟨q10, h⟩ := h
      refine w_aaldS C0 hW q10 dX8_keepState_39 (fun b10 => ?_)
      refine lv_astore_n (lv' := [(1, .ref (ad G 7 (1 + Int32.toNatClampNeg (hv9 8 0 3)))), (0, .ref (ad G 8 0))]) hx hb dX8_keepState_40 rfl hl (by decide) rfl (fun ls hl => ?_)
      refine lv_aload_n hx hb dX8_keepState_41 rfl (lv_at hl 0 rfl) ?_
      refine lv_ifnull hx hb dX8_keepState_42 ?_
      refine lv_aload_n hx hb dX8_keepState_45 rfl (lv_at hl 0 rfl) ?_
      refine lv_aload_n hx hb dX8_keepState_46 rfl (lv_at hl 1 rfl) ?_
      refine w_get (v := .ref (ad G 7 0)) C0 hW 8 0 (by decide) (by decide) rfl rfl in_X8 0 (by decide) w_284 rfl dX8_keepState_47 ?_
      refine w_cv hS (w_runV (As := [.ref (ad G 7 0)]) C0 hW 7 (1 + Int32.toNatClampNeg (hv9 8 0 3)) (by decide) b10 rfl rfl (c_X7_copyFrom l G A (1 + Int32.toNatClampNeg (hv9 8 0 3)) 0 b10 (by decide) hv9 _ h) ⟨⟨w_378, w_7, w_381⟩, pl_X7_copyFrom, ⟨Nat.le_of_ble_eq_true rfl, Nat.le_of_ble_eq_true rfl⟩, ⟨Nat.le_refl _, Nat.le_refl _⟩⟩ ⟨w_379, w_380⟩ rfl hl.1 rfl (Nat.le_of_ble_eq_true rfl) dX8_keepState_50) (fun hv11 h H locs hW hS => ?_)
      refine lv_aload_n hx hb dX8_keepState_53 rfl (lv_at hl 1 rfl) ?_
      refine lv_dup hx hb dX8_keepState_54 rfl ?_
      refine w_get (v := .int (hv11 8 0 3)) C0 hW 8 0 (by decide) (by decide) rfl rfl in_X8 3 (by decide) w_287 rfl dX8_keepState_55 ?_
      refine lv_iconst (v := 1) hx hb dX8_keepState_58 (by decide) ?_
      refine lv_iadd hx hb dX8_keepState_59 ?_
      refine w_put (v := ((hv11 8 0 3) + 1)) C0 hW hS 8 0 (by decide) (by decide) rfl rfl in_X8 tyX8_ok nmX8 3 (by decide) w_287 rfl rfl rfl (Nat.le_of_ble_eq_true rfl) rfl dX8_keepState_60 (fun hv12 ehv12 H locs hW hS => ?_)
      have h := h hv12 ehv12
      refine lv_aload_n hx hb dX8_keepState_63 rfl (lv_at hl 1 rfl) ?_
      refine w_get (v := .int (hv12 8 0 2)) C0 hW 8 0 (by decide) (by decide) rfl rfl in_X8 2 (by decide) w_286 rfl dX8_keepState_64 ?_
      refine lv_aload_n hx hb dX8_keepState_67 rfl (lv_at hl 1 rfl) ?_
      refine w_get (v := .ref (ad G 12 0)) C0 hW 8 0 (by decide) (by decide) rfl rfl in_X8 1 (by decide) w_285 rfl dX8_keepState_68 ?_
      refine w_alen (v := 8) C0 hW 12 0 (by decide) (by decide) rfl 4 rfl rfl dX8_keepState_71 ?_
      refine lv_icmp_ge (tgt := 85) hx hb dX8_keepState_72 (by decide) (fun c13 => ?_) (fun c13 => ?_)
      · have h := h.1 c13
        exact w_vret C0 hr hW hS h dX8_keepState_85
      · have h := h.2 c13
        refine lv_aload_n hx hb dX8_keepState_75 rfl (lv_at hl 1 rfl) ?_
        refine lv_dup hx hb dX8_keepState_76 rfl ?_
        refine w_get (v := .int (hv12 8 0 2)) C0 hW 8 0 (by decide) (by decide) rfl rfl in_X8 2 (by decide) w_286 rfl dX8_keepState_77 ?_
        refine lv_iconst (v := 1) hx hb dX8_keepState_80 (by decide) ?_
        refine lv_iadd hx hb dX8_keepState_81 ?_
        refine w_put (v := ((hv12 8 0 2) + 1)) C0 hW hS 8 0 (by decide) (by decide) rfl rfl in_X8 tyX8_ok nmX8 2 (by decide) w_286 rfl rfl rfl (Nat.le_of_ble_eq_true rfl) rfl dX8_keepState_82 (fun hv14 ehv14 H locs hW hS => ?_)
        have h := h hv14 ehv14
        exact w_vret C0 hr hW hS h dX8_keepState_85
  · have h := h.2 c1
    exact w_vret C0 hr hW hS h dX8_keepState_7

theorem pl_X8_setValve : yX8_setValve.cls ≠ "java/lang/invoke/MethodHandle" ∧ yX8_setValve.cls ≠ "java/lang/invoke/VarHandle" ∧ (parseMethodDescriptor yX8_setValve.desc).map (fun d => d.parameters.length) = some 3 := ⟨by decide +kernel, by decide +kernel, by decide +kernel⟩
def V_X8_setValve (a1 : Int32) (a2 : Int32) (a3 : Int32) (hv : HV) (post : Int32 → HV → Prop) : Prop := (V_X7_pumpAt 0 a1 hv (fun o1 hv1 => (o1 = none → post (-1001) hv1) ∧ (∀ r1 : Nat, o1 = some r1 → r1 < 37 → (V_X8_outside a2 0 2 hv1 (fun r2 hv2 => ((r2 = 0 → (V_X8_outside a3 1 500 hv2 (fun r4 hv4 => ((r4 = 0 → (((hv4 4 r1 5) = 0 → (V_X8_keepState hv4 (fun hv7 => (∀ x8 : Int32, x8 = (hv7 4 r1 10) → (∀ hv9 : HV, hv9 = up hv7 4 r1 (upd (hv7 4 r1) 9 a2) → (∀ hv10 : HV, hv10 = up hv9 4 r1 (upd (hv9 4 r1) 10 a3) → post x8 hv10)))))) ∧ (¬ ((hv4 4 r1 5) = 0) → post (-1003) hv4))) ∧ (¬ (r4 = 0) → post (-1002) hv4))))) ∧ (¬ (r2 = 0) → post (-1002) hv2)))))))
set_option maxHeartbeats 4000000 in
theorem c_X8_setValve (l : Launch) (G : wG) (A : Nat → Prop) (a1 : Int32) (a2 : Int32) (a3 : Int32) (hv : HV) (post : Int32 → HV → Prop) (h : V_X8_setValve a1 a2 a3 hv post) : wM l yX8_setValve cX8_setValve 6 ((Option.some FieldType.int)) 5 G A hv [.ref (ad G 8 0), .int a1, .int a2, .int a3] (qI G A post) := by
  refine wM_of (by decide +kernel) (Nat.le_of_ble_eq_true rfl) ?_
  intro p e s m args below meth c C0 hr ls hl hW hS
  have hx := C0.1
  have hb := C0.2.1
  have hown := C0.2.2.2.1
  have hts := C0.2.2.2.2.1
  have hl : lv_has ls 6 [(0, .ref (ad G 8 0)), (1, .int a1), (2, .int a2), (3, .int a3)] := hl
  unfold V_X8_setValve at h
  refine lv_aload_n hx hb dX8_setValve_0 rfl (lv_at hl 0 rfl) ?_
  refine w_get (v := .ref (ad G 7 0)) C0 hW 8 0 (by decide) (by decide) rfl rfl in_X8 0 (by decide) w_284 rfl dX8_setValve_1 ?_
  refine lv_iload_n hx hb dX8_setValve_4 rfl (lv_at hl 1 rfl) ?_
  refine w_cp hS (w_runV (As := [.int a1]) C0 hW 7 0 (by decide) (by decide) rfl rfl (c_X7_pumpAt l G A 0 a1 (by decide) hv _ h) ⟨⟨w_350, w_7, w_353⟩, pl_X7_pumpAt, ⟨Nat.le_of_ble_eq_true rfl, Nat.le_of_ble_eq_true rfl⟩, ⟨Nat.le_refl _, Nat.le_refl _⟩⟩ ⟨w_351, w_352⟩ rfl hl.1 rfl (Nat.le_of_ble_eq_true rfl) dX8_setValve_5) (fun hv1 h H locs hW hS => ?_) (fun r1 hv1 b1 h H locs hW hS => ?_)
  · have h := h.1 rfl
    refine lv_astoreN (lv' := [(4, .null), (0, .ref (ad G 8 0)), (1, .int a1), (2, .int a2), (3, .int a3)]) hx hb dX8_setValve_8 hl (by decide) rfl (fun ls hl => ?_)
    refine lv_aloadN hx hb dX8_setValve_10 (lv_at hl 0 rfl) ?_
    refine lv_ifnonnullN hx hb dX8_setValve_12 ?_
    refine lv_sipush (v := (-1001)) hx hb dX8_setValve_15 (by decide) ?_
    exact w_iret C0 hr hW hS h dX8_setValve_18
  · have h := h.2 r1 rfl b1
    refine lv_astore (lv' := [(4, .ref (ad G 4 r1)), (0, .ref (ad G 8 0)), (1, .int a1), (2, .int a2), (3, .int a3)]) hx hb dX8_setValve_8 hl (by decide) rfl (fun ls hl => ?_)
    refine lv_aload hx hb dX8_setValve_10 (lv_at hl 0 rfl) ?_
    refine lv_ifnonnull (tgt := 19) hx hb dX8_setValve_12 (by decide) ?_
    refine lv_iload_n hx hb dX8_setValve_19 rfl (lv_at hl 3 rfl) ?_
    refine lv_iconst (v := 0) hx hb dX8_setValve_20 (by decide) ?_
    refine lv_iconst (v := 2) hx hb dX8_setValve_21 (by decide) ?_
    refine w_ci hS (w_runS (As := [.int a2, .int 0, .int 2]) C0 hW (c_X8_outside l G A a2 0 2 hv1 _ h) ⟨⟨w_373, w_6, w_337⟩, pl_X8_outside, ⟨Nat.le_of_ble_eq_true rfl, Nat.le_of_ble_eq_true rfl⟩, ⟨Nat.le_refl _, Nat.le_refl _⟩⟩ w_336 rfl hl.1 rfl (Nat.le_of_ble_eq_true rfl) dX8_setValve_22) (fun r2 hv2 h H locs hW hS => ?_)
    refine lv_if_ne (tgt := 39) hx hb dX8_setValve_25 (by decide) (fun c3 => ?_) (fun c3 => ?_)
    · have h := h.2 c3
      refine lv_sipush (v := (-1002)) hx hb dX8_setValve_39 (by decide) ?_
      exact w_iret C0 hr hW hS h dX8_setValve_42
    · have h := h.1 c3
      refine lv_iload_n hx hb dX8_setValve_28 rfl (lv_at hl 4 rfl) ?_
      refine lv_iconst (v := 1) hx hb dX8_setValve_29 (by decide) ?_
      refine lv_sipush (v := 500) hx hb dX8_setValve_30 (by decide) ?_
      refine w_ci hS (w_runS (As := [.int a3, .int 1, .int 500]) C0 hW (c_X8_outside l G A a3 1 500 hv2 _ h) ⟨⟨w_373, w_6, w_337⟩, pl_X8_outside, ⟨Nat.le_of_ble_eq_true rfl, Nat.le_of_ble_eq_true rfl⟩, ⟨Nat.le_refl _, Nat.le_refl _⟩⟩ w_336 rfl hl.1 rfl (Nat.le_of_ble_eq_true rfl) dX8_setValve_33) (fun r4 hv4 h H locs hW hS => ?_)
      refine lv_if_eq (tgt := 43) hx hb dX8_setValve_36 (by decide) (fun c5 => ?_) (fun c5 => ?_)
      · have h := h.1 c5
        refine lv_aload hx hb dX8_setValve_43 (lv_at hl 0 rfl) ?_
        refine w_get (v := .int (hv4 4 r1 5)) C0 hW 4 r1 (by decide) b1 rfl rfl in_X4 5 (by decide) w_128 rfl dX8_setValve_45 ?_
        refine lv_if_eq (tgt := 55) hx hb dX8_setValve_48 (by decide) (fun c6 => ?_) (fun c6 => ?_)
        · have h := h.1 c6
          refine lv_aload_n hx hb dX8_setValve_55 rfl (lv_at hl 1 rfl) ?_
          refine w_cv hS (w_runV (As := []) C0 hW 8 0 (by decide) (by decide) rfl rfl (c_X8_keepState l G A hv4 _ h) ⟨⟨w_374, w_6, w_377⟩, pl_X8_keepState, ⟨Nat.le_of_ble_eq_true rfl, Nat.le_of_ble_eq_true rfl⟩, ⟨Nat.le_refl _, Nat.le_refl _⟩⟩ ⟨w_376, w_0⟩ rfl hl.1 rfl (Nat.le_of_ble_eq_true rfl) dX8_setValve_56) (fun hv7 h H locs hW hS => ?_)
          refine lv_aload hx hb dX8_setValve_59 (lv_at hl 0 rfl) ?_
          refine w_get (v := .int (hv7 4 r1 10)) C0 hW 4 r1 (by decide) b1 rfl rfl in_X4 10 (by decide) w_138 rfl dX8_setValve_61 ?_
          refine lv_topi (fun x8 ex8 => ?_)
          have h := h x8 ex8
          refine lv_istore (lv' := [(5, .int x8), (4, .ref (ad G 4 r1)), (0, .ref (ad G 8 0)), (1, .int a1), (2, .int a2), (3, .int a3)]) hx hb dX8_setValve_64 hl (by decide) rfl (fun ls hl => ?_)
          refine lv_aload hx hb dX8_setValve_66 (lv_at hl 1 rfl) ?_
          refine lv_iload_n hx hb dX8_setValve_68 rfl (lv_at hl 4 rfl) ?_
          refine w_put (v := a2) C0 hW hS 4 r1 (by decide) b1 rfl rfl in_X4 tyX4_ok nmX4 9 (by decide) w_136 rfl rfl rfl (Nat.le_of_ble_eq_true rfl) rfl dX8_setValve_69 (fun hv9 ehv9 H locs hW hS => ?_)
          have h := h hv9 ehv9
          refine lv_aload hx hb dX8_setValve_72 (lv_at hl 1 rfl) ?_
          refine lv_iload_n hx hb dX8_setValve_74 rfl (lv_at hl 5 rfl) ?_
          refine w_put (v := a3) C0 hW hS 4 r1 (by decide) b1 rfl rfl in_X4 tyX4_ok nmX4 10 (by decide) w_138 rfl rfl rfl (Nat.le_of_ble_eq_true rfl) rfl dX8_setValve_75 (fun hv10 ehv10 H locs hW hS => ?_)
          have h := h hv10 ehv10
          refine lv_iload hx hb dX8_setValve_78 (lv_at hl 0 rfl) ?_
          exact w_iret C0 hr hW hS h dX8_setValve_80
        · have h := h.2 c6
          refine lv_sipush (v := (-1003)) hx hb dX8_setValve_51 (by decide) ?_
          exact w_iret C0 hr hW hS h dX8_setValve_54
      · have h := h.2 c5
        refine lv_sipush (v := (-1002)) hx hb dX8_setValve_39 (by decide) ?_
        exact w_iret C0 hr hW hS h dX8_setValve_42

theorem pl_X8_setChamber : yX8_setChamber.cls ≠ "java/lang/invoke/MethodHandle" ∧ yX8_setChamber.cls ≠ "java/lang/invoke/VarHandle" ∧ (parseMethodDescriptor yX8_setChamber.desc).map (fun d => d.parameters.length) = some 3 := ⟨by decide +kernel, by decide +kernel, by decide +kernel⟩
def V_X8_setChamber (a1 : Int32) (a2 : Int32) (a3 : Int32) (hv : HV) (post : Int32 → HV → Prop) : Prop := (V_X7_pumpAt 0 a1 hv (fun o1 hv1 => (o1 = none → post (-1001) hv1) ∧ (∀ r1 : Nat, o1 = some r1 → r1 < 37 → (V_X8_outside a2 50 2000 hv1 (fun r2 hv2 => ((r2 = 0 → (((hv2 4 r1 5) = 0 → (V_X8_keepState hv2 (fun hv5 => (∀ x6 : Int32, x6 = (hv5 0 r1 3) → (V_X7_fillBasin 0 x6 hv5 (fun hv7 => (V_X0_renew r1 a2 a3 hv7 (fun hv8 => post x6 hv8)))))))) ∧ (¬ ((hv2 4 r1 5) = 0) → post (-1003) hv2))) ∧ (¬ (r2 = 0) → post (-1002) hv2)))))))
set_option maxHeartbeats 4000000 in
theorem c_X8_setChamber (l : Launch) (G : wG) (A : Nat → Prop) (a1 : Int32) (a2 : Int32) (a3 : Int32) (hv : HV) (post : Int32 → HV → Prop) (h : V_X8_setChamber a1 a2 a3 hv post) : wM l yX8_setChamber cX8_setChamber 6 ((Option.some FieldType.int)) 5 G A hv [.ref (ad G 8 0), .int a1, .int a2, .int a3] (qI G A post) := by
  refine wM_of (by decide +kernel) (Nat.le_of_ble_eq_true rfl) ?_
  intro p e s m args below meth c C0 hr ls hl hW hS
  have hx := C0.1
  have hb := C0.2.1
  have hown := C0.2.2.2.1
  have hts := C0.2.2.2.2.1
  have hl : lv_has ls 6 [(0, .ref (ad G 8 0)), (1, .int a1), (2, .int a2), (3, .int a3)] := hl
  unfold V_X8_setChamber at h
  refine lv_aload_n hx hb dX8_setChamber_0 rfl (lv_at hl 0 rfl) ?_
  refine w_get (v := .ref (ad G 7 0)) C0 hW 8 0 (by decide) (by decide) rfl rfl in_X8 0 (by decide) w_284 rfl dX8_setChamber_1 ?_
  refine lv_iload_n hx hb dX8_setChamber_4 rfl (lv_at hl 1 rfl) ?_
  refine w_cp hS (w_runV (As := [.int a1]) C0 hW 7 0 (by decide) (by decide) rfl rfl (c_X7_pumpAt l G A 0 a1 (by decide) hv _ h) ⟨⟨w_350, w_7, w_353⟩, pl_X7_pumpAt, ⟨Nat.le_of_ble_eq_true rfl, Nat.le_of_ble_eq_true rfl⟩, ⟨Nat.le_refl _, Nat.le_refl _⟩⟩ ⟨w_351, w_352⟩ rfl hl.1 rfl (Nat.le_of_ble_eq_true rfl) dX8_setChamber_5) (fun hv1 h H locs hW hS => ?_) (fun r1 hv1 b1 h H locs hW hS => ?_)
  · have h := h.1 rfl
    refine lv_astoreN (lv' := [(4, .null), (0, .ref (ad G 8 0)), (1, .int a1), (2, .int a2), (3, .int a3)]) hx hb dX8_setChamber_8 hl (by decide) rfl (fun ls hl => ?_)
    refine lv_aloadN hx hb dX8_setChamber_10 (lv_at hl 0 rfl) ?_
    refine lv_ifnonnullN hx hb dX8_setChamber_12 ?_
    refine lv_sipush (v := (-1001)) hx hb dX8_setChamber_15 (by decide) ?_
    exact w_iret C0 hr hW hS h dX8_setChamber_18
  · have h := h.2 r1 rfl b1
    refine lv_astore (lv' := [(4, .ref (ad G 4 r1)), (0, .ref (ad G 8 0)), (1, .int a1), (2, .int a2), (3, .int a3)]) hx hb dX8_setChamber_8 hl (by decide) rfl (fun ls hl => ?_)
    refine lv_aload hx hb dX8_setChamber_10 (lv_at hl 0 rfl) ?_
    refine lv_ifnonnull (tgt := 19) hx hb dX8_setChamber_12 (by decide) ?_
    refine lv_iload_n hx hb dX8_setChamber_19 rfl (lv_at hl 3 rfl) ?_
    refine lv_bipush (v := 50) hx hb dX8_setChamber_20 (by decide) ?_
    refine lv_sipush (v := 2000) hx hb dX8_setChamber_22 (by decide) ?_
    refine w_ci hS (w_runS (As := [.int a2, .int 50, .int 2000]) C0 hW (c_X8_outside l G A a2 50 2000 hv1 _ h) ⟨⟨w_373, w_6, w_337⟩, pl_X8_outside, ⟨Nat.le_of_ble_eq_true rfl, Nat.le_of_ble_eq_true rfl⟩, ⟨Nat.le_refl _, Nat.le_refl _⟩⟩ w_336 rfl hl.1 rfl (Nat.le_of_ble_eq_true rfl) dX8_setChamber_25) (fun r2 hv2 h H locs hW hS => ?_)
    refine lv_if_eq (tgt := 35) hx hb dX8_setChamber_28 (by decide) (fun c3 => ?_) (fun c3 => ?_)
    · have h := h.1 c3
      refine lv_aload hx hb dX8_setChamber_35 (lv_at hl 0 rfl) ?_
      refine w_get (v := .int (hv2 4 r1 5)) C0 hW 4 r1 (by decide) b1 rfl rfl in_X4 5 (by decide) w_128 rfl dX8_setChamber_37 ?_
      refine lv_if_eq (tgt := 47) hx hb dX8_setChamber_40 (by decide) (fun c4 => ?_) (fun c4 => ?_)
      · have h := h.1 c4
        refine lv_aload_n hx hb dX8_setChamber_47 rfl (lv_at hl 1 rfl) ?_
        refine w_cv hS (w_runV (As := []) C0 hW 8 0 (by decide) (by decide) rfl rfl (c_X8_keepState l G A hv2 _ h) ⟨⟨w_374, w_6, w_377⟩, pl_X8_keepState, ⟨Nat.le_of_ble_eq_true rfl, Nat.le_of_ble_eq_true rfl⟩, ⟨Nat.le_refl _, Nat.le_refl _⟩⟩ ⟨w_376, w_0⟩ rfl hl.1 rfl (Nat.le_of_ble_eq_true rfl) dX8_setChamber_48) (fun hv5 h H locs hW hS => ?_)
        refine lv_aload hx hb dX8_setChamber_51 (lv_at hl 0 rfl) ?_
        refine w_get (v := .ref (ad G 0 r1)) C0 hW 4 r1 (by decide) b1 rfl rfl in_X4 13 (by decide) w_144 rfl dX8_setChamber_53 ?_
        refine w_get (v := .int (hv5 0 r1 3)) C0 hW 0 r1 (by decide) (show r1 < 37 by omega) rfl rfl in_X0 3 (by decide) w_49 rfl dX8_setChamber_56 ?_
        refine lv_topi (fun x6 ex6 => ?_)
        have h := h x6 ex6
        refine lv_istore (lv' := [(5, .int x6), (4, .ref (ad G 4 r1)), (0, .ref (ad G 8 0)), (1, .int a1), (2, .int a2), (3, .int a3)]) hx hb dX8_setChamber_59 hl (by decide) rfl (fun ls hl => ?_)
        refine lv_aload_n hx hb dX8_setChamber_61 rfl (lv_at hl 2 rfl) ?_
        refine w_get (v := .ref (ad G 7 0)) C0 hW 8 0 (by decide) (by decide) rfl rfl in_X8 0 (by decide) w_284 rfl dX8_setChamber_62 ?_
        refine lv_iload hx hb dX8_setChamber_65 (lv_at hl 0 rfl) ?_
        refine w_cv hS (w_runV (As := [.int x6]) C0 hW 7 0 (by decide) (by decide) rfl rfl (c_X7_fillBasin l G A 0 x6 (by decide) hv5 _ h) ⟨⟨w_417, w_7, w_420⟩, pl_X7_fillBasin, ⟨Nat.le_of_ble_eq_true rfl, Nat.le_of_ble_eq_true rfl⟩, ⟨Nat.le_refl _, Nat.le_refl _⟩⟩ ⟨w_418, w_419⟩ rfl hl.1 rfl (Nat.le_of_ble_eq_true rfl) dX8_setChamber_67) (fun hv7 h H locs hW hS => ?_)
        refine lv_aload hx hb dX8_setChamber_70 (lv_at hl 1 rfl) ?_
        refine w_get (v := .ref (ad G 0 r1)) C0 hW 4 r1 (by decide) b1 rfl rfl in_X4 13 (by decide) w_144 rfl dX8_setChamber_72 ?_
        refine lv_iload_n hx hb dX8_setChamber_75 rfl (lv_at hl 4 rfl) ?_
        refine lv_iload_n hx hb dX8_setChamber_76 rfl (lv_at hl 5 rfl) ?_
        refine w_cv hS (w_runV (As := [.int a2, .int a3]) C0 hW 0 r1 (by decide) (show r1 < 37 by omega) rfl rfl (c_X0_renew l G A r1 a2 a3 (show r1 < 37 by omega) hv7 _ h) ⟨⟨w_422, w_9, w_425⟩, pl_X0_renew, ⟨Nat.le_of_ble_eq_true rfl, Nat.le_of_ble_eq_true rfl⟩, ⟨Nat.le_refl _, Nat.le_refl _⟩⟩ ⟨w_423, w_424⟩ rfl hl.1 rfl (Nat.le_of_ble_eq_true rfl) dX8_setChamber_77) (fun hv8 h H locs hW hS => ?_)
        refine lv_iload hx hb dX8_setChamber_80 (lv_at hl 0 rfl) ?_
        exact w_iret C0 hr hW hS h dX8_setChamber_82
      · have h := h.2 c4
        refine lv_sipush (v := (-1003)) hx hb dX8_setChamber_43 (by decide) ?_
        exact w_iret C0 hr hW hS h dX8_setChamber_46
    · have h := h.2 c3
      refine lv_sipush (v := (-1002)) hx hb dX8_setChamber_31 (by decide) ?_
      exact w_iret C0 hr hW hS h dX8_setChamber_34

theorem pl_X8_setInflow : yX8_setInflow.cls ≠ "java/lang/invoke/MethodHandle" ∧ yX8_setInflow.cls ≠ "java/lang/invoke/VarHandle" ∧ (parseMethodDescriptor yX8_setInflow.desc).map (fun d => d.parameters.length) = some 1 := ⟨by decide +kernel, by decide +kernel, by decide +kernel⟩
def V_X8_setInflow (a1 : Int32) (hv : HV) (post : Int32 → HV → Prop) : Prop := (V_X8_outside a1 0 500 hv (fun r1 hv1 => ((r1 = 0 → (V_X8_keepState hv1 (fun hv3 => (∀ x4 : Int32, x4 = (hv3 7 0 3) → (∀ hv5 : HV, hv5 = up hv3 7 0 (upd (hv3 7 0) 3 a1) → post x4 hv5))))) ∧ (¬ (r1 = 0) → post (-1002) hv1))))
set_option maxHeartbeats 4000000 in
theorem c_X8_setInflow (l : Launch) (G : wG) (A : Nat → Prop) (a1 : Int32) (hv : HV) (post : Int32 → HV → Prop) (h : V_X8_setInflow a1 hv post) : wM l yX8_setInflow cX8_setInflow 3 ((Option.some FieldType.int)) 5 G A hv [.ref (ad G 8 0), .int a1] (qI G A post) := by
  refine wM_of (by decide +kernel) (Nat.le_of_ble_eq_true rfl) ?_
  intro p e s m args below meth c C0 hr ls hl hW hS
  have hx := C0.1
  have hb := C0.2.1
  have hown := C0.2.2.2.1
  have hts := C0.2.2.2.2.1
  have hl : lv_has ls 3 [(0, .ref (ad G 8 0)), (1, .int a1)] := hl
  unfold V_X8_setInflow at h
  refine lv_iload_n hx hb dX8_setInflow_0 rfl (lv_at hl 1 rfl) ?_
  refine lv_iconst (v := 0) hx hb dX8_setInflow_1 (by decide) ?_
  refine lv_sipush (v := 500) hx hb dX8_setInflow_2 (by decide) ?_
  refine w_ci hS (w_runS (As := [.int a1, .int 0, .int 500]) C0 hW (c_X8_outside l G A a1 0 500 hv _ h) ⟨⟨w_373, w_6, w_337⟩, pl_X8_outside, ⟨Nat.le_of_ble_eq_true rfl, Nat.le_of_ble_eq_true rfl⟩, ⟨Nat.le_refl _, Nat.le_refl _⟩⟩ w_336 rfl hl.1 rfl (Nat.le_of_ble_eq_true rfl) dX8_setInflow_5) (fun r1 hv1 h H locs hW hS => ?_)
  refine lv_if_eq (tgt := 15) hx hb dX8_setInflow_8 (by decide) (fun c2 => ?_) (fun c2 => ?_)
  · have h := h.1 c2
    refine lv_aload_n hx hb dX8_setInflow_15 rfl (lv_at hl 0 rfl) ?_
    refine w_cv hS (w_runV (As := []) C0 hW 8 0 (by decide) (by decide) rfl rfl (c_X8_keepState l G A hv1 _ h) ⟨⟨w_374, w_6, w_377⟩, pl_X8_keepState, ⟨Nat.le_of_ble_eq_true rfl, Nat.le_of_ble_eq_true rfl⟩, ⟨Nat.le_refl _, Nat.le_refl _⟩⟩ ⟨w_376, w_0⟩ rfl hl.1 rfl (Nat.le_of_ble_eq_true rfl) dX8_setInflow_16) (fun hv3 h H locs hW hS => ?_)
    refine lv_aload_n hx hb dX8_setInflow_19 rfl (lv_at hl 0 rfl) ?_
    refine w_get (v := .ref (ad G 7 0)) C0 hW 8 0 (by decide) (by decide) rfl rfl in_X8 0 (by decide) w_284 rfl dX8_setInflow_20 ?_
    refine w_get (v := .int (hv3 7 0 3)) C0 hW 7 0 (by decide) (by decide) rfl rfl in_X7 3 (by decide) w_193 rfl dX8_setInflow_23 ?_
    refine lv_topi (fun x4 ex4 => ?_)
    have h := h x4 ex4
    refine lv_istore_n (lv' := [(2, .int x4), (0, .ref (ad G 8 0)), (1, .int a1)]) hx hb dX8_setInflow_26 rfl hl (by decide) rfl (fun ls hl => ?_)
    refine lv_aload_n hx hb dX8_setInflow_27 rfl (lv_at hl 1 rfl) ?_
    refine w_get (v := .ref (ad G 7 0)) C0 hW 8 0 (by decide) (by decide) rfl rfl in_X8 0 (by decide) w_284 rfl dX8_setInflow_28 ?_
    refine lv_iload_n hx hb dX8_setInflow_31 rfl (lv_at hl 2 rfl) ?_
    refine w_put (v := a1) C0 hW hS 7 0 (by decide) (by decide) rfl rfl in_X7 tyX7_ok nmX7 3 (by decide) w_193 rfl rfl rfl (Nat.le_of_ble_eq_true rfl) rfl dX8_setInflow_32 (fun hv5 ehv5 H locs hW hS => ?_)
    have h := h hv5 ehv5
    refine lv_iload_n hx hb dX8_setInflow_35 rfl (lv_at hl 0 rfl) ?_
    exact w_iret C0 hr hW hS h dX8_setInflow_36
  · have h := h.2 c2
    refine lv_sipush (v := (-1002)) hx hb dX8_setInflow_11 (by decide) ?_
    exact w_iret C0 hr hW hS h dX8_setInflow_14

theorem pl_X8_start : yX8_start.cls ≠ "java/lang/invoke/MethodHandle" ∧ yX8_start.cls ≠ "java/lang/invoke/VarHandle" ∧ (parseMethodDescriptor yX8_start.desc).map (fun d => d.parameters.length) = some 1 := ⟨by decide +kernel, by decide +kernel, by decide +kernel⟩
def V_X8_start (a1 : Int32) (hv : HV) (post : Int32 → HV → Prop) : Prop := (V_X7_pumpAt 0 a1 hv (fun o1 hv1 => (o1 = none → post (-1001) hv1) ∧ (∀ r1 : Nat, o1 = some r1 → r1 < 37 → (((hv1 4 r1 5) = 0 → (V_X8_keepState hv1 (fun hv3 => (∀ hv4 : HV, hv4 = up hv3 4 r1 (upd (hv3 4 r1) 5 1) → (∀ hv5 : HV, hv5 = up hv4 4 r1 (upd (hv4 4 r1) 12 (hv4 7 0 0)) → (V_X7_runningPumps 0 hv5 (fun r6 hv6 => post r6 hv6))))))) ∧ (¬ ((hv1 4 r1 5) = 0) → post (-1003) hv1)))))
set_option maxHeartbeats 4000000 in
theorem c_X8_start (l : Launch) (G : wG) (A : Nat → Prop) (a1 : Int32) (hv : HV) (post : Int32 → HV → Prop) (h : V_X8_start a1 hv post) : wM l yX8_start cX8_start 3 ((Option.some FieldType.int)) 5 G A hv [.ref (ad G 8 0), .int a1] (qI G A post) := by
  refine wM_of (by decide +kernel) (Nat.le_of_ble_eq_true rfl) ?_
  intro p e s m args below meth c C0 hr ls hl hW hS
  have hx := C0.1
  have hb := C0.2.1
  have hown := C0.2.2.2.1
  have hts := C0.2.2.2.2.1
  have hl : lv_has ls 3 [(0, .ref (ad G 8 0)), (1, .int a1)] := hl
  unfold V_X8_start at h
  refine lv_aload_n hx hb dX8_start_0 rfl (lv_at hl 0 rfl) ?_
  refine w_get (v := .ref (ad G 7 0)) C0 hW 8 0 (by decide) (by decide) rfl rfl in_X8 0 (by decide) w_284 rfl dX8_start_1 ?_
  refine lv_iload_n hx hb dX8_start_4 rfl (lv_at hl 1 rfl) ?_
  refine w_cp hS (w_runV (As := [.int a1]) C0 hW 7 0 (by decide) (by decide) rfl rfl (c_X7_pumpAt l G A 0 a1 (by decide) hv _ h) ⟨⟨w_350, w_7, w_353⟩, pl_X7_pumpAt, ⟨Nat.le_of_ble_eq_true rfl, Nat.le_of_ble_eq_true rfl⟩, ⟨Nat.le_refl _, Nat.le_refl _⟩⟩ ⟨w_351, w_352⟩ rfl hl.1 rfl (Nat.le_of_ble_eq_true rfl) dX8_start_5) (fun hv1 h H locs hW hS => ?_) (fun r1 hv1 b1 h H locs hW hS => ?_)
  · have h := h.1 rfl
    refine lv_astore_nN (lv' := [(2, .null), (0, .ref (ad G 8 0)), (1, .int a1)]) hx hb dX8_start_8 rfl hl (by decide) rfl (fun ls hl => ?_)
    refine lv_aload_nN hx hb dX8_start_9 rfl (lv_at hl 0 rfl) ?_
    refine lv_ifnonnullN hx hb dX8_start_10 ?_
    refine lv_sipush (v := (-1001)) hx hb dX8_start_13 (by decide) ?_
    exact w_iret C0 hr hW hS h dX8_start_16
  · have h := h.2 r1 rfl b1
    refine lv_astore_n (lv' := [(2, .ref (ad G 4 r1)), (0, .ref (ad G 8 0)), (1, .int a1)]) hx hb dX8_start_8 rfl hl (by decide) rfl (fun ls hl => ?_)
    refine lv_aload_n hx hb dX8_start_9 rfl (lv_at hl 0 rfl) ?_
    refine lv_ifnonnull (tgt := 17) hx hb dX8_start_10 (by decide) ?_
    refine lv_aload_n hx hb dX8_start_17 rfl (lv_at hl 0 rfl) ?_
    refine w_get (v := .int (hv1 4 r1 5)) C0 hW 4 r1 (by decide) b1 rfl rfl in_X4 5 (by decide) w_128 rfl dX8_start_18 ?_
    refine lv_if_eq (tgt := 28) hx hb dX8_start_21 (by decide) (fun c2 => ?_) (fun c2 => ?_)
    · have h := h.1 c2
      refine lv_aload_n hx hb dX8_start_28 rfl (lv_at hl 1 rfl) ?_
      refine w_cv hS (w_runV (As := []) C0 hW 8 0 (by decide) (by decide) rfl rfl (c_X8_keepState l G A hv1 _ h) ⟨⟨w_374, w_6, w_377⟩, pl_X8_keepState, ⟨Nat.le_of_ble_eq_true rfl, Nat.le_of_ble_eq_true rfl⟩, ⟨Nat.le_refl _, Nat.le_refl _⟩⟩ ⟨w_376, w_0⟩ rfl hl.1 rfl (Nat.le_of_ble_eq_true rfl) dX8_start_29) (fun hv3 h H locs hW hS => ?_)
      refine lv_aload_n hx hb dX8_start_32 rfl (lv_at hl 0 rfl) ?_
      refine lv_iconst (v := 1) hx hb dX8_start_33 (by decide) ?_
      refine w_put (v := 1) C0 hW hS 4 r1 (by decide) b1 rfl rfl in_X4 tyX4_ok nmX4 5 (by decide) w_128 rfl rfl rfl (Nat.le_of_ble_eq_true rfl) rfl dX8_start_34 (fun hv4 ehv4 H locs hW hS => ?_)
      have h := h hv4 ehv4
      refine lv_aload_n hx hb dX8_start_37 rfl (lv_at hl 0 rfl) ?_
      refine lv_aload_n hx hb dX8_start_38 rfl (lv_at hl 1 rfl) ?_
      refine w_get (v := .ref (ad G 7 0)) C0 hW 8 0 (by decide) (by decide) rfl rfl in_X8 0 (by decide) w_284 rfl dX8_start_39 ?_
      refine w_get (v := .int (hv4 7 0 0)) C0 hW 7 0 (by decide) (by decide) rfl rfl in_X7 0 (by decide) w_187 rfl dX8_start_42 ?_
      refine w_put (v := (hv4 7 0 0)) C0 hW hS 4 r1 (by decide) b1 rfl rfl in_X4 tyX4_ok nmX4 12 (by decide) w_142 rfl rfl rfl (Nat.le_of_ble_eq_true rfl) rfl dX8_start_45 (fun hv5 ehv5 H locs hW hS => ?_)
      have h := h hv5 ehv5
      refine lv_aload_n hx hb dX8_start_48 rfl (lv_at hl 1 rfl) ?_
      refine w_get (v := .ref (ad G 7 0)) C0 hW 8 0 (by decide) (by decide) rfl rfl in_X8 0 (by decide) w_284 rfl dX8_start_49 ?_
      refine w_ci hS (w_runV (As := []) C0 hW 7 0 (by decide) (by decide) rfl rfl (c_X7_runningPumps l G A 0 (by decide) hv5 _ h) ⟨⟨w_446, w_7, w_449⟩, pl_X7_runningPumps, ⟨Nat.le_of_ble_eq_true rfl, Nat.le_of_ble_eq_true rfl⟩, ⟨Nat.le_refl _, Nat.le_refl _⟩⟩ ⟨w_447, w_448⟩ rfl hl.1 rfl (Nat.le_of_ble_eq_true rfl) dX8_start_52) (fun r6 hv6 h H locs hW hS => ?_)
      exact w_iret C0 hr hW hS h dX8_start_55
    · have h := h.2 c2
      refine lv_sipush (v := (-1003)) hx hb dX8_start_24 (by decide) ?_
      exact w_iret C0 hr hW hS h dX8_start_27

theorem pl_X8_stop : yX8_stop.cls ≠ "java/lang/invoke/MethodHandle" ∧ yX8_stop.cls ≠ "java/lang/invoke/VarHandle" ∧ (parseMethodDescriptor yX8_stop.desc).map (fun d => d.parameters.length) = some 1 := ⟨by decide +kernel, by decide +kernel, by decide +kernel⟩
def V_X8_stop (a1 : Int32) (hv : HV) (post : Int32 → HV → Prop) : Prop := (V_X7_pumpAt 0 a1 hv (fun o1 hv1 => (o1 = none → post (-1001) hv1) ∧ (∀ r1 : Nat, o1 = some r1 → r1 < 37 → (((hv1 4 r1 5) = 0 → post (-1003) hv1) ∧ (¬ ((hv1 4 r1 5) = 0) → (V_X8_keepState hv1 (fun hv3 => (∀ hv4 : HV, hv4 = up hv3 4 r1 (upd (hv3 4 r1) 5 0) → (V_X4_rest r1 hv4 (fun hv5 => (V_X7_runningPumps 0 hv5 (fun r6 hv6 => post r6 hv6))))))))))))
set_option maxHeartbeats 4000000 in
theorem c_X8_stop (l : Launch) (G : wG) (A : Nat → Prop) (a1 : Int32) (hv : HV) (post : Int32 → HV → Prop) (h : V_X8_stop a1 hv post) : wM l yX8_stop cX8_stop 3 ((Option.some FieldType.int)) 5 G A hv [.ref (ad G 8 0), .int a1] (qI G A post) := by
  refine wM_of (by decide +kernel) (Nat.le_of_ble_eq_true rfl) ?_
  intro p e s m args below meth c C0 hr ls hl hW hS
  have hx := C0.1
  have hb := C0.2.1
  have hown := C0.2.2.2.1
  have hts := C0.2.2.2.2.1
  have hl : lv_has ls 3 [(0, .ref (ad G 8 0)), (1, .int a1)] := hl
  unfold V_X8_stop at h
  refine lv_aload_n hx hb dX8_stop_0 rfl (lv_at hl 0 rfl) ?_
  refine w_get (v := .ref (ad G 7 0)) C0 hW 8 0 (by decide) (by decide) rfl rfl in_X8 0 (by decide) w_284 rfl dX8_stop_1 ?_
  refine lv_iload_n hx hb dX8_stop_4 rfl (lv_at hl 1 rfl) ?_
  refine w_cp hS (w_runV (As := [.int a1]) C0 hW 7 0 (by decide) (by decide) rfl rfl (c_X7_pumpAt l G A 0 a1 (by decide) hv _ h) ⟨⟨w_350, w_7, w_353⟩, pl_X7_pumpAt, ⟨Nat.le_of_ble_eq_true rfl, Nat.le_of_ble_eq_true rfl⟩, ⟨Nat.le_refl _, Nat.le_refl _⟩⟩ ⟨w_351, w_352⟩ rfl hl.1 rfl (Nat.le_of_ble_eq_true rfl) dX8_stop_5) (fun hv1 h H locs hW hS => ?_) (fun r1 hv1 b1 h H locs hW hS => ?_)
  · have h := h.1 rfl
    refine lv_astore_nN (lv' := [(2, .null), (0, .ref (ad G 8 0)), (1, .int a1)]) hx hb dX8_stop_8 rfl hl (by decide) rfl (fun ls hl => ?_)
    refine lv_aload_nN hx hb dX8_stop_9 rfl (lv_at hl 0 rfl) ?_
    refine lv_ifnonnullN hx hb dX8_stop_10 ?_
    refine lv_sipush (v := (-1001)) hx hb dX8_stop_13 (by decide) ?_
    exact w_iret C0 hr hW hS h dX8_stop_16
  · have h := h.2 r1 rfl b1
    refine lv_astore_n (lv' := [(2, .ref (ad G 4 r1)), (0, .ref (ad G 8 0)), (1, .int a1)]) hx hb dX8_stop_8 rfl hl (by decide) rfl (fun ls hl => ?_)
    refine lv_aload_n hx hb dX8_stop_9 rfl (lv_at hl 0 rfl) ?_
    refine lv_ifnonnull (tgt := 17) hx hb dX8_stop_10 (by decide) ?_
    refine lv_aload_n hx hb dX8_stop_17 rfl (lv_at hl 0 rfl) ?_
    refine w_get (v := .int (hv1 4 r1 5)) C0 hW 4 r1 (by decide) b1 rfl rfl in_X4 5 (by decide) w_128 rfl dX8_stop_18 ?_
    refine lv_if_ne (tgt := 28) hx hb dX8_stop_21 (by decide) (fun c2 => ?_) (fun c2 => ?_)
    · have h := h.2 c2
      refine lv_aload_n hx hb dX8_stop_28 rfl (lv_at hl 1 rfl) ?_
      refine w_cv hS (w_runV (As := []) C0 hW 8 0 (by decide) (by decide) rfl rfl (c_X8_keepState l G A hv1 _ h) ⟨⟨w_374, w_6, w_377⟩, pl_X8_keepState, ⟨Nat.le_of_ble_eq_true rfl, Nat.le_of_ble_eq_true rfl⟩, ⟨Nat.le_refl _, Nat.le_refl _⟩⟩ ⟨w_376, w_0⟩ rfl hl.1 rfl (Nat.le_of_ble_eq_true rfl) dX8_stop_29) (fun hv3 h H locs hW hS => ?_)
      refine lv_aload_n hx hb dX8_stop_32 rfl (lv_at hl 0 rfl) ?_
      refine lv_iconst (v := 0) hx hb dX8_stop_33 (by decide) ?_
      refine w_put (v := 0) C0 hW hS 4 r1 (by decide) b1 rfl rfl in_X4 tyX4_ok nmX4 5 (by decide) w_128 rfl rfl rfl (Nat.le_of_ble_eq_true rfl) rfl dX8_stop_34 (fun hv4 ehv4 H locs hW hS => ?_)
      have h := h hv4 ehv4
      refine lv_aload_n hx hb dX8_stop_37 rfl (lv_at hl 0 rfl) ?_
      refine w_cv hS (w_runV (As := []) C0 hW 4 r1 (by decide) b1 rfl rfl (c_X4_rest l G A r1 b1 hv4 _ h) ⟨⟨w_442, w_8, w_445⟩, pl_X4_rest, ⟨Nat.le_of_ble_eq_true rfl, Nat.le_of_ble_eq_true rfl⟩, ⟨Nat.le_refl _, Nat.le_refl _⟩⟩ ⟨w_443, w_444⟩ rfl hl.1 rfl (Nat.le_of_ble_eq_true rfl) dX8_stop_38) (fun hv5 h H locs hW hS => ?_)
      refine lv_aload_n hx hb dX8_stop_41 rfl (lv_at hl 1 rfl) ?_
      refine w_get (v := .ref (ad G 7 0)) C0 hW 8 0 (by decide) (by decide) rfl rfl in_X8 0 (by decide) w_284 rfl dX8_stop_42 ?_
      refine w_ci hS (w_runV (As := []) C0 hW 7 0 (by decide) (by decide) rfl rfl (c_X7_runningPumps l G A 0 (by decide) hv5 _ h) ⟨⟨w_446, w_7, w_449⟩, pl_X7_runningPumps, ⟨Nat.le_of_ble_eq_true rfl, Nat.le_of_ble_eq_true rfl⟩, ⟨Nat.le_refl _, Nat.le_refl _⟩⟩ ⟨w_447, w_448⟩ rfl hl.1 rfl (Nat.le_of_ble_eq_true rfl) dX8_stop_45) (fun r6 hv6 h H locs hW hS => ?_)
      exact w_iret C0 hr hW hS h dX8_stop_48
    · have h := h.1 c2
      refine lv_sipush (v := (-1003)) hx hb dX8_stop_24 (by decide) ?_
      exact w_iret C0 hr hW hS h dX8_stop_27

theorem pl_X8_emptyTank : yX8_emptyTank.cls ≠ "java/lang/invoke/MethodHandle" ∧ yX8_emptyTank.cls ≠ "java/lang/invoke/VarHandle" ∧ (parseMethodDescriptor yX8_emptyTank.desc).map (fun d => d.parameters.length) = some 1 := ⟨by decide +kernel, by decide +kernel, by decide +kernel⟩
def V_X8_emptyTank (a1 : Int32) (hv : HV) (post : Int32 → HV → Prop) : Prop := (V_X7_pumpAt 0 a1 hv (fun o1 hv1 => (o1 = none → post (-1001) hv1) ∧ (∀ r1 : Nat, o1 = some r1 → r1 < 37 → (((hv1 4 r1 11) = 0 → post (-1003) hv1) ∧ (¬ ((hv1 4 r1 11) = 0) → (V_X8_keepState hv1 (fun hv3 => (∀ x4 : Int32, x4 = (hv3 4 r1 11) → (∀ hv5 : HV, hv5 = up hv3 4 r1 (upd (hv3 4 r1) 11 0) → post x4 hv5)))))))))
set_option maxHeartbeats 4000000 in
theorem c_X8_emptyTank (l : Launch) (G : wG) (A : Nat → Prop) (a1 : Int32) (hv : HV) (post : Int32 → HV → Prop) (h : V_X8_emptyTank a1 hv post) : wM l yX8_emptyTank cX8_emptyTank 4 ((Option.some FieldType.int)) 5 G A hv [.ref (ad G 8 0), .int a1] (qI G A post) := by
  refine wM_of (by decide +kernel) (Nat.le_of_ble_eq_true rfl) ?_
  intro p e s m args below meth c C0 hr ls hl hW hS
  have hx := C0.1
  have hb := C0.2.1
  have hown := C0.2.2.2.1
  have hts := C0.2.2.2.2.1
  have hl : lv_has ls 4 [(0, .ref (ad G 8 0)), (1, .int a1)] := hl
  unfold V_X8_emptyTank at h
  refine lv_aload_n hx hb dX8_emptyTank_0 rfl (lv_at hl 0 rfl) ?_
  refine w_get (v := .ref (ad G 7 0)) C0 hW 8 0 (by decide) (by decide) rfl rfl in_X8 0 (by decide) w_284 rfl dX8_emptyTank_1 ?_
  refine lv_iload_n hx hb dX8_emptyTank_4 rfl (lv_at hl 1 rfl) ?_
  refine w_cp hS (w_runV (As := [.int a1]) C0 hW 7 0 (by decide) (by decide) rfl rfl (c_X7_pumpAt l G A 0 a1 (by decide) hv _ h) ⟨⟨w_350, w_7, w_353⟩, pl_X7_pumpAt, ⟨Nat.le_of_ble_eq_true rfl, Nat.le_of_ble_eq_true rfl⟩, ⟨Nat.le_refl _, Nat.le_refl _⟩⟩ ⟨w_351, w_352⟩ rfl hl.1 rfl (Nat.le_of_ble_eq_true rfl) dX8_emptyTank_5) (fun hv1 h H locs hW hS => ?_) (fun r1 hv1 b1 h H locs hW hS => ?_)
  · have h := h.1 rfl
    refine lv_astore_nN (lv' := [(2, .null), (0, .ref (ad G 8 0)), (1, .int a1)]) hx hb dX8_emptyTank_8 rfl hl (by decide) rfl (fun ls hl => ?_)
    refine lv_aload_nN hx hb dX8_emptyTank_9 rfl (lv_at hl 0 rfl) ?_
    refine lv_ifnonnullN hx hb dX8_emptyTank_10 ?_
    refine lv_sipush (v := (-1001)) hx hb dX8_emptyTank_13 (by decide) ?_
    exact w_iret C0 hr hW hS h dX8_emptyTank_16
  · have h := h.2 r1 rfl b1
    refine lv_astore_n (lv' := [(2, .ref (ad G 4 r1)), (0, .ref (ad G 8 0)), (1, .int a1)]) hx hb dX8_emptyTank_8 rfl hl (by decide) rfl (fun ls hl => ?_)
    refine lv_aload_n hx hb dX8_emptyTank_9 rfl (lv_at hl 0 rfl) ?_
    refine lv_ifnonnull (tgt := 17) hx hb dX8_emptyTank_10 (by decide) ?_
    refine lv_aload_n hx hb dX8_emptyTank_17 rfl (lv_at hl 0 rfl) ?_
    refine w_get (v := .int (hv1 4 r1 11)) C0 hW 4 r1 (by decide) b1 rfl rfl in_X4 11 (by decide) w_140 rfl dX8_emptyTank_18 ?_
    refine lv_if_ne (tgt := 28) hx hb dX8_emptyTank_21 (by decide) (fun c2 => ?_) (fun c2 => ?_)
    · have h := h.2 c2
      refine lv_aload_n hx hb dX8_emptyTank_28 rfl (lv_at hl 1 rfl) ?_
      refine w_cv hS (w_runV (As := []) C0 hW 8 0 (by decide) (by decide) rfl rfl (c_X8_keepState l G A hv1 _ h) ⟨⟨w_374, w_6, w_377⟩, pl_X8_keepState, ⟨Nat.le_of_ble_eq_true rfl, Nat.le_of_ble_eq_true rfl⟩, ⟨Nat.le_refl _, Nat.le_refl _⟩⟩ ⟨w_376, w_0⟩ rfl hl.1 rfl (Nat.le_of_ble_eq_true rfl) dX8_emptyTank_29) (fun hv3 h H locs hW hS => ?_)
      refine lv_aload_n hx hb dX8_emptyTank_32 rfl (lv_at hl 0 rfl) ?_
      refine w_get (v := .int (hv3 4 r1 11)) C0 hW 4 r1 (by decide) b1 rfl rfl in_X4 11 (by decide) w_140 rfl dX8_emptyTank_33 ?_
      refine lv_topi (fun x4 ex4 => ?_)
      have h := h x4 ex4
      refine lv_istore_n (lv' := [(3, .int x4), (2, .ref (ad G 4 r1)), (0, .ref (ad G 8 0)), (1, .int a1)]) hx hb dX8_emptyTank_36 rfl hl (by decide) rfl (fun ls hl => ?_)
      refine lv_aload_n hx hb dX8_emptyTank_37 rfl (lv_at hl 1 rfl) ?_
      refine lv_iconst (v := 0) hx hb dX8_emptyTank_38 (by decide) ?_
      refine w_put (v := 0) C0 hW hS 4 r1 (by decide) b1 rfl rfl in_X4 tyX4_ok nmX4 11 (by decide) w_140 rfl rfl rfl (Nat.le_of_ble_eq_true rfl) rfl dX8_emptyTank_39 (fun hv5 ehv5 H locs hW hS => ?_)
      have h := h hv5 ehv5
      refine lv_iload_n hx hb dX8_emptyTank_42 rfl (lv_at hl 0 rfl) ?_
      exact w_iret C0 hr hW hS h dX8_emptyTank_43
    · have h := h.1 c2
      refine lv_sipush (v := (-1003)) hx hb dX8_emptyTank_24 (by decide) ?_
      exact w_iret C0 hr hW hS h dX8_emptyTank_27

theorem pl_X8_noteIncidents : yX8_noteIncidents.cls ≠ "java/lang/invoke/MethodHandle" ∧ yX8_noteIncidents.cls ≠ "java/lang/invoke/VarHandle" ∧ (parseMethodDescriptor yX8_noteIncidents.desc).map (fun d => d.parameters.length) = some 1 := ⟨by decide +kernel, by decide +kernel, by decide +kernel⟩
def V_X8_noteIncidents (a1 : Int32) (hv : HV) (post : HV → Prop) : Prop := (((hv 5 0 3) = 0 → (((hv 5 0 4) = 0 → post hv) ∧ (¬ ((hv 5 0 4) = 0) → (V_X3_add 3 a1 (hv 7 0 0) hv (fun hv3 => post hv3))))) ∧ (¬ ((hv 5 0 3) = 0) → (V_X3_add (hv 5 0 3) a1 (hv 7 0 0) hv (fun hv4 => (((hv4 5 0 4) = 0 → post hv4) ∧ (¬ ((hv4 5 0 4) = 0) → (V_X3_add 3 a1 (hv4 7 0 0) hv4 (fun hv6 => post hv6))))))))
set_option maxHeartbeats 4000000 in
theorem c_X8_noteIncidents (l : Launch) (G : wG) (A : Nat → Prop) (a1 : Int32) (hv : HV) (post : HV → Prop) (h : V_X8_noteIncidents a1 hv post) : wM l yX8_noteIncidents cX8_noteIncidents 2 ((Option.none : Option FieldType)) 2 G A hv [.ref (ad G 8 0), .int a1] (qV G A post) := by
  refine wM_of (by decide +kernel) (Nat.le_of_ble_eq_true rfl) ?_
  intro p e s m args below meth c C0 hr ls hl hW hS
  have hx := C0.1
  have hb := C0.2.1
  have hown := C0.2.2.2.1
  have hts := C0.2.2.2.2.1
  have hl : lv_has ls 2 [(0, .ref (ad G 8 0)), (1, .int a1)] := hl
  unfold V_X8_noteIncidents at h
  refine lv_aload_n hx hb dX8_noteIncidents_0 rfl (lv_at hl 0 rfl) ?_
  refine w_get (v := .ref (ad G 5 0)) C0 hW 8 0 (by decide) (by decide) rfl rfl in_X8 8 (by decide) w_292 rfl dX8_noteIncidents_1 ?_
  refine w_get (v := .int (hv 5 0 3)) C0 hW 5 0 (by decide) (by decide) rfl rfl in_X5 3 (by decide) w_267 rfl dX8_noteIncidents_4 ?_
  refine lv_if_eq (tgt := 32) hx hb dX8_noteIncidents_7 (by decide) (fun c1 => ?_) (fun c1 => ?_)
  · have h := h.1 c1
    refine lv_aload_n hx hb dX8_noteIncidents_32 rfl (lv_at hl 0 rfl) ?_
    refine w_get (v := .ref (ad G 5 0)) C0 hW 8 0 (by decide) (by decide) rfl rfl in_X8 8 (by decide) w_292 rfl dX8_noteIncidents_33 ?_
    refine w_get (v := .int (hv 5 0 4)) C0 hW 5 0 (by decide) (by decide) rfl rfl in_X5 4 (by decide) w_270 rfl dX8_noteIncidents_36 ?_
    refine lv_if_eq (tgt := 58) hx hb dX8_noteIncidents_39 (by decide) (fun c2 => ?_) (fun c2 => ?_)
    · have h := h.1 c2
      exact w_vret C0 hr hW hS h dX8_noteIncidents_58
    · have h := h.2 c2
      refine lv_aload_n hx hb dX8_noteIncidents_42 rfl (lv_at hl 0 rfl) ?_
      refine w_get (v := .ref (ad G 3 0)) C0 hW 8 0 (by decide) (by decide) rfl rfl in_X8 7 (by decide) w_291 rfl dX8_noteIncidents_43 ?_
      refine lv_iconst (v := 3) hx hb dX8_noteIncidents_46 (by decide) ?_
      refine lv_iload_n hx hb dX8_noteIncidents_47 rfl (lv_at hl 1 rfl) ?_
      refine lv_aload_n hx hb dX8_noteIncidents_48 rfl (lv_at hl 0 rfl) ?_
      refine w_get (v := .ref (ad G 7 0)) C0 hW 8 0 (by decide) (by decide) rfl rfl in_X8 0 (by decide) w_284 rfl dX8_noteIncidents_49 ?_
      refine w_get (v := .int (hv 7 0 0)) C0 hW 7 0 (by decide) (by decide) rfl rfl in_X7 0 (by decide) w_187 rfl dX8_noteIncidents_52 ?_
      refine w_cv hS (w_runV (As := [.int 3, .int a1, .int (hv 7 0 0)]) C0 hW 3 0 (by decide) (by decide) rfl rfl (c_X3_add l G A 3 a1 (hv 7 0 0) hv _ h) ⟨⟨w_531, w_14, w_534⟩, pl_X3_add, ⟨Nat.le_of_ble_eq_true rfl, Nat.le_of_ble_eq_true rfl⟩, ⟨Nat.le_refl _, Nat.le_refl _⟩⟩ ⟨w_532, w_533⟩ rfl hl.1 rfl (Nat.le_of_ble_eq_true rfl) dX8_noteIncidents_55) (fun hv3 h H locs hW hS => ?_)
      exact w_vret C0 hr hW hS h dX8_noteIncidents_58
  · have h := h.2 c1
    refine lv_aload_n hx hb dX8_noteIncidents_10 rfl (lv_at hl 0 rfl) ?_
    refine w_get (v := .ref (ad G 3 0)) C0 hW 8 0 (by decide) (by decide) rfl rfl in_X8 7 (by decide) w_291 rfl dX8_noteIncidents_11 ?_
    refine lv_aload_n hx hb dX8_noteIncidents_14 rfl (lv_at hl 0 rfl) ?_
    refine w_get (v := .ref (ad G 5 0)) C0 hW 8 0 (by decide) (by decide) rfl rfl in_X8 8 (by decide) w_292 rfl dX8_noteIncidents_15 ?_
    refine w_get (v := .int (hv 5 0 3)) C0 hW 5 0 (by decide) (by decide) rfl rfl in_X5 3 (by decide) w_267 rfl dX8_noteIncidents_18 ?_
    refine lv_iload_n hx hb dX8_noteIncidents_21 rfl (lv_at hl 1 rfl) ?_
    refine lv_aload_n hx hb dX8_noteIncidents_22 rfl (lv_at hl 0 rfl) ?_
    refine w_get (v := .ref (ad G 7 0)) C0 hW 8 0 (by decide) (by decide) rfl rfl in_X8 0 (by decide) w_284 rfl dX8_noteIncidents_23 ?_
    refine w_get (v := .int (hv 7 0 0)) C0 hW 7 0 (by decide) (by decide) rfl rfl in_X7 0 (by decide) w_187 rfl dX8_noteIncidents_26 ?_
    refine w_cv hS (w_runV (As := [.int (hv 5 0 3), .int a1, .int (hv 7 0 0)]) C0 hW 3 0 (by decide) (by decide) rfl rfl (c_X3_add l G A (hv 5 0 3) a1 (hv 7 0 0) hv _ h) ⟨⟨w_531, w_14, w_534⟩, pl_X3_add, ⟨Nat.le_of_ble_eq_true rfl, Nat.le_of_ble_eq_true rfl⟩, ⟨Nat.le_refl _, Nat.le_refl _⟩⟩ ⟨w_532, w_533⟩ rfl hl.1 rfl (Nat.le_of_ble_eq_true rfl) dX8_noteIncidents_29) (fun hv4 h H locs hW hS => ?_)
    refine lv_aload_n hx hb dX8_noteIncidents_32 rfl (lv_at hl 0 rfl) ?_
    refine w_get (v := .ref (ad G 5 0)) C0 hW 8 0 (by decide) (by decide) rfl rfl in_X8 8 (by decide) w_292 rfl dX8_noteIncidents_33 ?_
    refine w_get (v := .int (hv4 5 0 4)) C0 hW 5 0 (by decide) (by decide) rfl rfl in_X5 4 (by decide) w_270 rfl dX8_noteIncidents_36 ?_
    refine lv_if_eq (tgt := 58) hx hb dX8_noteIncidents_39 (by decide) (fun c5 => ?_) (fun c5 => ?_)
    · have h := h.1 c5
      exact w_vret C0 hr hW hS h dX8_noteIncidents_58
    · have h := h.2 c5
      refine lv_aload_n hx hb dX8_noteIncidents_42 rfl (lv_at hl 0 rfl) ?_
      refine w_get (v := .ref (ad G 3 0)) C0 hW 8 0 (by decide) (by decide) rfl rfl in_X8 7 (by decide) w_291 rfl dX8_noteIncidents_43 ?_
      refine lv_iconst (v := 3) hx hb dX8_noteIncidents_46 (by decide) ?_
      refine lv_iload_n hx hb dX8_noteIncidents_47 rfl (lv_at hl 1 rfl) ?_
      refine lv_aload_n hx hb dX8_noteIncidents_48 rfl (lv_at hl 0 rfl) ?_
      refine w_get (v := .ref (ad G 7 0)) C0 hW 8 0 (by decide) (by decide) rfl rfl in_X8 0 (by decide) w_284 rfl dX8_noteIncidents_49 ?_
      refine w_get (v := .int (hv4 7 0 0)) C0 hW 7 0 (by decide) (by decide) rfl rfl in_X7 0 (by decide) w_187 rfl dX8_noteIncidents_52 ?_
      refine w_cv hS (w_runV (As := [.int 3, .int a1, .int (hv4 7 0 0)]) C0 hW 3 0 (by decide) (by decide) rfl rfl (c_X3_add l G A 3 a1 (hv4 7 0 0) hv4 _ h) ⟨⟨w_531, w_14, w_534⟩, pl_X3_add, ⟨Nat.le_of_ble_eq_true rfl, Nat.le_of_ble_eq_true rfl⟩, ⟨Nat.le_refl _, Nat.le_refl _⟩⟩ ⟨w_532, w_533⟩ rfl hl.1 rfl (Nat.le_of_ble_eq_true rfl) dX8_noteIncidents_55) (fun hv6 h H locs hW hS => ?_)
      exact w_vret C0 hr hW hS h dX8_noteIncidents_58

def V_X8_tickStation_18 (post : Int32 → HV → Prop) (k_111 : Int32 → HV → Prop) : Nat → Int32 → Int32 → HV → Prop
  | 0, _, _, _ => False
  | n18 + 1, v1, v2, hv => (((hv 7 0 4) ≤ v2 → k_111 v1 hv) ∧ (¬ ((hv 7 0 4) ≤ v2) → (V_X7_pumpAt 0 v2 hv (fun o3 hv3 => (o3 = none → (∀ x4 : Int32, x4 = v2 + 1 → V_X8_tickStation_18 post k_111 n18 v1 x4 hv3)) ∧ (∀ r3 : Nat, o3 = some r3 → r3 < 37 → (((hv3 4 r3 5) = 0 → (∀ x6 : Int32, x6 = v2 + 1 → V_X8_tickStation_18 post k_111 n18 v1 x6 hv3)) ∧ (¬ ((hv3 4 r3 5) = 0) → (V_X4_tick r3 (hv3 7 0 1) (hv3 7 0 0) hv3 (fun hv7 => (∀ hv8 : HV, hv8 = up hv7 7 0 (upd (hv7 7 0) 1 ((hv7 7 0 1) - (hv7 5 0 0))) → (∀ x9 : Int32, x9 = (v1 + (hv8 5 0 1)) → (V_X8_noteIncidents v2 hv8 (fun hv10 => (∀ x11 : Int32, x11 = v2 + 1 → V_X8_tickStation_18 post k_111 n18 x9 x11 hv10))))))))))))))
set_option maxHeartbeats 4000000 in
theorem k_X8_tickStation_18 {p : Program} {l : Launch} {e : Env} {s : State} {m : MethodId} {args : Array Value} {below : List Frame} {meth : Method} {c : Code} {G : wG} {A : Nat → Prop} (post : Int32 → HV → Prop) (k_111 : Int32 → HV → Prop) (C0 : cx p s m args meth c "RamStation" cX8_tickStation 4 G) (hr : meth.sig.returnType = (Option.some FieldType.int))  (hk_111 : ∀ (v1 : Int32) (hv : HV),  k_111 v1 hv → ∀ (H : Heap) (locs : List Loc) (ls : Array Slot), wd G A hv H → va_S A s.heap H locs → lv_has ls 4 [(0, .ref (ad G 8 0)), (1, .int v1)] → W p l e (wrm 4) s m args below meth c H locs 0 0 (MQ below (qI G A post) args s 0 0 A) (F0 m 111 ls [])) : ∀ (n : Nat) (v1 : Int32) (v2 : Int32) (hv : HV), V_X8_tickStation_18 post k_111 n v1 v2 hv → ∀ (H : Heap) (locs : List Loc) (ls : Array Slot), wd G A hv H → va_S A s.heap H locs → lv_has ls 4 [(0, .ref (ad G 8 0)), (1, .int v1), (2, .int v2)] → W p l e (wrm 4) s m args below meth c H locs 0 0 (MQ below (qI G A post) args s 0 0 A) (F0 m 18 ls []) := by
  have hx := C0.1
  have hb := C0.2.1
  have hown := C0.2.2.2.1
  have hts := C0.2.2.2.2.1
  intro n
  induction n with
  | zero =>
    intro v1 v2 hv  h
    exact (h : False).elim
  | succ n ih =>
    intro v1 v2 hv  h H locs ls hW hS hl
    rw [V_X8_tickStation_18] at h
    refine lv_iload_n hx hb dX8_tickStation_18 rfl (lv_at hl 2 rfl) ?_
    refine lv_aload_n hx hb dX8_tickStation_19 rfl (lv_at hl 0 rfl) ?_
    refine w_get (v := .ref (ad G 7 0)) C0 hW 8 0 (by decide) (by decide) rfl rfl in_X8 0 (by decide) w_284 rfl dX8_tickStation_20 ?_
    refine w_get (v := .int (hv 7 0 4)) C0 hW 7 0 (by decide) (by decide) rfl rfl in_X7 4 (by decide) w_195 rfl dX8_tickStation_23 ?_
    refine lv_icmp_ge (tgt := 111) hx hb dX8_tickStation_26 (by decide) (fun c2 => ?_) (fun c2 => ?_)
    · have h := h.1 c2
      exact hk_111 v1 hv h _ _ _ hW hS (lv_sub hl [0, 1] rfl)
    · have h := h.2 c2
      refine lv_aload_n hx hb dX8_tickStation_29 rfl (lv_at hl 0 rfl) ?_
      refine w_get (v := .ref (ad G 7 0)) C0 hW 8 0 (by decide) (by decide) rfl rfl in_X8 0 (by decide) w_284 rfl dX8_tickStation_30 ?_
      refine lv_iload_n hx hb dX8_tickStation_33 rfl (lv_at hl 2 rfl) ?_
      refine w_cp hS (w_runV (As := [.int v2]) C0 hW 7 0 (by decide) (by decide) rfl rfl (c_X7_pumpAt l G A 0 v2 (by decide) hv _ h) ⟨⟨w_350, w_7, w_353⟩, pl_X7_pumpAt, ⟨Nat.le_of_ble_eq_true rfl, Nat.le_of_ble_eq_true rfl⟩, ⟨Nat.le_refl _, Nat.le_refl _⟩⟩ ⟨w_351, w_352⟩ rfl hl.1 rfl (Nat.le_of_ble_eq_true rfl) dX8_tickStation_34) (fun hv3 h H locs hW hS => ?_) (fun r3 hv3 b3 h H locs hW hS => ?_)
      · have h := h.1 rfl
        refine lv_astore_nN (lv' := [(3, .null), (0, .ref (ad G 8 0)), (1, .int v1), (2, .int v2)]) hx hb dX8_tickStation_37 rfl hl (by decide) rfl (fun ls hl => ?_)
        refine lv_aload_nN hx hb dX8_tickStation_38 rfl (lv_at hl 0 rfl) ?_
        refine lv_ifnullN (tgt := 105) hx hb dX8_tickStation_39 (by decide) ?_
        obtain ⟨x4, ex4⟩ : ∃ y : Int32, y = v2 + 1 := ⟨_, rfl⟩
        have h := h x4 ex4
        refine lv_iinc (v := x4) (lv' := [(2, .int x4), (3, .null), (0, .ref (ad G 8 0)), (1, .int v1)]) hx hb dX8_tickStation_105 hl (k := 3) rfl (by rw [ex4]; rfl) (by decide) rfl (fun ls hl => ?_)
        refine lv_goto (tgt := 18) hx hb dX8_tickStation_108 (by decide) ?_
        exact ih v1 x4 hv3 h _ _ _ hW hS (lv_sub hl [2, 3, 0] rfl)
      · have h := h.2 r3 rfl b3
        refine lv_astore_n (lv' := [(3, .ref (ad G 4 r3)), (0, .ref (ad G 8 0)), (1, .int v1), (2, .int v2)]) hx hb dX8_tickStation_37 rfl hl (by decide) rfl (fun ls hl => ?_)
        refine lv_aload_n hx hb dX8_tickStation_38 rfl (lv_at hl 0 rfl) ?_
        refine lv_ifnull hx hb dX8_tickStation_39 ?_
        refine lv_aload_n hx hb dX8_tickStation_42 rfl (lv_at hl 0 rfl) ?_
        refine w_get (v := .int (hv3 4 r3 5)) C0 hW 4 r3 (by decide) b3 rfl rfl in_X4 5 (by decide) w_128 rfl dX8_tickStation_43 ?_
        refine lv_if_eq (tgt := 105) hx hb dX8_tickStation_46 (by decide) (fun c5 => ?_) (fun c5 => ?_)
        · have h := h.1 c5
          obtain ⟨x6, ex6⟩ : ∃ y : Int32, y = v2 + 1 := ⟨_, rfl⟩
          have h := h x6 ex6
          refine lv_iinc (v := x6) (lv' := [(2, .int x6), (3, .ref (ad G 4 r3)), (0, .ref (ad G 8 0)), (1, .int v1)]) hx hb dX8_tickStation_105 hl (k := 3) rfl (by rw [ex6]; rfl) (by decide) rfl (fun ls hl => ?_)
          refine lv_goto (tgt := 18) hx hb dX8_tickStation_108 (by decide) ?_
          exact ih v1 x6 hv3 h _ _ _ hW hS (lv_sub hl [2, 3, 0] rfl)
        · have h := h.2 c5
          refine lv_aload_n hx hb dX8_tickStation_49 rfl (lv_at hl 0 rfl) ?_
          refine lv_aload_n hx hb dX8_tickStation_50 rfl (lv_at hl 1 rfl) ?_
          refine w_get (v := .ref (ad G 7 0)) C0 hW 8 0 (by decide) (by decide) rfl rfl in_X8 0 (by decide) w_284 rfl dX8_tickStation_51 ?_
          refine w_get (v := .int (hv3 7 0 1)) C0 hW 7 0 (by decide) (by decide) rfl rfl in_X7 1 (by decide) w_189 rfl dX8_tickStation_54 ?_
          refine lv_aload_n hx hb dX8_tickStation_57 rfl (lv_at hl 1 rfl) ?_
          refine w_get (v := .ref (ad G 7 0)) C0 hW 8 0 (by decide) (by decide) rfl rfl in_X8 0 (by decide) w_284 rfl dX8_tickStation_58 ?_
          refine w_get (v := .int (hv3 7 0 0)) C0 hW 7 0 (by decide) (by decide) rfl rfl in_X7 0 (by decide) w_187 rfl dX8_tickStation_61 ?_
          refine lv_aload_n hx hb dX8_tickStation_64 rfl (lv_at hl 1 rfl) ?_
          refine w_get (v := .ref (ad G 5 0)) C0 hW 8 0 (by decide) (by decide) rfl rfl in_X8 8 (by decide) w_292 rfl dX8_tickStation_65 ?_
          refine w_cv hS (w_runV (As := [.int (hv3 7 0 1), .int (hv3 7 0 0), .ref (ad G 5 0)]) C0 hW 4 r3 (by decide) b3 rfl rfl (c_X4_tick l G A r3 (hv3 7 0 1) (hv3 7 0 0) b3 hv3 _ h) ⟨⟨w_473, w_8, w_476⟩, pl_X4_tick, ⟨Nat.le_of_ble_eq_true rfl, Nat.le_of_ble_eq_true rfl⟩, ⟨Nat.le_refl _, Nat.le_refl _⟩⟩ ⟨w_474, w_475⟩ rfl hl.1 rfl (Nat.le_of_ble_eq_true rfl) dX8_tickStation_68) (fun hv7 h H locs hW hS => ?_)
          refine lv_aload_n hx hb dX8_tickStation_71 rfl (lv_at hl 1 rfl) ?_
          refine w_get (v := .ref (ad G 7 0)) C0 hW 8 0 (by decide) (by decide) rfl rfl in_X8 0 (by decide) w_284 rfl dX8_tickStation_72 ?_
          refine lv_dup hx hb dX8_tickStation_75 rfl ?_
          refine w_get (v := .int (hv7 7 0 1)) C0 hW 7 0 (by decide) (by decide) rfl rfl in_X7 1 (by decide) w_189 rfl dX8_tickStation_76 ?_
          refine lv_aload_n hx hb dX8_tickStation_79 rfl (lv_at hl 1 rfl) ?_
          refine w_get (v := .ref (ad G 5 0)) C0 hW 8 0 (by decide) (by decide) rfl rfl in_X8 8 (by decide) w_292 rfl dX8_tickStation_80 ?_
          refine w_get (v := .int (hv7 5 0 0)) C0 hW 5 0 (by decide) (by decide) rfl rfl in_X5 0 (by decide) w_258 rfl dX8_tickStation_83 ?_
          refine lv_isub hx hb dX8_tickStation_86 ?_
          refine w_put (v := ((hv7 7 0 1) - (hv7 5 0 0))) C0 hW hS 7 0 (by decide) (by decide) rfl rfl in_X7 tyX7_ok nmX7 1 (by decide) w_189 rfl rfl rfl (Nat.le_of_ble_eq_true rfl) rfl dX8_tickStation_87 (fun hv8 ehv8 H locs hW hS => ?_)
          have h := h hv8 ehv8
          refine lv_iload_n hx hb dX8_tickStation_90 rfl (lv_at hl 2 rfl) ?_
          refine lv_aload_n hx hb dX8_tickStation_91 rfl (lv_at hl 1 rfl) ?_
          refine w_get (v := .ref (ad G 5 0)) C0 hW 8 0 (by decide) (by decide) rfl rfl in_X8 8 (by decide) w_292 rfl dX8_tickStation_92 ?_
          refine w_get (v := .int (hv8 5 0 1)) C0 hW 5 0 (by decide) (by decide) rfl rfl in_X5 1 (by decide) w_261 rfl dX8_tickStation_95 ?_
          refine lv_iadd hx hb dX8_tickStation_98 ?_
          refine lv_topi (fun x9 ex9 => ?_)
          have h := h x9 ex9
          refine lv_istore_n (lv' := [(1, .int x9), (3, .ref (ad G 4 r3)), (0, .ref (ad G 8 0)), (2, .int v2)]) hx hb dX8_tickStation_99 rfl hl (by decide) rfl (fun ls hl => ?_)
          refine lv_aload_n hx hb dX8_tickStation_100 rfl (lv_at hl 2 rfl) ?_
          refine lv_iload_n hx hb dX8_tickStation_101 rfl (lv_at hl 3 rfl) ?_
          refine w_cv hS (w_runV (As := [.int v2]) C0 hW 8 0 (by decide) (by decide) rfl rfl (c_X8_noteIncidents l G A v2 hv8 _ h) ⟨⟨w_527, w_6, w_530⟩, pl_X8_noteIncidents, ⟨Nat.le_of_ble_eq_true rfl, Nat.le_of_ble_eq_true rfl⟩, ⟨Nat.le_refl _, Nat.le_refl _⟩⟩ ⟨w_529, w_2⟩ rfl hl.1 rfl (Nat.le_of_ble_eq_true rfl) dX8_tickStation_102) (fun hv10 h H locs hW hS => ?_)
          obtain ⟨x11, ex11⟩ : ∃ y : Int32, y = v2 + 1 := ⟨_, rfl⟩
          have h := h x11 ex11
          refine lv_iinc (v := x11) (lv' := [(2, .int x11), (1, .int x9), (3, .ref (ad G 4 r3)), (0, .ref (ad G 8 0))]) hx hb dX8_tickStation_105 hl (k := 3) rfl (by rw [ex11]; rfl) (by decide) rfl (fun ls hl => ?_)
          refine lv_goto (tgt := 18) hx hb dX8_tickStation_108 (by decide) ?_
          exact ih x9 x11 hv10 h _ _ _ hW hS (lv_sub hl [3, 1, 0] rfl)
theorem pl_X8_tickStation : yX8_tickStation.cls ≠ "java/lang/invoke/MethodHandle" ∧ yX8_tickStation.cls ≠ "java/lang/invoke/VarHandle" ∧ (parseMethodDescriptor yX8_tickStation.desc).map (fun d => d.parameters.length) = some 0 := ⟨by decide +kernel, by decide +kernel, by decide +kernel⟩
def V_X8_tickStation  (hv : HV) (post : Int32 → HV → Prop) : Prop := (V_X7_fillBasin 0 (hv 7 0 3) hv (fun hv1 => (∃ n18, V_X8_tickStation_18 post (fun y12_1 hv12 => (∀ hv13 : HV, hv13 = up hv12 7 0 (upd (hv12 7 0) 0 ((hv12 7 0 0) + 1)) → post y12_1 hv13)) n18 0 0 hv1)))
set_option maxHeartbeats 4000000 in
theorem c_X8_tickStation (l : Launch) (G : wG) (A : Nat → Prop) (hv : HV) (post : Int32 → HV → Prop) (h : V_X8_tickStation hv post) : wM l yX8_tickStation cX8_tickStation 4 ((Option.some FieldType.int)) 4 G A hv [.ref (ad G 8 0)] (qI G A post) := by
  refine wM_of (by decide +kernel) (Nat.le_of_ble_eq_true rfl) ?_
  intro p e s m args below meth c C0 hr ls hl hW hS
  have hx := C0.1
  have hb := C0.2.1
  have hown := C0.2.2.2.1
  have hts := C0.2.2.2.2.1
  have hl : lv_has ls 4 [(0, .ref (ad G 8 0))] := hl
  unfold V_X8_tickStation at h
  refine lv_aload_n hx hb dX8_tickStation_0 rfl (lv_at hl 0 rfl) ?_
  refine w_get (v := .ref (ad G 7 0)) C0 hW 8 0 (by decide) (by decide) rfl rfl in_X8 0 (by decide) w_284 rfl dX8_tickStation_1 ?_
  refine lv_aload_n hx hb dX8_tickStation_4 rfl (lv_at hl 0 rfl) ?_
  refine w_get (v := .ref (ad G 7 0)) C0 hW 8 0 (by decide) (by decide) rfl rfl in_X8 0 (by decide) w_284 rfl dX8_tickStation_5 ?_
  refine w_get (v := .int (hv 7 0 3)) C0 hW 7 0 (by decide) (by decide) rfl rfl in_X7 3 (by decide) w_193 rfl dX8_tickStation_8 ?_
  refine w_cv hS (w_runV (As := [.int (hv 7 0 3)]) C0 hW 7 0 (by decide) (by decide) rfl rfl (c_X7_fillBasin l G A 0 (hv 7 0 3) (by decide) hv _ h) ⟨⟨w_417, w_7, w_420⟩, pl_X7_fillBasin, ⟨Nat.le_of_ble_eq_true rfl, Nat.le_of_ble_eq_true rfl⟩, ⟨Nat.le_refl _, Nat.le_refl _⟩⟩ ⟨w_418, w_419⟩ rfl hl.1 rfl (Nat.le_of_ble_eq_true rfl) dX8_tickStation_11) (fun hv1 h H locs hW hS => ?_)
  refine lv_iconst (v := 0) hx hb dX8_tickStation_14 (by decide) ?_
  refine lv_istore_n (lv' := [(1, .int 0), (0, .ref (ad G 8 0))]) hx hb dX8_tickStation_15 rfl hl (by decide) rfl (fun ls hl => ?_)
  refine lv_iconst (v := 0) hx hb dX8_tickStation_16 (by decide) ?_
  refine lv_istore_n (lv' := [(2, .int 0), (1, .int 0), (0, .ref (ad G 8 0))]) hx hb dX8_tickStation_17 rfl hl (by decide) rfl (fun ls hl => ?_)
  obtain ⟨n14, h⟩ := h
  refine k_X8_tickStation_18 post _ C0 hr (fun y12_1 hv12 h H locs ls hW hS hl => ?_) n14 0 0 hv1 h _ _ _ hW hS (lv_sub hl [2, 1, 0] rfl)
  refine lv_aload_n hx hb dX8_tickStation_111 rfl (lv_at hl 0 rfl) ?_
  refine w_get (v := .ref (ad G 7 0)) C0 hW 8 0 (by decide) (by decide) rfl rfl in_X8 0 (by decide) w_284 rfl dX8_tickStation_112 ?_
  refine lv_dup hx hb dX8_tickStation_115 rfl ?_
  refine w_get (v := .int (hv12 7 0 0)) C0 hW 7 0 (by decide) (by decide) rfl rfl in_X7 0 (by decide) w_187 rfl dX8_tickStation_116 ?_
  refine lv_iconst (v := 1) hx hb dX8_tickStation_119 (by decide) ?_
  refine lv_iadd hx hb dX8_tickStation_120 ?_
  refine w_put (v := ((hv12 7 0 0) + 1)) C0 hW hS 7 0 (by decide) (by decide) rfl rfl in_X7 tyX7_ok nmX7 0 (by decide) w_187 rfl rfl rfl (Nat.le_of_ble_eq_true rfl) rfl dX8_tickStation_121 (fun hv13 ehv13 H locs hW hS => ?_)
  have h := h hv13 ehv13
  refine lv_iload_n hx hb dX8_tickStation_124 rfl (lv_at hl 1 rfl) ?_
  exact w_iret C0 hr hW hS h dX8_tickStation_125

def V_X8_pass_42 (a1 : Int32) (post : Int32 → HV → Prop) : Nat → Int32 → Int32 → HV → Prop
  | 0, _, _, _ => False
  | n42 + 1, v2, v3, hv => ((a1 ≤ v3 → post v2 hv) ∧ (¬ (a1 ≤ v3) → (V_X8_tickStation hv (fun r6 hv6 => (∀ x7 : Int32, x7 = (v2 + r6) → (∀ x8 : Int32, x8 = v3 + 1 → V_X8_pass_42 a1 post n42 x7 x8 hv6))))))
set_option maxHeartbeats 4000000 in
theorem k_X8_pass_42 {p : Program} {l : Launch} {e : Env} {s : State} {m : MethodId} {args : Array Value} {below : List Frame} {meth : Method} {c : Code} {G : wG} {A : Nat → Prop} (a1 : Int32) (post : Int32 → HV → Prop) (C0 : cx p s m args meth c "RamStation" cX8_pass 4 G) (hr : meth.sig.returnType = (Option.some FieldType.int))   : ∀ (n : Nat) (v2 : Int32) (v3 : Int32) (hv : HV), V_X8_pass_42 a1 post n v2 v3 hv → ∀ (H : Heap) (locs : List Loc) (ls : Array Slot), wd G A hv H → va_S A s.heap H locs → lv_has ls 4 [(0, .ref (ad G 8 0)), (1, .int a1), (2, .int v2), (3, .int v3)] → W p l e (wrm 5) s m args below meth c H locs 0 0 (MQ below (qI G A post) args s 0 0 A) (F0 m 42 ls []) := by
  have hx := C0.1
  have hb := C0.2.1
  have hown := C0.2.2.2.1
  have hts := C0.2.2.2.2.1
  intro n
  induction n with
  | zero =>
    intro v2 v3 hv  h
    exact (h : False).elim
  | succ n ih =>
    intro v2 v3 hv  h H locs ls hW hS hl
    rw [V_X8_pass_42] at h
    refine lv_iload_n hx hb dX8_pass_42 rfl (lv_at hl 3 rfl) ?_
    refine lv_iload_n hx hb dX8_pass_43 rfl (lv_at hl 1 rfl) ?_
    refine lv_icmp_ge (tgt := 60) hx hb dX8_pass_44 (by decide) (fun c5 => ?_) (fun c5 => ?_)
    · have h := h.1 c5
      refine lv_iload_n hx hb dX8_pass_60 rfl (lv_at hl 2 rfl) ?_
      exact w_iret C0 hr hW hS h dX8_pass_61
    · have h := h.2 c5
      refine lv_iload_n hx hb dX8_pass_47 rfl (lv_at hl 2 rfl) ?_
      refine lv_aload_n hx hb dX8_pass_48 rfl (lv_at hl 0 rfl) ?_
      refine w_ci hS (w_runV (As := []) C0 hW 8 0 (by decide) (by decide) rfl rfl (c_X8_tickStation l G A hv _ h) ⟨⟨w_469, w_6, w_472⟩, pl_X8_tickStation, ⟨Nat.le_of_ble_eq_true rfl, Nat.le_of_ble_eq_true rfl⟩, ⟨Nat.le_refl _, Nat.le_refl _⟩⟩ ⟨w_471, w_1⟩ rfl hl.1 rfl (Nat.le_of_ble_eq_true rfl) dX8_pass_49) (fun r6 hv6 h H locs hW hS => ?_)
      refine lv_iadd hx hb dX8_pass_52 ?_
      refine lv_topi (fun x7 ex7 => ?_)
      have h := h x7 ex7
      refine lv_istore_n (lv' := [(2, .int x7), (0, .ref (ad G 8 0)), (1, .int a1), (3, .int v3)]) hx hb dX8_pass_53 rfl hl (by decide) rfl (fun ls hl => ?_)
      obtain ⟨x8, ex8⟩ : ∃ y : Int32, y = v3 + 1 := ⟨_, rfl⟩
      have h := h x8 ex8
      refine lv_iinc (v := x8) (lv' := [(3, .int x8), (2, .int x7), (0, .ref (ad G 8 0)), (1, .int a1)]) hx hb dX8_pass_54 hl (k := 3) rfl (by rw [ex8]; rfl) (by decide) rfl (fun ls hl => ?_)
      refine lv_goto (tgt := 42) hx hb dX8_pass_57 (by decide) ?_
      exact ih x7 x8 hv6 h _ _ _ hW hS (lv_sub hl [2, 3, 1, 0] rfl)
theorem pl_X8_pass : yX8_pass.cls ≠ "java/lang/invoke/MethodHandle" ∧ yX8_pass.cls ≠ "java/lang/invoke/VarHandle" ∧ (parseMethodDescriptor yX8_pass.desc).map (fun d => d.parameters.length) = some 1 := ⟨by decide +kernel, by decide +kernel, by decide +kernel⟩
def V_X8_pass (a1 : Int32) (hv : HV) (post : Int32 → HV → Prop) : Prop := (V_X8_outside a1 1 200 hv (fun r1 hv1 => ((r1 = 0 → ((((hv1 7 0 0) + a1) ≤ 20000 → (V_X8_keepState hv1 (fun hv4 => (∃ n42, V_X8_pass_42 a1 post n42 0 0 hv4)))) ∧ (¬ (((hv1 7 0 0) + a1) ≤ 20000) → post (-1003) hv1))) ∧ (¬ (r1 = 0) → post (-1002) hv1))))
set_option maxHeartbeats 4000000 in
theorem c_X8_pass (l : Launch) (G : wG) (A : Nat → Prop) (a1 : Int32) (hv : HV) (post : Int32 → HV → Prop) (h : V_X8_pass a1 hv post) : wM l yX8_pass cX8_pass 4 ((Option.some FieldType.int)) 5 G A hv [.ref (ad G 8 0), .int a1] (qI G A post) := by
  refine wM_of (by decide +kernel) (Nat.le_of_ble_eq_true rfl) ?_
  intro p e s m args below meth c C0 hr ls hl hW hS
  have hx := C0.1
  have hb := C0.2.1
  have hown := C0.2.2.2.1
  have hts := C0.2.2.2.2.1
  have hl : lv_has ls 4 [(0, .ref (ad G 8 0)), (1, .int a1)] := hl
  unfold V_X8_pass at h
  refine lv_iload_n hx hb dX8_pass_0 rfl (lv_at hl 1 rfl) ?_
  refine lv_iconst (v := 1) hx hb dX8_pass_1 (by decide) ?_
  refine lv_sipush (v := 200) hx hb dX8_pass_2 (by decide) ?_
  refine w_ci hS (w_runS (As := [.int a1, .int 1, .int 200]) C0 hW (c_X8_outside l G A a1 1 200 hv _ h) ⟨⟨w_373, w_6, w_337⟩, pl_X8_outside, ⟨Nat.le_of_ble_eq_true rfl, Nat.le_of_ble_eq_true rfl⟩, ⟨Nat.le_refl _, Nat.le_refl _⟩⟩ w_336 rfl hl.1 rfl (Nat.le_of_ble_eq_true rfl) dX8_pass_5) (fun r1 hv1 h H locs hW hS => ?_)
  refine lv_if_eq (tgt := 15) hx hb dX8_pass_8 (by decide) (fun c2 => ?_) (fun c2 => ?_)
  · have h := h.1 c2
    refine lv_aload_n hx hb dX8_pass_15 rfl (lv_at hl 0 rfl) ?_
    refine w_get (v := .ref (ad G 7 0)) C0 hW 8 0 (by decide) (by decide) rfl rfl in_X8 0 (by decide) w_284 rfl dX8_pass_16 ?_
    refine w_get (v := .int (hv1 7 0 0)) C0 hW 7 0 (by decide) (by decide) rfl rfl in_X7 0 (by decide) w_187 rfl dX8_pass_19 ?_
    refine lv_iload_n hx hb dX8_pass_22 rfl (lv_at hl 1 rfl) ?_
    refine lv_iadd hx hb dX8_pass_23 ?_
    refine lv_sipush (v := 20000) hx hb dX8_pass_24 (by decide) ?_
    refine lv_icmp_le (tgt := 34) hx hb dX8_pass_27 (by decide) (fun c3 => ?_) (fun c3 => ?_)
    · have h := h.1 c3
      refine lv_aload_n hx hb dX8_pass_34 rfl (lv_at hl 0 rfl) ?_
      refine w_cv hS (w_runV (As := []) C0 hW 8 0 (by decide) (by decide) rfl rfl (c_X8_keepState l G A hv1 _ h) ⟨⟨w_374, w_6, w_377⟩, pl_X8_keepState, ⟨Nat.le_of_ble_eq_true rfl, Nat.le_of_ble_eq_true rfl⟩, ⟨Nat.le_refl _, Nat.le_refl _⟩⟩ ⟨w_376, w_0⟩ rfl hl.1 rfl (Nat.le_of_ble_eq_true rfl) dX8_pass_35) (fun hv4 h H locs hW hS => ?_)
      refine lv_iconst (v := 0) hx hb dX8_pass_38 (by decide) ?_
      refine lv_istore_n (lv' := [(2, .int 0), (0, .ref (ad G 8 0)), (1, .int a1)]) hx hb dX8_pass_39 rfl hl (by decide) rfl (fun ls hl => ?_)
      refine lv_iconst (v := 0) hx hb dX8_pass_40 (by decide) ?_
      refine lv_istore_n (lv' := [(3, .int 0), (2, .int 0), (0, .ref (ad G 8 0)), (1, .int a1)]) hx hb dX8_pass_41 rfl hl (by decide) rfl (fun ls hl => ?_)
      obtain ⟨n9, h⟩ := h
      exact k_X8_pass_42 a1 post C0 hr n9 0 0 hv4 h _ _ _ hW hS (lv_sub hl [2, 3, 1, 0] rfl)
    · have h := h.2 c3
      refine lv_sipush (v := (-1003)) hx hb dX8_pass_30 (by decide) ?_
      exact w_iret C0 hr hW hS h dX8_pass_33
  · have h := h.2 c2
    refine lv_sipush (v := (-1002)) hx hb dX8_pass_11 (by decide) ?_
    exact w_iret C0 hr hW hS h dX8_pass_14

theorem pl_X8_undo : yX8_undo.cls ≠ "java/lang/invoke/MethodHandle" ∧ yX8_undo.cls ≠ "java/lang/invoke/VarHandle" ∧ (parseMethodDescriptor yX8_undo.desc).map (fun d => d.parameters.length) = some 0 := ⟨by decide +kernel, by decide +kernel, by decide +kernel⟩
def V_X8_undo  (hv : HV) (post : Int32 → HV → Prop) : Prop := ((1 ≤ (hv 8 0 2) → (V_X8_outside (hv 8 0 3) 1 8 hv (fun r2 hv2 => ((r2 = 0 → (∀ hv4 : HV, hv4 = up hv2 8 0 (upd (hv2 8 0) 3 ((hv2 8 0 3) - 1)) → (∀ hv5 : HV, hv5 = up hv4 8 0 (upd (hv4 8 0) 2 ((hv4 8 0 2) - 1)) → (vp_in (hv5 8 0 3) 8 ∧ (V_X7_copyFrom 0 (1 + Int32.toNatClampNeg (hv5 8 0 3)) hv5 (fun hv7 => post (hv7 8 0 2) hv7)))))) ∧ (¬ (r2 = 0) → (∀ hv8 : HV, hv8 = up hv2 8 0 (upd (hv2 8 0) 3 8) → (∀ hv9 : HV, hv9 = up hv8 8 0 (upd (hv8 8 0) 3 ((hv8 8 0 3) - 1)) → (∀ hv10 : HV, hv10 = up hv9 8 0 (upd (hv9 8 0) 2 ((hv9 8 0 2) - 1)) → (vp_in (hv10 8 0 3) 8 ∧ (V_X7_copyFrom 0 (1 + Int32.toNatClampNeg (hv10 8 0 3)) hv10 (fun hv12 => post (hv12 8 0 2) hv12))))))))))) ∧ (¬ (1 ≤ (hv 8 0 2)) → post (-1005) hv))
set_option maxHeartbeats 4000000 in
theorem c_X8_undo (l : Launch) (G : wG) (A : Nat → Prop) (hv : HV) (post : Int32 → HV → Prop) (h : V_X8_undo hv post) : wM l yX8_undo cX8_undo 2 ((Option.some FieldType.int)) 4 G A hv [.ref (ad G 8 0)] (qI G A post) := by
  refine wM_of (by decide +kernel) (Nat.le_of_ble_eq_true rfl) ?_
  intro p e s m args below meth c C0 hr ls hl hW hS
  have hx := C0.1
  have hb := C0.2.1
  have hown := C0.2.2.2.1
  have hts := C0.2.2.2.2.1
  have hl : lv_has ls 2 [(0, .ref (ad G 8 0))] := hl
  unfold V_X8_undo at h
  refine lv_aload_n hx hb dX8_undo_0 rfl (lv_at hl 0 rfl) ?_
  refine w_get (v := .int (hv 8 0 2)) C0 hW 8 0 (by decide) (by decide) rfl rfl in_X8 2 (by decide) w_286 rfl dX8_undo_1 ?_
  refine lv_iconst (v := 1) hx hb dX8_undo_4 (by decide) ?_
  refine lv_icmp_ge (tgt := 12) hx hb dX8_undo_5 (by decide) (fun c1 => ?_) (fun c1 => ?_)
  · have h := h.1 c1
    refine lv_aload_n hx hb dX8_undo_12 rfl (lv_at hl 0 rfl) ?_
    refine w_get (v := .int (hv 8 0 3)) C0 hW 8 0 (by decide) (by decide) rfl rfl in_X8 3 (by decide) w_287 rfl dX8_undo_13 ?_
    refine lv_iconst (v := 1) hx hb dX8_undo_16 (by decide) ?_
    refine lv_aload_n hx hb dX8_undo_17 rfl (lv_at hl 0 rfl) ?_
    refine w_get (v := .ref (ad G 12 0)) C0 hW 8 0 (by decide) (by decide) rfl rfl in_X8 1 (by decide) w_285 rfl dX8_undo_18 ?_
    refine w_alen (v := 8) C0 hW 12 0 (by decide) (by decide) rfl 4 rfl rfl dX8_undo_21 ?_
    refine w_ci hS (w_runS (As := [.int (hv 8 0 3), .int 1, .int 8]) C0 hW (c_X8_outside l G A (hv 8 0 3) 1 8 hv _ h) ⟨⟨w_373, w_6, w_337⟩, pl_X8_outside, ⟨Nat.le_of_ble_eq_true rfl, Nat.le_of_ble_eq_true rfl⟩, ⟨Nat.le_refl _, Nat.le_refl _⟩⟩ w_336 rfl hl.1 rfl (Nat.le_of_ble_eq_true rfl) dX8_undo_22) (fun r2 hv2 h H locs hW hS => ?_)
    refine lv_if_eq (tgt := 37) hx hb dX8_undo_25 (by decide) (fun c3 => ?_) (fun c3 => ?_)
    · have h := h.1 c3
      refine lv_aload_n hx hb dX8_undo_37 rfl (lv_at hl 0 rfl) ?_
      refine lv_dup hx hb dX8_undo_38 rfl ?_
      refine w_get (v := .int (hv2 8 0 3)) C0 hW 8 0 (by decide) (by decide) rfl rfl in_X8 3 (by decide) w_287 rfl dX8_undo_39 ?_
      refine lv_iconst (v := 1) hx hb dX8_undo_42 (by decide) ?_
      refine lv_isub hx hb dX8_undo_43 ?_
      refine w_put (v := ((hv2 8 0 3) - 1)) C0 hW hS 8 0 (by decide) (by decide) rfl rfl in_X8 tyX8_ok nmX8 3 (by decide) w_287 rfl rfl rfl (Nat.le_of_ble_eq_true rfl) rfl dX8_undo_44 (fun hv4 ehv4 H locs hW hS => ?_)
      have h := h hv4 ehv4
      refine lv_aload_n hx hb dX8_undo_47 rfl (lv_at hl 0 rfl) ?_
      refine lv_dup hx hb dX8_undo_48 rfl ?_
      refine w_get (v := .int (hv4 8 0 2)) C0 hW 8 0 (by decide) (by decide) rfl rfl in_X8 2 (by decide) w_286 rfl dX8_undo_49 ?_
      refine lv_iconst (v := 1) hx hb dX8_undo_52 (by decide) ?_
      refine lv_isub hx hb dX8_undo_53 ?_
      refine w_put (v := ((hv4 8 0 2) - 1)) C0 hW hS 8 0 (by decide) (by decide) rfl rfl in_X8 tyX8_ok nmX8 2 (by decide) w_286 rfl rfl rfl (Nat.le_of_ble_eq_true rfl) rfl dX8_undo_54 (fun hv5 ehv5 H locs hW hS => ?_)
      have h := h hv5 ehv5
      refine lv_aload_n hx hb dX8_undo_57 rfl (lv_at hl 0 rfl) ?_
      refine w_get (v := .ref (ad G 12 0)) C0 hW 8 0 (by decide) (by decide) rfl rfl in_X8 1 (by decide) w_285 rfl dX8_undo_58 ?_
      refine lv_aload_n hx hb dX8_undo_61 rfl (lv_at hl 0 rfl) ?_
      refine w_get (v := .int (hv5 8 0 3)) C0 hW 8 0 (by decide) (by decide) rfl rfl in_X8 3 (by decide) w_287 rfl dX8_undo_62 ?_
      obtain ⟨q6, h⟩ := h
      refine w_aaldS C0 hW q6 dX8_undo_65 (fun b6 => ?_)
      refine lv_astore_n (lv' := [(1, .ref (ad G 7 (1 + Int32.toNatClampNeg (hv5 8 0 3)))), (0, .ref (ad G 8 0))]) hx hb dX8_undo_66 rfl hl (by decide) rfl (fun ls hl => ?_)
      refine lv_aload_n hx hb dX8_undo_67 rfl (lv_at hl 0 rfl) ?_
      refine lv_ifnull hx hb dX8_undo_68 ?_
      refine lv_aload_n hx hb dX8_undo_71 rfl (lv_at hl 1 rfl) ?_
      refine w_get (v := .ref (ad G 7 0)) C0 hW 8 0 (by decide) (by decide) rfl rfl in_X8 0 (by decide) w_284 rfl dX8_undo_72 ?_
      refine lv_aload_n hx hb dX8_undo_75 rfl (lv_at hl 0 rfl) ?_
      refine w_cv hS (w_runV (As := [.ref (ad G 7 (1 + Int32.toNatClampNeg (hv5 8 0 3)))]) C0 hW 7 0 (by decide) (by decide) rfl rfl (c_X7_copyFrom l G A 0 (1 + Int32.toNatClampNeg (hv5 8 0 3)) (by decide) b6 hv5 _ h) ⟨⟨w_378, w_7, w_381⟩, pl_X7_copyFrom, ⟨Nat.le_of_ble_eq_true rfl, Nat.le_of_ble_eq_true rfl⟩, ⟨Nat.le_refl _, Nat.le_refl _⟩⟩ ⟨w_379, w_380⟩ rfl hl.1 rfl (Nat.le_of_ble_eq_true rfl) dX8_undo_76) (fun hv7 h H locs hW hS => ?_)
      refine lv_aload_n hx hb dX8_undo_79 rfl (lv_at hl 1 rfl) ?_
      refine w_get (v := .int (hv7 8 0 2)) C0 hW 8 0 (by decide) (by decide) rfl rfl in_X8 2 (by decide) w_286 rfl dX8_undo_80 ?_
      exact w_iret C0 hr hW hS h dX8_undo_83
    · have h := h.2 c3
      refine lv_aload_n hx hb dX8_undo_28 rfl (lv_at hl 0 rfl) ?_
      refine lv_aload_n hx hb dX8_undo_29 rfl (lv_at hl 0 rfl) ?_
      refine w_get (v := .ref (ad G 12 0)) C0 hW 8 0 (by decide) (by decide) rfl rfl in_X8 1 (by decide) w_285 rfl dX8_undo_30 ?_
      refine w_alen (v := 8) C0 hW 12 0 (by decide) (by decide) rfl 4 rfl rfl dX8_undo_33 ?_
      refine w_put (v := 8) C0 hW hS 8 0 (by decide) (by decide) rfl rfl in_X8 tyX8_ok nmX8 3 (by decide) w_287 rfl rfl rfl (Nat.le_of_ble_eq_true rfl) rfl dX8_undo_34 (fun hv8 ehv8 H locs hW hS => ?_)
      have h := h hv8 ehv8
      refine lv_aload_n hx hb dX8_undo_37 rfl (lv_at hl 0 rfl) ?_
      refine lv_dup hx hb dX8_undo_38 rfl ?_
      refine w_get (v := .int (hv8 8 0 3)) C0 hW 8 0 (by decide) (by decide) rfl rfl in_X8 3 (by decide) w_287 rfl dX8_undo_39 ?_
      refine lv_iconst (v := 1) hx hb dX8_undo_42 (by decide) ?_
      refine lv_isub hx hb dX8_undo_43 ?_
      refine w_put (v := ((hv8 8 0 3) - 1)) C0 hW hS 8 0 (by decide) (by decide) rfl rfl in_X8 tyX8_ok nmX8 3 (by decide) w_287 rfl rfl rfl (Nat.le_of_ble_eq_true rfl) rfl dX8_undo_44 (fun hv9 ehv9 H locs hW hS => ?_)
      have h := h hv9 ehv9
      refine lv_aload_n hx hb dX8_undo_47 rfl (lv_at hl 0 rfl) ?_
      refine lv_dup hx hb dX8_undo_48 rfl ?_
      refine w_get (v := .int (hv9 8 0 2)) C0 hW 8 0 (by decide) (by decide) rfl rfl in_X8 2 (by decide) w_286 rfl dX8_undo_49 ?_
      refine lv_iconst (v := 1) hx hb dX8_undo_52 (by decide) ?_
      refine lv_isub hx hb dX8_undo_53 ?_
      refine w_put (v := ((hv9 8 0 2) - 1)) C0 hW hS 8 0 (by decide) (by decide) rfl rfl in_X8 tyX8_ok nmX8 2 (by decide) w_286 rfl rfl rfl (Nat.le_of_ble_eq_true rfl) rfl dX8_undo_54 (fun hv10 ehv10 H locs hW hS => ?_)
      have h := h hv10 ehv10
      refine lv_aload_n hx hb dX8_undo_57 rfl (lv_at hl 0 rfl) ?_
      refine w_get (v := .ref (ad G 12 0)) C0 hW 8 0 (by decide) (by decide) rfl rfl in_X8 1 (by decide) w_285 rfl dX8_undo_58 ?_
      refine lv_aload_n hx hb dX8_undo_61 rfl (lv_at hl 0 rfl) ?_
      refine w_get (v := .int (hv10 8 0 3)) C0 hW 8 0 (by decide) (by decide) rfl rfl in_X8 3 (by decide) w_287 rfl dX8_undo_62 ?_
      obtain ⟨q11, h⟩ := h
      refine w_aaldS C0 hW q11 dX8_undo_65 (fun b11 => ?_)
      refine lv_astore_n (lv' := [(1, .ref (ad G 7 (1 + Int32.toNatClampNeg (hv10 8 0 3)))), (0, .ref (ad G 8 0))]) hx hb dX8_undo_66 rfl hl (by decide) rfl (fun ls hl => ?_)
      refine lv_aload_n hx hb dX8_undo_67 rfl (lv_at hl 0 rfl) ?_
      refine lv_ifnull hx hb dX8_undo_68 ?_
      refine lv_aload_n hx hb dX8_undo_71 rfl (lv_at hl 1 rfl) ?_
      refine w_get (v := .ref (ad G 7 0)) C0 hW 8 0 (by decide) (by decide) rfl rfl in_X8 0 (by decide) w_284 rfl dX8_undo_72 ?_
      refine lv_aload_n hx hb dX8_undo_75 rfl (lv_at hl 0 rfl) ?_
      refine w_cv hS (w_runV (As := [.ref (ad G 7 (1 + Int32.toNatClampNeg (hv10 8 0 3)))]) C0 hW 7 0 (by decide) (by decide) rfl rfl (c_X7_copyFrom l G A 0 (1 + Int32.toNatClampNeg (hv10 8 0 3)) (by decide) b11 hv10 _ h) ⟨⟨w_378, w_7, w_381⟩, pl_X7_copyFrom, ⟨Nat.le_of_ble_eq_true rfl, Nat.le_of_ble_eq_true rfl⟩, ⟨Nat.le_refl _, Nat.le_refl _⟩⟩ ⟨w_379, w_380⟩ rfl hl.1 rfl (Nat.le_of_ble_eq_true rfl) dX8_undo_76) (fun hv12 h H locs hW hS => ?_)
      refine lv_aload_n hx hb dX8_undo_79 rfl (lv_at hl 1 rfl) ?_
      refine w_get (v := .int (hv12 8 0 2)) C0 hW 8 0 (by decide) (by decide) rfl rfl in_X8 2 (by decide) w_286 rfl dX8_undo_80 ?_
      exact w_iret C0 hr hW hS h dX8_undo_83
  · have h := h.2 c1
    refine lv_sipush (v := (-1005)) hx hb dX8_undo_8 (by decide) ?_
    exact w_iret C0 hr hW hS h dX8_undo_11

theorem pl_X8_time : yX8_time.cls ≠ "java/lang/invoke/MethodHandle" ∧ yX8_time.cls ≠ "java/lang/invoke/VarHandle" ∧ (parseMethodDescriptor yX8_time.desc).map (fun d => d.parameters.length) = some 0 := ⟨by decide +kernel, by decide +kernel, by decide +kernel⟩
def V_X8_time  (hv : HV) (post : Int32 → HV → Prop) : Prop := post (hv 7 0 0) hv
set_option maxHeartbeats 4000000 in
theorem c_X8_time (l : Launch) (G : wG) (A : Nat → Prop) (hv : HV) (post : Int32 → HV → Prop) (h : V_X8_time hv post) : wM l yX8_time cX8_time 1 ((Option.some FieldType.int)) 0 G A hv [.ref (ad G 8 0)] (qI G A post) := by
  refine wM_of (by decide +kernel) (Nat.le_of_ble_eq_true rfl) ?_
  intro p e s m args below meth c C0 hr ls hl hW hS
  have hx := C0.1
  have hb := C0.2.1
  have hown := C0.2.2.2.1
  have hts := C0.2.2.2.2.1
  have hl : lv_has ls 1 [(0, .ref (ad G 8 0))] := hl
  unfold V_X8_time at h
  refine lv_aload_n hx hb dX8_time_0 rfl (lv_at hl 0 rfl) ?_
  refine w_get (v := .ref (ad G 7 0)) C0 hW 8 0 (by decide) (by decide) rfl rfl in_X8 0 (by decide) w_284 rfl dX8_time_1 ?_
  refine w_get (v := .int (hv 7 0 0)) C0 hW 7 0 (by decide) (by decide) rfl rfl in_X7 0 (by decide) w_187 rfl dX8_time_4 ?_
  exact w_iret C0 hr hW hS h dX8_time_7

theorem pl_X8_basin : yX8_basin.cls ≠ "java/lang/invoke/MethodHandle" ∧ yX8_basin.cls ≠ "java/lang/invoke/VarHandle" ∧ (parseMethodDescriptor yX8_basin.desc).map (fun d => d.parameters.length) = some 0 := ⟨by decide +kernel, by decide +kernel, by decide +kernel⟩
def V_X8_basin  (hv : HV) (post : Int32 → HV → Prop) : Prop := post (hv 7 0 1) hv
set_option maxHeartbeats 4000000 in
theorem c_X8_basin (l : Launch) (G : wG) (A : Nat → Prop) (hv : HV) (post : Int32 → HV → Prop) (h : V_X8_basin hv post) : wM l yX8_basin cX8_basin 1 ((Option.some FieldType.int)) 0 G A hv [.ref (ad G 8 0)] (qI G A post) := by
  refine wM_of (by decide +kernel) (Nat.le_of_ble_eq_true rfl) ?_
  intro p e s m args below meth c C0 hr ls hl hW hS
  have hx := C0.1
  have hb := C0.2.1
  have hown := C0.2.2.2.1
  have hts := C0.2.2.2.2.1
  have hl : lv_has ls 1 [(0, .ref (ad G 8 0))] := hl
  unfold V_X8_basin at h
  refine lv_aload_n hx hb dX8_basin_0 rfl (lv_at hl 0 rfl) ?_
  refine w_get (v := .ref (ad G 7 0)) C0 hW 8 0 (by decide) (by decide) rfl rfl in_X8 0 (by decide) w_284 rfl dX8_basin_1 ?_
  refine w_get (v := .int (hv 7 0 1)) C0 hW 7 0 (by decide) (by decide) rfl rfl in_X7 1 (by decide) w_189 rfl dX8_basin_4 ?_
  exact w_iret C0 hr hW hS h dX8_basin_7

theorem pl_X8_spilled : yX8_spilled.cls ≠ "java/lang/invoke/MethodHandle" ∧ yX8_spilled.cls ≠ "java/lang/invoke/VarHandle" ∧ (parseMethodDescriptor yX8_spilled.desc).map (fun d => d.parameters.length) = some 0 := ⟨by decide +kernel, by decide +kernel, by decide +kernel⟩
def V_X8_spilled  (hv : HV) (post : Int32 → HV → Prop) : Prop := post (hv 7 0 2) hv
set_option maxHeartbeats 4000000 in
theorem c_X8_spilled (l : Launch) (G : wG) (A : Nat → Prop) (hv : HV) (post : Int32 → HV → Prop) (h : V_X8_spilled hv post) : wM l yX8_spilled cX8_spilled 1 ((Option.some FieldType.int)) 0 G A hv [.ref (ad G 8 0)] (qI G A post) := by
  refine wM_of (by decide +kernel) (Nat.le_of_ble_eq_true rfl) ?_
  intro p e s m args below meth c C0 hr ls hl hW hS
  have hx := C0.1
  have hb := C0.2.1
  have hown := C0.2.2.2.1
  have hts := C0.2.2.2.2.1
  have hl : lv_has ls 1 [(0, .ref (ad G 8 0))] := hl
  unfold V_X8_spilled at h
  refine lv_aload_n hx hb dX8_spilled_0 rfl (lv_at hl 0 rfl) ?_
  refine w_get (v := .ref (ad G 7 0)) C0 hW 8 0 (by decide) (by decide) rfl rfl in_X8 0 (by decide) w_284 rfl dX8_spilled_1 ?_
  refine w_get (v := .int (hv 7 0 2)) C0 hW 7 0 (by decide) (by decide) rfl rfl in_X7 2 (by decide) w_191 rfl dX8_spilled_4 ?_
  exact w_iret C0 hr hW hS h dX8_spilled_7

theorem pl_X8_pumps : yX8_pumps.cls ≠ "java/lang/invoke/MethodHandle" ∧ yX8_pumps.cls ≠ "java/lang/invoke/VarHandle" ∧ (parseMethodDescriptor yX8_pumps.desc).map (fun d => d.parameters.length) = some 0 := ⟨by decide +kernel, by decide +kernel, by decide +kernel⟩
def V_X8_pumps  (hv : HV) (post : Int32 → HV → Prop) : Prop := post (hv 7 0 4) hv
set_option maxHeartbeats 4000000 in
theorem c_X8_pumps (l : Launch) (G : wG) (A : Nat → Prop) (hv : HV) (post : Int32 → HV → Prop) (h : V_X8_pumps hv post) : wM l yX8_pumps cX8_pumps 1 ((Option.some FieldType.int)) 0 G A hv [.ref (ad G 8 0)] (qI G A post) := by
  refine wM_of (by decide +kernel) (Nat.le_of_ble_eq_true rfl) ?_
  intro p e s m args below meth c C0 hr ls hl hW hS
  have hx := C0.1
  have hb := C0.2.1
  have hown := C0.2.2.2.1
  have hts := C0.2.2.2.2.1
  have hl : lv_has ls 1 [(0, .ref (ad G 8 0))] := hl
  unfold V_X8_pumps at h
  refine lv_aload_n hx hb dX8_pumps_0 rfl (lv_at hl 0 rfl) ?_
  refine w_get (v := .ref (ad G 7 0)) C0 hW 8 0 (by decide) (by decide) rfl rfl in_X8 0 (by decide) w_284 rfl dX8_pumps_1 ?_
  refine w_get (v := .int (hv 7 0 4)) C0 hW 7 0 (by decide) (by decide) rfl rfl in_X7 4 (by decide) w_195 rfl dX8_pumps_4 ?_
  exact w_iret C0 hr hW hS h dX8_pumps_7

theorem pl_X8_incidents : yX8_incidents.cls ≠ "java/lang/invoke/MethodHandle" ∧ yX8_incidents.cls ≠ "java/lang/invoke/VarHandle" ∧ (parseMethodDescriptor yX8_incidents.desc).map (fun d => d.parameters.length) = some 0 := ⟨by decide +kernel, by decide +kernel, by decide +kernel⟩
def V_X8_incidents  (hv : HV) (post : Int32 → HV → Prop) : Prop := post (hv 3 0 0) hv
set_option maxHeartbeats 4000000 in
theorem c_X8_incidents (l : Launch) (G : wG) (A : Nat → Prop) (hv : HV) (post : Int32 → HV → Prop) (h : V_X8_incidents hv post) : wM l yX8_incidents cX8_incidents 1 ((Option.some FieldType.int)) 0 G A hv [.ref (ad G 8 0)] (qI G A post) := by
  refine wM_of (by decide +kernel) (Nat.le_of_ble_eq_true rfl) ?_
  intro p e s m args below meth c C0 hr ls hl hW hS
  have hx := C0.1
  have hb := C0.2.1
  have hown := C0.2.2.2.1
  have hts := C0.2.2.2.2.1
  have hl : lv_has ls 1 [(0, .ref (ad G 8 0))] := hl
  unfold V_X8_incidents at h
  refine lv_aload_n hx hb dX8_incidents_0 rfl (lv_at hl 0 rfl) ?_
  refine w_get (v := .ref (ad G 3 0)) C0 hW 8 0 (by decide) (by decide) rfl rfl in_X8 7 (by decide) w_291 rfl dX8_incidents_1 ?_
  refine w_get (v := .int (hv 3 0 0)) C0 hW 3 0 (by decide) (by decide) rfl rfl in_X3 0 (by decide) w_234 rfl dX8_incidents_4 ?_
  exact w_iret C0 hr hW hS h dX8_incidents_7

theorem pl_X8_incidentKind : yX8_incidentKind.cls ≠ "java/lang/invoke/MethodHandle" ∧ yX8_incidentKind.cls ≠ "java/lang/invoke/VarHandle" ∧ (parseMethodDescriptor yX8_incidentKind.desc).map (fun d => d.parameters.length) = some 1 := ⟨by decide +kernel, by decide +kernel, by decide +kernel⟩
def V_X8_incidentKind (a1 : Int32) (hv : HV) (post : Int32 → HV → Prop) : Prop := ((0 ≤ a1 → (V_X6_latest 74 a1 hv (fun r2 hv2 => post r2 hv2))) ∧ (¬ (0 ≤ a1) → post (-1002) hv))
set_option maxHeartbeats 4000000 in
theorem c_X8_incidentKind (l : Launch) (G : wG) (A : Nat → Prop) (a1 : Int32) (hv : HV) (post : Int32 → HV → Prop) (h : V_X8_incidentKind a1 hv post) : wM l yX8_incidentKind cX8_incidentKind 2 ((Option.some FieldType.int)) 2 G A hv [.ref (ad G 8 0), .int a1] (qI G A post) := by
  refine wM_of (by decide +kernel) (Nat.le_of_ble_eq_true rfl) ?_
  intro p e s m args below meth c C0 hr ls hl hW hS
  have hx := C0.1
  have hb := C0.2.1
  have hown := C0.2.2.2.1
  have hts := C0.2.2.2.2.1
  have hl : lv_has ls 2 [(0, .ref (ad G 8 0)), (1, .int a1)] := hl
  unfold V_X8_incidentKind at h
  refine lv_iload_n hx hb dX8_incidentKind_0 rfl (lv_at hl 1 rfl) ?_
  refine lv_if_ge (tgt := 10) hx hb dX8_incidentKind_1 (by decide) (fun c1 => ?_) (fun c1 => ?_)
  · have h := h.1 c1
    refine lv_aload_n hx hb dX8_incidentKind_10 rfl (lv_at hl 0 rfl) ?_
    refine w_get (v := .ref (ad G 3 0)) C0 hW 8 0 (by decide) (by decide) rfl rfl in_X8 7 (by decide) w_291 rfl dX8_incidentKind_11 ?_
    refine w_get (v := .ref (ad G 6 74)) C0 hW 3 0 (by decide) (by decide) rfl rfl in_X3 1 (by decide) w_236 rfl dX8_incidentKind_14 ?_
    refine lv_iload_n hx hb dX8_incidentKind_17 rfl (lv_at hl 1 rfl) ?_
    refine w_ci hS (w_runV (As := [.int a1]) C0 hW 6 74 (by decide) (by decide) rfl rfl (c_X6_latest l G A 74 a1 (by decide) hv _ h) ⟨⟨w_331, w_11, w_334⟩, pl_X6_latest, ⟨Nat.le_of_ble_eq_true rfl, Nat.le_of_ble_eq_true rfl⟩, ⟨Nat.le_refl _, Nat.le_refl _⟩⟩ ⟨w_332, w_333⟩ rfl hl.1 rfl (Nat.le_of_ble_eq_true rfl) dX8_incidentKind_18) (fun r2 hv2 h H locs hW hS => ?_)
    exact w_iret C0 hr hW hS h dX8_incidentKind_21
  · have h := h.2 c1
    refine lv_sipush (v := (-1002)) hx hb dX8_incidentKind_4 (by decide) ?_
    refine lv_goto (tgt := 21) hx hb dX8_incidentKind_7 (by decide) ?_
    exact w_iret C0 hr hW hS h dX8_incidentKind_21

theorem pl_X8_incidentPump : yX8_incidentPump.cls ≠ "java/lang/invoke/MethodHandle" ∧ yX8_incidentPump.cls ≠ "java/lang/invoke/VarHandle" ∧ (parseMethodDescriptor yX8_incidentPump.desc).map (fun d => d.parameters.length) = some 1 := ⟨by decide +kernel, by decide +kernel, by decide +kernel⟩
def V_X8_incidentPump (a1 : Int32) (hv : HV) (post : Int32 → HV → Prop) : Prop := ((0 ≤ a1 → (V_X6_latest 75 a1 hv (fun r2 hv2 => post r2 hv2))) ∧ (¬ (0 ≤ a1) → post (-1002) hv))
set_option maxHeartbeats 4000000 in
theorem c_X8_incidentPump (l : Launch) (G : wG) (A : Nat → Prop) (a1 : Int32) (hv : HV) (post : Int32 → HV → Prop) (h : V_X8_incidentPump a1 hv post) : wM l yX8_incidentPump cX8_incidentPump 2 ((Option.some FieldType.int)) 2 G A hv [.ref (ad G 8 0), .int a1] (qI G A post) := by
  refine wM_of (by decide +kernel) (Nat.le_of_ble_eq_true rfl) ?_
  intro p e s m args below meth c C0 hr ls hl hW hS
  have hx := C0.1
  have hb := C0.2.1
  have hown := C0.2.2.2.1
  have hts := C0.2.2.2.2.1
  have hl : lv_has ls 2 [(0, .ref (ad G 8 0)), (1, .int a1)] := hl
  unfold V_X8_incidentPump at h
  refine lv_iload_n hx hb dX8_incidentPump_0 rfl (lv_at hl 1 rfl) ?_
  refine lv_if_ge (tgt := 10) hx hb dX8_incidentPump_1 (by decide) (fun c1 => ?_) (fun c1 => ?_)
  · have h := h.1 c1
    refine lv_aload_n hx hb dX8_incidentPump_10 rfl (lv_at hl 0 rfl) ?_
    refine w_get (v := .ref (ad G 3 0)) C0 hW 8 0 (by decide) (by decide) rfl rfl in_X8 7 (by decide) w_291 rfl dX8_incidentPump_11 ?_
    refine w_get (v := .ref (ad G 6 75)) C0 hW 3 0 (by decide) (by decide) rfl rfl in_X3 2 (by decide) w_238 rfl dX8_incidentPump_14 ?_
    refine lv_iload_n hx hb dX8_incidentPump_17 rfl (lv_at hl 1 rfl) ?_
    refine w_ci hS (w_runV (As := [.int a1]) C0 hW 6 75 (by decide) (by decide) rfl rfl (c_X6_latest l G A 75 a1 (by decide) hv _ h) ⟨⟨w_331, w_11, w_334⟩, pl_X6_latest, ⟨Nat.le_of_ble_eq_true rfl, Nat.le_of_ble_eq_true rfl⟩, ⟨Nat.le_refl _, Nat.le_refl _⟩⟩ ⟨w_332, w_333⟩ rfl hl.1 rfl (Nat.le_of_ble_eq_true rfl) dX8_incidentPump_18) (fun r2 hv2 h H locs hW hS => ?_)
    exact w_iret C0 hr hW hS h dX8_incidentPump_21
  · have h := h.2 c1
    refine lv_sipush (v := (-1002)) hx hb dX8_incidentPump_4 (by decide) ?_
    refine lv_goto (tgt := 21) hx hb dX8_incidentPump_7 (by decide) ?_
    exact w_iret C0 hr hW hS h dX8_incidentPump_21

theorem pl_X8_incidentTime : yX8_incidentTime.cls ≠ "java/lang/invoke/MethodHandle" ∧ yX8_incidentTime.cls ≠ "java/lang/invoke/VarHandle" ∧ (parseMethodDescriptor yX8_incidentTime.desc).map (fun d => d.parameters.length) = some 1 := ⟨by decide +kernel, by decide +kernel, by decide +kernel⟩
def V_X8_incidentTime (a1 : Int32) (hv : HV) (post : Int32 → HV → Prop) : Prop := ((0 ≤ a1 → (V_X6_latest 76 a1 hv (fun r2 hv2 => post r2 hv2))) ∧ (¬ (0 ≤ a1) → post (-1002) hv))
set_option maxHeartbeats 4000000 in
theorem c_X8_incidentTime (l : Launch) (G : wG) (A : Nat → Prop) (a1 : Int32) (hv : HV) (post : Int32 → HV → Prop) (h : V_X8_incidentTime a1 hv post) : wM l yX8_incidentTime cX8_incidentTime 2 ((Option.some FieldType.int)) 2 G A hv [.ref (ad G 8 0), .int a1] (qI G A post) := by
  refine wM_of (by decide +kernel) (Nat.le_of_ble_eq_true rfl) ?_
  intro p e s m args below meth c C0 hr ls hl hW hS
  have hx := C0.1
  have hb := C0.2.1
  have hown := C0.2.2.2.1
  have hts := C0.2.2.2.2.1
  have hl : lv_has ls 2 [(0, .ref (ad G 8 0)), (1, .int a1)] := hl
  unfold V_X8_incidentTime at h
  refine lv_iload_n hx hb dX8_incidentTime_0 rfl (lv_at hl 1 rfl) ?_
  refine lv_if_ge (tgt := 10) hx hb dX8_incidentTime_1 (by decide) (fun c1 => ?_) (fun c1 => ?_)
  · have h := h.1 c1
    refine lv_aload_n hx hb dX8_incidentTime_10 rfl (lv_at hl 0 rfl) ?_
    refine w_get (v := .ref (ad G 3 0)) C0 hW 8 0 (by decide) (by decide) rfl rfl in_X8 7 (by decide) w_291 rfl dX8_incidentTime_11 ?_
    refine w_get (v := .ref (ad G 6 76)) C0 hW 3 0 (by decide) (by decide) rfl rfl in_X3 3 (by decide) w_240 rfl dX8_incidentTime_14 ?_
    refine lv_iload_n hx hb dX8_incidentTime_17 rfl (lv_at hl 1 rfl) ?_
    refine w_ci hS (w_runV (As := [.int a1]) C0 hW 6 76 (by decide) (by decide) rfl rfl (c_X6_latest l G A 76 a1 (by decide) hv _ h) ⟨⟨w_331, w_11, w_334⟩, pl_X6_latest, ⟨Nat.le_of_ble_eq_true rfl, Nat.le_of_ble_eq_true rfl⟩, ⟨Nat.le_refl _, Nat.le_refl _⟩⟩ ⟨w_332, w_333⟩ rfl hl.1 rfl (Nat.le_of_ble_eq_true rfl) dX8_incidentTime_18) (fun r2 hv2 h H locs hW hS => ?_)
    exact w_iret C0 hr hW hS h dX8_incidentTime_21
  · have h := h.2 c1
    refine lv_sipush (v := (-1002)) hx hb dX8_incidentTime_4 (by decide) ?_
    refine lv_goto (tgt := 21) hx hb dX8_incidentTime_7 (by decide) ?_
    exact w_iret C0 hr hW hS h dX8_incidentTime_21

theorem pl_X8_phase : yX8_phase.cls ≠ "java/lang/invoke/MethodHandle" ∧ yX8_phase.cls ≠ "java/lang/invoke/VarHandle" ∧ (parseMethodDescriptor yX8_phase.desc).map (fun d => d.parameters.length) = some 1 := ⟨by decide +kernel, by decide +kernel, by decide +kernel⟩
def V_X8_phase (a1 : Int32) (hv : HV) (post : Int32 → HV → Prop) : Prop := (V_X7_pumpAt 0 a1 hv (fun o1 hv1 => (o1 = none → post (-1001) hv1) ∧ (∀ r1 : Nat, o1 = some r1 → r1 < 37 → (((hv1 4 r1 5) = 0 → post 0 hv1) ∧ (¬ ((hv1 4 r1 5) = 0) → (((hv1 4 r1 7) = 0 → post 1 hv1) ∧ (¬ ((hv1 4 r1 7) = 0) → post 2 hv1)))))))
set_option maxHeartbeats 4000000 in
theorem c_X8_phase (l : Launch) (G : wG) (A : Nat → Prop) (a1 : Int32) (hv : HV) (post : Int32 → HV → Prop) (h : V_X8_phase a1 hv post) : wM l yX8_phase cX8_phase 3 ((Option.some FieldType.int)) 2 G A hv [.ref (ad G 8 0), .int a1] (qI G A post) := by
  refine wM_of (by decide +kernel) (Nat.le_of_ble_eq_true rfl) ?_
  intro p e s m args below meth c C0 hr ls hl hW hS
  have hx := C0.1
  have hb := C0.2.1
  have hown := C0.2.2.2.1
  have hts := C0.2.2.2.2.1
  have hl : lv_has ls 3 [(0, .ref (ad G 8 0)), (1, .int a1)] := hl
  unfold V_X8_phase at h
  refine lv_aload_n hx hb dX8_phase_0 rfl (lv_at hl 0 rfl) ?_
  refine w_get (v := .ref (ad G 7 0)) C0 hW 8 0 (by decide) (by decide) rfl rfl in_X8 0 (by decide) w_284 rfl dX8_phase_1 ?_
  refine lv_iload_n hx hb dX8_phase_4 rfl (lv_at hl 1 rfl) ?_
  refine w_cp hS (w_runV (As := [.int a1]) C0 hW 7 0 (by decide) (by decide) rfl rfl (c_X7_pumpAt l G A 0 a1 (by decide) hv _ h) ⟨⟨w_350, w_7, w_353⟩, pl_X7_pumpAt, ⟨Nat.le_of_ble_eq_true rfl, Nat.le_of_ble_eq_true rfl⟩, ⟨Nat.le_refl _, Nat.le_refl _⟩⟩ ⟨w_351, w_352⟩ rfl hl.1 rfl (Nat.le_of_ble_eq_true rfl) dX8_phase_5) (fun hv1 h H locs hW hS => ?_) (fun r1 hv1 b1 h H locs hW hS => ?_)
  · have h := h.1 rfl
    refine lv_astore_nN (lv' := [(2, .null), (0, .ref (ad G 8 0)), (1, .int a1)]) hx hb dX8_phase_8 rfl hl (by decide) rfl (fun ls hl => ?_)
    refine lv_aload_nN hx hb dX8_phase_9 rfl (lv_at hl 0 rfl) ?_
    refine lv_ifnonnullN hx hb dX8_phase_10 ?_
    refine lv_sipush (v := (-1001)) hx hb dX8_phase_13 (by decide) ?_
    exact w_iret C0 hr hW hS h dX8_phase_16
  · have h := h.2 r1 rfl b1
    refine lv_astore_n (lv' := [(2, .ref (ad G 4 r1)), (0, .ref (ad G 8 0)), (1, .int a1)]) hx hb dX8_phase_8 rfl hl (by decide) rfl (fun ls hl => ?_)
    refine lv_aload_n hx hb dX8_phase_9 rfl (lv_at hl 0 rfl) ?_
    refine lv_ifnonnull (tgt := 17) hx hb dX8_phase_10 (by decide) ?_
    refine lv_aload_n hx hb dX8_phase_17 rfl (lv_at hl 0 rfl) ?_
    refine w_get (v := .int (hv1 4 r1 5)) C0 hW 4 r1 (by decide) b1 rfl rfl in_X4 5 (by decide) w_128 rfl dX8_phase_18 ?_
    refine lv_if_ne (tgt := 26) hx hb dX8_phase_21 (by decide) (fun c2 => ?_) (fun c2 => ?_)
    · have h := h.2 c2
      refine lv_aload_n hx hb dX8_phase_26 rfl (lv_at hl 0 rfl) ?_
      refine w_get (v := .int (hv1 4 r1 7)) C0 hW 4 r1 (by decide) b1 rfl rfl in_X4 7 (by decide) w_132 rfl dX8_phase_27 ?_
      refine lv_if_eq (tgt := 37) hx hb dX8_phase_30 (by decide) (fun c3 => ?_) (fun c3 => ?_)
      · have h := h.1 c3
        refine lv_iconst (v := 1) hx hb dX8_phase_37 (by decide) ?_
        exact w_iret C0 hr hW hS h dX8_phase_38
      · have h := h.2 c3
        refine lv_iconst (v := 2) hx hb dX8_phase_33 (by decide) ?_
        refine lv_goto (tgt := 38) hx hb dX8_phase_34 (by decide) ?_
        exact w_iret C0 hr hW hS h dX8_phase_38
    · have h := h.1 c2
      refine lv_iconst (v := 0) hx hb dX8_phase_24 (by decide) ?_
      exact w_iret C0 hr hW hS h dX8_phase_25

theorem pl_X8_speed : yX8_speed.cls ≠ "java/lang/invoke/MethodHandle" ∧ yX8_speed.cls ≠ "java/lang/invoke/VarHandle" ∧ (parseMethodDescriptor yX8_speed.desc).map (fun d => d.parameters.length) = some 1 := ⟨by decide +kernel, by decide +kernel, by decide +kernel⟩
def V_X8_speed (a1 : Int32) (hv : HV) (post : Int32 → HV → Prop) : Prop := (V_X7_pumpAt 0 a1 hv (fun o1 hv1 => (o1 = none → post (-1001) hv1) ∧ (∀ r1 : Nat, o1 = some r1 → r1 < 37 → post (hv1 4 r1 6) hv1)))
set_option maxHeartbeats 4000000 in
theorem c_X8_speed (l : Launch) (G : wG) (A : Nat → Prop) (a1 : Int32) (hv : HV) (post : Int32 → HV → Prop) (h : V_X8_speed a1 hv post) : wM l yX8_speed cX8_speed 3 ((Option.some FieldType.int)) 2 G A hv [.ref (ad G 8 0), .int a1] (qI G A post) := by
  refine wM_of (by decide +kernel) (Nat.le_of_ble_eq_true rfl) ?_
  intro p e s m args below meth c C0 hr ls hl hW hS
  have hx := C0.1
  have hb := C0.2.1
  have hown := C0.2.2.2.1
  have hts := C0.2.2.2.2.1
  have hl : lv_has ls 3 [(0, .ref (ad G 8 0)), (1, .int a1)] := hl
  unfold V_X8_speed at h
  refine lv_aload_n hx hb dX8_speed_0 rfl (lv_at hl 0 rfl) ?_
  refine w_get (v := .ref (ad G 7 0)) C0 hW 8 0 (by decide) (by decide) rfl rfl in_X8 0 (by decide) w_284 rfl dX8_speed_1 ?_
  refine lv_iload_n hx hb dX8_speed_4 rfl (lv_at hl 1 rfl) ?_
  refine w_cp hS (w_runV (As := [.int a1]) C0 hW 7 0 (by decide) (by decide) rfl rfl (c_X7_pumpAt l G A 0 a1 (by decide) hv _ h) ⟨⟨w_350, w_7, w_353⟩, pl_X7_pumpAt, ⟨Nat.le_of_ble_eq_true rfl, Nat.le_of_ble_eq_true rfl⟩, ⟨Nat.le_refl _, Nat.le_refl _⟩⟩ ⟨w_351, w_352⟩ rfl hl.1 rfl (Nat.le_of_ble_eq_true rfl) dX8_speed_5) (fun hv1 h H locs hW hS => ?_) (fun r1 hv1 b1 h H locs hW hS => ?_)
  · have h := h.1 rfl
    refine lv_astore_nN (lv' := [(2, .null), (0, .ref (ad G 8 0)), (1, .int a1)]) hx hb dX8_speed_8 rfl hl (by decide) rfl (fun ls hl => ?_)
    refine lv_aload_nN hx hb dX8_speed_9 rfl (lv_at hl 0 rfl) ?_
    refine lv_ifnonnullN hx hb dX8_speed_10 ?_
    refine lv_sipush (v := (-1001)) hx hb dX8_speed_13 (by decide) ?_
    refine lv_goto (tgt := 23) hx hb dX8_speed_16 (by decide) ?_
    exact w_iret C0 hr hW hS h dX8_speed_23
  · have h := h.2 r1 rfl b1
    refine lv_astore_n (lv' := [(2, .ref (ad G 4 r1)), (0, .ref (ad G 8 0)), (1, .int a1)]) hx hb dX8_speed_8 rfl hl (by decide) rfl (fun ls hl => ?_)
    refine lv_aload_n hx hb dX8_speed_9 rfl (lv_at hl 0 rfl) ?_
    refine lv_ifnonnull (tgt := 19) hx hb dX8_speed_10 (by decide) ?_
    refine lv_aload_n hx hb dX8_speed_19 rfl (lv_at hl 0 rfl) ?_
    refine w_get (v := .int (hv1 4 r1 6)) C0 hW 4 r1 (by decide) b1 rfl rfl in_X4 6 (by decide) w_130 rfl dX8_speed_20 ?_
    exact w_iret C0 hr hW hS h dX8_speed_23

theorem pl_X8_openTicks : yX8_openTicks.cls ≠ "java/lang/invoke/MethodHandle" ∧ yX8_openTicks.cls ≠ "java/lang/invoke/VarHandle" ∧ (parseMethodDescriptor yX8_openTicks.desc).map (fun d => d.parameters.length) = some 1 := ⟨by decide +kernel, by decide +kernel, by decide +kernel⟩
def V_X8_openTicks (a1 : Int32) (hv : HV) (post : Int32 → HV → Prop) : Prop := (V_X7_pumpAt 0 a1 hv (fun o1 hv1 => (o1 = none → post (-1001) hv1) ∧ (∀ r1 : Nat, o1 = some r1 → r1 < 37 → post (hv1 4 r1 8) hv1)))
set_option maxHeartbeats 4000000 in
theorem c_X8_openTicks (l : Launch) (G : wG) (A : Nat → Prop) (a1 : Int32) (hv : HV) (post : Int32 → HV → Prop) (h : V_X8_openTicks a1 hv post) : wM l yX8_openTicks cX8_openTicks 3 ((Option.some FieldType.int)) 2 G A hv [.ref (ad G 8 0), .int a1] (qI G A post) := by
  refine wM_of (by decide +kernel) (Nat.le_of_ble_eq_true rfl) ?_
  intro p e s m args below meth c C0 hr ls hl hW hS
  have hx := C0.1
  have hb := C0.2.1
  have hown := C0.2.2.2.1
  have hts := C0.2.2.2.2.1
  have hl : lv_has ls 3 [(0, .ref (ad G 8 0)), (1, .int a1)] := hl
  unfold V_X8_openTicks at h
  refine lv_aload_n hx hb dX8_openTicks_0 rfl (lv_at hl 0 rfl) ?_
  refine w_get (v := .ref (ad G 7 0)) C0 hW 8 0 (by decide) (by decide) rfl rfl in_X8 0 (by decide) w_284 rfl dX8_openTicks_1 ?_
  refine lv_iload_n hx hb dX8_openTicks_4 rfl (lv_at hl 1 rfl) ?_
  refine w_cp hS (w_runV (As := [.int a1]) C0 hW 7 0 (by decide) (by decide) rfl rfl (c_X7_pumpAt l G A 0 a1 (by decide) hv _ h) ⟨⟨w_350, w_7, w_353⟩, pl_X7_pumpAt, ⟨Nat.le_of_ble_eq_true rfl, Nat.le_of_ble_eq_true rfl⟩, ⟨Nat.le_refl _, Nat.le_refl _⟩⟩ ⟨w_351, w_352⟩ rfl hl.1 rfl (Nat.le_of_ble_eq_true rfl) dX8_openTicks_5) (fun hv1 h H locs hW hS => ?_) (fun r1 hv1 b1 h H locs hW hS => ?_)
  · have h := h.1 rfl
    refine lv_astore_nN (lv' := [(2, .null), (0, .ref (ad G 8 0)), (1, .int a1)]) hx hb dX8_openTicks_8 rfl hl (by decide) rfl (fun ls hl => ?_)
    refine lv_aload_nN hx hb dX8_openTicks_9 rfl (lv_at hl 0 rfl) ?_
    refine lv_ifnonnullN hx hb dX8_openTicks_10 ?_
    refine lv_sipush (v := (-1001)) hx hb dX8_openTicks_13 (by decide) ?_
    refine lv_goto (tgt := 23) hx hb dX8_openTicks_16 (by decide) ?_
    exact w_iret C0 hr hW hS h dX8_openTicks_23
  · have h := h.2 r1 rfl b1
    refine lv_astore_n (lv' := [(2, .ref (ad G 4 r1)), (0, .ref (ad G 8 0)), (1, .int a1)]) hx hb dX8_openTicks_8 rfl hl (by decide) rfl (fun ls hl => ?_)
    refine lv_aload_n hx hb dX8_openTicks_9 rfl (lv_at hl 0 rfl) ?_
    refine lv_ifnonnull (tgt := 19) hx hb dX8_openTicks_10 (by decide) ?_
    refine lv_aload_n hx hb dX8_openTicks_19 rfl (lv_at hl 0 rfl) ?_
    refine w_get (v := .int (hv1 4 r1 8)) C0 hW 4 r1 (by decide) b1 rfl rfl in_X4 8 (by decide) w_134 rfl dX8_openTicks_20 ?_
    exact w_iret C0 hr hW hS h dX8_openTicks_23

theorem pl_X8_chamberWater : yX8_chamberWater.cls ≠ "java/lang/invoke/MethodHandle" ∧ yX8_chamberWater.cls ≠ "java/lang/invoke/VarHandle" ∧ (parseMethodDescriptor yX8_chamberWater.desc).map (fun d => d.parameters.length) = some 1 := ⟨by decide +kernel, by decide +kernel, by decide +kernel⟩
def V_X8_chamberWater (a1 : Int32) (hv : HV) (post : Int32 → HV → Prop) : Prop := (V_X7_pumpAt 0 a1 hv (fun o1 hv1 => (o1 = none → post (-1001) hv1) ∧ (∀ r1 : Nat, o1 = some r1 → r1 < 37 → post (hv1 0 r1 3) hv1)))
set_option maxHeartbeats 4000000 in
theorem c_X8_chamberWater (l : Launch) (G : wG) (A : Nat → Prop) (a1 : Int32) (hv : HV) (post : Int32 → HV → Prop) (h : V_X8_chamberWater a1 hv post) : wM l yX8_chamberWater cX8_chamberWater 3 ((Option.some FieldType.int)) 2 G A hv [.ref (ad G 8 0), .int a1] (qI G A post) := by
  refine wM_of (by decide +kernel) (Nat.le_of_ble_eq_true rfl) ?_
  intro p e s m args below meth c C0 hr ls hl hW hS
  have hx := C0.1
  have hb := C0.2.1
  have hown := C0.2.2.2.1
  have hts := C0.2.2.2.2.1
  have hl : lv_has ls 3 [(0, .ref (ad G 8 0)), (1, .int a1)] := hl
  unfold V_X8_chamberWater at h
  refine lv_aload_n hx hb dX8_chamberWater_0 rfl (lv_at hl 0 rfl) ?_
  refine w_get (v := .ref (ad G 7 0)) C0 hW 8 0 (by decide) (by decide) rfl rfl in_X8 0 (by decide) w_284 rfl dX8_chamberWater_1 ?_
  refine lv_iload_n hx hb dX8_chamberWater_4 rfl (lv_at hl 1 rfl) ?_
  refine w_cp hS (w_runV (As := [.int a1]) C0 hW 7 0 (by decide) (by decide) rfl rfl (c_X7_pumpAt l G A 0 a1 (by decide) hv _ h) ⟨⟨w_350, w_7, w_353⟩, pl_X7_pumpAt, ⟨Nat.le_of_ble_eq_true rfl, Nat.le_of_ble_eq_true rfl⟩, ⟨Nat.le_refl _, Nat.le_refl _⟩⟩ ⟨w_351, w_352⟩ rfl hl.1 rfl (Nat.le_of_ble_eq_true rfl) dX8_chamberWater_5) (fun hv1 h H locs hW hS => ?_) (fun r1 hv1 b1 h H locs hW hS => ?_)
  · have h := h.1 rfl
    refine lv_astore_nN (lv' := [(2, .null), (0, .ref (ad G 8 0)), (1, .int a1)]) hx hb dX8_chamberWater_8 rfl hl (by decide) rfl (fun ls hl => ?_)
    refine lv_aload_nN hx hb dX8_chamberWater_9 rfl (lv_at hl 0 rfl) ?_
    refine lv_ifnonnullN hx hb dX8_chamberWater_10 ?_
    refine lv_sipush (v := (-1001)) hx hb dX8_chamberWater_13 (by decide) ?_
    refine lv_goto (tgt := 26) hx hb dX8_chamberWater_16 (by decide) ?_
    exact w_iret C0 hr hW hS h dX8_chamberWater_26
  · have h := h.2 r1 rfl b1
    refine lv_astore_n (lv' := [(2, .ref (ad G 4 r1)), (0, .ref (ad G 8 0)), (1, .int a1)]) hx hb dX8_chamberWater_8 rfl hl (by decide) rfl (fun ls hl => ?_)
    refine lv_aload_n hx hb dX8_chamberWater_9 rfl (lv_at hl 0 rfl) ?_
    refine lv_ifnonnull (tgt := 19) hx hb dX8_chamberWater_10 (by decide) ?_
    refine lv_aload_n hx hb dX8_chamberWater_19 rfl (lv_at hl 0 rfl) ?_
    refine w_get (v := .ref (ad G 0 r1)) C0 hW 4 r1 (by decide) b1 rfl rfl in_X4 13 (by decide) w_144 rfl dX8_chamberWater_20 ?_
    refine w_get (v := .int (hv1 0 r1 3)) C0 hW 0 r1 (by decide) (show r1 < 37 by omega) rfl rfl in_X0 3 (by decide) w_49 rfl dX8_chamberWater_23 ?_
    exact w_iret C0 hr hW hS h dX8_chamberWater_26

theorem pl_X8_chamberHead : yX8_chamberHead.cls ≠ "java/lang/invoke/MethodHandle" ∧ yX8_chamberHead.cls ≠ "java/lang/invoke/VarHandle" ∧ (parseMethodDescriptor yX8_chamberHead.desc).map (fun d => d.parameters.length) = some 1 := ⟨by decide +kernel, by decide +kernel, by decide +kernel⟩
def V_X8_chamberHead (a1 : Int32) (hv : HV) (post : Int32 → HV → Prop) : Prop := (V_X7_pumpAt 0 a1 hv (fun o1 hv1 => (o1 = none → post (-1001) hv1) ∧ (∀ r1 : Nat, o1 = some r1 → r1 < 37 → (V_X0_head r1 hv1 (fun r2 hv2 => post r2 hv2)))))
set_option maxHeartbeats 4000000 in
theorem c_X8_chamberHead (l : Launch) (G : wG) (A : Nat → Prop) (a1 : Int32) (hv : HV) (post : Int32 → HV → Prop) (h : V_X8_chamberHead a1 hv post) : wM l yX8_chamberHead cX8_chamberHead 3 ((Option.some FieldType.int)) 2 G A hv [.ref (ad G 8 0), .int a1] (qI G A post) := by
  refine wM_of (by decide +kernel) (Nat.le_of_ble_eq_true rfl) ?_
  intro p e s m args below meth c C0 hr ls hl hW hS
  have hx := C0.1
  have hb := C0.2.1
  have hown := C0.2.2.2.1
  have hts := C0.2.2.2.2.1
  have hl : lv_has ls 3 [(0, .ref (ad G 8 0)), (1, .int a1)] := hl
  unfold V_X8_chamberHead at h
  refine lv_aload_n hx hb dX8_chamberHead_0 rfl (lv_at hl 0 rfl) ?_
  refine w_get (v := .ref (ad G 7 0)) C0 hW 8 0 (by decide) (by decide) rfl rfl in_X8 0 (by decide) w_284 rfl dX8_chamberHead_1 ?_
  refine lv_iload_n hx hb dX8_chamberHead_4 rfl (lv_at hl 1 rfl) ?_
  refine w_cp hS (w_runV (As := [.int a1]) C0 hW 7 0 (by decide) (by decide) rfl rfl (c_X7_pumpAt l G A 0 a1 (by decide) hv _ h) ⟨⟨w_350, w_7, w_353⟩, pl_X7_pumpAt, ⟨Nat.le_of_ble_eq_true rfl, Nat.le_of_ble_eq_true rfl⟩, ⟨Nat.le_refl _, Nat.le_refl _⟩⟩ ⟨w_351, w_352⟩ rfl hl.1 rfl (Nat.le_of_ble_eq_true rfl) dX8_chamberHead_5) (fun hv1 h H locs hW hS => ?_) (fun r1 hv1 b1 h H locs hW hS => ?_)
  · have h := h.1 rfl
    refine lv_astore_nN (lv' := [(2, .null), (0, .ref (ad G 8 0)), (1, .int a1)]) hx hb dX8_chamberHead_8 rfl hl (by decide) rfl (fun ls hl => ?_)
    refine lv_aload_nN hx hb dX8_chamberHead_9 rfl (lv_at hl 0 rfl) ?_
    refine lv_ifnonnullN hx hb dX8_chamberHead_10 ?_
    refine lv_sipush (v := (-1001)) hx hb dX8_chamberHead_13 (by decide) ?_
    refine lv_goto (tgt := 26) hx hb dX8_chamberHead_16 (by decide) ?_
    exact w_iret C0 hr hW hS h dX8_chamberHead_26
  · have h := h.2 r1 rfl b1
    refine lv_astore_n (lv' := [(2, .ref (ad G 4 r1)), (0, .ref (ad G 8 0)), (1, .int a1)]) hx hb dX8_chamberHead_8 rfl hl (by decide) rfl (fun ls hl => ?_)
    refine lv_aload_n hx hb dX8_chamberHead_9 rfl (lv_at hl 0 rfl) ?_
    refine lv_ifnonnull (tgt := 19) hx hb dX8_chamberHead_10 (by decide) ?_
    refine lv_aload_n hx hb dX8_chamberHead_19 rfl (lv_at hl 0 rfl) ?_
    refine w_get (v := .ref (ad G 0 r1)) C0 hW 4 r1 (by decide) b1 rfl rfl in_X4 13 (by decide) w_144 rfl dX8_chamberHead_20 ?_
    refine w_ci hS (w_runV (As := []) C0 hW 0 r1 (by decide) (show r1 < 37 by omega) rfl rfl (c_X0_head l G A r1 (show r1 < 37 by omega) hv1 _ h) ⟨⟨w_577, w_9, w_494⟩, pl_X0_head, ⟨Nat.le_of_ble_eq_true rfl, Nat.le_of_ble_eq_true rfl⟩, ⟨Nat.le_refl _, Nat.le_refl _⟩⟩ ⟨w_492, w_493⟩ rfl hl.1 rfl (Nat.le_of_ble_eq_true rfl) dX8_chamberHead_23) (fun r2 hv2 h H locs hW hS => ?_)
    exact w_iret C0 hr hW hS h dX8_chamberHead_26

theorem pl_X8_beats : yX8_beats.cls ≠ "java/lang/invoke/MethodHandle" ∧ yX8_beats.cls ≠ "java/lang/invoke/VarHandle" ∧ (parseMethodDescriptor yX8_beats.desc).map (fun d => d.parameters.length) = some 1 := ⟨by decide +kernel, by decide +kernel, by decide +kernel⟩
def V_X8_beats (a1 : Int32) (hv : HV) (post : Int32 → HV → Prop) : Prop := (V_X7_pumpAt 0 a1 hv (fun o1 hv1 => (o1 = none → post (-1001) hv1) ∧ (∀ r1 : Nat, o1 = some r1 → r1 < 37 → post (hv1 2 r1 0) hv1)))
set_option maxHeartbeats 4000000 in
theorem c_X8_beats (l : Launch) (G : wG) (A : Nat → Prop) (a1 : Int32) (hv : HV) (post : Int32 → HV → Prop) (h : V_X8_beats a1 hv post) : wM l yX8_beats cX8_beats 3 ((Option.some FieldType.int)) 2 G A hv [.ref (ad G 8 0), .int a1] (qI G A post) := by
  refine wM_of (by decide +kernel) (Nat.le_of_ble_eq_true rfl) ?_
  intro p e s m args below meth c C0 hr ls hl hW hS
  have hx := C0.1
  have hb := C0.2.1
  have hown := C0.2.2.2.1
  have hts := C0.2.2.2.2.1
  have hl : lv_has ls 3 [(0, .ref (ad G 8 0)), (1, .int a1)] := hl
  unfold V_X8_beats at h
  refine lv_aload_n hx hb dX8_beats_0 rfl (lv_at hl 0 rfl) ?_
  refine w_get (v := .ref (ad G 7 0)) C0 hW 8 0 (by decide) (by decide) rfl rfl in_X8 0 (by decide) w_284 rfl dX8_beats_1 ?_
  refine lv_iload_n hx hb dX8_beats_4 rfl (lv_at hl 1 rfl) ?_
  refine w_cp hS (w_runV (As := [.int a1]) C0 hW 7 0 (by decide) (by decide) rfl rfl (c_X7_pumpAt l G A 0 a1 (by decide) hv _ h) ⟨⟨w_350, w_7, w_353⟩, pl_X7_pumpAt, ⟨Nat.le_of_ble_eq_true rfl, Nat.le_of_ble_eq_true rfl⟩, ⟨Nat.le_refl _, Nat.le_refl _⟩⟩ ⟨w_351, w_352⟩ rfl hl.1 rfl (Nat.le_of_ble_eq_true rfl) dX8_beats_5) (fun hv1 h H locs hW hS => ?_) (fun r1 hv1 b1 h H locs hW hS => ?_)
  · have h := h.1 rfl
    refine lv_astore_nN (lv' := [(2, .null), (0, .ref (ad G 8 0)), (1, .int a1)]) hx hb dX8_beats_8 rfl hl (by decide) rfl (fun ls hl => ?_)
    refine lv_aload_nN hx hb dX8_beats_9 rfl (lv_at hl 0 rfl) ?_
    refine lv_ifnonnullN hx hb dX8_beats_10 ?_
    refine lv_sipush (v := (-1001)) hx hb dX8_beats_13 (by decide) ?_
    refine lv_goto (tgt := 26) hx hb dX8_beats_16 (by decide) ?_
    exact w_iret C0 hr hW hS h dX8_beats_26
  · have h := h.2 r1 rfl b1
    refine lv_astore_n (lv' := [(2, .ref (ad G 4 r1)), (0, .ref (ad G 8 0)), (1, .int a1)]) hx hb dX8_beats_8 rfl hl (by decide) rfl (fun ls hl => ?_)
    refine lv_aload_n hx hb dX8_beats_9 rfl (lv_at hl 0 rfl) ?_
    refine lv_ifnonnull (tgt := 19) hx hb dX8_beats_10 (by decide) ?_
    refine lv_aload_n hx hb dX8_beats_19 rfl (lv_at hl 0 rfl) ?_
    refine w_get (v := .ref (ad G 2 r1)) C0 hW 4 r1 (by decide) b1 rfl rfl in_X4 14 (by decide) w_146 rfl dX8_beats_20 ?_
    refine w_get (v := .int (hv1 2 r1 0)) C0 hW 2 r1 (by decide) (show r1 < 37 by omega) rfl rfl in_X2 0 (by decide) w_72 rfl dX8_beats_23 ?_
    exact w_iret C0 hr hW hS h dX8_beats_26

theorem pl_X8_wasted : yX8_wasted.cls ≠ "java/lang/invoke/MethodHandle" ∧ yX8_wasted.cls ≠ "java/lang/invoke/VarHandle" ∧ (parseMethodDescriptor yX8_wasted.desc).map (fun d => d.parameters.length) = some 1 := ⟨by decide +kernel, by decide +kernel, by decide +kernel⟩
def V_X8_wasted (a1 : Int32) (hv : HV) (post : Int32 → HV → Prop) : Prop := (V_X7_pumpAt 0 a1 hv (fun o1 hv1 => (o1 = none → post (-1001) hv1) ∧ (∀ r1 : Nat, o1 = some r1 → r1 < 37 → post (hv1 2 r1 1) hv1)))
set_option maxHeartbeats 4000000 in
theorem c_X8_wasted (l : Launch) (G : wG) (A : Nat → Prop) (a1 : Int32) (hv : HV) (post : Int32 → HV → Prop) (h : V_X8_wasted a1 hv post) : wM l yX8_wasted cX8_wasted 3 ((Option.some FieldType.int)) 2 G A hv [.ref (ad G 8 0), .int a1] (qI G A post) := by
  refine wM_of (by decide +kernel) (Nat.le_of_ble_eq_true rfl) ?_
  intro p e s m args below meth c C0 hr ls hl hW hS
  have hx := C0.1
  have hb := C0.2.1
  have hown := C0.2.2.2.1
  have hts := C0.2.2.2.2.1
  have hl : lv_has ls 3 [(0, .ref (ad G 8 0)), (1, .int a1)] := hl
  unfold V_X8_wasted at h
  refine lv_aload_n hx hb dX8_wasted_0 rfl (lv_at hl 0 rfl) ?_
  refine w_get (v := .ref (ad G 7 0)) C0 hW 8 0 (by decide) (by decide) rfl rfl in_X8 0 (by decide) w_284 rfl dX8_wasted_1 ?_
  refine lv_iload_n hx hb dX8_wasted_4 rfl (lv_at hl 1 rfl) ?_
  refine w_cp hS (w_runV (As := [.int a1]) C0 hW 7 0 (by decide) (by decide) rfl rfl (c_X7_pumpAt l G A 0 a1 (by decide) hv _ h) ⟨⟨w_350, w_7, w_353⟩, pl_X7_pumpAt, ⟨Nat.le_of_ble_eq_true rfl, Nat.le_of_ble_eq_true rfl⟩, ⟨Nat.le_refl _, Nat.le_refl _⟩⟩ ⟨w_351, w_352⟩ rfl hl.1 rfl (Nat.le_of_ble_eq_true rfl) dX8_wasted_5) (fun hv1 h H locs hW hS => ?_) (fun r1 hv1 b1 h H locs hW hS => ?_)
  · have h := h.1 rfl
    refine lv_astore_nN (lv' := [(2, .null), (0, .ref (ad G 8 0)), (1, .int a1)]) hx hb dX8_wasted_8 rfl hl (by decide) rfl (fun ls hl => ?_)
    refine lv_aload_nN hx hb dX8_wasted_9 rfl (lv_at hl 0 rfl) ?_
    refine lv_ifnonnullN hx hb dX8_wasted_10 ?_
    refine lv_sipush (v := (-1001)) hx hb dX8_wasted_13 (by decide) ?_
    refine lv_goto (tgt := 26) hx hb dX8_wasted_16 (by decide) ?_
    exact w_iret C0 hr hW hS h dX8_wasted_26
  · have h := h.2 r1 rfl b1
    refine lv_astore_n (lv' := [(2, .ref (ad G 4 r1)), (0, .ref (ad G 8 0)), (1, .int a1)]) hx hb dX8_wasted_8 rfl hl (by decide) rfl (fun ls hl => ?_)
    refine lv_aload_n hx hb dX8_wasted_9 rfl (lv_at hl 0 rfl) ?_
    refine lv_ifnonnull (tgt := 19) hx hb dX8_wasted_10 (by decide) ?_
    refine lv_aload_n hx hb dX8_wasted_19 rfl (lv_at hl 0 rfl) ?_
    refine w_get (v := .ref (ad G 2 r1)) C0 hW 4 r1 (by decide) b1 rfl rfl in_X4 14 (by decide) w_146 rfl dX8_wasted_20 ?_
    refine w_get (v := .int (hv1 2 r1 1)) C0 hW 2 r1 (by decide) (show r1 < 37 by omega) rfl rfl in_X2 1 (by decide) w_75 rfl dX8_wasted_23 ?_
    exact w_iret C0 hr hW hS h dX8_wasted_26

theorem pl_X8_relieved : yX8_relieved.cls ≠ "java/lang/invoke/MethodHandle" ∧ yX8_relieved.cls ≠ "java/lang/invoke/VarHandle" ∧ (parseMethodDescriptor yX8_relieved.desc).map (fun d => d.parameters.length) = some 1 := ⟨by decide +kernel, by decide +kernel, by decide +kernel⟩
def V_X8_relieved (a1 : Int32) (hv : HV) (post : Int32 → HV → Prop) : Prop := (V_X7_pumpAt 0 a1 hv (fun o1 hv1 => (o1 = none → post (-1001) hv1) ∧ (∀ r1 : Nat, o1 = some r1 → r1 < 37 → post (hv1 2 r1 2) hv1)))
set_option maxHeartbeats 4000000 in
theorem c_X8_relieved (l : Launch) (G : wG) (A : Nat → Prop) (a1 : Int32) (hv : HV) (post : Int32 → HV → Prop) (h : V_X8_relieved a1 hv post) : wM l yX8_relieved cX8_relieved 3 ((Option.some FieldType.int)) 2 G A hv [.ref (ad G 8 0), .int a1] (qI G A post) := by
  refine wM_of (by decide +kernel) (Nat.le_of_ble_eq_true rfl) ?_
  intro p e s m args below meth c C0 hr ls hl hW hS
  have hx := C0.1
  have hb := C0.2.1
  have hown := C0.2.2.2.1
  have hts := C0.2.2.2.2.1
  have hl : lv_has ls 3 [(0, .ref (ad G 8 0)), (1, .int a1)] := hl
  unfold V_X8_relieved at h
  refine lv_aload_n hx hb dX8_relieved_0 rfl (lv_at hl 0 rfl) ?_
  refine w_get (v := .ref (ad G 7 0)) C0 hW 8 0 (by decide) (by decide) rfl rfl in_X8 0 (by decide) w_284 rfl dX8_relieved_1 ?_
  refine lv_iload_n hx hb dX8_relieved_4 rfl (lv_at hl 1 rfl) ?_
  refine w_cp hS (w_runV (As := [.int a1]) C0 hW 7 0 (by decide) (by decide) rfl rfl (c_X7_pumpAt l G A 0 a1 (by decide) hv _ h) ⟨⟨w_350, w_7, w_353⟩, pl_X7_pumpAt, ⟨Nat.le_of_ble_eq_true rfl, Nat.le_of_ble_eq_true rfl⟩, ⟨Nat.le_refl _, Nat.le_refl _⟩⟩ ⟨w_351, w_352⟩ rfl hl.1 rfl (Nat.le_of_ble_eq_true rfl) dX8_relieved_5) (fun hv1 h H locs hW hS => ?_) (fun r1 hv1 b1 h H locs hW hS => ?_)
  · have h := h.1 rfl
    refine lv_astore_nN (lv' := [(2, .null), (0, .ref (ad G 8 0)), (1, .int a1)]) hx hb dX8_relieved_8 rfl hl (by decide) rfl (fun ls hl => ?_)
    refine lv_aload_nN hx hb dX8_relieved_9 rfl (lv_at hl 0 rfl) ?_
    refine lv_ifnonnullN hx hb dX8_relieved_10 ?_
    refine lv_sipush (v := (-1001)) hx hb dX8_relieved_13 (by decide) ?_
    refine lv_goto (tgt := 26) hx hb dX8_relieved_16 (by decide) ?_
    exact w_iret C0 hr hW hS h dX8_relieved_26
  · have h := h.2 r1 rfl b1
    refine lv_astore_n (lv' := [(2, .ref (ad G 4 r1)), (0, .ref (ad G 8 0)), (1, .int a1)]) hx hb dX8_relieved_8 rfl hl (by decide) rfl (fun ls hl => ?_)
    refine lv_aload_n hx hb dX8_relieved_9 rfl (lv_at hl 0 rfl) ?_
    refine lv_ifnonnull (tgt := 19) hx hb dX8_relieved_10 (by decide) ?_
    refine lv_aload_n hx hb dX8_relieved_19 rfl (lv_at hl 0 rfl) ?_
    refine w_get (v := .ref (ad G 2 r1)) C0 hW 4 r1 (by decide) b1 rfl rfl in_X4 14 (by decide) w_146 rfl dX8_relieved_20 ?_
    refine w_get (v := .int (hv1 2 r1 2)) C0 hW 2 r1 (by decide) (show r1 < 37 by omega) rfl rfl in_X2 2 (by decide) w_78 rfl dX8_relieved_23 ?_
    exact w_iret C0 hr hW hS h dX8_relieved_26

theorem pl_X8_lifted : yX8_lifted.cls ≠ "java/lang/invoke/MethodHandle" ∧ yX8_lifted.cls ≠ "java/lang/invoke/VarHandle" ∧ (parseMethodDescriptor yX8_lifted.desc).map (fun d => d.parameters.length) = some 1 := ⟨by decide +kernel, by decide +kernel, by decide +kernel⟩
def V_X8_lifted (a1 : Int32) (hv : HV) (post : Int32 → HV → Prop) : Prop := (V_X7_pumpAt 0 a1 hv (fun o1 hv1 => (o1 = none → post (-1001) hv1) ∧ (∀ r1 : Nat, o1 = some r1 → r1 < 37 → post (hv1 2 r1 3) hv1)))
set_option maxHeartbeats 4000000 in
theorem c_X8_lifted (l : Launch) (G : wG) (A : Nat → Prop) (a1 : Int32) (hv : HV) (post : Int32 → HV → Prop) (h : V_X8_lifted a1 hv post) : wM l yX8_lifted cX8_lifted 3 ((Option.some FieldType.int)) 2 G A hv [.ref (ad G 8 0), .int a1] (qI G A post) := by
  refine wM_of (by decide +kernel) (Nat.le_of_ble_eq_true rfl) ?_
  intro p e s m args below meth c C0 hr ls hl hW hS
  have hx := C0.1
  have hb := C0.2.1
  have hown := C0.2.2.2.1
  have hts := C0.2.2.2.2.1
  have hl : lv_has ls 3 [(0, .ref (ad G 8 0)), (1, .int a1)] := hl
  unfold V_X8_lifted at h
  refine lv_aload_n hx hb dX8_lifted_0 rfl (lv_at hl 0 rfl) ?_
  refine w_get (v := .ref (ad G 7 0)) C0 hW 8 0 (by decide) (by decide) rfl rfl in_X8 0 (by decide) w_284 rfl dX8_lifted_1 ?_
  refine lv_iload_n hx hb dX8_lifted_4 rfl (lv_at hl 1 rfl) ?_
  refine w_cp hS (w_runV (As := [.int a1]) C0 hW 7 0 (by decide) (by decide) rfl rfl (c_X7_pumpAt l G A 0 a1 (by decide) hv _ h) ⟨⟨w_350, w_7, w_353⟩, pl_X7_pumpAt, ⟨Nat.le_of_ble_eq_true rfl, Nat.le_of_ble_eq_true rfl⟩, ⟨Nat.le_refl _, Nat.le_refl _⟩⟩ ⟨w_351, w_352⟩ rfl hl.1 rfl (Nat.le_of_ble_eq_true rfl) dX8_lifted_5) (fun hv1 h H locs hW hS => ?_) (fun r1 hv1 b1 h H locs hW hS => ?_)
  · have h := h.1 rfl
    refine lv_astore_nN (lv' := [(2, .null), (0, .ref (ad G 8 0)), (1, .int a1)]) hx hb dX8_lifted_8 rfl hl (by decide) rfl (fun ls hl => ?_)
    refine lv_aload_nN hx hb dX8_lifted_9 rfl (lv_at hl 0 rfl) ?_
    refine lv_ifnonnullN hx hb dX8_lifted_10 ?_
    refine lv_sipush (v := (-1001)) hx hb dX8_lifted_13 (by decide) ?_
    refine lv_goto (tgt := 26) hx hb dX8_lifted_16 (by decide) ?_
    exact w_iret C0 hr hW hS h dX8_lifted_26
  · have h := h.2 r1 rfl b1
    refine lv_astore_n (lv' := [(2, .ref (ad G 4 r1)), (0, .ref (ad G 8 0)), (1, .int a1)]) hx hb dX8_lifted_8 rfl hl (by decide) rfl (fun ls hl => ?_)
    refine lv_aload_n hx hb dX8_lifted_9 rfl (lv_at hl 0 rfl) ?_
    refine lv_ifnonnull (tgt := 19) hx hb dX8_lifted_10 (by decide) ?_
    refine lv_aload_n hx hb dX8_lifted_19 rfl (lv_at hl 0 rfl) ?_
    refine w_get (v := .ref (ad G 2 r1)) C0 hW 4 r1 (by decide) b1 rfl rfl in_X4 14 (by decide) w_146 rfl dX8_lifted_20 ?_
    refine w_get (v := .int (hv1 2 r1 3)) C0 hW 2 r1 (by decide) (show r1 < 37 by omega) rfl rfl in_X2 3 (by decide) w_81 rfl dX8_lifted_23 ?_
    exact w_iret C0 hr hW hS h dX8_lifted_26

theorem pl_X8_overflowed : yX8_overflowed.cls ≠ "java/lang/invoke/MethodHandle" ∧ yX8_overflowed.cls ≠ "java/lang/invoke/VarHandle" ∧ (parseMethodDescriptor yX8_overflowed.desc).map (fun d => d.parameters.length) = some 1 := ⟨by decide +kernel, by decide +kernel, by decide +kernel⟩
def V_X8_overflowed (a1 : Int32) (hv : HV) (post : Int32 → HV → Prop) : Prop := (V_X7_pumpAt 0 a1 hv (fun o1 hv1 => (o1 = none → post (-1001) hv1) ∧ (∀ r1 : Nat, o1 = some r1 → r1 < 37 → post (hv1 2 r1 4) hv1)))
set_option maxHeartbeats 4000000 in
theorem c_X8_overflowed (l : Launch) (G : wG) (A : Nat → Prop) (a1 : Int32) (hv : HV) (post : Int32 → HV → Prop) (h : V_X8_overflowed a1 hv post) : wM l yX8_overflowed cX8_overflowed 3 ((Option.some FieldType.int)) 2 G A hv [.ref (ad G 8 0), .int a1] (qI G A post) := by
  refine wM_of (by decide +kernel) (Nat.le_of_ble_eq_true rfl) ?_
  intro p e s m args below meth c C0 hr ls hl hW hS
  have hx := C0.1
  have hb := C0.2.1
  have hown := C0.2.2.2.1
  have hts := C0.2.2.2.2.1
  have hl : lv_has ls 3 [(0, .ref (ad G 8 0)), (1, .int a1)] := hl
  unfold V_X8_overflowed at h
  refine lv_aload_n hx hb dX8_overflowed_0 rfl (lv_at hl 0 rfl) ?_
  refine w_get (v := .ref (ad G 7 0)) C0 hW 8 0 (by decide) (by decide) rfl rfl in_X8 0 (by decide) w_284 rfl dX8_overflowed_1 ?_
  refine lv_iload_n hx hb dX8_overflowed_4 rfl (lv_at hl 1 rfl) ?_
  refine w_cp hS (w_runV (As := [.int a1]) C0 hW 7 0 (by decide) (by decide) rfl rfl (c_X7_pumpAt l G A 0 a1 (by decide) hv _ h) ⟨⟨w_350, w_7, w_353⟩, pl_X7_pumpAt, ⟨Nat.le_of_ble_eq_true rfl, Nat.le_of_ble_eq_true rfl⟩, ⟨Nat.le_refl _, Nat.le_refl _⟩⟩ ⟨w_351, w_352⟩ rfl hl.1 rfl (Nat.le_of_ble_eq_true rfl) dX8_overflowed_5) (fun hv1 h H locs hW hS => ?_) (fun r1 hv1 b1 h H locs hW hS => ?_)
  · have h := h.1 rfl
    refine lv_astore_nN (lv' := [(2, .null), (0, .ref (ad G 8 0)), (1, .int a1)]) hx hb dX8_overflowed_8 rfl hl (by decide) rfl (fun ls hl => ?_)
    refine lv_aload_nN hx hb dX8_overflowed_9 rfl (lv_at hl 0 rfl) ?_
    refine lv_ifnonnullN hx hb dX8_overflowed_10 ?_
    refine lv_sipush (v := (-1001)) hx hb dX8_overflowed_13 (by decide) ?_
    refine lv_goto (tgt := 26) hx hb dX8_overflowed_16 (by decide) ?_
    exact w_iret C0 hr hW hS h dX8_overflowed_26
  · have h := h.2 r1 rfl b1
    refine lv_astore_n (lv' := [(2, .ref (ad G 4 r1)), (0, .ref (ad G 8 0)), (1, .int a1)]) hx hb dX8_overflowed_8 rfl hl (by decide) rfl (fun ls hl => ?_)
    refine lv_aload_n hx hb dX8_overflowed_9 rfl (lv_at hl 0 rfl) ?_
    refine lv_ifnonnull (tgt := 19) hx hb dX8_overflowed_10 (by decide) ?_
    refine lv_aload_n hx hb dX8_overflowed_19 rfl (lv_at hl 0 rfl) ?_
    refine w_get (v := .ref (ad G 2 r1)) C0 hW 4 r1 (by decide) b1 rfl rfl in_X4 14 (by decide) w_146 rfl dX8_overflowed_20 ?_
    refine w_get (v := .int (hv1 2 r1 4)) C0 hW 2 r1 (by decide) (show r1 < 37 by omega) rfl rfl in_X2 4 (by decide) w_84 rfl dX8_overflowed_23 ?_
    exact w_iret C0 hr hW hS h dX8_overflowed_26

theorem pl_X8_starved : yX8_starved.cls ≠ "java/lang/invoke/MethodHandle" ∧ yX8_starved.cls ≠ "java/lang/invoke/VarHandle" ∧ (parseMethodDescriptor yX8_starved.desc).map (fun d => d.parameters.length) = some 1 := ⟨by decide +kernel, by decide +kernel, by decide +kernel⟩
def V_X8_starved (a1 : Int32) (hv : HV) (post : Int32 → HV → Prop) : Prop := (V_X7_pumpAt 0 a1 hv (fun o1 hv1 => (o1 = none → post (-1001) hv1) ∧ (∀ r1 : Nat, o1 = some r1 → r1 < 37 → post (hv1 2 r1 5) hv1)))
set_option maxHeartbeats 4000000 in
theorem c_X8_starved (l : Launch) (G : wG) (A : Nat → Prop) (a1 : Int32) (hv : HV) (post : Int32 → HV → Prop) (h : V_X8_starved a1 hv post) : wM l yX8_starved cX8_starved 3 ((Option.some FieldType.int)) 2 G A hv [.ref (ad G 8 0), .int a1] (qI G A post) := by
  refine wM_of (by decide +kernel) (Nat.le_of_ble_eq_true rfl) ?_
  intro p e s m args below meth c C0 hr ls hl hW hS
  have hx := C0.1
  have hb := C0.2.1
  have hown := C0.2.2.2.1
  have hts := C0.2.2.2.2.1
  have hl : lv_has ls 3 [(0, .ref (ad G 8 0)), (1, .int a1)] := hl
  unfold V_X8_starved at h
  refine lv_aload_n hx hb dX8_starved_0 rfl (lv_at hl 0 rfl) ?_
  refine w_get (v := .ref (ad G 7 0)) C0 hW 8 0 (by decide) (by decide) rfl rfl in_X8 0 (by decide) w_284 rfl dX8_starved_1 ?_
  refine lv_iload_n hx hb dX8_starved_4 rfl (lv_at hl 1 rfl) ?_
  refine w_cp hS (w_runV (As := [.int a1]) C0 hW 7 0 (by decide) (by decide) rfl rfl (c_X7_pumpAt l G A 0 a1 (by decide) hv _ h) ⟨⟨w_350, w_7, w_353⟩, pl_X7_pumpAt, ⟨Nat.le_of_ble_eq_true rfl, Nat.le_of_ble_eq_true rfl⟩, ⟨Nat.le_refl _, Nat.le_refl _⟩⟩ ⟨w_351, w_352⟩ rfl hl.1 rfl (Nat.le_of_ble_eq_true rfl) dX8_starved_5) (fun hv1 h H locs hW hS => ?_) (fun r1 hv1 b1 h H locs hW hS => ?_)
  · have h := h.1 rfl
    refine lv_astore_nN (lv' := [(2, .null), (0, .ref (ad G 8 0)), (1, .int a1)]) hx hb dX8_starved_8 rfl hl (by decide) rfl (fun ls hl => ?_)
    refine lv_aload_nN hx hb dX8_starved_9 rfl (lv_at hl 0 rfl) ?_
    refine lv_ifnonnullN hx hb dX8_starved_10 ?_
    refine lv_sipush (v := (-1001)) hx hb dX8_starved_13 (by decide) ?_
    refine lv_goto (tgt := 26) hx hb dX8_starved_16 (by decide) ?_
    exact w_iret C0 hr hW hS h dX8_starved_26
  · have h := h.2 r1 rfl b1
    refine lv_astore_n (lv' := [(2, .ref (ad G 4 r1)), (0, .ref (ad G 8 0)), (1, .int a1)]) hx hb dX8_starved_8 rfl hl (by decide) rfl (fun ls hl => ?_)
    refine lv_aload_n hx hb dX8_starved_9 rfl (lv_at hl 0 rfl) ?_
    refine lv_ifnonnull (tgt := 19) hx hb dX8_starved_10 (by decide) ?_
    refine lv_aload_n hx hb dX8_starved_19 rfl (lv_at hl 0 rfl) ?_
    refine w_get (v := .ref (ad G 2 r1)) C0 hW 4 r1 (by decide) b1 rfl rfl in_X4 14 (by decide) w_146 rfl dX8_starved_20 ?_
    refine w_get (v := .int (hv1 2 r1 5)) C0 hW 2 r1 (by decide) (show r1 < 37 by omega) rfl rfl in_X2 5 (by decide) w_87 rfl dX8_starved_23 ?_
    exact w_iret C0 hr hW hS h dX8_starved_26

theorem pl_X8_tank : yX8_tank.cls ≠ "java/lang/invoke/MethodHandle" ∧ yX8_tank.cls ≠ "java/lang/invoke/VarHandle" ∧ (parseMethodDescriptor yX8_tank.desc).map (fun d => d.parameters.length) = some 1 := ⟨by decide +kernel, by decide +kernel, by decide +kernel⟩
def V_X8_tank (a1 : Int32) (hv : HV) (post : Int32 → HV → Prop) : Prop := (V_X7_pumpAt 0 a1 hv (fun o1 hv1 => (o1 = none → post (-1001) hv1) ∧ (∀ r1 : Nat, o1 = some r1 → r1 < 37 → post (hv1 4 r1 11) hv1)))
set_option maxHeartbeats 4000000 in
theorem c_X8_tank (l : Launch) (G : wG) (A : Nat → Prop) (a1 : Int32) (hv : HV) (post : Int32 → HV → Prop) (h : V_X8_tank a1 hv post) : wM l yX8_tank cX8_tank 3 ((Option.some FieldType.int)) 2 G A hv [.ref (ad G 8 0), .int a1] (qI G A post) := by
  refine wM_of (by decide +kernel) (Nat.le_of_ble_eq_true rfl) ?_
  intro p e s m args below meth c C0 hr ls hl hW hS
  have hx := C0.1
  have hb := C0.2.1
  have hown := C0.2.2.2.1
  have hts := C0.2.2.2.2.1
  have hl : lv_has ls 3 [(0, .ref (ad G 8 0)), (1, .int a1)] := hl
  unfold V_X8_tank at h
  refine lv_aload_n hx hb dX8_tank_0 rfl (lv_at hl 0 rfl) ?_
  refine w_get (v := .ref (ad G 7 0)) C0 hW 8 0 (by decide) (by decide) rfl rfl in_X8 0 (by decide) w_284 rfl dX8_tank_1 ?_
  refine lv_iload_n hx hb dX8_tank_4 rfl (lv_at hl 1 rfl) ?_
  refine w_cp hS (w_runV (As := [.int a1]) C0 hW 7 0 (by decide) (by decide) rfl rfl (c_X7_pumpAt l G A 0 a1 (by decide) hv _ h) ⟨⟨w_350, w_7, w_353⟩, pl_X7_pumpAt, ⟨Nat.le_of_ble_eq_true rfl, Nat.le_of_ble_eq_true rfl⟩, ⟨Nat.le_refl _, Nat.le_refl _⟩⟩ ⟨w_351, w_352⟩ rfl hl.1 rfl (Nat.le_of_ble_eq_true rfl) dX8_tank_5) (fun hv1 h H locs hW hS => ?_) (fun r1 hv1 b1 h H locs hW hS => ?_)
  · have h := h.1 rfl
    refine lv_astore_nN (lv' := [(2, .null), (0, .ref (ad G 8 0)), (1, .int a1)]) hx hb dX8_tank_8 rfl hl (by decide) rfl (fun ls hl => ?_)
    refine lv_aload_nN hx hb dX8_tank_9 rfl (lv_at hl 0 rfl) ?_
    refine lv_ifnonnullN hx hb dX8_tank_10 ?_
    refine lv_sipush (v := (-1001)) hx hb dX8_tank_13 (by decide) ?_
    refine lv_goto (tgt := 23) hx hb dX8_tank_16 (by decide) ?_
    exact w_iret C0 hr hW hS h dX8_tank_23
  · have h := h.2 r1 rfl b1
    refine lv_astore_n (lv' := [(2, .ref (ad G 4 r1)), (0, .ref (ad G 8 0)), (1, .int a1)]) hx hb dX8_tank_8 rfl hl (by decide) rfl (fun ls hl => ?_)
    refine lv_aload_n hx hb dX8_tank_9 rfl (lv_at hl 0 rfl) ?_
    refine lv_ifnonnull (tgt := 19) hx hb dX8_tank_10 (by decide) ?_
    refine lv_aload_n hx hb dX8_tank_19 rfl (lv_at hl 0 rfl) ?_
    refine w_get (v := .int (hv1 4 r1 11)) C0 hW 4 r1 (by decide) b1 rfl rfl in_X4 11 (by decide) w_140 rfl dX8_tank_20 ?_
    exact w_iret C0 hr hW hS h dX8_tank_23

theorem pl_X8_interval : yX8_interval.cls ≠ "java/lang/invoke/MethodHandle" ∧ yX8_interval.cls ≠ "java/lang/invoke/VarHandle" ∧ (parseMethodDescriptor yX8_interval.desc).map (fun d => d.parameters.length) = some 2 := ⟨by decide +kernel, by decide +kernel, by decide +kernel⟩
def V_X8_interval (a1 : Int32) (a2 : Int32) (hv : HV) (post : Int32 → HV → Prop) : Prop := (V_X7_pumpAt 0 a1 hv (fun o1 hv1 => (o1 = none → post (-1001) hv1) ∧ (∀ r1 : Nat, o1 = some r1 → r1 < 37 → ((0 ≤ a2 → (V_X6_latest (2 * r1) a2 hv1 (fun r3 hv3 => post r3 hv3))) ∧ (¬ (0 ≤ a2) → post (-1002) hv1)))))
set_option maxHeartbeats 4000000 in
theorem c_X8_interval (l : Launch) (G : wG) (A : Nat → Prop) (a1 : Int32) (a2 : Int32) (hv : HV) (post : Int32 → HV → Prop) (h : V_X8_interval a1 a2 hv post) : wM l yX8_interval cX8_interval 4 ((Option.some FieldType.int)) 2 G A hv [.ref (ad G 8 0), .int a1, .int a2] (qI G A post) := by
  refine wM_of (by decide +kernel) (Nat.le_of_ble_eq_true rfl) ?_
  intro p e s m args below meth c C0 hr ls hl hW hS
  have hx := C0.1
  have hb := C0.2.1
  have hown := C0.2.2.2.1
  have hts := C0.2.2.2.2.1
  have hl : lv_has ls 4 [(0, .ref (ad G 8 0)), (1, .int a1), (2, .int a2)] := hl
  unfold V_X8_interval at h
  refine lv_aload_n hx hb dX8_interval_0 rfl (lv_at hl 0 rfl) ?_
  refine w_get (v := .ref (ad G 7 0)) C0 hW 8 0 (by decide) (by decide) rfl rfl in_X8 0 (by decide) w_284 rfl dX8_interval_1 ?_
  refine lv_iload_n hx hb dX8_interval_4 rfl (lv_at hl 1 rfl) ?_
  refine w_cp hS (w_runV (As := [.int a1]) C0 hW 7 0 (by decide) (by decide) rfl rfl (c_X7_pumpAt l G A 0 a1 (by decide) hv _ h) ⟨⟨w_350, w_7, w_353⟩, pl_X7_pumpAt, ⟨Nat.le_of_ble_eq_true rfl, Nat.le_of_ble_eq_true rfl⟩, ⟨Nat.le_refl _, Nat.le_refl _⟩⟩ ⟨w_351, w_352⟩ rfl hl.1 rfl (Nat.le_of_ble_eq_true rfl) dX8_interval_5) (fun hv1 h H locs hW hS => ?_) (fun r1 hv1 b1 h H locs hW hS => ?_)
  · have h := h.1 rfl
    refine lv_astore_nN (lv' := [(3, .null), (0, .ref (ad G 8 0)), (1, .int a1), (2, .int a2)]) hx hb dX8_interval_8 rfl hl (by decide) rfl (fun ls hl => ?_)
    refine lv_aload_nN hx hb dX8_interval_9 rfl (lv_at hl 0 rfl) ?_
    refine lv_ifnonnullN hx hb dX8_interval_10 ?_
    refine lv_sipush (v := (-1001)) hx hb dX8_interval_13 (by decide) ?_
    exact w_iret C0 hr hW hS h dX8_interval_16
  · have h := h.2 r1 rfl b1
    refine lv_astore_n (lv' := [(3, .ref (ad G 4 r1)), (0, .ref (ad G 8 0)), (1, .int a1), (2, .int a2)]) hx hb dX8_interval_8 rfl hl (by decide) rfl (fun ls hl => ?_)
    refine lv_aload_n hx hb dX8_interval_9 rfl (lv_at hl 0 rfl) ?_
    refine lv_ifnonnull (tgt := 17) hx hb dX8_interval_10 (by decide) ?_
    refine lv_iload_n hx hb dX8_interval_17 rfl (lv_at hl 3 rfl) ?_
    refine lv_if_ge (tgt := 27) hx hb dX8_interval_18 (by decide) (fun c2 => ?_) (fun c2 => ?_)
    · have h := h.1 c2
      refine lv_aload_n hx hb dX8_interval_27 rfl (lv_at hl 0 rfl) ?_
      refine w_get (v := .ref (ad G 6 (2 * r1))) C0 hW 4 r1 (by decide) b1 rfl rfl in_X4 15 (by decide) w_148 rfl dX8_interval_28 ?_
      refine lv_iload_n hx hb dX8_interval_31 rfl (lv_at hl 3 rfl) ?_
      refine w_ci hS (w_runV (As := [.int a2]) C0 hW 6 (2 * r1) (by decide) (show (2 * r1) < 77 by omega) rfl rfl (c_X6_latest l G A (2 * r1) a2 (show (2 * r1) < 77 by omega) hv1 _ h) ⟨⟨w_331, w_11, w_334⟩, pl_X6_latest, ⟨Nat.le_of_ble_eq_true rfl, Nat.le_of_ble_eq_true rfl⟩, ⟨Nat.le_refl _, Nat.le_refl _⟩⟩ ⟨w_332, w_333⟩ rfl hl.1 rfl (Nat.le_of_ble_eq_true rfl) dX8_interval_32) (fun r3 hv3 h H locs hW hS => ?_)
      exact w_iret C0 hr hW hS h dX8_interval_35
    · have h := h.2 c2
      refine lv_sipush (v := (-1002)) hx hb dX8_interval_21 (by decide) ?_
      refine lv_goto (tgt := 35) hx hb dX8_interval_24 (by decide) ?_
      exact w_iret C0 hr hW hS h dX8_interval_35

theorem pl_X8_trace : yX8_trace.cls ≠ "java/lang/invoke/MethodHandle" ∧ yX8_trace.cls ≠ "java/lang/invoke/VarHandle" ∧ (parseMethodDescriptor yX8_trace.desc).map (fun d => d.parameters.length) = some 2 := ⟨by decide +kernel, by decide +kernel, by decide +kernel⟩
def V_X8_trace (a1 : Int32) (a2 : Int32) (hv : HV) (post : Int32 → HV → Prop) : Prop := (V_X7_pumpAt 0 a1 hv (fun o1 hv1 => (o1 = none → post (-1001) hv1) ∧ (∀ r1 : Nat, o1 = some r1 → r1 < 37 → ((0 ≤ a2 → (V_X6_latest (2 * r1 + 1) a2 hv1 (fun r3 hv3 => post r3 hv3))) ∧ (¬ (0 ≤ a2) → post (-1002) hv1)))))
set_option maxHeartbeats 4000000 in
theorem c_X8_trace (l : Launch) (G : wG) (A : Nat → Prop) (a1 : Int32) (a2 : Int32) (hv : HV) (post : Int32 → HV → Prop) (h : V_X8_trace a1 a2 hv post) : wM l yX8_trace cX8_trace 4 ((Option.some FieldType.int)) 2 G A hv [.ref (ad G 8 0), .int a1, .int a2] (qI G A post) := by
  refine wM_of (by decide +kernel) (Nat.le_of_ble_eq_true rfl) ?_
  intro p e s m args below meth c C0 hr ls hl hW hS
  have hx := C0.1
  have hb := C0.2.1
  have hown := C0.2.2.2.1
  have hts := C0.2.2.2.2.1
  have hl : lv_has ls 4 [(0, .ref (ad G 8 0)), (1, .int a1), (2, .int a2)] := hl
  unfold V_X8_trace at h
  refine lv_aload_n hx hb dX8_trace_0 rfl (lv_at hl 0 rfl) ?_
  refine w_get (v := .ref (ad G 7 0)) C0 hW 8 0 (by decide) (by decide) rfl rfl in_X8 0 (by decide) w_284 rfl dX8_trace_1 ?_
  refine lv_iload_n hx hb dX8_trace_4 rfl (lv_at hl 1 rfl) ?_
  refine w_cp hS (w_runV (As := [.int a1]) C0 hW 7 0 (by decide) (by decide) rfl rfl (c_X7_pumpAt l G A 0 a1 (by decide) hv _ h) ⟨⟨w_350, w_7, w_353⟩, pl_X7_pumpAt, ⟨Nat.le_of_ble_eq_true rfl, Nat.le_of_ble_eq_true rfl⟩, ⟨Nat.le_refl _, Nat.le_refl _⟩⟩ ⟨w_351, w_352⟩ rfl hl.1 rfl (Nat.le_of_ble_eq_true rfl) dX8_trace_5) (fun hv1 h H locs hW hS => ?_) (fun r1 hv1 b1 h H locs hW hS => ?_)
  · have h := h.1 rfl
    refine lv_astore_nN (lv' := [(3, .null), (0, .ref (ad G 8 0)), (1, .int a1), (2, .int a2)]) hx hb dX8_trace_8 rfl hl (by decide) rfl (fun ls hl => ?_)
    refine lv_aload_nN hx hb dX8_trace_9 rfl (lv_at hl 0 rfl) ?_
    refine lv_ifnonnullN hx hb dX8_trace_10 ?_
    refine lv_sipush (v := (-1001)) hx hb dX8_trace_13 (by decide) ?_
    exact w_iret C0 hr hW hS h dX8_trace_16
  · have h := h.2 r1 rfl b1
    refine lv_astore_n (lv' := [(3, .ref (ad G 4 r1)), (0, .ref (ad G 8 0)), (1, .int a1), (2, .int a2)]) hx hb dX8_trace_8 rfl hl (by decide) rfl (fun ls hl => ?_)
    refine lv_aload_n hx hb dX8_trace_9 rfl (lv_at hl 0 rfl) ?_
    refine lv_ifnonnull (tgt := 17) hx hb dX8_trace_10 (by decide) ?_
    refine lv_iload_n hx hb dX8_trace_17 rfl (lv_at hl 3 rfl) ?_
    refine lv_if_ge (tgt := 27) hx hb dX8_trace_18 (by decide) (fun c2 => ?_) (fun c2 => ?_)
    · have h := h.1 c2
      refine lv_aload_n hx hb dX8_trace_27 rfl (lv_at hl 0 rfl) ?_
      refine w_get (v := .ref (ad G 6 (2 * r1 + 1))) C0 hW 4 r1 (by decide) b1 rfl rfl in_X4 16 (by decide) w_150 rfl dX8_trace_28 ?_
      refine lv_iload_n hx hb dX8_trace_31 rfl (lv_at hl 3 rfl) ?_
      refine w_ci hS (w_runV (As := [.int a2]) C0 hW 6 (2 * r1 + 1) (by decide) (show (2 * r1 + 1) < 77 by omega) rfl rfl (c_X6_latest l G A (2 * r1 + 1) a2 (show (2 * r1 + 1) < 77 by omega) hv1 _ h) ⟨⟨w_331, w_11, w_334⟩, pl_X6_latest, ⟨Nat.le_of_ble_eq_true rfl, Nat.le_of_ble_eq_true rfl⟩, ⟨Nat.le_refl _, Nat.le_refl _⟩⟩ ⟨w_332, w_333⟩ rfl hl.1 rfl (Nat.le_of_ble_eq_true rfl) dX8_trace_32) (fun r3 hv3 h H locs hW hS => ?_)
      exact w_iret C0 hr hW hS h dX8_trace_35
    · have h := h.2 c2
      refine lv_sipush (v := (-1002)) hx hb dX8_trace_21 (by decide) ?_
      refine lv_goto (tgt := 35) hx hb dX8_trace_24 (by decide) ?_
      exact w_iret C0 hr hW hS h dX8_trace_35

theorem pl_X8_efficiency : yX8_efficiency.cls ≠ "java/lang/invoke/MethodHandle" ∧ yX8_efficiency.cls ≠ "java/lang/invoke/VarHandle" ∧ (parseMethodDescriptor yX8_efficiency.desc).map (fun d => d.parameters.length) = some 1 := ⟨by decide +kernel, by decide +kernel, by decide +kernel⟩
def V_X8_efficiency (a1 : Int32) (hv : HV) (post : Int32 → HV → Prop) : Prop := (V_X7_pumpAt 0 a1 hv (fun o1 hv1 => (o1 = none → post (-1001) hv1) ∧ (∀ r1 : Nat, o1 = some r1 → r1 < 37 → (V_X4_thousandths r1 hv1 (fun r2 hv2 => post r2 hv2)))))
set_option maxHeartbeats 4000000 in
theorem c_X8_efficiency (l : Launch) (G : wG) (A : Nat → Prop) (a1 : Int32) (hv : HV) (post : Int32 → HV → Prop) (h : V_X8_efficiency a1 hv post) : wM l yX8_efficiency cX8_efficiency 3 ((Option.some FieldType.int)) 2 G A hv [.ref (ad G 8 0), .int a1] (qI G A post) := by
  refine wM_of (by decide +kernel) (Nat.le_of_ble_eq_true rfl) ?_
  intro p e s m args below meth c C0 hr ls hl hW hS
  have hx := C0.1
  have hb := C0.2.1
  have hown := C0.2.2.2.1
  have hts := C0.2.2.2.2.1
  have hl : lv_has ls 3 [(0, .ref (ad G 8 0)), (1, .int a1)] := hl
  unfold V_X8_efficiency at h
  refine lv_aload_n hx hb dX8_efficiency_0 rfl (lv_at hl 0 rfl) ?_
  refine w_get (v := .ref (ad G 7 0)) C0 hW 8 0 (by decide) (by decide) rfl rfl in_X8 0 (by decide) w_284 rfl dX8_efficiency_1 ?_
  refine lv_iload_n hx hb dX8_efficiency_4 rfl (lv_at hl 1 rfl) ?_
  refine w_cp hS (w_runV (As := [.int a1]) C0 hW 7 0 (by decide) (by decide) rfl rfl (c_X7_pumpAt l G A 0 a1 (by decide) hv _ h) ⟨⟨w_350, w_7, w_353⟩, pl_X7_pumpAt, ⟨Nat.le_of_ble_eq_true rfl, Nat.le_of_ble_eq_true rfl⟩, ⟨Nat.le_refl _, Nat.le_refl _⟩⟩ ⟨w_351, w_352⟩ rfl hl.1 rfl (Nat.le_of_ble_eq_true rfl) dX8_efficiency_5) (fun hv1 h H locs hW hS => ?_) (fun r1 hv1 b1 h H locs hW hS => ?_)
  · have h := h.1 rfl
    refine lv_astore_nN (lv' := [(2, .null), (0, .ref (ad G 8 0)), (1, .int a1)]) hx hb dX8_efficiency_8 rfl hl (by decide) rfl (fun ls hl => ?_)
    refine lv_aload_nN hx hb dX8_efficiency_9 rfl (lv_at hl 0 rfl) ?_
    refine lv_ifnonnullN hx hb dX8_efficiency_10 ?_
    refine lv_sipush (v := (-1001)) hx hb dX8_efficiency_13 (by decide) ?_
    refine lv_goto (tgt := 23) hx hb dX8_efficiency_16 (by decide) ?_
    exact w_iret C0 hr hW hS h dX8_efficiency_23
  · have h := h.2 r1 rfl b1
    refine lv_astore_n (lv' := [(2, .ref (ad G 4 r1)), (0, .ref (ad G 8 0)), (1, .int a1)]) hx hb dX8_efficiency_8 rfl hl (by decide) rfl (fun ls hl => ?_)
    refine lv_aload_n hx hb dX8_efficiency_9 rfl (lv_at hl 0 rfl) ?_
    refine lv_ifnonnull (tgt := 19) hx hb dX8_efficiency_10 (by decide) ?_
    refine lv_aload_n hx hb dX8_efficiency_19 rfl (lv_at hl 0 rfl) ?_
    refine w_ci hS (w_runV (As := []) C0 hW 4 r1 (by decide) b1 rfl rfl (c_X4_thousandths l G A r1 b1 hv1 _ h) ⟨⟨w_594, w_8, w_597⟩, pl_X4_thousandths, ⟨Nat.le_of_ble_eq_true rfl, Nat.le_of_ble_eq_true rfl⟩, ⟨Nat.le_refl _, Nat.le_refl _⟩⟩ ⟨w_595, w_596⟩ rfl hl.1 rfl (Nat.le_of_ble_eq_true rfl) dX8_efficiency_20) (fun r2 hv2 h H locs hW hS => ?_)
    exact w_iret C0 hr hW hS h dX8_efficiency_23

def V_X8_bestPump_8 (post : Int32 → HV → Prop) : Nat → Int32 → Int32 → Int32 → HV → Prop
  | 0, _, _, _, _ => False
  | n8 + 1, v1, v2, v3, hv => (((hv 7 0 4) ≤ v3 → post v1 hv) ∧ (¬ ((hv 7 0 4) ≤ v3) → (V_X8_efficiency v3 hv (fun r2 hv2 => ((r2 ≤ v2 → (∀ x4 : Int32, x4 = v3 + 1 → V_X8_bestPump_8 post n8 v1 v2 x4 hv2)) ∧ (¬ (r2 ≤ v2) → (∀ x5 : Int32, x5 = v3 + 1 → V_X8_bestPump_8 post n8 v3 r2 x5 hv2)))))))
set_option maxHeartbeats 4000000 in
theorem k_X8_bestPump_8 {p : Program} {l : Launch} {e : Env} {s : State} {m : MethodId} {args : Array Value} {below : List Frame} {meth : Method} {c : Code} {G : wG} {A : Nat → Prop} (post : Int32 → HV → Prop) (C0 : cx p s m args meth c "RamStation" cX8_bestPump 5 G) (hr : meth.sig.returnType = (Option.some FieldType.int))   : ∀ (n : Nat) (v1 : Int32) (v2 : Int32) (v3 : Int32) (hv : HV), V_X8_bestPump_8 post n v1 v2 v3 hv → ∀ (H : Heap) (locs : List Loc) (ls : Array Slot), wd G A hv H → va_S A s.heap H locs → lv_has ls 5 [(0, .ref (ad G 8 0)), (1, .int v1), (2, .int v2), (3, .int v3)] → W p l e (wrm 3) s m args below meth c H locs 0 0 (MQ below (qI G A post) args s 0 0 A) (F0 m 8 ls []) := by
  have hx := C0.1
  have hb := C0.2.1
  have hown := C0.2.2.2.1
  have hts := C0.2.2.2.2.1
  intro n
  induction n with
  | zero =>
    intro v1 v2 v3 hv  h
    exact (h : False).elim
  | succ n ih =>
    intro v1 v2 v3 hv  h H locs ls hW hS hl
    rw [V_X8_bestPump_8] at h
    refine lv_iload_n hx hb dX8_bestPump_8 rfl (lv_at hl 3 rfl) ?_
    refine lv_aload_n hx hb dX8_bestPump_9 rfl (lv_at hl 0 rfl) ?_
    refine w_get (v := .ref (ad G 7 0)) C0 hW 8 0 (by decide) (by decide) rfl rfl in_X8 0 (by decide) w_284 rfl dX8_bestPump_10 ?_
    refine w_get (v := .int (hv 7 0 4)) C0 hW 7 0 (by decide) (by decide) rfl rfl in_X7 4 (by decide) w_195 rfl dX8_bestPump_13 ?_
    refine lv_icmp_ge (tgt := 43) hx hb dX8_bestPump_16 (by decide) (fun c1 => ?_) (fun c1 => ?_)
    · have h := h.1 c1
      refine lv_iload_n hx hb dX8_bestPump_43 rfl (lv_at hl 1 rfl) ?_
      exact w_iret C0 hr hW hS h dX8_bestPump_44
    · have h := h.2 c1
      refine lv_aload_n hx hb dX8_bestPump_19 rfl (lv_at hl 0 rfl) ?_
      refine lv_iload_n hx hb dX8_bestPump_20 rfl (lv_at hl 3 rfl) ?_
      refine w_ci hS (w_runV (As := [.int v3]) C0 hW 8 0 (by decide) (by decide) rfl rfl (c_X8_efficiency l G A v3 hv _ h) ⟨⟨w_639, w_6, w_593⟩, pl_X8_efficiency, ⟨Nat.le_of_ble_eq_true rfl, Nat.le_of_ble_eq_true rfl⟩, ⟨Nat.le_refl _, Nat.le_refl _⟩⟩ ⟨w_591, w_592⟩ rfl hl.1 rfl (Nat.le_of_ble_eq_true rfl) dX8_bestPump_21) (fun r2 hv2 h H locs hW hS => ?_)
      refine lv_istore (lv' := [(4, .int r2), (0, .ref (ad G 8 0)), (1, .int v1), (2, .int v2), (3, .int v3)]) hx hb dX8_bestPump_24 hl (by decide) rfl (fun ls hl => ?_)
      refine lv_iload hx hb dX8_bestPump_26 (lv_at hl 0 rfl) ?_
      refine lv_iload_n hx hb dX8_bestPump_28 rfl (lv_at hl 3 rfl) ?_
      refine lv_icmp_le (tgt := 37) hx hb dX8_bestPump_29 (by decide) (fun c3 => ?_) (fun c3 => ?_)
      · have h := h.1 c3
        obtain ⟨x4, ex4⟩ : ∃ y : Int32, y = v3 + 1 := ⟨_, rfl⟩
        have h := h x4 ex4
        refine lv_iinc (v := x4) (lv' := [(3, .int x4), (4, .int r2), (0, .ref (ad G 8 0)), (1, .int v1), (2, .int v2)]) hx hb dX8_bestPump_37 hl (k := 4) rfl (by rw [ex4]; rfl) (by decide) rfl (fun ls hl => ?_)
        refine lv_goto (tgt := 8) hx hb dX8_bestPump_40 (by decide) ?_
        exact ih v1 v2 x4 hv2 h _ _ _ hW hS (lv_sub hl [2, 3, 4, 0] rfl)
      · have h := h.2 c3
        refine lv_iload hx hb dX8_bestPump_32 (lv_at hl 0 rfl) ?_
        refine lv_istore_n (lv' := [(2, .int r2), (4, .int r2), (0, .ref (ad G 8 0)), (1, .int v1), (3, .int v3)]) hx hb dX8_bestPump_34 rfl hl (by decide) rfl (fun ls hl => ?_)
        refine lv_iload_n hx hb dX8_bestPump_35 rfl (lv_at hl 4 rfl) ?_
        refine lv_istore_n (lv' := [(1, .int v3), (2, .int r2), (4, .int r2), (0, .ref (ad G 8 0)), (3, .int v3)]) hx hb dX8_bestPump_36 rfl hl (by decide) rfl (fun ls hl => ?_)
        obtain ⟨x5, ex5⟩ : ∃ y : Int32, y = v3 + 1 := ⟨_, rfl⟩
        have h := h x5 ex5
        refine lv_iinc (v := x5) (lv' := [(3, .int x5), (1, .int v3), (2, .int r2), (4, .int r2), (0, .ref (ad G 8 0))]) hx hb dX8_bestPump_37 hl (k := 4) rfl (by rw [ex5]; rfl) (by decide) rfl (fun ls hl => ?_)
        refine lv_goto (tgt := 8) hx hb dX8_bestPump_40 (by decide) ?_
        exact ih v3 r2 x5 hv2 h _ _ _ hW hS (lv_sub hl [4, 1, 2, 0] rfl)
theorem pl_X8_bestPump : yX8_bestPump.cls ≠ "java/lang/invoke/MethodHandle" ∧ yX8_bestPump.cls ≠ "java/lang/invoke/VarHandle" ∧ (parseMethodDescriptor yX8_bestPump.desc).map (fun d => d.parameters.length) = some 0 := ⟨by decide +kernel, by decide +kernel, by decide +kernel⟩
def V_X8_bestPump  (hv : HV) (post : Int32 → HV → Prop) : Prop := (∃ n8, V_X8_bestPump_8 post n8 (-1005) (-1) 0 hv)
set_option maxHeartbeats 4000000 in
theorem c_X8_bestPump (l : Launch) (G : wG) (A : Nat → Prop) (hv : HV) (post : Int32 → HV → Prop) (h : V_X8_bestPump hv post) : wM l yX8_bestPump cX8_bestPump 5 ((Option.some FieldType.int)) 3 G A hv [.ref (ad G 8 0)] (qI G A post) := by
  refine wM_of (by decide +kernel) (Nat.le_of_ble_eq_true rfl) ?_
  intro p e s m args below meth c C0 hr ls hl hW hS
  have hx := C0.1
  have hb := C0.2.1
  have hown := C0.2.2.2.1
  have hts := C0.2.2.2.2.1
  have hl : lv_has ls 5 [(0, .ref (ad G 8 0))] := hl
  unfold V_X8_bestPump at h
  refine lv_sipush (v := (-1005)) hx hb dX8_bestPump_0 (by decide) ?_
  refine lv_istore_n (lv' := [(1, .int (-1005)), (0, .ref (ad G 8 0))]) hx hb dX8_bestPump_3 rfl hl (by decide) rfl (fun ls hl => ?_)
  refine lv_iconst (v := (-1)) hx hb dX8_bestPump_4 (by decide) ?_
  refine lv_istore_n (lv' := [(2, .int (-1)), (1, .int (-1005)), (0, .ref (ad G 8 0))]) hx hb dX8_bestPump_5 rfl hl (by decide) rfl (fun ls hl => ?_)
  refine lv_iconst (v := 0) hx hb dX8_bestPump_6 (by decide) ?_
  refine lv_istore_n (lv' := [(3, .int 0), (2, .int (-1)), (1, .int (-1005)), (0, .ref (ad G 8 0))]) hx hb dX8_bestPump_7 rfl hl (by decide) rfl (fun ls hl => ?_)
  obtain ⟨n6, h⟩ := h
  exact k_X8_bestPump_8 post C0 hr n6 (-1005) (-1) 0 hv h _ _ _ hW hS (lv_sub hl [3, 2, 1, 0] rfl)

theorem pl_X8_tickTrial : yX8_tickTrial.cls ≠ "java/lang/invoke/MethodHandle" ∧ yX8_tickTrial.cls ≠ "java/lang/invoke/VarHandle" ∧ (parseMethodDescriptor yX8_tickTrial.desc).map (fun d => d.parameters.length) = some 0 := ⟨by decide +kernel, by decide +kernel, by decide +kernel⟩
def V_X8_tickTrial  (hv : HV) (post : HV → Prop) : Prop := (V_X4_tick 36 1000000 (hv 7 0 0) hv (fun hv1 => post hv1))
set_option maxHeartbeats 4000000 in
theorem c_X8_tickTrial (l : Launch) (G : wG) (A : Nat → Prop) (hv : HV) (post : HV → Prop) (h : V_X8_tickTrial hv post) : wM l yX8_tickTrial cX8_tickTrial 1 ((Option.none : Option FieldType)) 4 G A hv [.ref (ad G 8 0)] (qV G A post) := by
  refine wM_of (by decide +kernel) (Nat.le_of_ble_eq_true rfl) ?_
  intro p e s m args below meth c C0 hr ls hl hW hS
  have hx := C0.1
  have hb := C0.2.1
  have hown := C0.2.2.2.1
  have hts := C0.2.2.2.2.1
  have hl : lv_has ls 1 [(0, .ref (ad G 8 0))] := hl
  unfold V_X8_tickTrial at h
  refine lv_aload_n hx hb dX8_tickTrial_0 rfl (lv_at hl 0 rfl) ?_
  refine w_get (v := .ref (ad G 4 36)) C0 hW 8 0 (by decide) (by decide) rfl rfl in_X8 9 (by decide) w_293 rfl dX8_tickTrial_1 ?_
  refine lv_ldcw (v := 1000000) hx hb hown (hts _ w_615) dX8_tickTrial_4 ?_
  refine lv_aload_n hx hb dX8_tickTrial_7 rfl (lv_at hl 0 rfl) ?_
  refine w_get (v := .ref (ad G 7 0)) C0 hW 8 0 (by decide) (by decide) rfl rfl in_X8 0 (by decide) w_284 rfl dX8_tickTrial_8 ?_
  refine w_get (v := .int (hv 7 0 0)) C0 hW 7 0 (by decide) (by decide) rfl rfl in_X7 0 (by decide) w_187 rfl dX8_tickTrial_11 ?_
  refine lv_aload_n hx hb dX8_tickTrial_14 rfl (lv_at hl 0 rfl) ?_
  refine w_get (v := .ref (ad G 5 0)) C0 hW 8 0 (by decide) (by decide) rfl rfl in_X8 8 (by decide) w_292 rfl dX8_tickTrial_15 ?_
  refine w_cv hS (w_runV (As := [.int 1000000, .int (hv 7 0 0), .ref (ad G 5 0)]) C0 hW 4 36 (by decide) (by decide) rfl rfl (c_X4_tick l G A 36 1000000 (hv 7 0 0) (by decide) hv _ h) ⟨⟨w_473, w_8, w_476⟩, pl_X4_tick, ⟨Nat.le_of_ble_eq_true rfl, Nat.le_of_ble_eq_true rfl⟩, ⟨Nat.le_refl _, Nat.le_refl _⟩⟩ ⟨w_474, w_475⟩ rfl hl.1 rfl (Nat.le_of_ble_eq_true rfl) dX8_tickTrial_18) (fun hv1 h H locs hW hS => ?_)
  exact w_vret C0 hr hW hS h dX8_tickTrial_21

def V_X8_ticksToSlam_27 (a1 : Int32) (post : Int32 → HV → Prop) : Nat → Int32 → HV → Prop
  | 0, _, _ => False
  | n27 + 1, v3, hv => ((2000 < v3 → post (-1005) hv) ∧ (¬ (2000 < v3) → (V_X8_tickTrial hv (fun hv4 => (((hv4 5 0 2) = 0 → (∀ x6 : Int32, x6 = v3 + 1 → V_X8_ticksToSlam_27 a1 post n27 x6 hv4)) ∧ (¬ ((hv4 5 0 2) = 0) → post v3 hv4))))))
set_option maxHeartbeats 4000000 in
theorem k_X8_ticksToSlam_27 {p : Program} {l : Launch} {e : Env} {s : State} {m : MethodId} {args : Array Value} {below : List Frame} {meth : Method} {c : Code} {G : wG} {A : Nat → Prop} (a1 : Int32) (post : Int32 → HV → Prop) (C0 : cx p s m args meth c "RamStation" cX8_ticksToSlam 4 G) (hr : meth.sig.returnType = (Option.some FieldType.int))   : ∀ (n : Nat) (v3 : Int32) (hv : HV), V_X8_ticksToSlam_27 a1 post n v3 hv → ∀ (H : Heap) (locs : List Loc) (ls : Array Slot), wd G A hv H → va_S A s.heap H locs → lv_has ls 4 [(0, .ref (ad G 8 0)), (3, .int v3)] → W p l e (wrm 5) s m args below meth c H locs 0 0 (MQ below (qI G A post) args s 0 0 A) (F0 m 27 ls []) := by
  have hx := C0.1
  have hb := C0.2.1
  have hown := C0.2.2.2.1
  have hts := C0.2.2.2.2.1
  intro n
  induction n with
  | zero =>
    intro v3 hv  h
    exact (h : False).elim
  | succ n ih =>
    intro v3 hv  h H locs ls hW hS hl
    rw [V_X8_ticksToSlam_27] at h
    refine lv_iload_n hx hb dX8_ticksToSlam_27 rfl (lv_at hl 1 rfl) ?_
    refine lv_sipush (v := 2000) hx hb dX8_ticksToSlam_28 (by decide) ?_
    refine lv_icmp_gt (tgt := 56) hx hb dX8_ticksToSlam_31 (by decide) (fun c3 => ?_) (fun c3 => ?_)
    · have h := h.1 c3
      refine lv_sipush (v := (-1005)) hx hb dX8_ticksToSlam_56 (by decide) ?_
      exact w_iret C0 hr hW hS h dX8_ticksToSlam_59
    · have h := h.2 c3
      refine lv_aload_n hx hb dX8_ticksToSlam_34 rfl (lv_at hl 0 rfl) ?_
      refine w_cv hS (w_runV (As := []) C0 hW 8 0 (by decide) (by decide) rfl rfl (c_X8_tickTrial l G A hv _ h) ⟨⟨w_611, w_6, w_614⟩, pl_X8_tickTrial, ⟨Nat.le_of_ble_eq_true rfl, Nat.le_of_ble_eq_true rfl⟩, ⟨Nat.le_refl _, Nat.le_refl _⟩⟩ ⟨w_613, w_3⟩ rfl hl.1 rfl (Nat.le_of_ble_eq_true rfl) dX8_ticksToSlam_35) (fun hv4 h H locs hW hS => ?_)
      refine lv_aload_n hx hb dX8_ticksToSlam_38 rfl (lv_at hl 0 rfl) ?_
      refine w_get (v := .ref (ad G 5 0)) C0 hW 8 0 (by decide) (by decide) rfl rfl in_X8 8 (by decide) w_292 rfl dX8_ticksToSlam_39 ?_
      refine w_get (v := .int (hv4 5 0 2)) C0 hW 5 0 (by decide) (by decide) rfl rfl in_X5 2 (by decide) w_264 rfl dX8_ticksToSlam_42 ?_
      refine lv_if_eq (tgt := 50) hx hb dX8_ticksToSlam_45 (by decide) (fun c5 => ?_) (fun c5 => ?_)
      · have h := h.1 c5
        obtain ⟨x6, ex6⟩ : ∃ y : Int32, y = v3 + 1 := ⟨_, rfl⟩
        have h := h x6 ex6
        refine lv_iinc (v := x6) (lv' := [(3, .int x6), (0, .ref (ad G 8 0))]) hx hb dX8_ticksToSlam_50 hl (k := 1) rfl (by rw [ex6]; rfl) (by decide) rfl (fun ls hl => ?_)
        refine lv_goto (tgt := 27) hx hb dX8_ticksToSlam_53 (by decide) ?_
        exact ih x6 hv4 h _ _ _ hW hS (lv_sub hl [1, 0] rfl)
      · have h := h.2 c5
        refine lv_iload_n hx hb dX8_ticksToSlam_48 rfl (lv_at hl 1 rfl) ?_
        exact w_iret C0 hr hW hS h dX8_ticksToSlam_49
theorem pl_X8_ticksToSlam : yX8_ticksToSlam.cls ≠ "java/lang/invoke/MethodHandle" ∧ yX8_ticksToSlam.cls ≠ "java/lang/invoke/VarHandle" ∧ (parseMethodDescriptor yX8_ticksToSlam.desc).map (fun d => d.parameters.length) = some 1 := ⟨by decide +kernel, by decide +kernel, by decide +kernel⟩
def V_X8_ticksToSlam (a1 : Int32) (hv : HV) (post : Int32 → HV → Prop) : Prop := (V_X7_pumpAt 0 a1 hv (fun o1 hv1 => (o1 = none → post (-1001) hv1) ∧ (∀ r1 : Nat, o1 = some r1 → r1 < 37 → (V_X4_copyFrom 36 r1 hv1 (fun hv2 => (∃ n27, V_X8_ticksToSlam_27 a1 post n27 1 hv2))))))
set_option maxHeartbeats 4000000 in
theorem c_X8_ticksToSlam (l : Launch) (G : wG) (A : Nat → Prop) (a1 : Int32) (hv : HV) (post : Int32 → HV → Prop) (h : V_X8_ticksToSlam a1 hv post) : wM l yX8_ticksToSlam cX8_ticksToSlam 4 ((Option.some FieldType.int)) 5 G A hv [.ref (ad G 8 0), .int a1] (qI G A post) := by
  refine wM_of (by decide +kernel) (Nat.le_of_ble_eq_true rfl) ?_
  intro p e s m args below meth c C0 hr ls hl hW hS
  have hx := C0.1
  have hb := C0.2.1
  have hown := C0.2.2.2.1
  have hts := C0.2.2.2.2.1
  have hl : lv_has ls 4 [(0, .ref (ad G 8 0)), (1, .int a1)] := hl
  unfold V_X8_ticksToSlam at h
  refine lv_aload_n hx hb dX8_ticksToSlam_0 rfl (lv_at hl 0 rfl) ?_
  refine w_get (v := .ref (ad G 7 0)) C0 hW 8 0 (by decide) (by decide) rfl rfl in_X8 0 (by decide) w_284 rfl dX8_ticksToSlam_1 ?_
  refine lv_iload_n hx hb dX8_ticksToSlam_4 rfl (lv_at hl 1 rfl) ?_
  refine w_cp hS (w_runV (As := [.int a1]) C0 hW 7 0 (by decide) (by decide) rfl rfl (c_X7_pumpAt l G A 0 a1 (by decide) hv _ h) ⟨⟨w_350, w_7, w_353⟩, pl_X7_pumpAt, ⟨Nat.le_of_ble_eq_true rfl, Nat.le_of_ble_eq_true rfl⟩, ⟨Nat.le_refl _, Nat.le_refl _⟩⟩ ⟨w_351, w_352⟩ rfl hl.1 rfl (Nat.le_of_ble_eq_true rfl) dX8_ticksToSlam_5) (fun hv1 h H locs hW hS => ?_) (fun r1 hv1 b1 h H locs hW hS => ?_)
  · have h := h.1 rfl
    refine lv_astore_nN (lv' := [(2, .null), (0, .ref (ad G 8 0)), (1, .int a1)]) hx hb dX8_ticksToSlam_8 rfl hl (by decide) rfl (fun ls hl => ?_)
    refine lv_aload_nN hx hb dX8_ticksToSlam_9 rfl (lv_at hl 0 rfl) ?_
    refine lv_ifnonnullN hx hb dX8_ticksToSlam_10 ?_
    refine lv_sipush (v := (-1001)) hx hb dX8_ticksToSlam_13 (by decide) ?_
    exact w_iret C0 hr hW hS h dX8_ticksToSlam_16
  · have h := h.2 r1 rfl b1
    refine lv_astore_n (lv' := [(2, .ref (ad G 4 r1)), (0, .ref (ad G 8 0)), (1, .int a1)]) hx hb dX8_ticksToSlam_8 rfl hl (by decide) rfl (fun ls hl => ?_)
    refine lv_aload_n hx hb dX8_ticksToSlam_9 rfl (lv_at hl 0 rfl) ?_
    refine lv_ifnonnull (tgt := 17) hx hb dX8_ticksToSlam_10 (by decide) ?_
    refine lv_aload_n hx hb dX8_ticksToSlam_17 rfl (lv_at hl 1 rfl) ?_
    refine w_get (v := .ref (ad G 4 36)) C0 hW 8 0 (by decide) (by decide) rfl rfl in_X8 9 (by decide) w_293 rfl dX8_ticksToSlam_18 ?_
    refine lv_aload_n hx hb dX8_ticksToSlam_21 rfl (lv_at hl 0 rfl) ?_
    refine w_cv hS (w_runV (As := [.ref (ad G 4 r1)]) C0 hW 4 36 (by decide) (by decide) rfl rfl (c_X4_copyFrom l G A 36 r1 (by decide) b1 hv1 _ h) ⟨⟨w_610, w_8, w_386⟩, pl_X4_copyFrom, ⟨Nat.le_of_ble_eq_true rfl, Nat.le_of_ble_eq_true rfl⟩, ⟨Nat.le_refl _, Nat.le_refl _⟩⟩ ⟨w_384, w_385⟩ rfl hl.1 rfl (Nat.le_of_ble_eq_true rfl) dX8_ticksToSlam_22) (fun hv2 h H locs hW hS => ?_)
    refine lv_iconst (v := 1) hx hb dX8_ticksToSlam_25 (by decide) ?_
    refine lv_istore_n (lv' := [(3, .int 1), (2, .ref (ad G 4 r1)), (0, .ref (ad G 8 0)), (1, .int a1)]) hx hb dX8_ticksToSlam_26 rfl hl (by decide) rfl (fun ls hl => ?_)
    obtain ⟨n7, h⟩ := h
    exact k_X8_ticksToSlam_27 a1 post C0 hr n7 1 hv2 h _ _ _ hW hS (lv_sub hl [2, 0] rfl)

def V_X8_trialDelivery_4 (a1 : Int32) (post : Int32 → HV → Prop) : Nat → Int32 → Int32 → HV → Prop
  | 0, _, _, _ => False
  | n4 + 1, v2, v3, hv => ((a1 ≤ v3 → post v2 hv) ∧ (¬ (a1 ≤ v3) → (V_X8_tickTrial hv (fun hv2 => (∀ x3 : Int32, x3 = (v2 + (hv2 5 0 1)) → (∀ x4 : Int32, x4 = v3 + 1 → V_X8_trialDelivery_4 a1 post n4 x3 x4 hv2))))))
set_option maxHeartbeats 4000000 in
theorem k_X8_trialDelivery_4 {p : Program} {l : Launch} {e : Env} {s : State} {m : MethodId} {args : Array Value} {below : List Frame} {meth : Method} {c : Code} {G : wG} {A : Nat → Prop} (a1 : Int32) (post : Int32 → HV → Prop) (C0 : cx p s m args meth c "RamStation" cX8_trialDelivery 4 G) (hr : meth.sig.returnType = (Option.some FieldType.int))   : ∀ (n : Nat) (v2 : Int32) (v3 : Int32) (hv : HV), V_X8_trialDelivery_4 a1 post n v2 v3 hv → ∀ (H : Heap) (locs : List Loc) (ls : Array Slot), wd G A hv H → va_S A s.heap H locs → lv_has ls 4 [(0, .ref (ad G 8 0)), (1, .int a1), (2, .int v2), (3, .int v3)] → W p l e (wrm 5) s m args below meth c H locs 0 0 (MQ below (qI G A post) args s 0 0 A) (F0 m 4 ls []) := by
  have hx := C0.1
  have hb := C0.2.1
  have hown := C0.2.2.2.1
  have hts := C0.2.2.2.2.1
  intro n
  induction n with
  | zero =>
    intro v2 v3 hv  h
    exact (h : False).elim
  | succ n ih =>
    intro v2 v3 hv  h H locs ls hW hS hl
    rw [V_X8_trialDelivery_4] at h
    refine lv_iload_n hx hb dX8_trialDelivery_4 rfl (lv_at hl 3 rfl) ?_
    refine lv_iload_n hx hb dX8_trialDelivery_5 rfl (lv_at hl 1 rfl) ?_
    refine lv_icmp_ge (tgt := 29) hx hb dX8_trialDelivery_6 (by decide) (fun c1 => ?_) (fun c1 => ?_)
    · have h := h.1 c1
      refine lv_iload_n hx hb dX8_trialDelivery_29 rfl (lv_at hl 2 rfl) ?_
      exact w_iret C0 hr hW hS h dX8_trialDelivery_30
    · have h := h.2 c1
      refine lv_aload_n hx hb dX8_trialDelivery_9 rfl (lv_at hl 0 rfl) ?_
      refine w_cv hS (w_runV (As := []) C0 hW 8 0 (by decide) (by decide) rfl rfl (c_X8_tickTrial l G A hv _ h) ⟨⟨w_611, w_6, w_614⟩, pl_X8_tickTrial, ⟨Nat.le_of_ble_eq_true rfl, Nat.le_of_ble_eq_true rfl⟩, ⟨Nat.le_refl _, Nat.le_refl _⟩⟩ ⟨w_613, w_3⟩ rfl hl.1 rfl (Nat.le_of_ble_eq_true rfl) dX8_trialDelivery_10) (fun hv2 h H locs hW hS => ?_)
      refine lv_iload_n hx hb dX8_trialDelivery_13 rfl (lv_at hl 2 rfl) ?_
      refine lv_aload_n hx hb dX8_trialDelivery_14 rfl (lv_at hl 0 rfl) ?_
      refine w_get (v := .ref (ad G 5 0)) C0 hW 8 0 (by decide) (by decide) rfl rfl in_X8 8 (by decide) w_292 rfl dX8_trialDelivery_15 ?_
      refine w_get (v := .int (hv2 5 0 1)) C0 hW 5 0 (by decide) (by decide) rfl rfl in_X5 1 (by decide) w_261 rfl dX8_trialDelivery_18 ?_
      refine lv_iadd hx hb dX8_trialDelivery_21 ?_
      refine lv_topi (fun x3 ex3 => ?_)
      have h := h x3 ex3
      refine lv_istore_n (lv' := [(2, .int x3), (0, .ref (ad G 8 0)), (1, .int a1), (3, .int v3)]) hx hb dX8_trialDelivery_22 rfl hl (by decide) rfl (fun ls hl => ?_)
      obtain ⟨x4, ex4⟩ : ∃ y : Int32, y = v3 + 1 := ⟨_, rfl⟩
      have h := h x4 ex4
      refine lv_iinc (v := x4) (lv' := [(3, .int x4), (2, .int x3), (0, .ref (ad G 8 0)), (1, .int a1)]) hx hb dX8_trialDelivery_23 hl (k := 3) rfl (by rw [ex4]; rfl) (by decide) rfl (fun ls hl => ?_)
      refine lv_goto (tgt := 4) hx hb dX8_trialDelivery_26 (by decide) ?_
      exact ih x3 x4 hv2 h _ _ _ hW hS (lv_sub hl [2, 3, 1, 0] rfl)
theorem pl_X8_trialDelivery : yX8_trialDelivery.cls ≠ "java/lang/invoke/MethodHandle" ∧ yX8_trialDelivery.cls ≠ "java/lang/invoke/VarHandle" ∧ (parseMethodDescriptor yX8_trialDelivery.desc).map (fun d => d.parameters.length) = some 1 := ⟨by decide +kernel, by decide +kernel, by decide +kernel⟩
def V_X8_trialDelivery (a1 : Int32) (hv : HV) (post : Int32 → HV → Prop) : Prop := (∃ n4, V_X8_trialDelivery_4 a1 post n4 0 0 hv)
set_option maxHeartbeats 4000000 in
theorem c_X8_trialDelivery (l : Launch) (G : wG) (A : Nat → Prop) (a1 : Int32) (hv : HV) (post : Int32 → HV → Prop) (h : V_X8_trialDelivery a1 hv post) : wM l yX8_trialDelivery cX8_trialDelivery 4 ((Option.some FieldType.int)) 5 G A hv [.ref (ad G 8 0), .int a1] (qI G A post) := by
  refine wM_of (by decide +kernel) (Nat.le_of_ble_eq_true rfl) ?_
  intro p e s m args below meth c C0 hr ls hl hW hS
  have hx := C0.1
  have hb := C0.2.1
  have hown := C0.2.2.2.1
  have hts := C0.2.2.2.2.1
  have hl : lv_has ls 4 [(0, .ref (ad G 8 0)), (1, .int a1)] := hl
  unfold V_X8_trialDelivery at h
  refine lv_iconst (v := 0) hx hb dX8_trialDelivery_0 (by decide) ?_
  refine lv_istore_n (lv' := [(2, .int 0), (0, .ref (ad G 8 0)), (1, .int a1)]) hx hb dX8_trialDelivery_1 rfl hl (by decide) rfl (fun ls hl => ?_)
  refine lv_iconst (v := 0) hx hb dX8_trialDelivery_2 (by decide) ?_
  refine lv_istore_n (lv' := [(3, .int 0), (2, .int 0), (0, .ref (ad G 8 0)), (1, .int a1)]) hx hb dX8_trialDelivery_3 rfl hl (by decide) rfl (fun ls hl => ?_)
  obtain ⟨n5, h⟩ := h
  exact k_X8_trialDelivery_4 a1 post C0 hr n5 0 0 hv h _ _ _ hW hS (lv_sub hl [2, 3, 1, 0] rfl)

theorem pl_X8_deliveredIn : yX8_deliveredIn.cls ≠ "java/lang/invoke/MethodHandle" ∧ yX8_deliveredIn.cls ≠ "java/lang/invoke/VarHandle" ∧ (parseMethodDescriptor yX8_deliveredIn.desc).map (fun d => d.parameters.length) = some 2 := ⟨by decide +kernel, by decide +kernel, by decide +kernel⟩
def V_X8_deliveredIn (a1 : Int32) (a2 : Int32) (hv : HV) (post : Int32 → HV → Prop) : Prop := (V_X7_pumpAt 0 a1 hv (fun o1 hv1 => (o1 = none → post (-1001) hv1) ∧ (∀ r1 : Nat, o1 = some r1 → r1 < 37 → (V_X8_outside a2 1 500 hv1 (fun r2 hv2 => ((r2 = 0 → (V_X4_copyFrom 36 r1 hv2 (fun hv4 => (V_X8_trialDelivery a2 hv4 (fun r5 hv5 => post r5 hv5))))) ∧ (¬ (r2 = 0) → post (-1002) hv2)))))))
set_option maxHeartbeats 4000000 in
theorem c_X8_deliveredIn (l : Launch) (G : wG) (A : Nat → Prop) (a1 : Int32) (a2 : Int32) (hv : HV) (post : Int32 → HV → Prop) (h : V_X8_deliveredIn a1 a2 hv post) : wM l yX8_deliveredIn cX8_deliveredIn 4 ((Option.some FieldType.int)) 6 G A hv [.ref (ad G 8 0), .int a1, .int a2] (qI G A post) := by
  refine wM_of (by decide +kernel) (Nat.le_of_ble_eq_true rfl) ?_
  intro p e s m args below meth c C0 hr ls hl hW hS
  have hx := C0.1
  have hb := C0.2.1
  have hown := C0.2.2.2.1
  have hts := C0.2.2.2.2.1
  have hl : lv_has ls 4 [(0, .ref (ad G 8 0)), (1, .int a1), (2, .int a2)] := hl
  unfold V_X8_deliveredIn at h
  refine lv_aload_n hx hb dX8_deliveredIn_0 rfl (lv_at hl 0 rfl) ?_
  refine w_get (v := .ref (ad G 7 0)) C0 hW 8 0 (by decide) (by decide) rfl rfl in_X8 0 (by decide) w_284 rfl dX8_deliveredIn_1 ?_
  refine lv_iload_n hx hb dX8_deliveredIn_4 rfl (lv_at hl 1 rfl) ?_
  refine w_cp hS (w_runV (As := [.int a1]) C0 hW 7 0 (by decide) (by decide) rfl rfl (c_X7_pumpAt l G A 0 a1 (by decide) hv _ h) ⟨⟨w_350, w_7, w_353⟩, pl_X7_pumpAt, ⟨Nat.le_of_ble_eq_true rfl, Nat.le_of_ble_eq_true rfl⟩, ⟨Nat.le_refl _, Nat.le_refl _⟩⟩ ⟨w_351, w_352⟩ rfl hl.1 rfl (Nat.le_of_ble_eq_true rfl) dX8_deliveredIn_5) (fun hv1 h H locs hW hS => ?_) (fun r1 hv1 b1 h H locs hW hS => ?_)
  · have h := h.1 rfl
    refine lv_astore_nN (lv' := [(3, .null), (0, .ref (ad G 8 0)), (1, .int a1), (2, .int a2)]) hx hb dX8_deliveredIn_8 rfl hl (by decide) rfl (fun ls hl => ?_)
    refine lv_aload_nN hx hb dX8_deliveredIn_9 rfl (lv_at hl 0 rfl) ?_
    refine lv_ifnonnullN hx hb dX8_deliveredIn_10 ?_
    refine lv_sipush (v := (-1001)) hx hb dX8_deliveredIn_13 (by decide) ?_
    exact w_iret C0 hr hW hS h dX8_deliveredIn_16
  · have h := h.2 r1 rfl b1
    refine lv_astore_n (lv' := [(3, .ref (ad G 4 r1)), (0, .ref (ad G 8 0)), (1, .int a1), (2, .int a2)]) hx hb dX8_deliveredIn_8 rfl hl (by decide) rfl (fun ls hl => ?_)
    refine lv_aload_n hx hb dX8_deliveredIn_9 rfl (lv_at hl 0 rfl) ?_
    refine lv_ifnonnull (tgt := 17) hx hb dX8_deliveredIn_10 (by decide) ?_
    refine lv_iload_n hx hb dX8_deliveredIn_17 rfl (lv_at hl 3 rfl) ?_
    refine lv_iconst (v := 1) hx hb dX8_deliveredIn_18 (by decide) ?_
    refine lv_sipush (v := 500) hx hb dX8_deliveredIn_19 (by decide) ?_
    refine w_ci hS (w_runS (As := [.int a2, .int 1, .int 500]) C0 hW (c_X8_outside l G A a2 1 500 hv1 _ h) ⟨⟨w_373, w_6, w_337⟩, pl_X8_outside, ⟨Nat.le_of_ble_eq_true rfl, Nat.le_of_ble_eq_true rfl⟩, ⟨Nat.le_refl _, Nat.le_refl _⟩⟩ w_336 rfl hl.1 rfl (Nat.le_of_ble_eq_true rfl) dX8_deliveredIn_22) (fun r2 hv2 h H locs hW hS => ?_)
    refine lv_if_eq (tgt := 32) hx hb dX8_deliveredIn_25 (by decide) (fun c3 => ?_) (fun c3 => ?_)
    · have h := h.1 c3
      refine lv_aload_n hx hb dX8_deliveredIn_32 rfl (lv_at hl 1 rfl) ?_
      refine w_get (v := .ref (ad G 4 36)) C0 hW 8 0 (by decide) (by decide) rfl rfl in_X8 9 (by decide) w_293 rfl dX8_deliveredIn_33 ?_
      refine lv_aload_n hx hb dX8_deliveredIn_36 rfl (lv_at hl 0 rfl) ?_
      refine w_cv hS (w_runV (As := [.ref (ad G 4 r1)]) C0 hW 4 36 (by decide) (by decide) rfl rfl (c_X4_copyFrom l G A 36 r1 (by decide) b1 hv2 _ h) ⟨⟨w_610, w_8, w_386⟩, pl_X4_copyFrom, ⟨Nat.le_of_ble_eq_true rfl, Nat.le_of_ble_eq_true rfl⟩, ⟨Nat.le_refl _, Nat.le_refl _⟩⟩ ⟨w_384, w_385⟩ rfl hl.1 rfl (Nat.le_of_ble_eq_true rfl) dX8_deliveredIn_37) (fun hv4 h H locs hW hS => ?_)
      refine lv_aload_n hx hb dX8_deliveredIn_40 rfl (lv_at hl 1 rfl) ?_
      refine lv_iload_n hx hb dX8_deliveredIn_41 rfl (lv_at hl 3 rfl) ?_
      refine w_ci hS (w_runV (As := [.int a2]) C0 hW 8 0 (by decide) (by decide) rfl rfl (c_X8_trialDelivery l G A a2 hv4 _ h) ⟨⟨w_620, w_6, w_623⟩, pl_X8_trialDelivery, ⟨Nat.le_of_ble_eq_true rfl, Nat.le_of_ble_eq_true rfl⟩, ⟨Nat.le_refl _, Nat.le_refl _⟩⟩ ⟨w_622, w_4⟩ rfl hl.1 rfl (Nat.le_of_ble_eq_true rfl) dX8_deliveredIn_42) (fun r5 hv5 h H locs hW hS => ?_)
      exact w_iret C0 hr hW hS h dX8_deliveredIn_45
    · have h := h.2 c3
      refine lv_sipush (v := (-1002)) hx hb dX8_deliveredIn_28 (by decide) ?_
      exact w_iret C0 hr hW hS h dX8_deliveredIn_31

def V_X8_drawnIn_46 (a1 : Int32) (a2 : Int32) (post : Int32 → HV → Prop) : Nat → Int32 → Int32 → HV → Prop
  | 0, _, _, _ => False
  | n46 + 1, v4, v5, hv => ((a2 ≤ v5 → post v4 hv) ∧ (¬ (a2 ≤ v5) → (V_X8_tickTrial hv (fun hv6 => (∀ x7 : Int32, x7 = (v4 + (hv6 5 0 0)) → (∀ x8 : Int32, x8 = v5 + 1 → V_X8_drawnIn_46 a1 a2 post n46 x7 x8 hv6))))))
set_option maxHeartbeats 4000000 in
theorem k_X8_drawnIn_46 {p : Program} {l : Launch} {e : Env} {s : State} {m : MethodId} {args : Array Value} {below : List Frame} {meth : Method} {c : Code} {G : wG} {A : Nat → Prop} (a1 : Int32) (a2 : Int32) (post : Int32 → HV → Prop) (C0 : cx p s m args meth c "RamStation" cX8_drawnIn 6 G) (hr : meth.sig.returnType = (Option.some FieldType.int))   : ∀ (n : Nat) (v4 : Int32) (v5 : Int32) (hv : HV), V_X8_drawnIn_46 a1 a2 post n v4 v5 hv → ∀ (H : Heap) (locs : List Loc) (ls : Array Slot), wd G A hv H → va_S A s.heap H locs → lv_has ls 6 [(0, .ref (ad G 8 0)), (2, .int a2), (4, .int v4), (5, .int v5)] → W p l e (wrm 5) s m args below meth c H locs 0 0 (MQ below (qI G A post) args s 0 0 A) (F0 m 46 ls []) := by
  have hx := C0.1
  have hb := C0.2.1
  have hown := C0.2.2.2.1
  have hts := C0.2.2.2.2.1
  intro n
  induction n with
  | zero =>
    intro v4 v5 hv  h
    exact (h : False).elim
  | succ n ih =>
    intro v4 v5 hv  h H locs ls hW hS hl
    rw [V_X8_drawnIn_46] at h
    refine lv_iload hx hb dX8_drawnIn_46 (lv_at hl 3 rfl) ?_
    refine lv_iload_n hx hb dX8_drawnIn_48 rfl (lv_at hl 1 rfl) ?_
    refine lv_icmp_ge (tgt := 74) hx hb dX8_drawnIn_49 (by decide) (fun c5 => ?_) (fun c5 => ?_)
    · have h := h.1 c5
      refine lv_iload hx hb dX8_drawnIn_74 (lv_at hl 2 rfl) ?_
      exact w_iret C0 hr hW hS h dX8_drawnIn_76
    · have h := h.2 c5
      refine lv_aload_n hx hb dX8_drawnIn_52 rfl (lv_at hl 0 rfl) ?_
      refine w_cv hS (w_runV (As := []) C0 hW 8 0 (by decide) (by decide) rfl rfl (c_X8_tickTrial l G A hv _ h) ⟨⟨w_611, w_6, w_614⟩, pl_X8_tickTrial, ⟨Nat.le_of_ble_eq_true rfl, Nat.le_of_ble_eq_true rfl⟩, ⟨Nat.le_refl _, Nat.le_refl _⟩⟩ ⟨w_613, w_3⟩ rfl hl.1 rfl (Nat.le_of_ble_eq_true rfl) dX8_drawnIn_53) (fun hv6 h H locs hW hS => ?_)
      refine lv_iload hx hb dX8_drawnIn_56 (lv_at hl 2 rfl) ?_
      refine lv_aload_n hx hb dX8_drawnIn_58 rfl (lv_at hl 0 rfl) ?_
      refine w_get (v := .ref (ad G 5 0)) C0 hW 8 0 (by decide) (by decide) rfl rfl in_X8 8 (by decide) w_292 rfl dX8_drawnIn_59 ?_
      refine w_get (v := .int (hv6 5 0 0)) C0 hW 5 0 (by decide) (by decide) rfl rfl in_X5 0 (by decide) w_258 rfl dX8_drawnIn_62 ?_
      refine lv_iadd hx hb dX8_drawnIn_65 ?_
      refine lv_topi (fun x7 ex7 => ?_)
      have h := h x7 ex7
      refine lv_istore (lv' := [(4, .int x7), (0, .ref (ad G 8 0)), (2, .int a2), (5, .int v5)]) hx hb dX8_drawnIn_66 hl (by decide) rfl (fun ls hl => ?_)
      obtain ⟨x8, ex8⟩ : ∃ y : Int32, y = v5 + 1 := ⟨_, rfl⟩
      have h := h x8 ex8
      refine lv_iinc (v := x8) (lv' := [(5, .int x8), (4, .int x7), (0, .ref (ad G 8 0)), (2, .int a2)]) hx hb dX8_drawnIn_68 hl (k := 3) rfl (by rw [ex8]; rfl) (by decide) rfl (fun ls hl => ?_)
      refine lv_goto (tgt := 46) hx hb dX8_drawnIn_71 (by decide) ?_
      exact ih x7 x8 hv6 h _ _ _ hW hS (lv_sub hl [2, 3, 1, 0] rfl)
theorem pl_X8_drawnIn : yX8_drawnIn.cls ≠ "java/lang/invoke/MethodHandle" ∧ yX8_drawnIn.cls ≠ "java/lang/invoke/VarHandle" ∧ (parseMethodDescriptor yX8_drawnIn.desc).map (fun d => d.parameters.length) = some 2 := ⟨by decide +kernel, by decide +kernel, by decide +kernel⟩
def V_X8_drawnIn (a1 : Int32) (a2 : Int32) (hv : HV) (post : Int32 → HV → Prop) : Prop := (V_X7_pumpAt 0 a1 hv (fun o1 hv1 => (o1 = none → post (-1001) hv1) ∧ (∀ r1 : Nat, o1 = some r1 → r1 < 37 → (V_X8_outside a2 1 500 hv1 (fun r2 hv2 => ((r2 = 0 → (V_X4_copyFrom 36 r1 hv2 (fun hv4 => (∃ n46, V_X8_drawnIn_46 a1 a2 post n46 0 0 hv4)))) ∧ (¬ (r2 = 0) → post (-1002) hv2)))))))
set_option maxHeartbeats 4000000 in
theorem c_X8_drawnIn (l : Launch) (G : wG) (A : Nat → Prop) (a1 : Int32) (a2 : Int32) (hv : HV) (post : Int32 → HV → Prop) (h : V_X8_drawnIn a1 a2 hv post) : wM l yX8_drawnIn cX8_drawnIn 6 ((Option.some FieldType.int)) 5 G A hv [.ref (ad G 8 0), .int a1, .int a2] (qI G A post) := by
  refine wM_of (by decide +kernel) (Nat.le_of_ble_eq_true rfl) ?_
  intro p e s m args below meth c C0 hr ls hl hW hS
  have hx := C0.1
  have hb := C0.2.1
  have hown := C0.2.2.2.1
  have hts := C0.2.2.2.2.1
  have hl : lv_has ls 6 [(0, .ref (ad G 8 0)), (1, .int a1), (2, .int a2)] := hl
  unfold V_X8_drawnIn at h
  refine lv_aload_n hx hb dX8_drawnIn_0 rfl (lv_at hl 0 rfl) ?_
  refine w_get (v := .ref (ad G 7 0)) C0 hW 8 0 (by decide) (by decide) rfl rfl in_X8 0 (by decide) w_284 rfl dX8_drawnIn_1 ?_
  refine lv_iload_n hx hb dX8_drawnIn_4 rfl (lv_at hl 1 rfl) ?_
  refine w_cp hS (w_runV (As := [.int a1]) C0 hW 7 0 (by decide) (by decide) rfl rfl (c_X7_pumpAt l G A 0 a1 (by decide) hv _ h) ⟨⟨w_350, w_7, w_353⟩, pl_X7_pumpAt, ⟨Nat.le_of_ble_eq_true rfl, Nat.le_of_ble_eq_true rfl⟩, ⟨Nat.le_refl _, Nat.le_refl _⟩⟩ ⟨w_351, w_352⟩ rfl hl.1 rfl (Nat.le_of_ble_eq_true rfl) dX8_drawnIn_5) (fun hv1 h H locs hW hS => ?_) (fun r1 hv1 b1 h H locs hW hS => ?_)
  · have h := h.1 rfl
    refine lv_astore_nN (lv' := [(3, .null), (0, .ref (ad G 8 0)), (1, .int a1), (2, .int a2)]) hx hb dX8_drawnIn_8 rfl hl (by decide) rfl (fun ls hl => ?_)
    refine lv_aload_nN hx hb dX8_drawnIn_9 rfl (lv_at hl 0 rfl) ?_
    refine lv_ifnonnullN hx hb dX8_drawnIn_10 ?_
    refine lv_sipush (v := (-1001)) hx hb dX8_drawnIn_13 (by decide) ?_
    exact w_iret C0 hr hW hS h dX8_drawnIn_16
  · have h := h.2 r1 rfl b1
    refine lv_astore_n (lv' := [(3, .ref (ad G 4 r1)), (0, .ref (ad G 8 0)), (1, .int a1), (2, .int a2)]) hx hb dX8_drawnIn_8 rfl hl (by decide) rfl (fun ls hl => ?_)
    refine lv_aload_n hx hb dX8_drawnIn_9 rfl (lv_at hl 0 rfl) ?_
    refine lv_ifnonnull (tgt := 17) hx hb dX8_drawnIn_10 (by decide) ?_
    refine lv_iload_n hx hb dX8_drawnIn_17 rfl (lv_at hl 3 rfl) ?_
    refine lv_iconst (v := 1) hx hb dX8_drawnIn_18 (by decide) ?_
    refine lv_sipush (v := 500) hx hb dX8_drawnIn_19 (by decide) ?_
    refine w_ci hS (w_runS (As := [.int a2, .int 1, .int 500]) C0 hW (c_X8_outside l G A a2 1 500 hv1 _ h) ⟨⟨w_373, w_6, w_337⟩, pl_X8_outside, ⟨Nat.le_of_ble_eq_true rfl, Nat.le_of_ble_eq_true rfl⟩, ⟨Nat.le_refl _, Nat.le_refl _⟩⟩ w_336 rfl hl.1 rfl (Nat.le_of_ble_eq_true rfl) dX8_drawnIn_22) (fun r2 hv2 h H locs hW hS => ?_)
    refine lv_if_eq (tgt := 32) hx hb dX8_drawnIn_25 (by decide) (fun c3 => ?_) (fun c3 => ?_)
    · have h := h.1 c3
      refine lv_aload_n hx hb dX8_drawnIn_32 rfl (lv_at hl 1 rfl) ?_
      refine w_get (v := .ref (ad G 4 36)) C0 hW 8 0 (by decide) (by decide) rfl rfl in_X8 9 (by decide) w_293 rfl dX8_drawnIn_33 ?_
      refine lv_aload_n hx hb dX8_drawnIn_36 rfl (lv_at hl 0 rfl) ?_
      refine w_cv hS (w_runV (As := [.ref (ad G 4 r1)]) C0 hW 4 36 (by decide) (by decide) rfl rfl (c_X4_copyFrom l G A 36 r1 (by decide) b1 hv2 _ h) ⟨⟨w_610, w_8, w_386⟩, pl_X4_copyFrom, ⟨Nat.le_of_ble_eq_true rfl, Nat.le_of_ble_eq_true rfl⟩, ⟨Nat.le_refl _, Nat.le_refl _⟩⟩ ⟨w_384, w_385⟩ rfl hl.1 rfl (Nat.le_of_ble_eq_true rfl) dX8_drawnIn_37) (fun hv4 h H locs hW hS => ?_)
      refine lv_iconst (v := 0) hx hb dX8_drawnIn_40 (by decide) ?_
      refine lv_istore (lv' := [(4, .int 0), (3, .ref (ad G 4 r1)), (0, .ref (ad G 8 0)), (1, .int a1), (2, .int a2)]) hx hb dX8_drawnIn_41 hl (by decide) rfl (fun ls hl => ?_)
      refine lv_iconst (v := 0) hx hb dX8_drawnIn_43 (by decide) ?_
      refine lv_istore (lv' := [(5, .int 0), (4, .int 0), (3, .ref (ad G 4 r1)), (0, .ref (ad G 8 0)), (1, .int a1), (2, .int a2)]) hx hb dX8_drawnIn_44 hl (by decide) rfl (fun ls hl => ?_)
      obtain ⟨n9, h⟩ := h
      exact k_X8_drawnIn_46 a1 a2 post C0 hr n9 0 0 hv4 h _ _ _ hW hS (lv_sub hl [3, 5, 1, 0] rfl)
    · have h := h.2 c3
      refine lv_sipush (v := (-1002)) hx hb dX8_drawnIn_28 (by decide) ?_
      exact w_iret C0 hr hW hS h dX8_drawnIn_31
