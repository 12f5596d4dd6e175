theorem pl_X0_renew : yX0_renew.cls ≠ "java/lang/invoke/MethodHandle" ∧ yX0_renew.cls ≠ "java/lang/invoke/VarHandle" ∧ (parseMethodDescriptor yX0_renew.desc).map (fun d => d.parameters.length) = some 2 := ⟨by decide +kernel, by decide +kernel, by decide +kernel⟩
def V_X0_renew (i0 : Nat) (a1 : Int32) (a2 : Int32) (hv : HV) (post : HV → Prop) : Prop := (∀ hv1 : HV, hv1 = up hv 0 i0 (upd (hv 0 i0) 0 a1) → (∀ hv2 : HV, hv2 = up hv1 0 i0 (upd (hv1 0 i0) 1 (a1 / 10)) → (bOK a2 ∧ (∀ hv4 : HV, hv4 = up hv2 0 i0 (upd (hv2 0 i0) 2 a2) → (∀ hv5 : HV, hv5 = up hv4 0 i0 (upd (hv4 0 i0) 3 0) → (∀ hv6 : HV, hv6 = up hv5 0 i0 (upd (hv5 0 i0) 4 a1) → post hv6))))))
set_option maxHeartbeats 4000000 in
theorem c_X0_renew (l : Launch) (G : wG) (A : Nat → Prop) (i0 : Nat) (a1 : Int32) (a2 : Int32) (hi0 : i0 < 37) (hv : HV) (post : HV → Prop) (h : V_X0_renew i0 a1 a2 hv post) : wM l yX0_renew cX0_renew 3 ((Option.none : Option FieldType)) 0 G A hv [.ref (ad G 0 i0), .int a1, .int a2] (qV G A post) := by
  refine wM_of (by decide +kernel) (Nat.le_of_ble_eq_true rfl) ?_
  intro p e s m args below meth c C0 hr ls hl hW hS
  have hx := C0.1
  have hb := C0.2.1
  have hown := C0.2.2.2.1
  have hts := C0.2.2.2.2.1
  have hl : lv_has ls 3 [(0, .ref (ad G 0 i0)), (1, .int a1), (2, .int a2)] := hl
  unfold V_X0_renew at h
  refine lv_aload_n hx hb dX0_renew_0 rfl (lv_at hl 0 rfl) ?_
  refine lv_iload_n hx hb dX0_renew_1 rfl (lv_at hl 1 rfl) ?_
  refine w_put (v := a1) C0 hW hS 0 i0 (by decide) (show i0 < 37 by omega) rfl rfl in_X0 tyX0_ok nmX0 0 (by decide) w_44 rfl rfl rfl (Nat.le_of_ble_eq_true rfl) rfl dX0_renew_2 (fun hv1 ehv1 H locs hW hS => ?_)
  have h := h hv1 ehv1
  refine lv_aload_n hx hb dX0_renew_5 rfl (lv_at hl 0 rfl) ?_
  refine lv_iload_n hx hb dX0_renew_6 rfl (lv_at hl 1 rfl) ?_
  refine lv_bipush (v := 10) hx hb dX0_renew_7 (by decide) ?_
  refine lv_idiv hx hb dX0_renew_9 (by decide) ?_
  refine w_put (v := (a1 / 10)) C0 hW hS 0 i0 (by decide) (show i0 < 37 by omega) rfl rfl in_X0 tyX0_ok nmX0 1 (by decide) w_45 rfl rfl rfl (Nat.le_of_ble_eq_true rfl) rfl dX0_renew_10 (fun hv2 ehv2 H locs hW hS => ?_)
  have h := h hv2 ehv2
  refine lv_aload_n hx hb dX0_renew_13 rfl (lv_at hl 0 rfl) ?_
  refine lv_iload_n hx hb dX0_renew_14 rfl (lv_at hl 2 rfl) ?_
  obtain ⟨q3, h⟩ := h
  refine w_put (v := a2) C0 hW hS 0 i0 (by decide) (show i0 < 37 by omega) rfl rfl in_X0 tyX0_ok nmX0 2 (by decide) w_47 rfl q3.1 q3.2 (Nat.le_of_ble_eq_true rfl) rfl dX0_renew_15 (fun hv4 ehv4 H locs hW hS => ?_)
  have h := h hv4 ehv4
  refine lv_aload_n hx hb dX0_renew_18 rfl (lv_at hl 0 rfl) ?_
  refine lv_iconst (v := 0) hx hb dX0_renew_19 (by decide) ?_
  refine w_put (v := 0) C0 hW hS 0 i0 (by decide) (show i0 < 37 by omega) rfl rfl in_X0 tyX0_ok nmX0 3 (by decide) w_48 rfl rfl rfl (Nat.le_of_ble_eq_true rfl) rfl dX0_renew_20 (fun hv5 ehv5 H locs hW hS => ?_)
  have h := h hv5 ehv5
  refine lv_aload_n hx hb dX0_renew_23 rfl (lv_at hl 0 rfl) ?_
  refine lv_iload_n hx hb dX0_renew_24 rfl (lv_at hl 1 rfl) ?_
  refine w_put (v := a1) C0 hW hS 0 i0 (by decide) (show i0 < 37 by omega) rfl rfl in_X0 tyX0_ok nmX0 4 (by decide) w_51 rfl rfl rfl (Nat.le_of_ble_eq_true rfl) rfl dX0_renew_25 (fun hv6 ehv6 H locs hW hS => ?_)
  have h := h hv6 ehv6
  exact w_vret C0 hr hW hS h dX0_renew_28

theorem pl_X0_copyFrom : yX0_copyFrom.cls ≠ "java/lang/invoke/MethodHandle" ∧ yX0_copyFrom.cls ≠ "java/lang/invoke/VarHandle" ∧ (parseMethodDescriptor yX0_copyFrom.desc).map (fun d => d.parameters.length) = some 1 := ⟨by decide +kernel, by decide +kernel, by decide +kernel⟩
def V_X0_copyFrom (i0 : Nat) (i1 : Nat) (hv : HV) (post : HV → Prop) : Prop := (∀ hv1 : HV, hv1 = up hv 0 i0 (upd (hv 0 i0) 0 (hv 0 i1 0)) → (∀ hv2 : HV, hv2 = up hv1 0 i0 (upd (hv1 0 i0) 1 (hv1 0 i1 1)) → (bOK (hv2 0 i1 2) ∧ (∀ hv4 : HV, hv4 = up hv2 0 i0 (upd (hv2 0 i0) 2 (hv2 0 i1 2)) → (∀ hv5 : HV, hv5 = up hv4 0 i0 (upd (hv4 0 i0) 3 (hv4 0 i1 3)) → (∀ hv6 : HV, hv6 = up hv5 0 i0 (upd (hv5 0 i0) 4 (hv5 0 i1 4)) → post hv6))))))
set_option maxHeartbeats 4000000 in
theorem c_X0_copyFrom (l : Launch) (G : wG) (A : Nat → Prop) (i0 : Nat) (i1 : Nat) (hi0 : i0 < 37) (hi1 : i1 < 37) (hv : HV) (post : HV → Prop) (h : V_X0_copyFrom i0 i1 hv post) : wM l yX0_copyFrom cX0_copyFrom 2 ((Option.none : Option FieldType)) 0 G A hv [.ref (ad G 0 i0), .ref (ad G 0 i1)] (qV G A post) := by
  refine wM_of (by decide +kernel) (Nat.le_of_ble_eq_true rfl) ?_
  intro p e s m args below meth c C0 hr ls hl hW hS
  have hx := C0.1
  have hb := C0.2.1
  have hown := C0.2.2.2.1
  have hts := C0.2.2.2.2.1
  have hl : lv_has ls 2 [(0, .ref (ad G 0 i0)), (1, .ref (ad G 0 i1))] := hl
  unfold V_X0_copyFrom at h
  refine lv_aload_n hx hb dX0_copyFrom_0 rfl (lv_at hl 0 rfl) ?_
  refine lv_aload_n hx hb dX0_copyFrom_1 rfl (lv_at hl 1 rfl) ?_
  refine w_get (v := .int (hv 0 i1 0)) C0 hW 0 i1 (by decide) (show i1 < 37 by omega) rfl rfl in_X0 0 (by decide) w_44 rfl dX0_copyFrom_2 ?_
  refine w_put (v := (hv 0 i1 0)) C0 hW hS 0 i0 (by decide) (show i0 < 37 by omega) rfl rfl in_X0 tyX0_ok nmX0 0 (by decide) w_44 rfl rfl rfl (Nat.le_of_ble_eq_true rfl) rfl dX0_copyFrom_5 (fun hv1 ehv1 H locs hW hS => ?_)
  have h := h hv1 ehv1
  refine lv_aload_n hx hb dX0_copyFrom_8 rfl (lv_at hl 0 rfl) ?_
  refine lv_aload_n hx hb dX0_copyFrom_9 rfl (lv_at hl 1 rfl) ?_
  refine w_get (v := .int (hv1 0 i1 1)) C0 hW 0 i1 (by decide) (show i1 < 37 by omega) rfl rfl in_X0 1 (by decide) w_45 rfl dX0_copyFrom_10 ?_
  refine w_put (v := (hv1 0 i1 1)) C0 hW hS 0 i0 (by decide) (show i0 < 37 by omega) rfl rfl in_X0 tyX0_ok nmX0 1 (by decide) w_45 rfl rfl rfl (Nat.le_of_ble_eq_true rfl) rfl dX0_copyFrom_13 (fun hv2 ehv2 H locs hW hS => ?_)
  have h := h hv2 ehv2
  refine lv_aload_n hx hb dX0_copyFrom_16 rfl (lv_at hl 0 rfl) ?_
  refine lv_aload_n hx hb dX0_copyFrom_17 rfl (lv_at hl 1 rfl) ?_
  refine w_get (v := .int (hv2 0 i1 2)) C0 hW 0 i1 (by decide) (show i1 < 37 by omega) rfl rfl in_X0 2 (by decide) w_47 rfl dX0_copyFrom_18 ?_
  obtain ⟨q3, h⟩ := h
  refine w_put (v := (hv2 0 i1 2)) C0 hW hS 0 i0 (by decide) (show i0 < 37 by omega) rfl rfl in_X0 tyX0_ok nmX0 2 (by decide) w_47 rfl q3.1 q3.2 (Nat.le_of_ble_eq_true rfl) rfl dX0_copyFrom_21 (fun hv4 ehv4 H locs hW hS => ?_)
  have h := h hv4 ehv4
  refine lv_aload_n hx hb dX0_copyFrom_24 rfl (lv_at hl 0 rfl) ?_
  refine lv_aload_n hx hb dX0_copyFrom_25 rfl (lv_at hl 1 rfl) ?_
  refine w_get (v := .int (hv4 0 i1 3)) C0 hW 0 i1 (by decide) (show i1 < 37 by omega) rfl rfl in_X0 3 (by decide) w_48 rfl dX0_copyFrom_26 ?_
  refine w_put (v := (hv4 0 i1 3)) C0 hW hS 0 i0 (by decide) (show i0 < 37 by omega) rfl rfl in_X0 tyX0_ok nmX0 3 (by decide) w_48 rfl rfl rfl (Nat.le_of_ble_eq_true rfl) rfl dX0_copyFrom_29 (fun hv5 ehv5 H locs hW hS => ?_)
  have h := h hv5 ehv5
  refine lv_aload_n hx hb dX0_copyFrom_32 rfl (lv_at hl 0 rfl) ?_
  refine lv_aload_n hx hb dX0_copyFrom_33 rfl (lv_at hl 1 rfl) ?_
  refine w_get (v := .int (hv5 0 i1 4)) C0 hW 0 i1 (by decide) (show i1 < 37 by omega) rfl rfl in_X0 4 (by decide) w_51 rfl dX0_copyFrom_34 ?_
  refine w_put (v := (hv5 0 i1 4)) C0 hW hS 0 i0 (by decide) (show i0 < 37 by omega) rfl rfl in_X0 tyX0_ok nmX0 4 (by decide) w_51 rfl rfl rfl (Nat.le_of_ble_eq_true rfl) rfl dX0_copyFrom_37 (fun hv6 ehv6 H locs hW hS => ?_)
  have h := h hv6 ehv6
  exact w_vret C0 hr hW hS h dX0_copyFrom_40

theorem pl_X0_head : yX0_head.cls ≠ "java/lang/invoke/MethodHandle" ∧ yX0_head.cls ≠ "java/lang/invoke/VarHandle" ∧ (parseMethodDescriptor yX0_head.desc).map (fun d => d.parameters.length) = some 0 := ⟨by decide +kernel, by decide +kernel, by decide +kernel⟩
def V_X0_head (i0 : Nat) (hv : HV) (post : Int32 → HV → Prop) : Prop := (∀ x1 : Int32, x1 = ((hv 0 i0 0) - (hv 0 i0 3)) → ((1 ≤ x1 → (¬ x1 = 0 ∧ post (if (((100 * (hv 0 i0 4)) / x1) - 100) < 0 then 0 else (((100 * (hv 0 i0 4)) / x1) - 100)) hv)) ∧ (¬ (1 ≤ x1) → post 0 hv)))
set_option maxHeartbeats 4000000 in
theorem c_X0_head (l : Launch) (G : wG) (A : Nat → Prop) (i0 : Nat) (hi0 : i0 < 37) (hv : HV) (post : Int32 → HV → Prop) (h : V_X0_head i0 hv post) : wM l yX0_head cX0_head 2 ((Option.some FieldType.int)) 1 G A hv [.ref (ad G 0 i0)] (qI G A post) := by
  refine wM_of (by decide +kernel) (Nat.le_of_ble_eq_true rfl) ?_
  intro p e s m args below meth c C0 hr ls hl hW hS
  have hx := C0.1
  have hb := C0.2.1
  have hown := C0.2.2.2.1
  have hts := C0.2.2.2.2.1
  have hl : lv_has ls 2 [(0, .ref (ad G 0 i0))] := hl
  unfold V_X0_head at h
  refine lv_aload_n hx hb dX0_head_0 rfl (lv_at hl 0 rfl) ?_
  refine w_get (v := .int (hv 0 i0 0)) C0 hW 0 i0 (by decide) (show i0 < 37 by omega) rfl rfl in_X0 0 (by decide) w_44 rfl dX0_head_1 ?_
  refine lv_aload_n hx hb dX0_head_4 rfl (lv_at hl 0 rfl) ?_
  refine w_get (v := .int (hv 0 i0 3)) C0 hW 0 i0 (by decide) (show i0 < 37 by omega) rfl rfl in_X0 3 (by decide) w_48 rfl dX0_head_5 ?_
  refine lv_isub hx hb dX0_head_8 ?_
  refine lv_topi (fun x1 ex1 => ?_)
  have h := h x1 ex1
  refine lv_istore_n (lv' := [(1, .int x1), (0, .ref (ad G 0 i0))]) hx hb dX0_head_9 rfl hl (by decide) rfl (fun ls hl => ?_)
  refine lv_iload_n hx hb dX0_head_10 rfl (lv_at hl 0 rfl) ?_
  refine lv_iconst (v := 1) hx hb dX0_head_11 (by decide) ?_
  refine lv_icmp_ge (tgt := 19) hx hb dX0_head_12 (by decide) (fun c2 => ?_) (fun c2 => ?_)
  · have h := h.1 c2
    refine lv_bipush (v := 100) hx hb dX0_head_19 (by decide) ?_
    refine lv_aload_n hx hb dX0_head_21 rfl (lv_at hl 1 rfl) ?_
    refine w_get (v := .int (hv 0 i0 4)) C0 hW 0 i0 (by decide) (show i0 < 37 by omega) rfl rfl in_X0 4 (by decide) w_51 rfl dX0_head_22 ?_
    refine lv_imul hx hb dX0_head_25 ?_
    refine lv_iload_n hx hb dX0_head_26 rfl (lv_at hl 0 rfl) ?_
    obtain ⟨q3, h⟩ := h
    refine lv_idiv hx hb dX0_head_27 q3 ?_
    refine lv_bipush (v := 100) hx hb dX0_head_28 (by decide) ?_
    refine lv_isub hx hb dX0_head_30 ?_
    refine lv_iconst (v := 0) hx hb dX0_head_31 (by decide) ?_
    refine w_max C0 hl.1 w_495 w_108 w_12 w_109 (Nat.le_of_ble_eq_true rfl) (Nat.le_of_ble_eq_true rfl) (Nat.le_refl _) (Nat.le_refl _) dX0_head_32 ?_
    exact w_iret C0 hr hW hS h dX0_head_35
  · have h := h.2 c2
    refine lv_iconst (v := 0) hx hb dX0_head_15 (by decide) ?_
    refine lv_goto (tgt := 35) hx hb dX0_head_16 (by decide) ?_
    exact w_iret C0 hr hW hS h dX0_head_35

theorem pl_X0_take : yX0_take.cls ≠ "java/lang/invoke/MethodHandle" ∧ yX0_take.cls ≠ "java/lang/invoke/VarHandle" ∧ (parseMethodDescriptor yX0_take.desc).map (fun d => d.parameters.length) = some 1 := ⟨by decide +kernel, by decide +kernel, by decide +kernel⟩
def V_X0_take (i0 : Nat) (a1 : Int32) (hv : HV) (post : Int32 → HV → Prop) : Prop := (∀ x1 : Int32, x1 = (if (((hv 0 i0 0) - (hv 0 i0 1)) - (hv 0 i0 3)) < a1 then (((hv 0 i0 0) - (hv 0 i0 1)) - (hv 0 i0 3)) else a1) → (∀ hv2 : HV, hv2 = up hv 0 i0 (upd (hv 0 i0) 3 ((hv 0 i0 3) + x1)) → post x1 hv2))
set_option maxHeartbeats 4000000 in
theorem c_X0_take (l : Launch) (G : wG) (A : Nat → Prop) (i0 : Nat) (a1 : Int32) (hi0 : i0 < 37) (hv : HV) (post : Int32 → HV → Prop) (h : V_X0_take i0 a1 hv post) : wM l yX0_take cX0_take 3 ((Option.some FieldType.int)) 1 G A hv [.ref (ad G 0 i0), .int a1] (qI G A post) := by
  refine wM_of (by decide +kernel) (Nat.le_of_ble_eq_true rfl) ?_
  intro p e s m args below meth c C0 hr ls hl hW hS
  have hx := C0.1
  have hb := C0.2.1
  have hown := C0.2.2.2.1
  have hts := C0.2.2.2.2.1
  have hl : lv_has ls 3 [(0, .ref (ad G 0 i0)), (1, .int a1)] := hl
  unfold V_X0_take at h
  refine lv_iload_n hx hb dX0_take_0 rfl (lv_at hl 1 rfl) ?_
  refine lv_aload_n hx hb dX0_take_1 rfl (lv_at hl 0 rfl) ?_
  refine w_get (v := .int (hv 0 i0 0)) C0 hW 0 i0 (by decide) (show i0 < 37 by omega) rfl rfl in_X0 0 (by decide) w_44 rfl dX0_take_2 ?_
  refine lv_aload_n hx hb dX0_take_5 rfl (lv_at hl 0 rfl) ?_
  refine w_get (v := .int (hv 0 i0 1)) C0 hW 0 i0 (by decide) (show i0 < 37 by omega) rfl rfl in_X0 1 (by decide) w_45 rfl dX0_take_6 ?_
  refine lv_isub hx hb dX0_take_9 ?_
  refine lv_aload_n hx hb dX0_take_10 rfl (lv_at hl 0 rfl) ?_
  refine w_get (v := .int (hv 0 i0 3)) C0 hW 0 i0 (by decide) (show i0 < 37 by omega) rfl rfl in_X0 3 (by decide) w_48 rfl dX0_take_11 ?_
  refine lv_isub hx hb dX0_take_14 ?_
  refine w_min C0 hl.1 w_490 w_400 w_12 w_401 (Nat.le_of_ble_eq_true rfl) (Nat.le_of_ble_eq_true rfl) (Nat.le_refl _) (Nat.le_refl _) dX0_take_15 ?_
  refine lv_topi (fun x1 ex1 => ?_)
  have h := h x1 ex1
  refine lv_istore_n (lv' := [(2, .int x1), (0, .ref (ad G 0 i0)), (1, .int a1)]) hx hb dX0_take_18 rfl hl (by decide) rfl (fun ls hl => ?_)
  refine lv_aload_n hx hb dX0_take_19 rfl (lv_at hl 1 rfl) ?_
  refine lv_dup hx hb dX0_take_20 rfl ?_
  refine w_get (v := .int (hv 0 i0 3)) C0 hW 0 i0 (by decide) (show i0 < 37 by omega) rfl rfl in_X0 3 (by decide) w_48 rfl dX0_take_21 ?_
  refine lv_iload_n hx hb dX0_take_24 rfl (lv_at hl 0 rfl) ?_
  refine lv_iadd hx hb dX0_take_25 ?_
  refine w_put (v := ((hv 0 i0 3) + x1)) C0 hW hS 0 i0 (by decide) (show i0 < 37 by omega) rfl rfl in_X0 tyX0_ok nmX0 3 (by decide) w_48 rfl rfl rfl (Nat.le_of_ble_eq_true rfl) rfl dX0_take_26 (fun hv2 ehv2 H locs hW hS => ?_)
  have h := h hv2 ehv2
  refine lv_iload_n hx hb dX0_take_29 rfl (lv_at hl 0 rfl) ?_
  exact w_iret C0 hr hW hS h dX0_take_30

theorem pl_X0_changeAir : yX0_changeAir.cls ≠ "java/lang/invoke/MethodHandle" ∧ yX0_changeAir.cls ≠ "java/lang/invoke/VarHandle" ∧ (parseMethodDescriptor yX0_changeAir.desc).map (fun d => d.parameters.length) = some 0 := ⟨by decide +kernel, by decide +kernel, by decide +kernel⟩
def V_X0_changeAir (i0 : Nat) (hv : HV) (post : HV → Prop) : Prop := (((hv 0 i0 2) = 0 → (∀ hv2 : HV, hv2 = up hv 0 i0 (upd (hv 0 i0) 4 (if ((hv 0 i0 4) - 1) < (hv 0 i0 1) then (hv 0 i0 1) else ((hv 0 i0 4) - 1))) → post hv2)) ∧ (¬ ((hv 0 i0 2) = 0) → (∀ hv3 : HV, hv3 = up hv 0 i0 (upd (hv 0 i0) 4 (if (hv 0 i0 0) < ((hv 0 i0 4) + 2) then (hv 0 i0 0) else ((hv 0 i0 4) + 2))) → post hv3)))
set_option maxHeartbeats 4000000 in
theorem c_X0_changeAir (l : Launch) (G : wG) (A : Nat → Prop) (i0 : Nat) (hi0 : i0 < 37) (hv : HV) (post : HV → Prop) (h : V_X0_changeAir i0 hv post) : wM l yX0_changeAir cX0_changeAir 1 ((Option.none : Option FieldType)) 1 G A hv [.ref (ad G 0 i0)] (qV G A post) := by
  refine wM_of (by decide +kernel) (Nat.le_of_ble_eq_true rfl) ?_
  intro p e s m args below meth c C0 hr ls hl hW hS
  have hx := C0.1
  have hb := C0.2.1
  have hown := C0.2.2.2.1
  have hts := C0.2.2.2.2.1
  have hl : lv_has ls 1 [(0, .ref (ad G 0 i0))] := hl
  unfold V_X0_changeAir at h
  refine lv_aload_n hx hb dX0_changeAir_0 rfl (lv_at hl 0 rfl) ?_
  refine w_get (v := .int (hv 0 i0 2)) C0 hW 0 i0 (by decide) (show i0 < 37 by omega) rfl rfl in_X0 2 (by decide) w_47 rfl dX0_changeAir_1 ?_
  refine lv_if_eq (tgt := 27) hx hb dX0_changeAir_4 (by decide) (fun c1 => ?_) (fun c1 => ?_)
  · have h := h.1 c1
    refine lv_aload_n hx hb dX0_changeAir_27 rfl (lv_at hl 0 rfl) ?_
    refine lv_aload_n hx hb dX0_changeAir_28 rfl (lv_at hl 0 rfl) ?_
    refine w_get (v := .int (hv 0 i0 4)) C0 hW 0 i0 (by decide) (show i0 < 37 by omega) rfl rfl in_X0 4 (by decide) w_51 rfl dX0_changeAir_29 ?_
    refine lv_iconst (v := 1) hx hb dX0_changeAir_32 (by decide) ?_
    refine lv_isub hx hb dX0_changeAir_33 ?_
    refine lv_aload_n hx hb dX0_changeAir_34 rfl (lv_at hl 0 rfl) ?_
    refine w_get (v := .int (hv 0 i0 1)) C0 hW 0 i0 (by decide) (show i0 < 37 by omega) rfl rfl in_X0 1 (by decide) w_45 rfl dX0_changeAir_35 ?_
    refine w_max C0 hl.1 w_495 w_108 w_12 w_109 (Nat.le_of_ble_eq_true rfl) (Nat.le_of_ble_eq_true rfl) (Nat.le_refl _) (Nat.le_refl _) dX0_changeAir_38 ?_
    refine w_put (v := (if ((hv 0 i0 4) - 1) < (hv 0 i0 1) then (hv 0 i0 1) else ((hv 0 i0 4) - 1))) C0 hW hS 0 i0 (by decide) (show i0 < 37 by omega) rfl rfl in_X0 tyX0_ok nmX0 4 (by decide) w_51 rfl rfl rfl (Nat.le_of_ble_eq_true rfl) rfl dX0_changeAir_41 (fun hv2 ehv2 H locs hW hS => ?_)
    have h := h hv2 ehv2
    exact w_vret C0 hr hW hS h dX0_changeAir_44
  · have h := h.2 c1
    refine lv_aload_n hx hb dX0_changeAir_7 rfl (lv_at hl 0 rfl) ?_
    refine lv_aload_n hx hb dX0_changeAir_8 rfl (lv_at hl 0 rfl) ?_
    refine w_get (v := .int (hv 0 i0 4)) C0 hW 0 i0 (by decide) (show i0 < 37 by omega) rfl rfl in_X0 4 (by decide) w_51 rfl dX0_changeAir_9 ?_
    refine lv_iconst (v := 2) hx hb dX0_changeAir_12 (by decide) ?_
    refine lv_iadd hx hb dX0_changeAir_13 ?_
    refine lv_aload_n hx hb dX0_changeAir_14 rfl (lv_at hl 0 rfl) ?_
    refine w_get (v := .int (hv 0 i0 0)) C0 hW 0 i0 (by decide) (show i0 < 37 by omega) rfl rfl in_X0 0 (by decide) w_44 rfl dX0_changeAir_15 ?_
    refine w_min C0 hl.1 w_490 w_400 w_12 w_401 (Nat.le_of_ble_eq_true rfl) (Nat.le_of_ble_eq_true rfl) (Nat.le_refl _) (Nat.le_refl _) dX0_changeAir_18 ?_
    refine w_put (v := (if (hv 0 i0 0) < ((hv 0 i0 4) + 2) then (hv 0 i0 0) else ((hv 0 i0 4) + 2))) C0 hW hS 0 i0 (by decide) (show i0 < 37 by omega) rfl rfl in_X0 tyX0_ok nmX0 4 (by decide) w_51 rfl rfl rfl (Nat.le_of_ble_eq_true rfl) rfl dX0_changeAir_21 (fun hv3 ehv3 H locs hW hS => ?_)
    have h := h hv3 ehv3
    refine lv_goto (tgt := 44) hx hb dX0_changeAir_24 (by decide) ?_
    exact w_vret C0 hr hW hS h dX0_changeAir_44

theorem pl_X2_copyFrom : yX2_copyFrom.cls ≠ "java/lang/invoke/MethodHandle" ∧ yX2_copyFrom.cls ≠ "java/lang/invoke/VarHandle" ∧ (parseMethodDescriptor yX2_copyFrom.desc).map (fun d => d.parameters.length) = some 1 := ⟨by decide +kernel, by decide +kernel, by decide +kernel⟩
def V_X2_copyFrom (i0 : Nat) (i1 : Nat) (hv : HV) (post : HV → Prop) : Prop := (∀ hv1 : HV, hv1 = up hv 2 i0 (upd (hv 2 i0) 0 (hv 2 i1 0)) → (∀ hv2 : HV, hv2 = up hv1 2 i0 (upd (hv1 2 i0) 1 (hv1 2 i1 1)) → (∀ hv3 : HV, hv3 = up hv2 2 i0 (upd (hv2 2 i0) 2 (hv2 2 i1 2)) → (∀ hv4 : HV, hv4 = up hv3 2 i0 (upd (hv3 2 i0) 3 (hv3 2 i1 3)) → (∀ hv5 : HV, hv5 = up hv4 2 i0 (upd (hv4 2 i0) 4 (hv4 2 i1 4)) → (∀ hv6 : HV, hv6 = up hv5 2 i0 (upd (hv5 2 i0) 5 (hv5 2 i1 5)) → post hv6))))))
set_option maxHeartbeats 4000000 in
theorem c_X2_copyFrom (l : Launch) (G : wG) (A : Nat → Prop) (i0 : Nat) (i1 : Nat) (hi0 : i0 < 37) (hi1 : i1 < 37) (hv : HV) (post : HV → Prop) (h : V_X2_copyFrom i0 i1 hv post) : wM l yX2_copyFrom cX2_copyFrom 2 ((Option.none : Option FieldType)) 0 G A hv [.ref (ad G 2 i0), .ref (ad G 2 i1)] (qV G A post) := by
  refine wM_of (by decide +kernel) (Nat.le_of_ble_eq_true rfl) ?_
  intro p e s m args below meth c C0 hr ls hl hW hS
  have hx := C0.1
  have hb := C0.2.1
  have hown := C0.2.2.2.1
  have hts := C0.2.2.2.2.1
  have hl : lv_has ls 2 [(0, .ref (ad G 2 i0)), (1, .ref (ad G 2 i1))] := hl
  unfold V_X2_copyFrom at h
  refine lv_aload_n hx hb dX2_copyFrom_0 rfl (lv_at hl 0 rfl) ?_
  refine lv_aload_n hx hb dX2_copyFrom_1 rfl (lv_at hl 1 rfl) ?_
  refine w_get (v := .int (hv 2 i1 0)) C0 hW 2 i1 (by decide) (show i1 < 37 by omega) rfl rfl in_X2 0 (by decide) w_70 rfl dX2_copyFrom_2 ?_
  refine w_put (v := (hv 2 i1 0)) C0 hW hS 2 i0 (by decide) (show i0 < 37 by omega) rfl rfl in_X2 tyX2_ok nmX2 0 (by decide) w_70 rfl rfl rfl (Nat.le_of_ble_eq_true rfl) rfl dX2_copyFrom_5 (fun hv1 ehv1 H locs hW hS => ?_)
  have h := h hv1 ehv1
  refine lv_aload_n hx hb dX2_copyFrom_8 rfl (lv_at hl 0 rfl) ?_
  refine lv_aload_n hx hb dX2_copyFrom_9 rfl (lv_at hl 1 rfl) ?_
  refine w_get (v := .int (hv1 2 i1 1)) C0 hW 2 i1 (by decide) (show i1 < 37 by omega) rfl rfl in_X2 1 (by decide) w_73 rfl dX2_copyFrom_10 ?_
  refine w_put (v := (hv1 2 i1 1)) C0 hW hS 2 i0 (by decide) (show i0 < 37 by omega) rfl rfl in_X2 tyX2_ok nmX2 1 (by decide) w_73 rfl rfl rfl (Nat.le_of_ble_eq_true rfl) rfl dX2_copyFrom_13 (fun hv2 ehv2 H locs hW hS => ?_)
  have h := h hv2 ehv2
  refine lv_aload_n hx hb dX2_copyFrom_16 rfl (lv_at hl 0 rfl) ?_
  refine lv_aload_n hx hb dX2_copyFrom_17 rfl (lv_at hl 1 rfl) ?_
  refine w_get (v := .int (hv2 2 i1 2)) C0 hW 2 i1 (by decide) (show i1 < 37 by omega) rfl rfl in_X2 2 (by decide) w_76 rfl dX2_copyFrom_18 ?_
  refine w_put (v := (hv2 2 i1 2)) C0 hW hS 2 i0 (by decide) (show i0 < 37 by omega) rfl rfl in_X2 tyX2_ok nmX2 2 (by decide) w_76 rfl rfl rfl (Nat.le_of_ble_eq_true rfl) rfl dX2_copyFrom_21 (fun hv3 ehv3 H locs hW hS => ?_)
  have h := h hv3 ehv3
  refine lv_aload_n hx hb dX2_copyFrom_24 rfl (lv_at hl 0 rfl) ?_
  refine lv_aload_n hx hb dX2_copyFrom_25 rfl (lv_at hl 1 rfl) ?_
  refine w_get (v := .int (hv3 2 i1 3)) C0 hW 2 i1 (by decide) (show i1 < 37 by omega) rfl rfl in_X2 3 (by decide) w_79 rfl dX2_copyFrom_26 ?_
  refine w_put (v := (hv3 2 i1 3)) C0 hW hS 2 i0 (by decide) (show i0 < 37 by omega) rfl rfl in_X2 tyX2_ok nmX2 3 (by decide) w_79 rfl rfl rfl (Nat.le_of_ble_eq_true rfl) rfl dX2_copyFrom_29 (fun hv4 ehv4 H locs hW hS => ?_)
  have h := h hv4 ehv4
  refine lv_aload_n hx hb dX2_copyFrom_32 rfl (lv_at hl 0 rfl) ?_
  refine lv_aload_n hx hb dX2_copyFrom_33 rfl (lv_at hl 1 rfl) ?_
  refine w_get (v := .int (hv4 2 i1 4)) C0 hW 2 i1 (by decide) (show i1 < 37 by omega) rfl rfl in_X2 4 (by decide) w_82 rfl dX2_copyFrom_34 ?_
  refine w_put (v := (hv4 2 i1 4)) C0 hW hS 2 i0 (by decide) (show i0 < 37 by omega) rfl rfl in_X2 tyX2_ok nmX2 4 (by decide) w_82 rfl rfl rfl (Nat.le_of_ble_eq_true rfl) rfl dX2_copyFrom_37 (fun hv5 ehv5 H locs hW hS => ?_)
  have h := h hv5 ehv5
  refine lv_aload_n hx hb dX2_copyFrom_40 rfl (lv_at hl 0 rfl) ?_
  refine lv_aload_n hx hb dX2_copyFrom_41 rfl (lv_at hl 1 rfl) ?_
  refine w_get (v := .int (hv5 2 i1 5)) C0 hW 2 i1 (by decide) (show i1 < 37 by omega) rfl rfl in_X2 5 (by decide) w_85 rfl dX2_copyFrom_42 ?_
  refine w_put (v := (hv5 2 i1 5)) C0 hW hS 2 i0 (by decide) (show i0 < 37 by omega) rfl rfl in_X2 tyX2_ok nmX2 5 (by decide) w_85 rfl rfl rfl (Nat.le_of_ble_eq_true rfl) rfl dX2_copyFrom_45 (fun hv6 ehv6 H locs hW hS => ?_)
  have h := h hv6 ehv6
  exact w_vret C0 hr hW hS h dX2_copyFrom_48

theorem pl_X6_add : yX6_add.cls ≠ "java/lang/invoke/MethodHandle" ∧ yX6_add.cls ≠ "java/lang/invoke/VarHandle" ∧ (parseMethodDescriptor yX6_add.desc).map (fun d => d.parameters.length) = some 1 := ⟨by decide +kernel, by decide +kernel, by decide +kernel⟩
def V_X6_add (i0 : Nat) (a1 : Int32) (hv : HV) (post : HV → Prop) : Prop := (((hv 6 i0 2) < 0 → (∀ hv2 : HV, hv2 = up hv 6 i0 (upd (hv 6 i0) 2 0) → (vp_in (hv2 6 i0 2) (rl i0) ∧ ∀ hv3 : HV, hv3 = up hv2 10 i0 (upd (hv2 10 i0) (Int32.toNatClampNeg (hv2 6 i0 2)) a1) → (∀ hv4 : HV, hv4 = up hv3 6 i0 (upd (hv3 6 i0) 2 ((hv3 6 i0 2) + 1)) → (((nI (rl i0)) ≤ (hv4 6 i0 1) → post hv4) ∧ (¬ ((nI (rl i0)) ≤ (hv4 6 i0 1)) → (∀ hv6 : HV, hv6 = up hv4 6 i0 (upd (hv4 6 i0) 1 ((hv4 6 i0 1) + 1)) → post hv6))))))) ∧ (¬ ((hv 6 i0 2) < 0) → (((hv 6 i0 2) < (nI (rl i0)) → (vp_in (hv 6 i0 2) (rl i0) ∧ ∀ hv8 : HV, hv8 = up hv 10 i0 (upd (hv 10 i0) (Int32.toNatClampNeg (hv 6 i0 2)) a1) → (∀ hv9 : HV, hv9 = up hv8 6 i0 (upd (hv8 6 i0) 2 ((hv8 6 i0 2) + 1)) → (((nI (rl i0)) ≤ (hv9 6 i0 1) → post hv9) ∧ (¬ ((nI (rl i0)) ≤ (hv9 6 i0 1)) → (∀ hv11 : HV, hv11 = up hv9 6 i0 (upd (hv9 6 i0) 1 ((hv9 6 i0 1) + 1)) → post hv11)))))) ∧ (¬ ((hv 6 i0 2) < (nI (rl i0))) → (∀ hv12 : HV, hv12 = up hv 6 i0 (upd (hv 6 i0) 2 0) → (vp_in (hv12 6 i0 2) (rl i0) ∧ ∀ hv13 : HV, hv13 = up hv12 10 i0 (upd (hv12 10 i0) (Int32.toNatClampNeg (hv12 6 i0 2)) a1) → (∀ hv14 : HV, hv14 = up hv13 6 i0 (upd (hv13 6 i0) 2 ((hv13 6 i0 2) + 1)) → (((nI (rl i0)) ≤ (hv14 6 i0 1) → post hv14) ∧ (¬ ((nI (rl i0)) ≤ (hv14 6 i0 1)) → (∀ hv16 : HV, hv16 = up hv14 6 i0 (upd (hv14 6 i0) 1 ((hv14 6 i0 1) + 1)) → post hv16))))))))))
set_option maxHeartbeats 4000000 in
theorem c_X6_add (l : Launch) (G : wG) (A : Nat → Prop) (i0 : Nat) (a1 : Int32) (hi0 : i0 < 77) (hv : HV) (post : HV → Prop) (h : V_X6_add i0 a1 hv post) : wM l yX6_add cX6_add 2 ((Option.none : Option FieldType)) 0 G A hv [.ref (ad G 6 i0), .int a1] (qV G A post) := by
  refine wM_of (by decide +kernel) (Nat.le_of_ble_eq_true rfl) ?_
  intro p e s m args below meth c C0 hr ls hl hW hS
  have hx := C0.1
  have hb := C0.2.1
  have hown := C0.2.2.2.1
  have hts := C0.2.2.2.2.1
  have hl : lv_has ls 2 [(0, .ref (ad G 6 i0)), (1, .int a1)] := hl
  unfold V_X6_add at h
  refine lv_aload_n hx hb dX6_add_0 rfl (lv_at hl 0 rfl) ?_
  refine w_get (v := .int (hv 6 i0 2)) C0 hW 6 i0 (by decide) (show i0 < 77 by omega) rfl rfl in_X6 2 (by decide) w_112 rfl dX6_add_1 ?_
  refine lv_if_lt (tgt := 19) hx hb dX6_add_4 (by decide) (fun c1 => ?_) (fun c1 => ?_)
  · have h := h.1 c1
    refine lv_aload_n hx hb dX6_add_19 rfl (lv_at hl 0 rfl) ?_
    refine lv_iconst (v := 0) hx hb dX6_add_20 (by decide) ?_
    refine w_put (v := 0) C0 hW hS 6 i0 (by decide) (show i0 < 77 by omega) rfl rfl in_X6 tyX6_ok nmX6 2 (by decide) w_112 rfl rfl rfl (Nat.le_of_ble_eq_true rfl) rfl dX6_add_21 (fun hv2 ehv2 H locs hW hS => ?_)
    have h := h hv2 ehv2
    refine lv_aload_n hx hb dX6_add_24 rfl (lv_at hl 0 rfl) ?_
    refine w_get (v := .ref (ad G 10 i0)) C0 hW 6 i0 (by decide) (show i0 < 77 by omega) rfl rfl in_X6 0 (by decide) w_110 rfl dX6_add_25 ?_
    refine lv_aload_n hx hb dX6_add_28 rfl (lv_at hl 0 rfl) ?_
    refine w_get (v := .int (hv2 6 i0 2)) C0 hW 6 i0 (by decide) (show i0 < 77 by omega) rfl rfl in_X6 2 (by decide) w_112 rfl dX6_add_29 ?_
    refine lv_iload_n hx hb dX6_add_32 rfl (lv_at hl 1 rfl) ?_
    obtain ⟨q3, h⟩ := h
    refine w_iast C0 hW hS 10 i0 (by decide) (show i0 < 77 by omega) (n := (rl i0)) (fun _ => rfl) q3 dX6_add_33 (fun hv3 ehv3 H locs hW hS => ?_)
    have h := h hv3 ehv3
    refine lv_aload_n hx hb dX6_add_34 rfl (lv_at hl 0 rfl) ?_
    refine lv_dup hx hb dX6_add_35 rfl ?_
    refine w_get (v := .int (hv3 6 i0 2)) C0 hW 6 i0 (by decide) (show i0 < 77 by omega) rfl rfl in_X6 2 (by decide) w_112 rfl dX6_add_36 ?_
    refine lv_iconst (v := 1) hx hb dX6_add_39 (by decide) ?_
    refine lv_iadd hx hb dX6_add_40 ?_
    refine w_put (v := ((hv3 6 i0 2) + 1)) C0 hW hS 6 i0 (by decide) (show i0 < 77 by omega) rfl rfl in_X6 tyX6_ok nmX6 2 (by decide) w_112 rfl rfl rfl (Nat.le_of_ble_eq_true rfl) rfl dX6_add_41 (fun hv4 ehv4 H locs hW hS => ?_)
    have h := h hv4 ehv4
    refine lv_aload_n hx hb dX6_add_44 rfl (lv_at hl 0 rfl) ?_
    refine w_get (v := .int (hv4 6 i0 1)) C0 hW 6 i0 (by decide) (show i0 < 77 by omega) rfl rfl in_X6 1 (by decide) w_111 rfl dX6_add_45 ?_
    refine lv_aload_n hx hb dX6_add_48 rfl (lv_at hl 0 rfl) ?_
    refine w_get (v := .ref (ad G 10 i0)) C0 hW 6 i0 (by decide) (show i0 < 77 by omega) rfl rfl in_X6 0 (by decide) w_110 rfl dX6_add_49 ?_
    refine w_alen (v := (nI (rl i0))) C0 hW 10 i0 (by decide) (show i0 < 77 by omega) rfl 0 rfl rfl dX6_add_52 ?_
    refine lv_icmp_ge (tgt := 66) hx hb dX6_add_53 (by decide) (fun c5 => ?_) (fun c5 => ?_)
    · have h := h.1 c5
      exact w_vret C0 hr hW hS h dX6_add_66
    · have h := h.2 c5
      refine lv_aload_n hx hb dX6_add_56 rfl (lv_at hl 0 rfl) ?_
      refine lv_dup hx hb dX6_add_57 rfl ?_
      refine w_get (v := .int (hv4 6 i0 1)) C0 hW 6 i0 (by decide) (show i0 < 77 by omega) rfl rfl in_X6 1 (by decide) w_111 rfl dX6_add_58 ?_
      refine lv_iconst (v := 1) hx hb dX6_add_61 (by decide) ?_
      refine lv_iadd hx hb dX6_add_62 ?_
      refine w_put (v := ((hv4 6 i0 1) + 1)) C0 hW hS 6 i0 (by decide) (show i0 < 77 by omega) rfl rfl in_X6 tyX6_ok nmX6 1 (by decide) w_111 rfl rfl rfl (Nat.le_of_ble_eq_true rfl) rfl dX6_add_63 (fun hv6 ehv6 H locs hW hS => ?_)
      have h := h hv6 ehv6
      exact w_vret C0 hr hW hS h dX6_add_66
  · have h := h.2 c1
    refine lv_aload_n hx hb dX6_add_7 rfl (lv_at hl 0 rfl) ?_
    refine w_get (v := .int (hv 6 i0 2)) C0 hW 6 i0 (by decide) (show i0 < 77 by omega) rfl rfl in_X6 2 (by decide) w_112 rfl dX6_add_8 ?_
    refine lv_aload_n hx hb dX6_add_11 rfl (lv_at hl 0 rfl) ?_
    refine w_get (v := .ref (ad G 10 i0)) C0 hW 6 i0 (by decide) (show i0 < 77 by omega) rfl rfl in_X6 0 (by decide) w_110 rfl dX6_add_12 ?_
    refine w_alen (v := (nI (rl i0))) C0 hW 10 i0 (by decide) (show i0 < 77 by omega) rfl 0 rfl rfl dX6_add_15 ?_
    refine lv_icmp_lt (tgt := 24) hx hb dX6_add_16 (by decide) (fun c7 => ?_) (fun c7 => ?_)
    · have h := h.1 c7
      refine lv_aload_n hx hb dX6_add_24 rfl (lv_at hl 0 rfl) ?_
      refine w_get (v := .ref (ad G 10 i0)) C0 hW 6 i0 (by decide) (show i0 < 77 by omega) rfl rfl in_X6 0 (by decide) w_110 rfl dX6_add_25 ?_
      refine lv_aload_n hx hb dX6_add_28 rfl (lv_at hl 0 rfl) ?_
      refine w_get (v := .int (hv 6 i0 2)) C0 hW 6 i0 (by decide) (show i0 < 77 by omega) rfl rfl in_X6 2 (by decide) w_112 rfl dX6_add_29 ?_
      refine lv_iload_n hx hb dX6_add_32 rfl (lv_at hl 1 rfl) ?_
      obtain ⟨q8, h⟩ := h
      refine w_iast C0 hW hS 10 i0 (by decide) (show i0 < 77 by omega) (n := (rl i0)) (fun _ => rfl) q8 dX6_add_33 (fun hv8 ehv8 H locs hW hS => ?_)
      have h := h hv8 ehv8
      refine lv_aload_n hx hb dX6_add_34 rfl (lv_at hl 0 rfl) ?_
      refine lv_dup hx hb dX6_add_35 rfl ?_
      refine w_get (v := .int (hv8 6 i0 2)) C0 hW 6 i0 (by decide) (show i0 < 77 by omega) rfl rfl in_X6 2 (by decide) w_112 rfl dX6_add_36 ?_
      refine lv_iconst (v := 1) hx hb dX6_add_39 (by decide) ?_
      refine lv_iadd hx hb dX6_add_40 ?_
      refine w_put (v := ((hv8 6 i0 2) + 1)) C0 hW hS 6 i0 (by decide) (show i0 < 77 by omega) rfl rfl in_X6 tyX6_ok nmX6 2 (by decide) w_112 rfl rfl rfl (Nat.le_of_ble_eq_true rfl) rfl dX6_add_41 (fun hv9 ehv9 H locs hW hS => ?_)
      have h := h hv9 ehv9
      refine lv_aload_n hx hb dX6_add_44 rfl (lv_at hl 0 rfl) ?_
      refine w_get (v := .int (hv9 6 i0 1)) C0 hW 6 i0 (by decide) (show i0 < 77 by omega) rfl rfl in_X6 1 (by decide) w_111 rfl dX6_add_45 ?_
      refine lv_aload_n hx hb dX6_add_48 rfl (lv_at hl 0 rfl) ?_
      refine w_get (v := .ref (ad G 10 i0)) C0 hW 6 i0 (by decide) (show i0 < 77 by omega) rfl rfl in_X6 0 (by decide) w_110 rfl dX6_add_49 ?_
      refine w_alen (v := (nI (rl i0))) C0 hW 10 i0 (by decide) (show i0 < 77 by omega) rfl 0 rfl rfl dX6_add_52 ?_
      refine lv_icmp_ge (tgt := 66) hx hb dX6_add_53 (by decide) (fun c10 => ?_) (fun c10 => ?_)
      · have h := h.1 c10
        exact w_vret C0 hr hW hS h dX6_add_66
      · have h := h.2 c10
        refine lv_aload_n hx hb dX6_add_56 rfl (lv_at hl 0 rfl) ?_
        refine lv_dup hx hb dX6_add_57 rfl ?_
        refine w_get (v := .int (hv9 6 i0 1)) C0 hW 6 i0 (by decide) (show i0 < 77 by omega) rfl rfl in_X6 1 (by decide) w_111 rfl dX6_add_58 ?_
        refine lv_iconst (v := 1) hx hb dX6_add_61 (by decide) ?_
        refine lv_iadd hx hb dX6_add_62 ?_
        refine w_put (v := ((hv9 6 i0 1) + 1)) C0 hW hS 6 i0 (by decide) (show i0 < 77 by omega) rfl rfl in_X6 tyX6_ok nmX6 1 (by decide) w_111 rfl rfl rfl (Nat.le_of_ble_eq_true rfl) rfl dX6_add_63 (fun hv11 ehv11 H locs hW hS => ?_)
        have h := h hv11 ehv11
        exact w_vret C0 hr hW hS h dX6_add_66
    · have h := h.2 c7
      refine lv_aload_n hx hb dX6_add_19 rfl (lv_at hl 0 rfl) ?_
      refine lv_iconst (v := 0) hx hb dX6_add_20 (by decide) ?_
      refine w_put (v := 0) C0 hW hS 6 i0 (by decide) (show i0 < 77 by omega) rfl rfl in_X6 tyX6_ok nmX6 2 (by decide) w_112 rfl rfl rfl (Nat.le_of_ble_eq_true rfl) rfl dX6_add_21 (fun hv12 ehv12 H locs hW hS => ?_)
      have h := h hv12 ehv12
      refine lv_aload_n hx hb dX6_add_24 rfl (lv_at hl 0 rfl) ?_
      refine w_get (v := .ref (ad G 10 i0)) C0 hW 6 i0 (by decide) (show i0 < 77 by omega) rfl rfl in_X6 0 (by decide) w_110 rfl dX6_add_25 ?_
      refine lv_aload_n hx hb dX6_add_28 rfl (lv_at hl 0 rfl) ?_
      refine w_get (v := .int (hv12 6 i0 2)) C0 hW 6 i0 (by decide) (show i0 < 77 by omega) rfl rfl in_X6 2 (by decide) w_112 rfl dX6_add_29 ?_
      refine lv_iload_n hx hb dX6_add_32 rfl (lv_at hl 1 rfl) ?_
      obtain ⟨q13, h⟩ := h
      refine w_iast C0 hW hS 10 i0 (by decide) (show i0 < 77 by omega) (n := (rl i0)) (fun _ => rfl) q13 dX6_add_33 (fun hv13 ehv13 H locs hW hS => ?_)
      have h := h hv13 ehv13
      refine lv_aload_n hx hb dX6_add_34 rfl (lv_at hl 0 rfl) ?_
      refine lv_dup hx hb dX6_add_35 rfl ?_
      refine w_get (v := .int (hv13 6 i0 2)) C0 hW 6 i0 (by decide) (show i0 < 77 by omega) rfl rfl in_X6 2 (by decide) w_112 rfl dX6_add_36 ?_
      refine lv_iconst (v := 1) hx hb dX6_add_39 (by decide) ?_
      refine lv_iadd hx hb dX6_add_40 ?_
      refine w_put (v := ((hv13 6 i0 2) + 1)) C0 hW hS 6 i0 (by decide) (show i0 < 77 by omega) rfl rfl in_X6 tyX6_ok nmX6 2 (by decide) w_112 rfl rfl rfl (Nat.le_of_ble_eq_true rfl) rfl dX6_add_41 (fun hv14 ehv14 H locs hW hS => ?_)
      have h := h hv14 ehv14
      refine lv_aload_n hx hb dX6_add_44 rfl (lv_at hl 0 rfl) ?_
      refine w_get (v := .int (hv14 6 i0 1)) C0 hW 6 i0 (by decide) (show i0 < 77 by omega) rfl rfl in_X6 1 (by decide) w_111 rfl dX6_add_45 ?_
      refine lv_aload_n hx hb dX6_add_48 rfl (lv_at hl 0 rfl) ?_
      refine w_get (v := .ref (ad G 10 i0)) C0 hW 6 i0 (by decide) (show i0 < 77 by omega) rfl rfl in_X6 0 (by decide) w_110 rfl dX6_add_49 ?_
      refine w_alen (v := (nI (rl i0))) C0 hW 10 i0 (by decide) (show i0 < 77 by omega) rfl 0 rfl rfl dX6_add_52 ?_
      refine lv_icmp_ge (tgt := 66) hx hb dX6_add_53 (by decide) (fun c15 => ?_) (fun c15 => ?_)
      · have h := h.1 c15
        exact w_vret C0 hr hW hS h dX6_add_66
      · have h := h.2 c15
        refine lv_aload_n hx hb dX6_add_56 rfl (lv_at hl 0 rfl) ?_
        refine lv_dup hx hb dX6_add_57 rfl ?_
        refine w_get (v := .int (hv14 6 i0 1)) C0 hW 6 i0 (by decide) (show i0 < 77 by omega) rfl rfl in_X6 1 (by decide) w_111 rfl dX6_add_58 ?_
        refine lv_iconst (v := 1) hx hb dX6_add_61 (by decide) ?_
        refine lv_iadd hx hb dX6_add_62 ?_
        refine w_put (v := ((hv14 6 i0 1) + 1)) C0 hW hS 6 i0 (by decide) (show i0 < 77 by omega) rfl rfl in_X6 tyX6_ok nmX6 1 (by decide) w_111 rfl rfl rfl (Nat.le_of_ble_eq_true rfl) rfl dX6_add_63 (fun hv16 ehv16 H locs hW hS => ?_)
        have h := h hv16 ehv16
        exact w_vret C0 hr hW hS h dX6_add_66

theorem pl_X3_add : yX3_add.cls ≠ "java/lang/invoke/MethodHandle" ∧ yX3_add.cls ≠ "java/lang/invoke/VarHandle" ∧ (parseMethodDescriptor yX3_add.desc).map (fun d => d.parameters.length) = some 3 := ⟨by decide +kernel, by decide +kernel, by decide +kernel⟩
def V_X3_add (a1 : Int32) (a2 : Int32) (a3 : Int32) (hv : HV) (post : HV → Prop) : Prop := (∀ hv1 : HV, hv1 = up hv 3 0 (upd (hv 3 0) 0 ((hv 3 0 0) + 1)) → (V_X6_add 74 a1 hv1 (fun hv2 => (V_X6_add 75 a2 hv2 (fun hv3 => (V_X6_add 76 a3 hv3 (fun hv4 => post hv4)))))))
set_option maxHeartbeats 4000000 in
theorem c_X3_add (l : Launch) (G : wG) (A : Nat → Prop) (a1 : Int32) (a2 : Int32) (a3 : Int32) (hv : HV) (post : HV → Prop) (h : V_X3_add a1 a2 a3 hv post) : wM l yX3_add cX3_add 4 ((Option.none : Option FieldType)) 1 G A hv [.ref (ad G 3 0), .int a1, .int a2, .int a3] (qV G A post) := by
  refine wM_of (by decide +kernel) (Nat.le_of_ble_eq_true rfl) ?_
  intro p e s m args below meth c C0 hr ls hl hW hS
  have hx := C0.1
  have hb := C0.2.1
  have hown := C0.2.2.2.1
  have hts := C0.2.2.2.2.1
  have hl : lv_has ls 4 [(0, .ref (ad G 3 0)), (1, .int a1), (2, .int a2), (3, .int a3)] := hl
  unfold V_X3_add at h
  refine lv_aload_n hx hb dX3_add_0 rfl (lv_at hl 0 rfl) ?_
  refine lv_dup hx hb dX3_add_1 rfl ?_
  refine w_get (v := .int (hv 3 0 0)) C0 hW 3 0 (by decide) (by decide) rfl rfl in_X3 0 (by decide) w_233 rfl dX3_add_2 ?_
  refine lv_iconst (v := 1) hx hb dX3_add_5 (by decide) ?_
  refine lv_iadd hx hb dX3_add_6 ?_
  refine w_put (v := ((hv 3 0 0) + 1)) C0 hW hS 3 0 (by decide) (by decide) rfl rfl in_X3 tyX3_ok nmX3 0 (by decide) w_233 rfl rfl rfl (Nat.le_of_ble_eq_true rfl) rfl dX3_add_7 (fun hv1 ehv1 H locs hW hS => ?_)
  have h := h hv1 ehv1
  refine lv_aload_n hx hb dX3_add_10 rfl (lv_at hl 0 rfl) ?_
  refine w_get (v := .ref (ad G 6 74)) C0 hW 3 0 (by decide) (by decide) rfl rfl in_X3 1 (by decide) w_235 rfl dX3_add_11 ?_
  refine lv_iload_n hx hb dX3_add_14 rfl (lv_at hl 1 rfl) ?_
  refine w_cv hS (w_runV (As := [.int a1]) C0 hW 6 74 (by decide) (by decide) rfl rfl (c_X6_add l G A 74 a1 (by decide) hv1 _ h) ⟨⟨w_535, w_11, w_518⟩, pl_X6_add, ⟨Nat.le_of_ble_eq_true rfl, Nat.le_of_ble_eq_true rfl⟩, ⟨Nat.le_refl _, Nat.le_refl _⟩⟩ ⟨w_516, w_517⟩ rfl hl.1 rfl (Nat.le_of_ble_eq_true rfl) dX3_add_15) (fun hv2 h H locs hW hS => ?_)
  refine lv_aload_n hx hb dX3_add_18 rfl (lv_at hl 0 rfl) ?_
  refine w_get (v := .ref (ad G 6 75)) C0 hW 3 0 (by decide) (by decide) rfl rfl in_X3 2 (by decide) w_237 rfl dX3_add_19 ?_
  refine lv_iload_n hx hb dX3_add_22 rfl (lv_at hl 2 rfl) ?_
  refine w_cv hS (w_runV (As := [.int a2]) C0 hW 6 75 (by decide) (by decide) rfl rfl (c_X6_add l G A 75 a2 (by decide) hv2 _ h) ⟨⟨w_535, w_11, w_518⟩, pl_X6_add, ⟨Nat.le_of_ble_eq_true rfl, Nat.le_of_ble_eq_true rfl⟩, ⟨Nat.le_refl _, Nat.le_refl _⟩⟩ ⟨w_516, w_517⟩ rfl hl.1 rfl (Nat.le_of_ble_eq_true rfl) dX3_add_23) (fun hv3 h H locs hW hS => ?_)
  refine lv_aload_n hx hb dX3_add_26 rfl (lv_at hl 0 rfl) ?_
  refine w_get (v := .ref (ad G 6 76)) C0 hW 3 0 (by decide) (by decide) rfl rfl in_X3 3 (by decide) w_239 rfl dX3_add_27 ?_
  refine lv_iload_n hx hb dX3_add_30 rfl (lv_at hl 3 rfl) ?_
  refine w_cv hS (w_runV (As := [.int a3]) C0 hW 6 76 (by decide) (by decide) rfl rfl (c_X6_add l G A 76 a3 (by decide) hv3 _ h) ⟨⟨w_535, w_11, w_518⟩, pl_X6_add, ⟨Nat.le_of_ble_eq_true rfl, Nat.le_of_ble_eq_true rfl⟩, ⟨Nat.le_refl _, Nat.le_refl _⟩⟩ ⟨w_516, w_517⟩ rfl hl.1 rfl (Nat.le_of_ble_eq_true rfl) dX3_add_31) (fun hv4 h H locs hW hS => ?_)
  exact w_vret C0 hr hW hS h dX3_add_34

theorem pl_X6_copyFrom : yX6_copyFrom.cls ≠ "java/lang/invoke/MethodHandle" ∧ yX6_copyFrom.cls ≠ "java/lang/invoke/VarHandle" ∧ (parseMethodDescriptor yX6_copyFrom.desc).map (fun d => d.parameters.length) = some 1 := ⟨by decide +kernel, by decide +kernel, by decide +kernel⟩
def V_X6_copyFrom (i0 : Nat) (i1 : Nat) (hv : HV) (post : HV → Prop) : Prop := (∀ hv1 : HV, hv1 = up hv 6 i0 (upd (hv 6 i0) 1 (hv 6 i1 1)) → (∀ hv2 : HV, hv2 = up hv1 6 i0 (upd (hv1 6 i0) 2 (hv1 6 i1 2)) → ((¬ (0 : Int32) < 0 ∧ ¬ (0 : Int32) < 0 ∧ ¬ ((if (nI (rl i1)) < (nI (rl i0)) then (nI (rl i1)) else (nI (rl i0))) : Int32) < 0 ∧ (Int32.toNatClampNeg 0) + (Int32.toNatClampNeg (if (nI (rl i1)) < (nI (rl i0)) then (nI (rl i1)) else (nI (rl i0)))) ≤ (rl i1) ∧ (Int32.toNatClampNeg 0) + (Int32.toNatClampNeg (if (nI (rl i1)) < (nI (rl i0)) then (nI (rl i1)) else (nI (rl i0)))) ≤ (rl i0)) ∧ ∀ hv3 : HV, hv3 = up hv2 10 i0 (va_cpy (hv2 10 i1) (hv2 10 i0) (Int32.toNatClampNeg 0) (Int32.toNatClampNeg 0) (Int32.toNatClampNeg (if (nI (rl i1)) < (nI (rl i0)) then (nI (rl i1)) else (nI (rl i0))))) → post hv3)))
set_option maxHeartbeats 4000000 in
theorem c_X6_copyFrom (l : Launch) (G : wG) (A : Nat → Prop) (i0 : Nat) (i1 : Nat) (hi0 : i0 < 77) (hi1 : i1 < 77) (hv : HV) (post : HV → Prop) (h : V_X6_copyFrom i0 i1 hv post) : wM l yX6_copyFrom cX6_copyFrom 2 ((Option.none : Option FieldType)) 1 G A hv [.ref (ad G 6 i0), .ref (ad G 6 i1)] (qV G A post) := by
  refine wM_of (by decide +kernel) (Nat.le_of_ble_eq_true rfl) ?_
  intro p e s m args below meth c C0 hr ls hl hW hS
  have hx := C0.1
  have hb := C0.2.1
  have hown := C0.2.2.2.1
  have hts := C0.2.2.2.2.1
  have hl : lv_has ls 2 [(0, .ref (ad G 6 i0)), (1, .ref (ad G 6 i1))] := hl
  unfold V_X6_copyFrom at h
  refine lv_aload_n hx hb dX6_copyFrom_0 rfl (lv_at hl 0 rfl) ?_
  refine lv_aload_n hx hb dX6_copyFrom_1 rfl (lv_at hl 1 rfl) ?_
  refine w_get (v := .int (hv 6 i1 1)) C0 hW 6 i1 (by decide) (show i1 < 77 by omega) rfl rfl in_X6 1 (by decide) w_111 rfl dX6_copyFrom_2 ?_
  refine w_put (v := (hv 6 i1 1)) C0 hW hS 6 i0 (by decide) (show i0 < 77 by omega) rfl rfl in_X6 tyX6_ok nmX6 1 (by decide) w_111 rfl rfl rfl (Nat.le_of_ble_eq_true rfl) rfl dX6_copyFrom_5 (fun hv1 ehv1 H locs hW hS => ?_)
  have h := h hv1 ehv1
  refine lv_aload_n hx hb dX6_copyFrom_8 rfl (lv_at hl 0 rfl) ?_
  refine lv_aload_n hx hb dX6_copyFrom_9 rfl (lv_at hl 1 rfl) ?_
  refine w_get (v := .int (hv1 6 i1 2)) C0 hW 6 i1 (by decide) (show i1 < 77 by omega) rfl rfl in_X6 2 (by decide) w_112 rfl dX6_copyFrom_10 ?_
  refine w_put (v := (hv1 6 i1 2)) C0 hW hS 6 i0 (by decide) (show i0 < 77 by omega) rfl rfl in_X6 tyX6_ok nmX6 2 (by decide) w_112 rfl rfl rfl (Nat.le_of_ble_eq_true rfl) rfl dX6_copyFrom_13 (fun hv2 ehv2 H locs hW hS => ?_)
  have h := h hv2 ehv2
  refine lv_aload_n hx hb dX6_copyFrom_16 rfl (lv_at hl 1 rfl) ?_
  refine w_get (v := .ref (ad G 10 i1)) C0 hW 6 i1 (by decide) (show i1 < 77 by omega) rfl rfl in_X6 0 (by decide) w_110 rfl dX6_copyFrom_17 ?_
  refine lv_iconst (v := 0) hx hb dX6_copyFrom_20 (by decide) ?_
  refine lv_aload_n hx hb dX6_copyFrom_21 rfl (lv_at hl 0 rfl) ?_
  refine w_get (v := .ref (ad G 10 i0)) C0 hW 6 i0 (by decide) (show i0 < 77 by omega) rfl rfl in_X6 0 (by decide) w_110 rfl dX6_copyFrom_22 ?_
  refine lv_iconst (v := 0) hx hb dX6_copyFrom_25 (by decide) ?_
  refine lv_aload_n hx hb dX6_copyFrom_26 rfl (lv_at hl 0 rfl) ?_
  refine w_get (v := .ref (ad G 10 i0)) C0 hW 6 i0 (by decide) (show i0 < 77 by omega) rfl rfl in_X6 0 (by decide) w_110 rfl dX6_copyFrom_27 ?_
  refine w_alen (v := (nI (rl i0))) C0 hW 10 i0 (by decide) (show i0 < 77 by omega) rfl 0 rfl rfl dX6_copyFrom_30 ?_
  refine lv_aload_n hx hb dX6_copyFrom_31 rfl (lv_at hl 1 rfl) ?_
  refine w_get (v := .ref (ad G 10 i1)) C0 hW 6 i1 (by decide) (show i1 < 77 by omega) rfl rfl in_X6 0 (by decide) w_110 rfl dX6_copyFrom_32 ?_
  refine w_alen (v := (nI (rl i1))) C0 hW 10 i1 (by decide) (show i1 < 77 by omega) rfl 0 rfl rfl dX6_copyFrom_35 ?_
  refine w_min C0 hl.1 w_399 w_400 w_12 w_401 (Nat.le_of_ble_eq_true rfl) (Nat.le_of_ble_eq_true rfl) (Nat.le_refl _) (Nat.le_refl _) dX6_copyFrom_36 ?_
  obtain ⟨⟨q3a, q3b, q3c, q3d, q3e⟩, h⟩ := h
  refine w_copy C0 hW hS hl.1 10 i1 10 i0 (by decide) (show i1 < 77 by omega) (by decide) (show i0 < 77 by omega) rfl (fun _ => rfl) w_402 w_404 w_403 w_16 q3a q3b q3c q3d q3e (Nat.le_of_ble_eq_true rfl) (Nat.le_of_ble_eq_true rfl) dX6_copyFrom_39 (fun hv3 ehv3 H locs hW hS => ?_)
  have h := h hv3 ehv3
  exact w_vret C0 hr hW hS h dX6_copyFrom_42

theorem pl_X5_clear : yX5_clear.cls ≠ "java/lang/invoke/MethodHandle" ∧ yX5_clear.cls ≠ "java/lang/invoke/VarHandle" ∧ (parseMethodDescriptor yX5_clear.desc).map (fun d => d.parameters.length) = some 0 := ⟨by decide +kernel, by decide +kernel, by decide +kernel⟩
def V_X5_clear  (hv : HV) (post : HV → Prop) : Prop := (∀ hv1 : HV, hv1 = up hv 5 0 (upd (hv 5 0) 0 0) → (∀ hv2 : HV, hv2 = up hv1 5 0 (upd (hv1 5 0) 1 0) → (∀ hv3 : HV, hv3 = up hv2 5 0 (upd (hv2 5 0) 2 0) → (∀ hv4 : HV, hv4 = up hv3 5 0 (upd (hv3 5 0) 3 0) → (∀ hv5 : HV, hv5 = up hv4 5 0 (upd (hv4 5 0) 4 0) → post hv5)))))
set_option maxHeartbeats 4000000 in
theorem c_X5_clear (l : Launch) (G : wG) (A : Nat → Prop) (hv : HV) (post : HV → Prop) (h : V_X5_clear hv post) : wM l yX5_clear cX5_clear 1 ((Option.none : Option FieldType)) 0 G A hv [.ref (ad G 5 0)] (qV G A post) := by
  refine wM_of (by decide +kernel) (Nat.le_of_ble_eq_true rfl) ?_
  intro p e s m args below meth c C0 hr ls hl hW hS
  have hx := C0.1
  have hb := C0.2.1
  have hown := C0.2.2.2.1
  have hts := C0.2.2.2.2.1
  have hl : lv_has ls 1 [(0, .ref (ad G 5 0))] := hl
  unfold V_X5_clear at h
  refine lv_aload_n hx hb dX5_clear_0 rfl (lv_at hl 0 rfl) ?_
  refine lv_iconst (v := 0) hx hb dX5_clear_1 (by decide) ?_
  refine w_put (v := 0) C0 hW hS 5 0 (by decide) (by decide) rfl rfl in_X5 tyX5_ok nmX5 0 (by decide) w_256 rfl rfl rfl (Nat.le_of_ble_eq_true rfl) rfl dX5_clear_2 (fun hv1 ehv1 H locs hW hS => ?_)
  have h := h hv1 ehv1
  refine lv_aload_n hx hb dX5_clear_5 rfl (lv_at hl 0 rfl) ?_
  refine lv_iconst (v := 0) hx hb dX5_clear_6 (by decide) ?_
  refine w_put (v := 0) C0 hW hS 5 0 (by decide) (by decide) rfl rfl in_X5 tyX5_ok nmX5 1 (by decide) w_259 rfl rfl rfl (Nat.le_of_ble_eq_true rfl) rfl dX5_clear_7 (fun hv2 ehv2 H locs hW hS => ?_)
  have h := h hv2 ehv2
  refine lv_aload_n hx hb dX5_clear_10 rfl (lv_at hl 0 rfl) ?_
  refine lv_iconst (v := 0) hx hb dX5_clear_11 (by decide) ?_
  refine w_put (v := 0) C0 hW hS 5 0 (by decide) (by decide) rfl rfl in_X5 tyX5_ok nmX5 2 (by decide) w_262 rfl rfl rfl (Nat.le_of_ble_eq_true rfl) rfl dX5_clear_12 (fun hv3 ehv3 H locs hW hS => ?_)
  have h := h hv3 ehv3
  refine lv_aload_n hx hb dX5_clear_15 rfl (lv_at hl 0 rfl) ?_
  refine lv_iconst (v := 0) hx hb dX5_clear_16 (by decide) ?_
  refine w_put (v := 0) C0 hW hS 5 0 (by decide) (by decide) rfl rfl in_X5 tyX5_ok nmX5 3 (by decide) w_265 rfl rfl rfl (Nat.le_of_ble_eq_true rfl) rfl dX5_clear_17 (fun hv4 ehv4 H locs hW hS => ?_)
  have h := h hv4 ehv4
  refine lv_aload_n hx hb dX5_clear_20 rfl (lv_at hl 0 rfl) ?_
  refine lv_iconst (v := 0) hx hb dX5_clear_21 (by decide) ?_
  refine w_put (v := 0) C0 hW hS 5 0 (by decide) (by decide) rfl rfl in_X5 tyX5_ok nmX5 4 (by decide) w_268 rfl rfl rfl (Nat.le_of_ble_eq_true rfl) rfl dX5_clear_22 (fun hv5 ehv5 H locs hW hS => ?_)
  have h := h hv5 ehv5
  exact w_vret C0 hr hW hS h dX5_clear_25

theorem pl_X8_outside : yX8_outside.cls ≠ "java/lang/invoke/MethodHandle" ∧ yX8_outside.cls ≠ "java/lang/invoke/VarHandle" ∧ (parseMethodDescriptor yX8_outside.desc).map (fun d => d.parameters.length) = some 3 := ⟨by decide +kernel, by decide +kernel, by decide +kernel⟩
def V_X8_outside (a0 : Int32) (a1 : Int32) (a2 : Int32) (hv : HV) (post : Int32 → HV → Prop) : Prop := ((a0 < a1 → post 1 hv) ∧ (¬ (a0 < a1) → ((a0 ≤ a2 → post 0 hv) ∧ (¬ (a0 ≤ a2) → post 1 hv))))
set_option maxHeartbeats 4000000 in
theorem c_X8_outside (l : Launch) (G : wG) (A : Nat → Prop) (a0 : Int32) (a1 : Int32) (a2 : Int32) (hv : HV) (post : Int32 → HV → Prop) (h : V_X8_outside a0 a1 a2 hv post) : wM l yX8_outside cX8_outside 3 ((Option.some FieldType.boolean)) 0 G A hv [.int a0, .int a1, .int a2] (qI G A post) := by
  refine wM_of (by decide +kernel) (Nat.le_of_ble_eq_true rfl) ?_
  intro p e s m args below meth c C0 hr ls hl hW hS
  have hx := C0.1
  have hb := C0.2.1
  have hown := C0.2.2.2.1
  have hts := C0.2.2.2.2.1
  have hl : lv_has ls 3 [(0, .int a0), (1, .int a1), (2, .int a2)] := hl
  unfold V_X8_outside at h
  refine lv_iload_n hx hb dX8_outside_0 rfl (lv_at hl 0 rfl) ?_
  refine lv_iload_n hx hb dX8_outside_1 rfl (lv_at hl 1 rfl) ?_
  refine lv_icmp_lt (tgt := 10) hx hb dX8_outside_2 (by decide) (fun c1 => ?_) (fun c1 => ?_)
  · have h := h.1 c1
    refine lv_iconst (v := 1) hx hb dX8_outside_10 (by decide) ?_
    refine lv_goto (tgt := 15) hx hb dX8_outside_11 (by decide) ?_
    exact w_zret C0 hr rfl hW hS h dX8_outside_15
  · have h := h.2 c1
    refine lv_iload_n hx hb dX8_outside_5 rfl (lv_at hl 0 rfl) ?_
    refine lv_iload_n hx hb dX8_outside_6 rfl (lv_at hl 2 rfl) ?_
    refine lv_icmp_le (tgt := 14) hx hb dX8_outside_7 (by decide) (fun c2 => ?_) (fun c2 => ?_)
    · have h := h.1 c2
      refine lv_iconst (v := 0) hx hb dX8_outside_14 (by decide) ?_
      exact w_zret C0 hr rfl hW hS h dX8_outside_15
    · have h := h.2 c2
      refine lv_iconst (v := 1) hx hb dX8_outside_10 (by decide) ?_
      refine lv_goto (tgt := 15) hx hb dX8_outside_11 (by decide) ?_
      exact w_zret C0 hr rfl hW hS h dX8_outside_15

theorem pl_X6_latest : yX6_latest.cls ≠ "java/lang/invoke/MethodHandle" ∧ yX6_latest.cls ≠ "java/lang/invoke/VarHandle" ∧ (parseMethodDescriptor yX6_latest.desc).map (fun d => d.parameters.length) = some 1 := ⟨by decide +kernel, by decide +kernel, by decide +kernel⟩
def V_X6_latest (i0 : Nat) (a1 : Int32) (hv : HV) (post : Int32 → HV → Prop) : Prop := (V_X8_outside a1 0 ((hv 6 i0 1) - 1) hv (fun r1 hv1 => ((r1 = 0 → (∀ x3 : Int32, x3 = (((hv1 6 i0 2) - 1) - a1) → ((0 ≤ x3 → (V_X8_outside x3 0 ((nI (rl i0)) - 1) hv1 (fun r5 hv5 => ((r5 = 0 → (vp_in x3 (rl i0) ∧ post (hv5 10 i0 (Int32.toNatClampNeg x3)) hv5)) ∧ (¬ (r5 = 0) → post (-1005) hv5))))) ∧ (¬ (0 ≤ x3) → (∀ x8 : Int32, x8 = (x3 + (nI (rl i0))) → (V_X8_outside x8 0 ((nI (rl i0)) - 1) hv1 (fun r9 hv9 => ((r9 = 0 → (vp_in x8 (rl i0) ∧ post (hv9 10 i0 (Int32.toNatClampNeg x8)) hv9)) ∧ (¬ (r9 = 0) → post (-1005) hv9))))))))) ∧ (¬ (r1 = 0) → post (-1005) hv1))))
set_option maxHeartbeats 4000000 in
theorem c_X6_latest (l : Launch) (G : wG) (A : Nat → Prop) (i0 : Nat) (a1 : Int32) (hi0 : i0 < 77) (hv : HV) (post : Int32 → HV → Prop) (h : V_X6_latest i0 a1 hv post) : wM l yX6_latest cX6_latest 3 ((Option.some FieldType.int)) 1 G A hv [.ref (ad G 6 i0), .int a1] (qI G A post) := by
  refine wM_of (by decide +kernel) (Nat.le_of_ble_eq_true rfl) ?_
  intro p e s m args below meth c C0 hr ls hl hW hS
  have hx := C0.1
  have hb := C0.2.1
  have hown := C0.2.2.2.1
  have hts := C0.2.2.2.2.1
  have hl : lv_has ls 3 [(0, .ref (ad G 6 i0)), (1, .int a1)] := hl
  unfold V_X6_latest at h
  refine lv_iload_n hx hb dX6_latest_0 rfl (lv_at hl 1 rfl) ?_
  refine lv_iconst (v := 0) hx hb dX6_latest_1 (by decide) ?_
  refine lv_aload_n hx hb dX6_latest_2 rfl (lv_at hl 0 rfl) ?_
  refine w_get (v := .int (hv 6 i0 1)) C0 hW 6 i0 (by decide) (show i0 < 77 by omega) rfl rfl in_X6 1 (by decide) w_111 rfl dX6_latest_3 ?_
  refine lv_iconst (v := 1) hx hb dX6_latest_6 (by decide) ?_
  refine lv_isub hx hb dX6_latest_7 ?_
  refine w_ci hS (w_runSN (As := [.int a1, .int 0, .int ((hv 6 i0 1) - 1)]) C0 hW (c_X8_outside l G A a1 0 ((hv 6 i0 1) - 1) hv _ h) C0.2.2.2.2.2.1.2.1 ⟨w_6, w_337⟩ pl_X8_outside ⟨Nat.le_of_ble_eq_true rfl, Nat.le_of_ble_eq_true rfl⟩ ⟨Nat.le_refl _, Nat.le_refl _⟩ w_336 rfl hl.1 rfl (Nat.le_of_ble_eq_true rfl) dX6_latest_8) (fun r1 hv1 h H locs hW hS => ?_)
  refine lv_if_eq (tgt := 18) hx hb dX6_latest_11 (by decide) (fun c2 => ?_) (fun c2 => ?_)
  · have h := h.1 c2
    refine lv_aload_n hx hb dX6_latest_18 rfl (lv_at hl 0 rfl) ?_
    refine w_get (v := .int (hv1 6 i0 2)) C0 hW 6 i0 (by decide) (show i0 < 77 by omega) rfl rfl in_X6 2 (by decide) w_112 rfl dX6_latest_19 ?_
    refine lv_iconst (v := 1) hx hb dX6_latest_22 (by decide) ?_
    refine lv_isub hx hb dX6_latest_23 ?_
    refine lv_iload_n hx hb dX6_latest_24 rfl (lv_at hl 1 rfl) ?_
    refine lv_isub hx hb dX6_latest_25 ?_
    refine lv_topi (fun x3 ex3 => ?_)
    have h := h x3 ex3
    refine lv_istore_n (lv' := [(2, .int x3), (0, .ref (ad G 6 i0)), (1, .int a1)]) hx hb dX6_latest_26 rfl hl (by decide) rfl (fun ls hl => ?_)
    refine lv_iload_n hx hb dX6_latest_27 rfl (lv_at hl 0 rfl) ?_
    refine lv_if_ge (tgt := 39) hx hb dX6_latest_28 (by decide) (fun c4 => ?_) (fun c4 => ?_)
    · have h := h.1 c4
      refine lv_iload_n hx hb dX6_latest_39 rfl (lv_at hl 0 rfl) ?_
      refine lv_iconst (v := 0) hx hb dX6_latest_40 (by decide) ?_
      refine lv_aload_n hx hb dX6_latest_41 rfl (lv_at hl 1 rfl) ?_
      refine w_get (v := .ref (ad G 10 i0)) C0 hW 6 i0 (by decide) (show i0 < 77 by omega) rfl rfl in_X6 0 (by decide) w_110 rfl dX6_latest_42 ?_
      refine w_alen (v := (nI (rl i0))) C0 hW 10 i0 (by decide) (show i0 < 77 by omega) rfl 0 rfl rfl dX6_latest_45 ?_
      refine lv_iconst (v := 1) hx hb dX6_latest_46 (by decide) ?_
      refine lv_isub hx hb dX6_latest_47 ?_
      refine w_ci hS (w_runSN (As := [.int x3, .int 0, .int ((nI (rl i0)) - 1)]) C0 hW (c_X8_outside l G A x3 0 ((nI (rl i0)) - 1) hv1 _ h) C0.2.2.2.2.2.1.2.1 ⟨w_6, w_337⟩ pl_X8_outside ⟨Nat.le_of_ble_eq_true rfl, Nat.le_of_ble_eq_true rfl⟩ ⟨Nat.le_refl _, Nat.le_refl _⟩ w_336 rfl hl.1 rfl (Nat.le_of_ble_eq_true rfl) dX6_latest_48) (fun r5 hv5 h H locs hW hS => ?_)
      refine lv_if_eq (tgt := 60) hx hb dX6_latest_51 (by decide) (fun c6 => ?_) (fun c6 => ?_)
      · have h := h.1 c6
        refine lv_aload_n hx hb dX6_latest_60 rfl (lv_at hl 1 rfl) ?_
        refine w_get (v := .ref (ad G 10 i0)) C0 hW 6 i0 (by decide) (show i0 < 77 by omega) rfl rfl in_X6 0 (by decide) w_110 rfl dX6_latest_61 ?_
        refine lv_iload_n hx hb dX6_latest_64 rfl (lv_at hl 0 rfl) ?_
        obtain ⟨q7, h⟩ := h
        refine w_iald C0 hW 10 i0 (by decide) (show i0 < 77 by omega) (n := (rl i0)) rfl q7 dX6_latest_65 ?_
        exact w_iret C0 hr hW hS h dX6_latest_66
      · have h := h.2 c6
        refine lv_sipush (v := (-1005)) hx hb dX6_latest_54 (by decide) ?_
        refine lv_goto (tgt := 66) hx hb dX6_latest_57 (by decide) ?_
        exact w_iret C0 hr hW hS h dX6_latest_66
    · have h := h.2 c4
      refine lv_iload_n hx hb dX6_latest_31 rfl (lv_at hl 0 rfl) ?_
      refine lv_aload_n hx hb dX6_latest_32 rfl (lv_at hl 1 rfl) ?_
      refine w_get (v := .ref (ad G 10 i0)) C0 hW 6 i0 (by decide) (show i0 < 77 by omega) rfl rfl in_X6 0 (by decide) w_110 rfl dX6_latest_33 ?_
      refine w_alen (v := (nI (rl i0))) C0 hW 10 i0 (by decide) (show i0 < 77 by omega) rfl 0 rfl rfl dX6_latest_36 ?_
      refine lv_iadd hx hb dX6_latest_37 ?_
      refine lv_topi (fun x8 ex8 => ?_)
      have h := h x8 ex8
      refine lv_istore_n (lv' := [(2, .int x8), (0, .ref (ad G 6 i0)), (1, .int a1)]) hx hb dX6_latest_38 rfl hl (by decide) rfl (fun ls hl => ?_)
      refine lv_iload_n hx hb dX6_latest_39 rfl (lv_at hl 0 rfl) ?_
      refine lv_iconst (v := 0) hx hb dX6_latest_40 (by decide) ?_
      refine lv_aload_n hx hb dX6_latest_41 rfl (lv_at hl 1 rfl) ?_
      refine w_get (v := .ref (ad G 10 i0)) C0 hW 6 i0 (by decide) (show i0 < 77 by omega) rfl rfl in_X6 0 (by decide) w_110 rfl dX6_latest_42 ?_
      refine w_alen (v := (nI (rl i0))) C0 hW 10 i0 (by decide) (show i0 < 77 by omega) rfl 0 rfl rfl dX6_latest_45 ?_
      refine lv_iconst (v := 1) hx hb dX6_latest_46 (by decide) ?_
      refine lv_isub hx hb dX6_latest_47 ?_
      refine w_ci hS (w_runSN (As := [.int x8, .int 0, .int ((nI (rl i0)) - 1)]) C0 hW (c_X8_outside l G A x8 0 ((nI (rl i0)) - 1) hv1 _ h) C0.2.2.2.2.2.1.2.1 ⟨w_6, w_337⟩ pl_X8_outside ⟨Nat.le_of_ble_eq_true rfl, Nat.le_of_ble_eq_true rfl⟩ ⟨Nat.le_refl _, Nat.le_refl _⟩ w_336 rfl hl.1 rfl (Nat.le_of_ble_eq_true rfl) dX6_latest_48) (fun r9 hv9 h H locs hW hS => ?_)
      refine lv_if_eq (tgt := 60) hx hb dX6_latest_51 (by decide) (fun c10 => ?_) (fun c10 => ?_)
      · have h := h.1 c10
        refine lv_aload_n hx hb dX6_latest_60 rfl (lv_at hl 1 rfl) ?_
        refine w_get (v := .ref (ad G 10 i0)) C0 hW 6 i0 (by decide) (show i0 < 77 by omega) rfl rfl in_X6 0 (by decide) w_110 rfl dX6_latest_61 ?_
        refine lv_iload_n hx hb dX6_latest_64 rfl (lv_at hl 0 rfl) ?_
        obtain ⟨q11, h⟩ := h
        refine w_iald C0 hW 10 i0 (by decide) (show i0 < 77 by omega) (n := (rl i0)) rfl q11 dX6_latest_65 ?_
        exact w_iret C0 hr hW hS h dX6_latest_66
      · have h := h.2 c10
        refine lv_sipush (v := (-1005)) hx hb dX6_latest_54 (by decide) ?_
        refine lv_goto (tgt := 66) hx hb dX6_latest_57 (by decide) ?_
        exact w_iret C0 hr hW hS h dX6_latest_66
  · have h := h.2 c2
    refine lv_sipush (v := (-1005)) hx hb dX6_latest_14 (by decide) ?_
    exact w_iret C0 hr hW hS h dX6_latest_17
