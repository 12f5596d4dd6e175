theorem pl_X1_signAt : yX1_signAt.cls ≠ "java/lang/invoke/MethodHandle" ∧ yX1_signAt.cls ≠ "java/lang/invoke/VarHandle" ∧ (parseMethodDescriptor yX1_signAt.desc).map (fun d => d.parameters.length) = some 1 := ⟨by decide +kernel, by decide +kernel, by decide +kernel⟩
def V_X1_signAt (a1 : Int32) (hv : HV) (post : Int32 → HV → Prop) : Prop := (((hv 1 0 1) ≤ a1 → post 0 hv) ∧ (¬ ((hv 1 0 1) ≤ a1) → (V_X8_outside a1 0 39 hv (fun r2 hv2 => ((r2 = 0 → (vp_in a1 40 ∧ (cOK (hv2 13 0 (Int32.toNatClampNeg a1)) ∧ post (hv2 13 0 (Int32.toNatClampNeg a1)) hv2))) ∧ (¬ (r2 = 0) → post 0 hv2))))))
set_option maxHeartbeats 4000000 in
theorem c_X1_signAt (l : Launch) (G : wG) (A : Nat → Prop) (a1 : Int32) (hv : HV) (post : Int32 → HV → Prop) (h : V_X1_signAt a1 hv post) : wM l yX1_signAt cX1_signAt 2 ((Option.some FieldType.char)) 1 G A hv [.ref (ad G 1 0), .int a1] (qI G A post) := by
  refine wM_of (by decide +kernel) (Nat.le_of_ble_eq_true rfl) ?_
  intro p e s m args below meth c C0 hr ls hl hW hS
  have hx := C0.1
  have hb := C0.2.1
  have hown := C0.2.2.2.1
  have hts := C0.2.2.2.2.1
  have hl : lv_has ls 2 [(0, .ref (ad G 1 0)), (1, .int a1)] := hl
  unfold V_X1_signAt at h
  refine lv_iload_n hx hb dX1_signAt_0 rfl (lv_at hl 1 rfl) ?_
  refine lv_aload_n hx hb dX1_signAt_1 rfl (lv_at hl 0 rfl) ?_
  refine w_get (v := .int (hv 1 0 1)) C0 hW 1 0 (by decide) (by decide) rfl rfl in_X1 1 (by decide) w_268 rfl dX1_signAt_2 ?_
  refine lv_icmp_ge (tgt := 23) hx hb dX1_signAt_5 (by decide) (fun c1 => ?_) (fun c1 => ?_)
  · have h := h.1 c1
    refine lv_iconst (v := 0) hx hb dX1_signAt_23 (by decide) ?_
    refine lv_goto (tgt := 33) hx hb dX1_signAt_24 (by decide) ?_
    exact w_zret C0 hr rfl hW hS h dX1_signAt_33
  · have h := h.2 c1
    refine lv_iload_n hx hb dX1_signAt_8 rfl (lv_at hl 1 rfl) ?_
    refine lv_iconst (v := 0) hx hb dX1_signAt_9 (by decide) ?_
    refine lv_aload_n hx hb dX1_signAt_10 rfl (lv_at hl 0 rfl) ?_
    refine w_get (v := .ref (ad G 13 0)) C0 hW 1 0 (by decide) (by decide) rfl rfl in_X1 0 (by decide) w_266 rfl dX1_signAt_11 ?_
    refine w_alen (v := 40) C0 hW 13 0 (by decide) (by decide) rfl 1 rfl rfl dX1_signAt_14 ?_
    refine lv_iconst (v := 1) hx hb dX1_signAt_15 (by decide) ?_
    refine lv_isub hx hb dX1_signAt_16 ?_
    refine w_top (y := 39) (by decide) ?_
    refine w_ci hS (w_runSN (As := [.int a1, .int 0, .int 39]) C0 hW (c_X8_outside l G A a1 0 39 hv _ h) C0.2.2.2.2.2.1.2.1 ⟨w_51, w_376⟩ pl_X8_outside ⟨Nat.le_of_ble_eq_true rfl, Nat.le_of_ble_eq_true rfl⟩ ⟨Nat.le_refl _, Nat.le_refl _⟩ w_375 rfl hl.1 rfl (Nat.le_of_ble_eq_true rfl) dX1_signAt_17) (fun r2 hv2 h H locs hW hS => ?_)
    refine lv_if_eq (tgt := 27) hx hb dX1_signAt_20 (by decide) (fun c3 => ?_) (fun c3 => ?_)
    · have h := h.1 c3
      refine lv_aload_n hx hb dX1_signAt_27 rfl (lv_at hl 0 rfl) ?_
      refine w_get (v := .ref (ad G 13 0)) C0 hW 1 0 (by decide) (by decide) rfl rfl in_X1 0 (by decide) w_266 rfl dX1_signAt_28 ?_
      refine lv_iload_n hx hb dX1_signAt_31 rfl (lv_at hl 1 rfl) ?_
      obtain ⟨q4, h⟩ := h
      refine w_cald C0 hW q4 dX1_signAt_32 ?_
      exact w_zret C0 hr h.1.1 hW hS h.2 dX1_signAt_33
    · have h := h.2 c3
      refine lv_iconst (v := 0) hx hb dX1_signAt_23 (by decide) ?_
      refine lv_goto (tgt := 33) hx hb dX1_signAt_24 (by decide) ?_
      exact w_zret C0 hr rfl hW hS h dX1_signAt_33

theorem pl_X1_commandStartsAt : yX1_commandStartsAt.cls ≠ "java/lang/invoke/MethodHandle" ∧ yX1_commandStartsAt.cls ≠ "java/lang/invoke/VarHandle" ∧ (parseMethodDescriptor yX1_commandStartsAt.desc).map (fun d => d.parameters.length) = some 1 := ⟨by decide +kernel, by decide +kernel, by decide +kernel⟩
def V_X1_commandStartsAt (a1 : Int32) (hv : HV) (post : Int32 → HV → Prop) : Prop := ((a1 = 0 → post 1 hv) ∧ (¬ (a1 = 0) → (V_X1_signAt (a1 - 1) hv (fun r2 hv2 => ((r2 = 59 → post 1 hv2) ∧ (¬ (r2 = 59) → post 0 hv2))))))
set_option maxHeartbeats 4000000 in
theorem c_X1_commandStartsAt (l : Launch) (G : wG) (A : Nat → Prop) (a1 : Int32) (hv : HV) (post : Int32 → HV → Prop) (h : V_X1_commandStartsAt a1 hv post) : wM l yX1_commandStartsAt cX1_commandStartsAt 2 ((Option.some FieldType.boolean)) 2 G A hv [.ref (ad G 1 0), .int a1] (qI G A post) := by
  refine wM_of (by decide +kernel) (Nat.le_of_ble_eq_true rfl) ?_
  intro p e s m args below meth c C0 hr ls hl hW hS
  have hx := C0.1
  have hb := C0.2.1
  have hown := C0.2.2.2.1
  have hts := C0.2.2.2.2.1
  have hl : lv_has ls 2 [(0, .ref (ad G 1 0)), (1, .int a1)] := hl
  unfold V_X1_commandStartsAt at h
  refine lv_iload_n hx hb dX1_commandStartsAt_0 rfl (lv_at hl 1 rfl) ?_
  refine lv_if_eq (tgt := 16) hx hb dX1_commandStartsAt_1 (by decide) (fun c1 => ?_) (fun c1 => ?_)
  · have h := h.1 c1
    refine lv_iconst (v := 1) hx hb dX1_commandStartsAt_16 (by decide) ?_
    refine lv_goto (tgt := 21) hx hb dX1_commandStartsAt_17 (by decide) ?_
    exact w_zret C0 hr rfl hW hS h dX1_commandStartsAt_21
  · have h := h.2 c1
    refine lv_aload_n hx hb dX1_commandStartsAt_4 rfl (lv_at hl 0 rfl) ?_
    refine lv_iload_n hx hb dX1_commandStartsAt_5 rfl (lv_at hl 1 rfl) ?_
    refine lv_iconst (v := 1) hx hb dX1_commandStartsAt_6 (by decide) ?_
    refine lv_isub hx hb dX1_commandStartsAt_7 ?_
    refine w_ci hS (w_runV (As := [.int (a1 - 1)]) C0 hW 1 0 (by decide) (by decide) rfl rfl (c_X1_signAt l G A (a1 - 1) hv _ h) ⟨⟨w_545, w_58, w_548⟩, pl_X1_signAt, ⟨Nat.le_of_ble_eq_true rfl, Nat.le_of_ble_eq_true rfl⟩, ⟨Nat.le_refl _, Nat.le_refl _⟩⟩ ⟨w_546, w_547⟩ rfl hl.1 rfl (Nat.le_of_ble_eq_true rfl) dX1_commandStartsAt_8) (fun r2 hv2 h H locs hW hS => ?_)
    refine lv_bipush (v := 59) hx hb dX1_commandStartsAt_11 (by decide) ?_
    refine lv_icmp_ne (tgt := 20) hx hb dX1_commandStartsAt_13 (by decide) (fun c3 => ?_) (fun c3 => ?_)
    · have h := h.2 c3
      refine lv_iconst (v := 0) hx hb dX1_commandStartsAt_20 (by decide) ?_
      exact w_zret C0 hr rfl hW hS h dX1_commandStartsAt_21
    · have h := h.1 c3
      refine lv_iconst (v := 1) hx hb dX1_commandStartsAt_16 (by decide) ?_
      refine lv_goto (tgt := 21) hx hb dX1_commandStartsAt_17 (by decide) ?_
      exact w_zret C0 hr rfl hW hS h dX1_commandStartsAt_21

theorem pl_X1_isDigit : yX1_isDigit.cls ≠ "java/lang/invoke/MethodHandle" ∧ yX1_isDigit.cls ≠ "java/lang/invoke/VarHandle" ∧ (parseMethodDescriptor yX1_isDigit.desc).map (fun d => d.parameters.length) = some 1 := ⟨by decide +kernel, by decide +kernel, by decide +kernel⟩
def V_X1_isDigit (a0 : Int32) (hv : HV) (post : Int32 → HV → Prop) : Prop := ((a0 < 48 → post 0 hv) ∧ (¬ (a0 < 48) → ((57 < a0 → post 0 hv) ∧ (¬ (57 < a0) → post 1 hv))))
set_option maxHeartbeats 4000000 in
theorem c_X1_isDigit (l : Launch) (G : wG) (A : Nat → Prop) (a0 : Int32) (hv : HV) (post : Int32 → HV → Prop) (h : V_X1_isDigit a0 hv post) : wM l yX1_isDigit cX1_isDigit 1 ((Option.some FieldType.boolean)) 0 G A hv [.int a0] (qI G A post) := by
  refine wM_of (by decide +kernel) (Nat.le_of_ble_eq_true rfl) ?_
  intro p e s m args below meth c C0 hr ls hl hW hS
  have hx := C0.1
  have hb := C0.2.1
  have hown := C0.2.2.2.1
  have hts := C0.2.2.2.2.1
  have hl : lv_has ls 1 [(0, .int a0)] := hl
  unfold V_X1_isDigit at h
  refine lv_iload_n hx hb dX1_isDigit_0 rfl (lv_at hl 0 rfl) ?_
  refine lv_bipush (v := 48) hx hb dX1_isDigit_1 (by decide) ?_
  refine lv_icmp_lt (tgt := 16) hx hb dX1_isDigit_3 (by decide) (fun c1 => ?_) (fun c1 => ?_)
  · have h := h.1 c1
    refine lv_iconst (v := 0) hx hb dX1_isDigit_16 (by decide) ?_
    exact w_zret C0 hr rfl hW hS h dX1_isDigit_17
  · have h := h.2 c1
    refine lv_iload_n hx hb dX1_isDigit_6 rfl (lv_at hl 0 rfl) ?_
    refine lv_bipush (v := 57) hx hb dX1_isDigit_7 (by decide) ?_
    refine lv_icmp_gt (tgt := 16) hx hb dX1_isDigit_9 (by decide) (fun c2 => ?_) (fun c2 => ?_)
    · have h := h.1 c2
      refine lv_iconst (v := 0) hx hb dX1_isDigit_16 (by decide) ?_
      exact w_zret C0 hr rfl hW hS h dX1_isDigit_17
    · have h := h.2 c2
      refine lv_iconst (v := 1) hx hb dX1_isDigit_12 (by decide) ?_
      refine lv_goto (tgt := 17) hx hb dX1_isDigit_13 (by decide) ?_
      exact w_zret C0 hr rfl hW hS h dX1_isDigit_17

def V_X1_numberAt_4 (a1 : Int32) (post : Int32 → HV → Prop) : Nat → Int32 → Int32 → HV → Prop
  | 0, _, _, _ => False
  | n4 + 1, v2, v3, hv => (((a1 + 3) ≤ v3 → post v2 hv) ∧ (¬ ((a1 + 3) ≤ v3) → (V_X1_signAt v3 hv (fun r2 hv2 => (V_X1_isDigit r2 hv2 (fun r3 hv3 => ((r3 = 0 → post v2 hv3) ∧ (¬ (r3 = 0) → (V_X1_signAt v3 hv3 (fun r5 hv5 => (∀ x6 : Int32, x6 = (((v2 * 10) + r5) - 48) → (∀ x7 : Int32, x7 = v3 + 1 → V_X1_numberAt_4 a1 post n4 x6 x7 hv5))))))))))))
set_option maxHeartbeats 4000000 in
theorem k_X1_numberAt_4 {p : Program} {l : Launch} {e : Env} {s : State} {m : MethodId} {args : Array Value} {below : List Frame} {meth : Method} {c : Code} {G : wG} {A : Nat → Prop} (a1 : Int32) (post : Int32 → HV → Prop) (C0 : cx p s m args meth c "RamStation$CommandText" cX1_numberAt 4 G) (hr : meth.sig.returnType = (Option.some FieldType.int))   : ∀ (n : Nat) (v2 : Int32) (v3 : Int32) (hv : HV), V_X1_numberAt_4 a1 post n v2 v3 hv → ∀ (H : Heap) (locs : List Loc) (ls : Array Slot), wd G A hv H → va_S A s.heap H locs → lv_has ls 4 [(0, .ref (ad G 1 0)), (1, .int a1), (2, .int v2), (3, .int v3)] → W p l e (wrm 2) s m args below meth c H locs 0 0 (MQ below (qI G A post) args s 0 0 A) (F0 m 4 ls []) := by
  have hx := C0.1
  have hb := C0.2.1
  have hown := C0.2.2.2.1
  have hts := C0.2.2.2.2.1
  intro n
  induction n with
  | zero =>
    intro v2 v3 hv  h
    exact (h : False).elim
  | succ n ih =>
    intro v2 v3 hv  h H locs ls hW hS hl
    rw [V_X1_numberAt_4] at h
    refine lv_iload_n hx hb dX1_numberAt_4 rfl (lv_at hl 3 rfl) ?_
    refine lv_iload_n hx hb dX1_numberAt_5 rfl (lv_at hl 1 rfl) ?_
    refine lv_iconst (v := 3) hx hb dX1_numberAt_6 (by decide) ?_
    refine lv_iadd hx hb dX1_numberAt_7 ?_
    refine lv_icmp_ge (tgt := 42) hx hb dX1_numberAt_8 (by decide) (fun c1 => ?_) (fun c1 => ?_)
    · have h := h.1 c1
      refine lv_iload_n hx hb dX1_numberAt_42 rfl (lv_at hl 2 rfl) ?_
      exact w_iret C0 hr hW hS h dX1_numberAt_43
    · have h := h.2 c1
      refine lv_aload_n hx hb dX1_numberAt_11 rfl (lv_at hl 0 rfl) ?_
      refine lv_iload_n hx hb dX1_numberAt_12 rfl (lv_at hl 3 rfl) ?_
      refine w_ci hS (w_runV (As := [.int v3]) C0 hW 1 0 (by decide) (by decide) rfl rfl (c_X1_signAt l G A v3 hv _ h) ⟨⟨w_545, w_58, w_548⟩, pl_X1_signAt, ⟨Nat.le_of_ble_eq_true rfl, Nat.le_of_ble_eq_true rfl⟩, ⟨Nat.le_refl _, Nat.le_refl _⟩⟩ ⟨w_546, w_547⟩ rfl hl.1 rfl (Nat.le_of_ble_eq_true rfl) dX1_numberAt_13) (fun r2 hv2 h H locs hW hS => ?_)
      refine w_ci hS (w_runS (As := [.int r2]) C0 hW (c_X1_isDigit l G A r2 hv2 _ h) ⟨⟨w_559, w_58, w_561⟩, pl_X1_isDigit, ⟨Nat.le_of_ble_eq_true rfl, Nat.le_of_ble_eq_true rfl⟩, ⟨Nat.le_refl _, Nat.le_refl _⟩⟩ w_560 rfl hl.1 rfl (Nat.le_of_ble_eq_true rfl) dX1_numberAt_16) (fun r3 hv3 h H locs hW hS => ?_)
      refine lv_if_eq (tgt := 42) hx hb dX1_numberAt_19 (by decide) (fun c4 => ?_) (fun c4 => ?_)
      · have h := h.1 c4
        refine lv_iload_n hx hb dX1_numberAt_42 rfl (lv_at hl 2 rfl) ?_
        exact w_iret C0 hr hW hS h dX1_numberAt_43
      · have h := h.2 c4
        refine lv_iload_n hx hb dX1_numberAt_22 rfl (lv_at hl 2 rfl) ?_
        refine lv_bipush (v := 10) hx hb dX1_numberAt_23 (by decide) ?_
        refine lv_imul hx hb dX1_numberAt_25 ?_
        refine lv_aload_n hx hb dX1_numberAt_26 rfl (lv_at hl 0 rfl) ?_
        refine lv_iload_n hx hb dX1_numberAt_27 rfl (lv_at hl 3 rfl) ?_
        refine w_ci hS (w_runV (As := [.int v3]) C0 hW 1 0 (by decide) (by decide) rfl rfl (c_X1_signAt l G A v3 hv3 _ h) ⟨⟨w_545, w_58, w_548⟩, pl_X1_signAt, ⟨Nat.le_of_ble_eq_true rfl, Nat.le_of_ble_eq_true rfl⟩, ⟨Nat.le_refl _, Nat.le_refl _⟩⟩ ⟨w_546, w_547⟩ rfl hl.1 rfl (Nat.le_of_ble_eq_true rfl) dX1_numberAt_28) (fun r5 hv5 h H locs hW hS => ?_)
        refine lv_iadd hx hb dX1_numberAt_31 ?_
        refine lv_bipush (v := 48) hx hb dX1_numberAt_32 (by decide) ?_
        refine lv_isub hx hb dX1_numberAt_34 ?_
        refine lv_topi (fun x6 ex6 => ?_)
        have h := h x6 ex6
        refine lv_istore_n (lv' := [(2, .int x6), (0, .ref (ad G 1 0)), (1, .int a1), (3, .int v3)]) hx hb dX1_numberAt_35 rfl hl (by decide) rfl (fun ls hl => ?_)
        obtain ⟨x7, ex7⟩ : ∃ y : Int32, y = v3 + 1 := ⟨_, rfl⟩
        have h := h x7 ex7
        refine lv_iinc (v := x7) (lv' := [(3, .int x7), (2, .int x6), (0, .ref (ad G 1 0)), (1, .int a1)]) hx hb dX1_numberAt_36 hl (k := 3) rfl (by rw [ex7]; rfl) (by decide) rfl (fun ls hl => ?_)
        refine lv_goto (tgt := 4) hx hb dX1_numberAt_39 (by decide) ?_
        exact ih x6 x7 hv5 h _ _ _ hW hS (lv_sub hl [2, 3, 1, 0] rfl)
theorem pl_X1_numberAt : yX1_numberAt.cls ≠ "java/lang/invoke/MethodHandle" ∧ yX1_numberAt.cls ≠ "java/lang/invoke/VarHandle" ∧ (parseMethodDescriptor yX1_numberAt.desc).map (fun d => d.parameters.length) = some 1 := ⟨by decide +kernel, by decide +kernel, by decide +kernel⟩
def V_X1_numberAt (a1 : Int32) (hv : HV) (post : Int32 → HV → Prop) : Prop := (∃ n4, V_X1_numberAt_4 a1 post n4 0 a1 hv)
set_option maxHeartbeats 4000000 in
theorem c_X1_numberAt (l : Launch) (G : wG) (A : Nat → Prop) (a1 : Int32) (hv : HV) (post : Int32 → HV → Prop) (h : V_X1_numberAt a1 hv post) : wM l yX1_numberAt cX1_numberAt 4 ((Option.some FieldType.int)) 2 G A hv [.ref (ad G 1 0), .int a1] (qI G A post) := by
  refine wM_of (by decide +kernel) (Nat.le_of_ble_eq_true rfl) ?_
  intro p e s m args below meth c C0 hr ls hl hW hS
  have hx := C0.1
  have hb := C0.2.1
  have hown := C0.2.2.2.1
  have hts := C0.2.2.2.2.1
  have hl : lv_has ls 4 [(0, .ref (ad G 1 0)), (1, .int a1)] := hl
  unfold V_X1_numberAt at h
  refine lv_iconst (v := 0) hx hb dX1_numberAt_0 (by decide) ?_
  refine lv_istore_n (lv' := [(2, .int 0), (0, .ref (ad G 1 0)), (1, .int a1)]) hx hb dX1_numberAt_1 rfl hl (by decide) rfl (fun ls hl => ?_)
  refine lv_iload_n hx hb dX1_numberAt_2 rfl (lv_at hl 2 rfl) ?_
  refine lv_istore_n (lv' := [(3, .int a1), (2, .int 0), (0, .ref (ad G 1 0)), (1, .int a1)]) hx hb dX1_numberAt_3 rfl hl (by decide) rfl (fun ls hl => ?_)
  obtain ⟨n8, h⟩ := h
  exact k_X1_numberAt_4 a1 post C0 hr n8 0 a1 hv h _ _ _ hW hS (lv_sub hl [2, 3, 1, 0] rfl)

theorem pl_X1_mayEnd : yX1_mayEnd.cls ≠ "java/lang/invoke/MethodHandle" ∧ yX1_mayEnd.cls ≠ "java/lang/invoke/VarHandle" ∧ (parseMethodDescriptor yX1_mayEnd.desc).map (fun d => d.parameters.length) = some 1 := ⟨by decide +kernel, by decide +kernel, by decide +kernel⟩
def V_X1_mayEnd (a0 : Int32) (hv : HV) (post : Int32 → HV → Prop) : Prop := ((a0 = 5 → post 1 hv) ∧ (¬ (a0 = 5) → ((a0 = 6 → post 1 hv) ∧ (¬ (a0 = 6) → ((a0 = 7 → post 1 hv) ∧ (¬ (a0 = 7) → post 0 hv))))))
set_option maxHeartbeats 4000000 in
theorem c_X1_mayEnd (l : Launch) (G : wG) (A : Nat → Prop) (a0 : Int32) (hv : HV) (post : Int32 → HV → Prop) (h : V_X1_mayEnd a0 hv post) : wM l yX1_mayEnd cX1_mayEnd 1 ((Option.some FieldType.boolean)) 0 G A hv [.int a0] (qI G A post) := by
  refine wM_of (by decide +kernel) (Nat.le_of_ble_eq_true rfl) ?_
  intro p e s m args below meth c C0 hr ls hl hW hS
  have hx := C0.1
  have hb := C0.2.1
  have hown := C0.2.2.2.1
  have hts := C0.2.2.2.2.1
  have hl : lv_has ls 1 [(0, .int a0)] := hl
  unfold V_X1_mayEnd at h
  refine lv_iload_n hx hb dX1_mayEnd_0 rfl (lv_at hl 0 rfl) ?_
  refine lv_iconst (v := 5) hx hb dX1_mayEnd_1 (by decide) ?_
  refine lv_icmp_eq (tgt := 17) hx hb dX1_mayEnd_2 (by decide) (fun c1 => ?_) (fun c1 => ?_)
  · have h := h.1 c1
    refine lv_iconst (v := 1) hx hb dX1_mayEnd_17 (by decide) ?_
    refine lv_goto (tgt := 22) hx hb dX1_mayEnd_18 (by decide) ?_
    exact w_zret C0 hr rfl hW hS h dX1_mayEnd_22
  · have h := h.2 c1
    refine lv_iload_n hx hb dX1_mayEnd_5 rfl (lv_at hl 0 rfl) ?_
    refine lv_bipush (v := 6) hx hb dX1_mayEnd_6 (by decide) ?_
    refine lv_icmp_eq (tgt := 17) hx hb dX1_mayEnd_8 (by decide) (fun c2 => ?_) (fun c2 => ?_)
    · have h := h.1 c2
      refine lv_iconst (v := 1) hx hb dX1_mayEnd_17 (by decide) ?_
      refine lv_goto (tgt := 22) hx hb dX1_mayEnd_18 (by decide) ?_
      exact w_zret C0 hr rfl hW hS h dX1_mayEnd_22
    · have h := h.2 c2
      refine lv_iload_n hx hb dX1_mayEnd_11 rfl (lv_at hl 0 rfl) ?_
      refine lv_bipush (v := 7) hx hb dX1_mayEnd_12 (by decide) ?_
      refine lv_icmp_ne (tgt := 21) hx hb dX1_mayEnd_14 (by decide) (fun c3 => ?_) (fun c3 => ?_)
      · have h := h.2 c3
        refine lv_iconst (v := 0) hx hb dX1_mayEnd_21 (by decide) ?_
        exact w_zret C0 hr rfl hW hS h dX1_mayEnd_22
      · have h := h.1 c3
        refine lv_iconst (v := 1) hx hb dX1_mayEnd_17 (by decide) ?_
        refine lv_goto (tgt := 22) hx hb dX1_mayEnd_18 (by decide) ?_
        exact w_zret C0 hr rfl hW hS h dX1_mayEnd_22

theorem pl_X1_placeAfterLetter : yX1_placeAfterLetter.cls ≠ "java/lang/invoke/MethodHandle" ∧ yX1_placeAfterLetter.cls ≠ "java/lang/invoke/VarHandle" ∧ (parseMethodDescriptor yX1_placeAfterLetter.desc).map (fun d => d.parameters.length) = some 1 := ⟨by decide +kernel, by decide +kernel, by decide +kernel⟩
def V_X1_placeAfterLetter (a0 : Int32) (hv : HV) (post : Int32 → HV → Prop) : Prop := ((a0 = 101 → post 1 hv) ∧ (¬ a0 = 101 → ((a0 = 104 → post 1 hv) ∧ (¬ a0 = 104 → ((a0 = 105 → post 4 hv) ∧ (¬ a0 = 105 → ((a0 = 114 → post 1 hv) ∧ (¬ a0 = 114 → ((a0 = 115 → post 2 hv) ∧ (¬ a0 = 115 → ((a0 = 119 → post 4 hv) ∧ (¬ a0 = 119 → post (-1) hv))))))))))))
set_option maxHeartbeats 4000000 in
theorem c_X1_placeAfterLetter (l : Launch) (G : wG) (A : Nat → Prop) (a0 : Int32) (hv : HV) (post : Int32 → HV → Prop) (h : V_X1_placeAfterLetter a0 hv post) : wM l yX1_placeAfterLetter cX1_placeAfterLetter 1 ((Option.some FieldType.int)) 0 G A hv [.int a0] (qI G A post) := by
  refine wM_of (by decide +kernel) (Nat.le_of_ble_eq_true rfl) ?_
  intro p e s m args below meth c C0 hr ls hl hW hS
  have hx := C0.1
  have hb := C0.2.1
  have hown := C0.2.2.2.1
  have hts := C0.2.2.2.2.1
  have hl : lv_has ls 1 [(0, .int a0)] := hl
  unfold V_X1_placeAfterLetter at h
  refine lv_iload_n hx hb dX1_placeAfterLetter_0 rfl (lv_at hl 0 rfl) ?_
  by_cases c1 : a0 = 101
  · have h := h.1 c1
    refine lv_tableIn (tgt := 92) hx hb dX1_placeAfterLetter_1 (by rw [c1]; decide) (by rw [c1]; decide) (off := 91) (by rw [c1]; rfl) (by decide) ?_
    refine lv_iconst (v := 1) hx hb dX1_placeAfterLetter_92 (by decide) ?_
    exact w_iret C0 hr hW hS h dX1_placeAfterLetter_93
  have h := h.2 c1
  by_cases c2 : a0 = 104
  · have h := h.1 c2
    refine lv_tableIn (tgt := 92) hx hb dX1_placeAfterLetter_1 (by rw [c2]; decide) (by rw [c2]; decide) (off := 91) (by rw [c2]; rfl) (by decide) ?_
    refine lv_iconst (v := 1) hx hb dX1_placeAfterLetter_92 (by decide) ?_
    exact w_iret C0 hr hW hS h dX1_placeAfterLetter_93
  have h := h.2 c2
  by_cases c3 : a0 = 105
  · have h := h.1 c3
    refine lv_tableIn (tgt := 96) hx hb dX1_placeAfterLetter_1 (by rw [c3]; decide) (by rw [c3]; decide) (off := 95) (by rw [c3]; rfl) (by decide) ?_
    refine lv_iconst (v := 4) hx hb dX1_placeAfterLetter_96 (by decide) ?_
    exact w_iret C0 hr hW hS h dX1_placeAfterLetter_97
  have h := h.2 c3
  by_cases c4 : a0 = 114
  · have h := h.1 c4
    refine lv_tableIn (tgt := 92) hx hb dX1_placeAfterLetter_1 (by rw [c4]; decide) (by rw [c4]; decide) (off := 91) (by rw [c4]; rfl) (by decide) ?_
    refine lv_iconst (v := 1) hx hb dX1_placeAfterLetter_92 (by decide) ?_
    exact w_iret C0 hr hW hS h dX1_placeAfterLetter_93
  have h := h.2 c4
  by_cases c5 : a0 = 115
  · have h := h.1 c5
    refine lv_tableIn (tgt := 94) hx hb dX1_placeAfterLetter_1 (by rw [c5]; decide) (by rw [c5]; decide) (off := 93) (by rw [c5]; rfl) (by decide) ?_
    refine lv_iconst (v := 2) hx hb dX1_placeAfterLetter_94 (by decide) ?_
    exact w_iret C0 hr hW hS h dX1_placeAfterLetter_95
  have h := h.2 c5
  by_cases c6 : a0 = 119
  · have h := h.1 c6
    refine lv_tableIn (tgt := 96) hx hb dX1_placeAfterLetter_1 (by rw [c6]; decide) (by rw [c6]; decide) (off := 95) (by rw [c6]; rfl) (by decide) ?_
    refine lv_iconst (v := 4) hx hb dX1_placeAfterLetter_96 (by decide) ?_
    exact w_iret C0 hr hW hS h dX1_placeAfterLetter_97
  have h := h.2 c6
  have hk7 : W p l e (wrm 0) s m args below meth c s.heap [] 0 0 (MQ below (qI G A post) args s 0 0 A) (F0 m 98 ls []) := by
    refine lv_iconst (v := (-1)) hx hb dX1_placeAfterLetter_98 (by decide) ?_
    exact w_iret C0 hr hW hS h dX1_placeAfterLetter_99
  by_cases g1 : Int32.toInt a0 < 101
  · exact lv_tableOut (tgt := 98) hx hb dX1_placeAfterLetter_1 (Or.inl g1) (by decide) hk7
  by_cases g2 : 119 < Int32.toInt a0
  · exact lv_tableOut (tgt := 98) hx hb dX1_placeAfterLetter_1 (Or.inr g2) (by decide) hk7
  refine lv_tableIn (tgt := 98) hx hb dX1_placeAfterLetter_1 g1 g2 (off := 97) ?_ (by decide) hk7
  obtain ⟨j, hj, ej⟩ : ∃ j : Nat, j < 19 ∧ Int32.toInt a0 - 101 = (j : Int) := ⟨(Int32.toInt a0 - 101).toNat, by omega, by omega⟩
  have c1 := lv_neT c1 (a := 101) (by decide)
  have c2 := lv_neT c2 (a := 104) (by decide)
  have c3 := lv_neT c3 (a := 105) (by decide)
  have c4 := lv_neT c4 (a := 114) (by decide)
  have c5 := lv_neT c5 (a := 115) (by decide)
  have c6 := lv_neT c6 (a := 119) (by decide)
  rw [ej, Int.toNat_natCast]
  have key : ∀ j : Nat, j < 19 → (j = 0 ∨ j = 3 ∨ j = 4 ∨ j = 13 ∨ j = 14 ∨ j = 18 ∨ (#[91, 97, 97, 91, 95, 97, 97, 97, 97, 97, 97, 97, 97, 91, 93, 97, 97, 97, 95] : Array Int)[j]? = some 97) := by decide +kernel
  rcases key j hj with g | g | g | g | g | g | g
  · omega
  · omega
  · omega
  · omega
  · omega
  · omega
  · exact g

theorem pl_X1_placeAfterDigit : yX1_placeAfterDigit.cls ≠ "java/lang/invoke/MethodHandle" ∧ yX1_placeAfterDigit.cls ≠ "java/lang/invoke/VarHandle" ∧ (parseMethodDescriptor yX1_placeAfterDigit.desc).map (fun d => d.parameters.length) = some 1 := ⟨by decide +kernel, by decide +kernel, by decide +kernel⟩
def V_X1_placeAfterDigit (a0 : Int32) (hv : HV) (post : Int32 → HV → Prop) : Prop := ((a0 = 1 → post 7 hv) ∧ (¬ a0 = 1 → ((a0 = 2 → post 3 hv) ∧ (¬ a0 = 2 → ((a0 = 4 → post 5 hv) ∧ (¬ a0 = 4 → ((a0 = 5 → post 6 hv) ∧ (¬ a0 = 5 → ((a0 = 6 → post 7 hv) ∧ (¬ a0 = 6 → post (-1) hv))))))))))
set_option maxHeartbeats 4000000 in
theorem c_X1_placeAfterDigit (l : Launch) (G : wG) (A : Nat → Prop) (a0 : Int32) (hv : HV) (post : Int32 → HV → Prop) (h : V_X1_placeAfterDigit a0 hv post) : wM l yX1_placeAfterDigit cX1_placeAfterDigit 1 ((Option.some FieldType.int)) 0 G A hv [.int a0] (qI G A post) := by
  refine wM_of (by decide +kernel) (Nat.le_of_ble_eq_true rfl) ?_
  intro p e s m args below meth c C0 hr ls hl hW hS
  have hx := C0.1
  have hb := C0.2.1
  have hown := C0.2.2.2.1
  have hts := C0.2.2.2.2.1
  have hl : lv_has ls 1 [(0, .int a0)] := hl
  unfold V_X1_placeAfterDigit at h
  refine lv_iload_n hx hb dX1_placeAfterDigit_0 rfl (lv_at hl 0 rfl) ?_
  by_cases c1 : a0 = 1
  · have h := h.1 c1
    refine lv_tableIn (tgt := 40) hx hb dX1_placeAfterDigit_1 (by rw [c1]; decide) (by rw [c1]; decide) (off := 39) (by rw [c1]; rfl) (by decide) ?_
    refine lv_bipush (v := 7) hx hb dX1_placeAfterDigit_40 (by decide) ?_
    exact w_iret C0 hr hW hS h dX1_placeAfterDigit_42
  have h := h.2 c1
  by_cases c2 : a0 = 2
  · have h := h.1 c2
    refine lv_tableIn (tgt := 43) hx hb dX1_placeAfterDigit_1 (by rw [c2]; decide) (by rw [c2]; decide) (off := 42) (by rw [c2]; rfl) (by decide) ?_
    refine lv_iconst (v := 3) hx hb dX1_placeAfterDigit_43 (by decide) ?_
    exact w_iret C0 hr hW hS h dX1_placeAfterDigit_44
  have h := h.2 c2
  by_cases c3 : a0 = 4
  · have h := h.1 c3
    refine lv_tableIn (tgt := 45) hx hb dX1_placeAfterDigit_1 (by rw [c3]; decide) (by rw [c3]; decide) (off := 44) (by rw [c3]; rfl) (by decide) ?_
    refine lv_iconst (v := 5) hx hb dX1_placeAfterDigit_45 (by decide) ?_
    exact w_iret C0 hr hW hS h dX1_placeAfterDigit_46
  have h := h.2 c3
  by_cases c4 : a0 = 5
  · have h := h.1 c4
    refine lv_tableIn (tgt := 47) hx hb dX1_placeAfterDigit_1 (by rw [c4]; decide) (by rw [c4]; decide) (off := 46) (by rw [c4]; rfl) (by decide) ?_
    refine lv_bipush (v := 6) hx hb dX1_placeAfterDigit_47 (by decide) ?_
    exact w_iret C0 hr hW hS h dX1_placeAfterDigit_49
  have h := h.2 c4
  by_cases c5 : a0 = 6
  · have h := h.1 c5
    refine lv_tableIn (tgt := 40) hx hb dX1_placeAfterDigit_1 (by rw [c5]; decide) (by rw [c5]; decide) (off := 39) (by rw [c5]; rfl) (by decide) ?_
    refine lv_bipush (v := 7) hx hb dX1_placeAfterDigit_40 (by decide) ?_
    exact w_iret C0 hr hW hS h dX1_placeAfterDigit_42
  have h := h.2 c5
  have hk6 : W p l e (wrm 0) s m args below meth c s.heap [] 0 0 (MQ below (qI G A post) args s 0 0 A) (F0 m 50 ls []) := by
    refine lv_iconst (v := (-1)) hx hb dX1_placeAfterDigit_50 (by decide) ?_
    exact w_iret C0 hr hW hS h dX1_placeAfterDigit_51
  by_cases g1 : Int32.toInt a0 < 1
  · exact lv_tableOut (tgt := 50) hx hb dX1_placeAfterDigit_1 (Or.inl g1) (by decide) hk6
  by_cases g2 : 6 < Int32.toInt a0
  · exact lv_tableOut (tgt := 50) hx hb dX1_placeAfterDigit_1 (Or.inr g2) (by decide) hk6
  refine lv_tableIn (tgt := 50) hx hb dX1_placeAfterDigit_1 g1 g2 (off := 49) ?_ (by decide) hk6
  obtain ⟨j, hj, ej⟩ : ∃ j : Nat, j < 6 ∧ Int32.toInt a0 - 1 = (j : Int) := ⟨(Int32.toInt a0 - 1).toNat, by omega, by omega⟩
  have c1 := lv_neT c1 (a := 1) (by decide)
  have c2 := lv_neT c2 (a := 2) (by decide)
  have c3 := lv_neT c3 (a := 4) (by decide)
  have c4 := lv_neT c4 (a := 5) (by decide)
  have c5 := lv_neT c5 (a := 6) (by decide)
  rw [ej, Int.toNat_natCast]
  have key : ∀ j : Nat, j < 6 → (j = 0 ∨ j = 1 ∨ j = 3 ∨ j = 4 ∨ j = 5 ∨ (#[39, 42, 49, 44, 46, 39] : Array Int)[j]? = some 49) := by decide +kernel
  rcases key j hj with g | g | g | g | g | g
  · omega
  · omega
  · omega
  · omega
  · omega
  · exact g

theorem pl_X1_placeAfter : yX1_placeAfter.cls ≠ "java/lang/invoke/MethodHandle" ∧ yX1_placeAfter.cls ≠ "java/lang/invoke/VarHandle" ∧ (parseMethodDescriptor yX1_placeAfter.desc).map (fun d => d.parameters.length) = some 2 := ⟨by decide +kernel, by decide +kernel, by decide +kernel⟩
def V_X1_placeAfter (a0 : Int32) (a1 : Int32) (hv : HV) (post : Int32 → HV → Prop) : Prop := ((a1 = 59 → (V_X1_mayEnd a0 hv (fun r9 hv9 => ((r9 = 0 → post (-1) hv9) ∧ (¬ (r9 = 0) → post 0 hv9))))) ∧ (¬ (a1 = 59) → ((a0 = 0 → (V_X1_placeAfterLetter a1 hv (fun r8 hv8 => post r8 hv8))) ∧ (¬ (a0 = 0) → ((a0 = 3 → ((a1 = 61 → post 4 hv) ∧ (¬ (a1 = 61) → post (-1) hv))) ∧ (¬ (a0 = 3) → (V_X1_isDigit a1 hv (fun r4 hv4 => ((r4 = 0 → post (-1) hv4) ∧ (¬ (r4 = 0) → (V_X1_placeAfterDigit a0 hv4 (fun r6 hv6 => post r6 hv6))))))))))))
set_option maxHeartbeats 4000000 in
theorem c_X1_placeAfter (l : Launch) (G : wG) (A : Nat → Prop) (a0 : Int32) (a1 : Int32) (hv : HV) (post : Int32 → HV → Prop) (h : V_X1_placeAfter a0 a1 hv post) : wM l yX1_placeAfter cX1_placeAfter 2 ((Option.some FieldType.int)) 1 G A hv [.int a0, .int a1] (qI G A post) := by
  refine wM_of (by decide +kernel) (Nat.le_of_ble_eq_true rfl) ?_
  intro p e s m args below meth c C0 hr ls hl hW hS
  have hx := C0.1
  have hb := C0.2.1
  have hown := C0.2.2.2.1
  have hts := C0.2.2.2.2.1
  have hl : lv_has ls 2 [(0, .int a0), (1, .int a1)] := hl
  unfold V_X1_placeAfter at h
  refine lv_iload_n hx hb dX1_placeAfter_0 rfl (lv_at hl 1 rfl) ?_
  refine lv_bipush (v := 59) hx hb dX1_placeAfter_1 (by decide) ?_
  refine lv_icmp_ne (tgt := 19) hx hb dX1_placeAfter_3 (by decide) (fun c1 => ?_) (fun c1 => ?_)
  · have h := h.2 c1
    refine lv_iload_n hx hb dX1_placeAfter_19 rfl (lv_at hl 0 rfl) ?_
    refine lv_if_ne (tgt := 28) hx hb dX1_placeAfter_20 (by decide) (fun c2 => ?_) (fun c2 => ?_)
    · have h := h.2 c2
      refine lv_iload_n hx hb dX1_placeAfter_28 rfl (lv_at hl 0 rfl) ?_
      refine lv_iconst (v := 3) hx hb dX1_placeAfter_29 (by decide) ?_
      refine lv_icmp_ne (tgt := 45) hx hb dX1_placeAfter_30 (by decide) (fun c3 => ?_) (fun c3 => ?_)
      · have h := h.2 c3
        refine lv_iload_n hx hb dX1_placeAfter_45 rfl (lv_at hl 1 rfl) ?_
        refine w_ci hS (w_runS (As := [.int a1]) C0 hW (c_X1_isDigit l G A a1 hv _ h) ⟨⟨w_559, w_58, w_561⟩, pl_X1_isDigit, ⟨Nat.le_of_ble_eq_true rfl, Nat.le_of_ble_eq_true rfl⟩, ⟨Nat.le_refl _, Nat.le_refl _⟩⟩ w_560 rfl hl.1 rfl (Nat.le_of_ble_eq_true rfl) dX1_placeAfter_46) (fun r4 hv4 h H locs hW hS => ?_)
        refine lv_if_eq (tgt := 59) hx hb dX1_placeAfter_49 (by decide) (fun c5 => ?_) (fun c5 => ?_)
        · have h := h.1 c5
          refine lv_iconst (v := (-1)) hx hb dX1_placeAfter_59 (by decide) ?_
          exact w_iret C0 hr hW hS h dX1_placeAfter_60
        · have h := h.2 c5
          refine lv_iload_n hx hb dX1_placeAfter_52 rfl (lv_at hl 0 rfl) ?_
          refine w_ci hS (w_runS (As := [.int a0]) C0 hW (c_X1_placeAfterDigit l G A a0 hv4 _ h) ⟨⟨w_562, w_58, w_564⟩, pl_X1_placeAfterDigit, ⟨Nat.le_of_ble_eq_true rfl, Nat.le_of_ble_eq_true rfl⟩, ⟨Nat.le_refl _, Nat.le_refl _⟩⟩ w_563 rfl hl.1 rfl (Nat.le_of_ble_eq_true rfl) dX1_placeAfter_53) (fun r6 hv6 h H locs hW hS => ?_)
          refine lv_goto (tgt := 60) hx hb dX1_placeAfter_56 (by decide) ?_
          exact w_iret C0 hr hW hS h dX1_placeAfter_60
      · have h := h.1 c3
        refine lv_iload_n hx hb dX1_placeAfter_33 rfl (lv_at hl 1 rfl) ?_
        refine lv_bipush (v := 61) hx hb dX1_placeAfter_34 (by decide) ?_
        refine lv_icmp_ne (tgt := 43) hx hb dX1_placeAfter_36 (by decide) (fun c7 => ?_) (fun c7 => ?_)
        · have h := h.2 c7
          refine lv_iconst (v := (-1)) hx hb dX1_placeAfter_43 (by decide) ?_
          exact w_iret C0 hr hW hS h dX1_placeAfter_44
        · have h := h.1 c7
          refine lv_iconst (v := 4) hx hb dX1_placeAfter_39 (by decide) ?_
          refine lv_goto (tgt := 44) hx hb dX1_placeAfter_40 (by decide) ?_
          exact w_iret C0 hr hW hS h dX1_placeAfter_44
    · have h := h.1 c2
      refine lv_iload_n hx hb dX1_placeAfter_23 rfl (lv_at hl 1 rfl) ?_
      refine w_ci hS (w_runS (As := [.int a1]) C0 hW (c_X1_placeAfterLetter l G A a1 hv _ h) ⟨⟨w_556, w_58, w_558⟩, pl_X1_placeAfterLetter, ⟨Nat.le_of_ble_eq_true rfl, Nat.le_of_ble_eq_true rfl⟩, ⟨Nat.le_refl _, Nat.le_refl _⟩⟩ w_557 rfl hl.1 rfl (Nat.le_of_ble_eq_true rfl) dX1_placeAfter_24) (fun r8 hv8 h H locs hW hS => ?_)
      exact w_iret C0 hr hW hS h dX1_placeAfter_27
  · have h := h.1 c1
    refine lv_iload_n hx hb dX1_placeAfter_6 rfl (lv_at hl 0 rfl) ?_
    refine w_ci hS (w_runS (As := [.int a0]) C0 hW (c_X1_mayEnd l G A a0 hv _ h) ⟨⟨w_553, w_58, w_555⟩, pl_X1_mayEnd, ⟨Nat.le_of_ble_eq_true rfl, Nat.le_of_ble_eq_true rfl⟩, ⟨Nat.le_refl _, Nat.le_refl _⟩⟩ w_554 rfl hl.1 rfl (Nat.le_of_ble_eq_true rfl) dX1_placeAfter_7) (fun r9 hv9 h H locs hW hS => ?_)
    refine lv_if_eq (tgt := 17) hx hb dX1_placeAfter_10 (by decide) (fun c10 => ?_) (fun c10 => ?_)
    · have h := h.1 c10
      refine lv_iconst (v := (-1)) hx hb dX1_placeAfter_17 (by decide) ?_
      exact w_iret C0 hr hW hS h dX1_placeAfter_18
    · have h := h.2 c10
      refine lv_iconst (v := 0) hx hb dX1_placeAfter_13 (by decide) ?_
      refine lv_goto (tgt := 18) hx hb dX1_placeAfter_14 (by decide) ?_
      exact w_iret C0 hr hW hS h dX1_placeAfter_18

def V_X1_firstError_4 (post : Int32 → HV → Prop) (k_35 : Int32 → HV → Prop) : Nat → Int32 → Int32 → HV → Prop
  | 0, _, _, _ => False
  | n4 + 1, v1, v2, hv => (((hv 1 0 1) ≤ v2 → k_35 v1 hv) ∧ (¬ ((hv 1 0 1) ≤ v2) → (V_X1_signAt v2 hv (fun r2 hv2 => (V_X1_placeAfter v1 r2 hv2 (fun r3 hv3 => ((r3 = (-1) → post v2 hv3) ∧ (¬ (r3 = (-1)) → (∀ x5 : Int32, x5 = v2 + 1 → V_X1_firstError_4 post k_35 n4 r3 x5 hv3)))))))))
set_option maxHeartbeats 4000000 in
theorem k_X1_firstError_4 {p : Program} {l : Launch} {e : Env} {s : State} {m : MethodId} {args : Array Value} {below : List Frame} {meth : Method} {c : Code} {G : wG} {A : Nat → Prop} (post : Int32 → HV → Prop) (k_35 : Int32 → HV → Prop) (C0 : cx p s m args meth c "RamStation$CommandText" cX1_firstError 3 G) (hr : meth.sig.returnType = (Option.some FieldType.int))  (hk_35 : ∀ (v1 : Int32) (hv : HV),  k_35 v1 hv → ∀ (H : Heap) (locs : List Loc) (ls : Array Slot), wd G A hv H → va_S A s.heap H locs → lv_has ls 3 [(0, .ref (ad G 1 0)), (1, .int v1)] → W p l e (wrm 2) s m args below meth c H locs 0 0 (MQ below (qI G A post) args s 0 0 A) (F0 m 35 ls [])) : ∀ (n : Nat) (v1 : Int32) (v2 : Int32) (hv : HV), V_X1_firstError_4 post k_35 n v1 v2 hv → ∀ (H : Heap) (locs : List Loc) (ls : Array Slot), wd G A hv H → va_S A s.heap H locs → lv_has ls 3 [(0, .ref (ad G 1 0)), (1, .int v1), (2, .int v2)] → W p l e (wrm 2) s m args below meth c H locs 0 0 (MQ below (qI G A post) args s 0 0 A) (F0 m 4 ls []) := by
  have hx := C0.1
  have hb := C0.2.1
  have hown := C0.2.2.2.1
  have hts := C0.2.2.2.2.1
  intro n
  induction n with
  | zero =>
    intro v1 v2 hv  h
    exact (h : False).elim
  | succ n ih =>
    intro v1 v2 hv  h H locs ls hW hS hl
    rw [V_X1_firstError_4] at h
    refine lv_iload_n hx hb dX1_firstError_4 rfl (lv_at hl 2 rfl) ?_
    refine lv_aload_n hx hb dX1_firstError_5 rfl (lv_at hl 0 rfl) ?_
    refine w_get (v := .int (hv 1 0 1)) C0 hW 1 0 (by decide) (by decide) rfl rfl in_X1 1 (by decide) w_268 rfl dX1_firstError_6 ?_
    refine lv_icmp_ge (tgt := 35) hx hb dX1_firstError_9 (by decide) (fun c1 => ?_) (fun c1 => ?_)
    · have h := h.1 c1
      exact hk_35 v1 hv h _ _ _ hW hS (lv_sub hl [0, 1] rfl)
    · have h := h.2 c1
      refine lv_iload_n hx hb dX1_firstError_12 rfl (lv_at hl 1 rfl) ?_
      refine lv_aload_n hx hb dX1_firstError_13 rfl (lv_at hl 0 rfl) ?_
      refine lv_iload_n hx hb dX1_firstError_14 rfl (lv_at hl 2 rfl) ?_
      refine w_ci hS (w_runV (As := [.int v2]) C0 hW 1 0 (by decide) (by decide) rfl rfl (c_X1_signAt l G A v2 hv _ h) ⟨⟨w_545, w_58, w_548⟩, pl_X1_signAt, ⟨Nat.le_of_ble_eq_true rfl, Nat.le_of_ble_eq_true rfl⟩, ⟨Nat.le_refl _, Nat.le_refl _⟩⟩ ⟨w_546, w_547⟩ rfl hl.1 rfl (Nat.le_of_ble_eq_true rfl) dX1_firstError_15) (fun r2 hv2 h H locs hW hS => ?_)
      refine w_ci hS (w_runS (As := [.int v1, .int r2]) C0 hW (c_X1_placeAfter l G A v1 r2 hv2 _ h) ⟨⟨w_550, w_58, w_552⟩, pl_X1_placeAfter, ⟨Nat.le_of_ble_eq_true rfl, Nat.le_of_ble_eq_true rfl⟩, ⟨Nat.le_refl _, Nat.le_refl _⟩⟩ w_551 rfl hl.1 rfl (Nat.le_of_ble_eq_true rfl) dX1_firstError_18) (fun r3 hv3 h H locs hW hS => ?_)
      refine lv_istore_n (lv' := [(1, .int r3), (0, .ref (ad G 1 0)), (2, .int v2)]) hx hb dX1_firstError_21 rfl hl (by decide) rfl (fun ls hl => ?_)
      refine lv_iload_n hx hb dX1_firstError_22 rfl (lv_at hl 0 rfl) ?_
      refine lv_iconst (v := (-1)) hx hb dX1_firstError_23 (by decide) ?_
      refine lv_icmp_ne (tgt := 29) hx hb dX1_firstError_24 (by decide) (fun c4 => ?_) (fun c4 => ?_)
      · have h := h.2 c4
        obtain ⟨x5, ex5⟩ : ∃ y : Int32, y = v2 + 1 := ⟨_, rfl⟩
        have h := h x5 ex5
        refine lv_iinc (v := x5) (lv' := [(2, .int x5), (1, .int r3), (0, .ref (ad G 1 0))]) hx hb dX1_firstError_29 hl (k := 2) rfl (by rw [ex5]; rfl) (by decide) rfl (fun ls hl => ?_)
        refine lv_goto (tgt := 4) hx hb dX1_firstError_32 (by decide) ?_
        exact ih r3 x5 hv3 h _ _ _ hW hS (lv_sub hl [2, 1, 0] rfl)
      · have h := h.1 c4
        refine lv_iload_n hx hb dX1_firstError_27 rfl (lv_at hl 2 rfl) ?_
        exact w_iret C0 hr hW hS h dX1_firstError_28
theorem pl_X1_firstError : yX1_firstError.cls ≠ "java/lang/invoke/MethodHandle" ∧ yX1_firstError.cls ≠ "java/lang/invoke/VarHandle" ∧ (parseMethodDescriptor yX1_firstError.desc).map (fun d => d.parameters.length) = some 0 := ⟨by decide +kernel, by decide +kernel, by decide +kernel⟩
def V_X1_firstError  (hv : HV) (post : Int32 → HV → Prop) : Prop := (∃ n4, V_X1_firstError_4 post (fun y6_1 hv6 => (V_X1_mayEnd y6_1 hv6 (fun r7 hv7 => ((r7 = 0 → post (hv7 1 0 1) hv7) ∧ (¬ (r7 = 0) → post (-1005) hv7))))) n4 0 0 hv)
set_option maxHeartbeats 4000000 in
theorem c_X1_firstError (l : Launch) (G : wG) (A : Nat → Prop) (hv : HV) (post : Int32 → HV → Prop) (h : V_X1_firstError hv post) : wM l yX1_firstError cX1_firstError 3 ((Option.some FieldType.int)) 2 G A hv [.ref (ad G 1 0)] (qI G A post) := by
  refine wM_of (by decide +kernel) (Nat.le_of_ble_eq_true rfl) ?_
  intro p e s m args below meth c C0 hr ls hl hW hS
  have hx := C0.1
  have hb := C0.2.1
  have hown := C0.2.2.2.1
  have hts := C0.2.2.2.2.1
  have hl : lv_has ls 3 [(0, .ref (ad G 1 0))] := hl
  unfold V_X1_firstError at h
  refine lv_iconst (v := 0) hx hb dX1_firstError_0 (by decide) ?_
  refine lv_istore_n (lv' := [(1, .int 0), (0, .ref (ad G 1 0))]) hx hb dX1_firstError_1 rfl hl (by decide) rfl (fun ls hl => ?_)
  refine lv_iconst (v := 0) hx hb dX1_firstError_2 (by decide) ?_
  refine lv_istore_n (lv' := [(2, .int 0), (1, .int 0), (0, .ref (ad G 1 0))]) hx hb dX1_firstError_3 rfl hl (by decide) rfl (fun ls hl => ?_)
  obtain ⟨n9, h⟩ := h
  refine k_X1_firstError_4 post _ C0 hr (fun y6_1 hv6 h H locs ls hW hS hl => ?_) n9 0 0 hv h _ _ _ hW hS (lv_sub hl [2, 1, 0] rfl)
  refine lv_iload_n hx hb dX1_firstError_35 rfl (lv_at hl 1 rfl) ?_
  refine w_ci hS (w_runS (As := [.int y6_1]) C0 hW (c_X1_mayEnd l G A y6_1 hv6 _ h) ⟨⟨w_553, w_58, w_555⟩, pl_X1_mayEnd, ⟨Nat.le_of_ble_eq_true rfl, Nat.le_of_ble_eq_true rfl⟩, ⟨Nat.le_refl _, Nat.le_refl _⟩⟩ w_554 rfl hl.1 rfl (Nat.le_of_ble_eq_true rfl) dX1_firstError_36) (fun r7 hv7 h H locs hW hS => ?_)
  refine lv_if_eq (tgt := 48) hx hb dX1_firstError_39 (by decide) (fun c8 => ?_) (fun c8 => ?_)
  · have h := h.1 c8
    refine lv_aload_n hx hb dX1_firstError_48 rfl (lv_at hl 0 rfl) ?_
    refine w_get (v := .int (hv7 1 0 1)) C0 hW 1 0 (by decide) (by decide) rfl rfl in_X1 1 (by decide) w_268 rfl dX1_firstError_49 ?_
    exact w_iret C0 hr hW hS h dX1_firstError_52
  · have h := h.2 c8
    refine lv_sipush (v := (-1005)) hx hb dX1_firstError_42 (by decide) ?_
    refine lv_goto (tgt := 52) hx hb dX1_firstError_45 (by decide) ?_
    exact w_iret C0 hr hW hS h dX1_firstError_52
