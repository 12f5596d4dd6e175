theorem pl_X9_in : yX9_in.cls ≠ "java/lang/invoke/MethodHandle" ∧ yX9_in.cls ≠ "java/lang/invoke/VarHandle" ∧ (parseMethodDescriptor yX9_in.desc).map (fun d => d.parameters.length) = some 3 := ⟨by decide +kernel, by decide +kernel, by decide +kernel⟩
def V_X9_in (a0 : Int32) (a1 : Int32) (a2 : Int32) (hv : HV) (post : Int32 → HV → Prop) : Prop := ((a0 < a1 → post 0 hv) ∧ (¬ (a0 < a1) → ((a2 < a0 → post 0 hv) ∧ (¬ (a2 < a0) → post 1 hv))))
set_option maxHeartbeats 4000000 in
theorem c_X9_in (l : Launch) (G : wG) (A : Nat → Prop) (a0 : Int32) (a1 : Int32) (a2 : Int32) (hv : HV) (post : Int32 → HV → Prop) (h : V_X9_in a0 a1 a2 hv post) : wM l yX9_in cX9_in 3 ((Option.some FieldType.boolean)) 0 G A hv [.int a0, .int a1, .int a2] (qI G A post) := by
  refine wM_of (by decide +kernel) (Nat.le_of_ble_eq_true rfl) ?_
  intro p e s m args below meth c C0 hr ls hl hW hS
  have hx := C0.1
  have hb := C0.2.1
  have hown := C0.2.2.2.1
  have hts := C0.2.2.2.2.1
  have hl : lv_has ls 3 [(0, .int a0), (1, .int a1), (2, .int a2)] := hl
  unfold V_X9_in at h
  refine lv_iload_n hx hb dX9_in_0 rfl (lv_at hl 0 rfl) ?_
  refine lv_iload_n hx hb dX9_in_1 rfl (lv_at hl 1 rfl) ?_
  refine lv_icmp_lt (tgt := 14) hx hb dX9_in_2 (by decide) (fun c1 => ?_) (fun c1 => ?_)
  · have h := h.1 c1
    refine lv_iconst (v := 0) hx hb dX9_in_14 (by decide) ?_
    exact w_zret C0 hr rfl hW hS h dX9_in_15
  · have h := h.2 c1
    refine lv_iload_n hx hb dX9_in_5 rfl (lv_at hl 0 rfl) ?_
    refine lv_iload_n hx hb dX9_in_6 rfl (lv_at hl 2 rfl) ?_
    refine lv_icmp_gt (tgt := 14) hx hb dX9_in_7 (by decide) (fun c2 => ?_) (fun c2 => ?_)
    · have h := h.1 c2
      refine lv_iconst (v := 0) hx hb dX9_in_14 (by decide) ?_
      exact w_zret C0 hr rfl hW hS h dX9_in_15
    · have h := h.2 c2
      refine lv_iconst (v := 1) hx hb dX9_in_10 (by decide) ?_
      refine lv_goto (tgt := 15) hx hb dX9_in_11 (by decide) ?_
      exact w_zret C0 hr rfl hW hS h dX9_in_15

theorem pl_X9_isPump : yX9_isPump.cls ≠ "java/lang/invoke/MethodHandle" ∧ yX9_isPump.cls ≠ "java/lang/invoke/VarHandle" ∧ (parseMethodDescriptor yX9_isPump.desc).map (fun d => d.parameters.length) = some 1 := ⟨by decide +kernel, by decide +kernel, by decide +kernel⟩
def V_X9_isPump (a1 : Int32) (hv : HV) (post : Int32 → HV → Prop) : Prop := (V_X9_in a1 0 ((hv 15 0 4) - 1) hv (fun r1 hv1 => (bOK r1 ∧ post r1 hv1)))
set_option maxHeartbeats 4000000 in
theorem c_X9_isPump (l : Launch) (G : wG) (A : Nat → Prop) (a1 : Int32) (hv : HV) (post : Int32 → HV → Prop) (h : V_X9_isPump a1 hv post) : wM l yX9_isPump cX9_isPump 2 ((Option.some FieldType.boolean)) 1 G A hv [.ref (ad G 9 0), .int a1] (qI G A post) := by
  refine wM_of (by decide +kernel) (Nat.le_of_ble_eq_true rfl) ?_
  intro p e s m args below meth c C0 hr ls hl hW hS
  have hx := C0.1
  have hb := C0.2.1
  have hown := C0.2.2.2.1
  have hts := C0.2.2.2.2.1
  have hl : lv_has ls 2 [(0, .ref (ad G 9 0)), (1, .int a1)] := hl
  unfold V_X9_isPump at h
  refine lv_iload_n hx hb dX9_isPump_0 rfl (lv_at hl 1 rfl) ?_
  refine lv_iconst (v := 0) hx hb dX9_isPump_1 (by decide) ?_
  refine lv_aload_n hx hb dX9_isPump_2 rfl (lv_at hl 0 rfl) ?_
  refine w_get (v := .ref (ad G 15 0)) C0 hW 9 0 (by decide) (by decide) rfl rfl in_X9 0 (by decide) w_762 rfl dX9_isPump_3 ?_
  refine lv_iconst (v := 4) hx hb dX9_isPump_6 (by decide) ?_
  refine w_ialdN C0 hW 15 0 (by decide) (by decide) (n := 370) rfl (j := 4) rfl (by omega) (by decide) dX9_isPump_7 ?_
  refine lv_iconst (v := 1) hx hb dX9_isPump_8 (by decide) ?_
  refine lv_isub hx hb dX9_isPump_9 ?_
  refine w_ci hS (w_runS (As := [.int a1, .int 0, .int ((hv 15 0 4) - 1)]) C0 hW (c_X9_in l G A a1 0 ((hv 15 0 4) - 1) hv _ h) ⟨⟨w_828, w_61, w_830⟩, pl_X9_in, ⟨Nat.le_of_ble_eq_true rfl, Nat.le_of_ble_eq_true rfl⟩, ⟨Nat.le_refl _, Nat.le_refl _⟩⟩ w_829 rfl hl.1 rfl (Nat.le_of_ble_eq_true rfl) dX9_isPump_10) (fun r1 hv1 h H locs hW hS => ?_)
  exact w_zret C0 hr h.1.1 hW hS h.2 dX9_isPump_13

theorem pl_X9_at : yX9_at.cls ≠ "java/lang/invoke/MethodHandle" ∧ yX9_at.cls ≠ "java/lang/invoke/VarHandle" ∧ (parseMethodDescriptor yX9_at.desc).map (fun d => d.parameters.length) = some 1 := ⟨by decide +kernel, by decide +kernel, by decide +kernel⟩
def V_X9_at (a0 : Int32) (hv : HV) (post : Int32 → HV → Prop) : Prop := post (5 + (73 * a0)) hv
set_option maxHeartbeats 4000000 in
theorem c_X9_at (l : Launch) (G : wG) (A : Nat → Prop) (a0 : Int32) (hv : HV) (post : Int32 → HV → Prop) (h : V_X9_at a0 hv post) : wM l yX9_at cX9_at 1 ((Option.some FieldType.int)) 0 G A hv [.int a0] (qI G A post) := by
  refine wM_of (by decide +kernel) (Nat.le_of_ble_eq_true rfl) ?_
  intro p e s m args below meth c C0 hr ls hl hW hS
  have hx := C0.1
  have hb := C0.2.1
  have hown := C0.2.2.2.1
  have hts := C0.2.2.2.2.1
  have hl : lv_has ls 1 [(0, .int a0)] := hl
  unfold V_X9_at at h
  refine lv_iconst (v := 5) hx hb dX9_at_0 (by decide) ?_
  refine lv_bipush (v := 73) hx hb dX9_at_1 (by decide) ?_
  refine lv_iload_n hx hb dX9_at_3 rfl (lv_at hl 0 rfl) ?_
  refine lv_imul hx hb dX9_at_4 ?_
  refine lv_iadd hx hb dX9_at_5 ?_
  exact w_iret C0 hr hW hS h dX9_at_6

def V_X9_running_4 (post : Int32 → HV → Prop) : Nat → Int32 → Int32 → HV → Prop
  | 0, _, _, _ => False
  | n4 + 1, v1, v2, hv => (((hv 15 0 4) ≤ v2 → post v1 hv) ∧ (¬ ((hv 15 0 4) ≤ v2) → (V_X9_at v2 hv (fun r2 hv2 => (∃ m2 : Nat, r2 = nI m2 ∧ (m2 + 73 ≤ 370) ∧ (∀ x3 : Int32, x3 = (v1 + (hv2 15 0 (m2 + 5))) → (∀ x4 : Int32, x4 = v2 + 1 → V_X9_running_4 post n4 x3 x4 hv2)))))))
set_option maxHeartbeats 4000000 in
theorem k_X9_running_4 {p : Program} {l : Launch} {e : Env} {s : State} {m : MethodId} {args : Array Value} {below : List Frame} {meth : Method} {c : Code} {G : wG} {A : Nat → Prop} (post : Int32 → HV → Prop) (C0 : cx p s m args meth c "RamStationModel" cX9_running 3 G) (hr : meth.sig.returnType = (Option.some FieldType.int))   : ∀ (n : Nat) (v1 : Int32) (v2 : Int32) (hv : HV), V_X9_running_4 post n v1 v2 hv → ∀ (H : Heap) (locs : List Loc) (ls : Array Slot), wd G A hv H → va_S A s.heap H locs → lv_has ls 3 [(0, .ref (ad G 9 0)), (1, .int v1), (2, .int v2)] → W p l e (wrm 1) s m args below meth c H locs 0 0 (MQ below (qI G A post) args s 0 0 A) (F0 m 4 ls []) := by
  have hx := C0.1
  have hb := C0.2.1
  have hown := C0.2.2.2.1
  have hts := C0.2.2.2.2.1
  intro n
  induction n with
  | zero =>
    intro v1 v2 hv  h
    exact (h : False).elim
  | succ n ih =>
    intro v1 v2 hv  h H locs ls hW hS hl
    rw [V_X9_running_4] at h
    refine lv_iload_n hx hb dX9_running_4 rfl (lv_at hl 2 rfl) ?_
    refine lv_aload_n hx hb dX9_running_5 rfl (lv_at hl 0 rfl) ?_
    refine w_get (v := .ref (ad G 15 0)) C0 hW 9 0 (by decide) (by decide) rfl rfl in_X9 0 (by decide) w_762 rfl dX9_running_6 ?_
    refine lv_iconst (v := 4) hx hb dX9_running_9 (by decide) ?_
    refine w_ialdN C0 hW 15 0 (by decide) (by decide) (n := 370) rfl (j := 4) rfl (by omega) (by decide) dX9_running_10 ?_
    refine lv_icmp_ge (tgt := 34) hx hb dX9_running_11 (by decide) (fun c1 => ?_) (fun c1 => ?_)
    · have h := h.1 c1
      refine lv_iload_n hx hb dX9_running_34 rfl (lv_at hl 1 rfl) ?_
      exact w_iret C0 hr hW hS h dX9_running_35
    · have h := h.2 c1
      refine lv_iload_n hx hb dX9_running_14 rfl (lv_at hl 1 rfl) ?_
      refine lv_aload_n hx hb dX9_running_15 rfl (lv_at hl 0 rfl) ?_
      refine w_get (v := .ref (ad G 15 0)) C0 hW 9 0 (by decide) (by decide) rfl rfl in_X9 0 (by decide) w_762 rfl dX9_running_16 ?_
      refine lv_iload_n hx hb dX9_running_19 rfl (lv_at hl 2 rfl) ?_
      refine w_ci hS (w_runS (As := [.int v2]) C0 hW (c_X9_at l G A v2 hv _ h) ⟨⟨w_835, w_61, w_837⟩, pl_X9_at, ⟨Nat.le_of_ble_eq_true rfl, Nat.le_of_ble_eq_true rfl⟩, ⟨Nat.le_refl _, Nat.le_refl _⟩⟩ w_836 rfl hl.1 rfl (Nat.le_of_ble_eq_true rfl) dX9_running_20) (fun r2 hv2 h H locs hW hS => ?_)
      obtain ⟨m2, em2, im2, h⟩ := h
      subst em2
      refine lv_iconst (v := 5) hx hb dX9_running_23 (by decide) ?_
      refine lv_iadd hx hb dX9_running_24 ?_
      refine w_top (y := nI (m2 + 5)) (nI_add m2 5) ?_
      refine w_ialdN C0 hW 15 0 (by decide) (by decide) (n := 370) rfl (j := (m2 + 5)) rfl (by omega) (by decide) dX9_running_25 ?_
      refine lv_iadd hx hb dX9_running_26 ?_
      refine lv_topi (fun x3 ex3 => ?_)
      have h := h x3 ex3
      refine lv_istore_n (lv' := [(1, .int x3), (0, .ref (ad G 9 0)), (2, .int v2)]) hx hb dX9_running_27 rfl hl (by decide) rfl (fun ls hl => ?_)
      obtain ⟨x4, ex4⟩ : ∃ y : Int32, y = v2 + 1 := ⟨_, rfl⟩
      have h := h x4 ex4
      refine lv_iinc (v := x4) (lv' := [(2, .int x4), (1, .int x3), (0, .ref (ad G 9 0))]) hx hb dX9_running_28 hl (k := 2) rfl (by rw [ex4]; rfl) (by decide) rfl (fun ls hl => ?_)
      refine lv_goto (tgt := 4) hx hb dX9_running_31 (by decide) ?_
      exact ih x3 x4 hv2 h _ _ _ hW hS (lv_sub hl [2, 1, 0] rfl)
theorem pl_X9_running : yX9_running.cls ≠ "java/lang/invoke/MethodHandle" ∧ yX9_running.cls ≠ "java/lang/invoke/VarHandle" ∧ (parseMethodDescriptor yX9_running.desc).map (fun d => d.parameters.length) = some 0 := ⟨by decide +kernel, by decide +kernel, by decide +kernel⟩
def V_X9_running  (hv : HV) (post : Int32 → HV → Prop) : Prop := (∃ n4, V_X9_running_4 post n4 0 0 hv)
set_option maxHeartbeats 4000000 in
theorem c_X9_running (l : Launch) (G : wG) (A : Nat → Prop) (hv : HV) (post : Int32 → HV → Prop) (h : V_X9_running hv post) : wM l yX9_running cX9_running 3 ((Option.some FieldType.int)) 1 G A hv [.ref (ad G 9 0)] (qI G A post) := by
  refine wM_of (by decide +kernel) (Nat.le_of_ble_eq_true rfl) ?_
  intro p e s m args below meth c C0 hr ls hl hW hS
  have hx := C0.1
  have hb := C0.2.1
  have hown := C0.2.2.2.1
  have hts := C0.2.2.2.2.1
  have hl : lv_has ls 3 [(0, .ref (ad G 9 0))] := hl
  unfold V_X9_running at h
  refine lv_iconst (v := 0) hx hb dX9_running_0 (by decide) ?_
  refine lv_istore_n (lv' := [(1, .int 0), (0, .ref (ad G 9 0))]) hx hb dX9_running_1 rfl hl (by decide) rfl (fun ls hl => ?_)
  refine lv_iconst (v := 0) hx hb dX9_running_2 (by decide) ?_
  refine lv_istore_n (lv' := [(2, .int 0), (1, .int 0), (0, .ref (ad G 9 0))]) hx hb dX9_running_3 rfl hl (by decide) rfl (fun ls hl => ?_)
  obtain ⟨n5, h⟩ := h
  exact k_X9_running_4 post C0 hr n5 0 0 hv h _ _ _ hW hS (lv_sub hl [2, 1, 0] rfl)

def V_X9_record_54 (post : HV → Prop) : Nat → Nat → HV → Prop
  | 0, _, _ => False
  | n54 + 1, v1, hv => ((297 ≤ v1 → (∀ hv3 : HV, hv3 = up hv 9 0 (upd (hv 9 0) 2 ((hv 9 0 2) + 1)) → post hv3)) ∧ (¬ (297 ≤ v1) → (vp_in ((297 * (hv 9 0 2)) + (nI v1)) 2376 ∧ ∀ hv4 : HV, hv4 = up hv 16 0 (upd (hv 16 0) (Int32.toNatClampNeg ((297 * (hv 9 0 2)) + (nI v1))) (hv 15 0 v1)) → V_X9_record_54 post n54 (v1 + 1) hv4)))
set_option maxHeartbeats 4000000 in
theorem k_X9_record_54 {p : Program} {l : Launch} {e : Env} {s : State} {m : MethodId} {args : Array Value} {below : List Frame} {meth : Method} {c : Code} {G : wG} {A : Nat → Prop} (post : HV → Prop) (C0 : cx p s m args meth c "RamStationModel" cX9_record 2 G) (hr : meth.sig.returnType = (Option.none : Option FieldType))   : ∀ (n : Nat) (v1 : Nat) (hv : HV), v1 ≤ 297 → V_X9_record_54 post n v1 hv → ∀ (H : Heap) (locs : List Loc) (ls : Array Slot), wd G A hv H → va_S A s.heap H locs → lv_has ls 2 [(0, .ref (ad G 9 0)), (1, .int (nI v1))] → W p l e (wrm 0) s m args below meth c H locs 0 0 (MQ below (qV G A post) args s 0 0 A) (F0 m 54 ls []) := by
  have hx := C0.1
  have hb := C0.2.1
  have hown := C0.2.2.2.1
  have hts := C0.2.2.2.2.1
  intro n
  induction n with
  | zero =>
    intro v1 hv j0 h
    exact (h : False).elim
  | succ n ih =>
    intro v1 hv j0 h H locs ls hW hS hl
    rw [V_X9_record_54] at h
    refine lv_iload_n hx hb dX9_record_54 rfl (lv_at hl 1 rfl) ?_
    refine lv_sipush (v := 297) hx hb dX9_record_55 (by decide) ?_
    refine lv_icmp_ge (tgt := 88) hx hb dX9_record_58 (by decide) (fun c2 => ?_) (fun c2 => ?_)
    · have c2 : 297 ≤ v1 := (nI_leI (a := 297) (b := v1) (by omega) (by omega)).mp c2
      have h := h.1 c2
      refine lv_aload_n hx hb dX9_record_88 rfl (lv_at hl 0 rfl) ?_
      refine lv_dup hx hb dX9_record_89 rfl ?_
      refine w_get (v := .int (hv 9 0 2)) C0 hW 9 0 (by decide) (by decide) rfl rfl in_X9 2 (by decide) w_764 rfl dX9_record_90 ?_
      refine lv_iconst (v := 1) hx hb dX9_record_93 (by decide) ?_
      refine lv_iadd hx hb dX9_record_94 ?_
      refine w_put (v := ((hv 9 0 2) + 1)) C0 hW hS 9 0 (by decide) (by decide) rfl rfl in_X9 tyX9_ok nmX9 2 (by decide) w_764 rfl rfl rfl (Nat.le_of_ble_eq_true rfl) rfl dX9_record_95 (fun hv3 ehv3 H locs hW hS => ?_)
      have h := h hv3 ehv3
      exact w_vret C0 hr hW hS h dX9_record_98
    · have c2 : ¬ (297 ≤ v1) := fun z => c2 ((nI_leI (a := 297) (b := v1) (by omega) (by omega)).mpr z)
      have h := h.2 c2
      refine lv_aload_n hx hb dX9_record_61 rfl (lv_at hl 0 rfl) ?_
      refine w_get (v := .ref (ad G 16 0)) C0 hW 9 0 (by decide) (by decide) rfl rfl in_X9 1 (by decide) w_763 rfl dX9_record_62 ?_
      refine lv_sipush (v := 297) hx hb dX9_record_65 (by decide) ?_
      refine lv_aload_n hx hb dX9_record_68 rfl (lv_at hl 0 rfl) ?_
      refine w_get (v := .int (hv 9 0 2)) C0 hW 9 0 (by decide) (by decide) rfl rfl in_X9 2 (by decide) w_764 rfl dX9_record_69 ?_
      refine lv_imul hx hb dX9_record_72 ?_
      refine lv_iload_n hx hb dX9_record_73 rfl (lv_at hl 1 rfl) ?_
      refine lv_iadd hx hb dX9_record_74 ?_
      refine lv_aload_n hx hb dX9_record_75 rfl (lv_at hl 0 rfl) ?_
      refine w_get (v := .ref (ad G 15 0)) C0 hW 9 0 (by decide) (by decide) rfl rfl in_X9 0 (by decide) w_762 rfl dX9_record_76 ?_
      refine lv_iload_n hx hb dX9_record_79 rfl (lv_at hl 1 rfl) ?_
      refine w_ialdN C0 hW 15 0 (by decide) (by decide) (n := 370) rfl (j := v1) rfl (by omega) (by decide) dX9_record_80 ?_
      obtain ⟨q4, h⟩ := h
      refine w_iast C0 hW hS 16 0 (by decide) (by decide) (n := 2376) (fun _ => rfl) q4 dX9_record_81 (fun hv4 ehv4 H locs hW hS => ?_)
      have h := h hv4 ehv4
      refine lv_iinc (v := (nI (v1 + 1))) (lv' := [(1, .int (nI (v1 + 1))), (0, .ref (ad G 9 0))]) hx hb dX9_record_82 hl (k := 1) rfl (nI_add v1 1) (by decide) rfl (fun ls hl => ?_)
      refine lv_goto (tgt := 54) hx hb dX9_record_85 (by decide) ?_
      exact ih (v1 + 1) hv4 (by omega) h _ _ _ hW hS (lv_sub hl [1, 0] rfl)
def V_X9_record_13 (post : HV → Prop) (k_42 : HV → Prop) : Nat → Nat → HV → Prop
  | 0, _, _ => False
  | n13 + 1, v1, hv => ((2376 ≤ v1 → k_42 hv) ∧ (¬ (2376 ≤ v1) → (∀ hv7 : HV, hv7 = up hv 16 0 (upd (hv 16 0) (v1 - 297) (hv 16 0 v1)) → V_X9_record_13 post k_42 n13 (v1 + 1) hv7)))
set_option maxHeartbeats 4000000 in
theorem k_X9_record_13 {p : Program} {l : Launch} {e : Env} {s : State} {m : MethodId} {args : Array Value} {below : List Frame} {meth : Method} {c : Code} {G : wG} {A : Nat → Prop} (post : HV → Prop) (k_42 : HV → Prop) (C0 : cx p s m args meth c "RamStationModel" cX9_record 2 G) (hr : meth.sig.returnType = (Option.none : Option FieldType))  (hk_42 : ∀  (hv : HV),  k_42  hv → ∀ (H : Heap) (locs : List Loc) (ls : Array Slot), wd G A hv H → va_S A s.heap H locs → lv_has ls 2 [(0, .ref (ad G 9 0))] → W p l e (wrm 0) s m args below meth c H locs 0 0 (MQ below (qV G A post) args s 0 0 A) (F0 m 42 ls [])) : ∀ (n : Nat) (v1 : Nat) (hv : HV), 297 ≤ v1 ∧ v1 ≤ 2376 → V_X9_record_13 post k_42 n v1 hv → ∀ (H : Heap) (locs : List Loc) (ls : Array Slot), wd G A hv H → va_S A s.heap H locs → lv_has ls 2 [(0, .ref (ad G 9 0)), (1, .int (nI v1))] → W p l e (wrm 0) s m args below meth c H locs 0 0 (MQ below (qV G A post) args s 0 0 A) (F0 m 13 ls []) := by
  have hx := C0.1
  have hb := C0.2.1
  have hown := C0.2.2.2.1
  have hts := C0.2.2.2.2.1
  intro n
  induction n with
  | zero =>
    intro v1 hv j0 h
    exact (h : False).elim
  | succ n ih =>
    intro v1 hv j0 h H locs ls hW hS hl
    rw [V_X9_record_13] at h
    refine lv_iload_n hx hb dX9_record_13 rfl (lv_at hl 1 rfl) ?_
    refine lv_sipush (v := 2376) hx hb dX9_record_14 (by decide) ?_
    refine lv_icmp_ge (tgt := 42) hx hb dX9_record_17 (by decide) (fun c6 => ?_) (fun c6 => ?_)
    · have c6 : 2376 ≤ v1 := (nI_leI (a := 2376) (b := v1) (by omega) (by omega)).mp c6
      have h := h.1 c6
      exact hk_42 hv h _ _ _ hW hS (lv_sub hl [0] rfl)
    · have c6 : ¬ (2376 ≤ v1) := fun z => c6 ((nI_leI (a := 2376) (b := v1) (by omega) (by omega)).mpr z)
      have h := h.2 c6
      refine lv_aload_n hx hb dX9_record_20 rfl (lv_at hl 0 rfl) ?_
      refine w_get (v := .ref (ad G 16 0)) C0 hW 9 0 (by decide) (by decide) rfl rfl in_X9 1 (by decide) w_763 rfl dX9_record_21 ?_
      refine lv_iload_n hx hb dX9_record_24 rfl (lv_at hl 1 rfl) ?_
      refine lv_sipush (v := 297) hx hb dX9_record_25 (by decide) ?_
      refine lv_isub hx hb dX9_record_28 ?_
      refine w_top (y := nI (v1 - 297)) (pk_sub (a := v1) (b := 297) (by omega)) ?_
      refine lv_aload_n hx hb dX9_record_29 rfl (lv_at hl 0 rfl) ?_
      refine w_get (v := .ref (ad G 16 0)) C0 hW 9 0 (by decide) (by decide) rfl rfl in_X9 1 (by decide) w_763 rfl dX9_record_30 ?_
      refine lv_iload_n hx hb dX9_record_33 rfl (lv_at hl 1 rfl) ?_
      refine w_ialdN C0 hW 16 0 (by decide) (by decide) (n := 2376) rfl (j := v1) rfl (by omega) (by decide) dX9_record_34 ?_
      refine w_iastN C0 hW hS 16 0 (by decide) (by decide) (n := 2376) (fun _ => rfl) (j := (v1 - 297)) rfl (by omega) (by decide) dX9_record_35 (fun hv7 ehv7 H locs hW hS => ?_)
      have h := h hv7 ehv7
      refine lv_iinc (v := (nI (v1 + 1))) (lv' := [(1, .int (nI (v1 + 1))), (0, .ref (ad G 9 0))]) hx hb dX9_record_36 hl (k := 1) rfl (nI_add v1 1) (by decide) rfl (fun ls hl => ?_)
      refine lv_goto (tgt := 13) hx hb dX9_record_39 (by decide) ?_
      exact ih (v1 + 1) hv7 (by omega) h _ _ _ hW hS (lv_sub hl [1, 0] rfl)
theorem pl_X9_record : yX9_record.cls ≠ "java/lang/invoke/MethodHandle" ∧ yX9_record.cls ≠ "java/lang/invoke/VarHandle" ∧ (parseMethodDescriptor yX9_record.desc).map (fun d => d.parameters.length) = some 0 := ⟨by decide +kernel, by decide +kernel, by decide +kernel⟩
def V_X9_record  (hv : HV) (post : HV → Prop) : Prop := (((hv 9 0 2) = 8 → (∃ n13, V_X9_record_13 post (fun hv8 => (∀ hv9 : HV, hv9 = up hv8 9 0 (upd (hv8 9 0) 2 ((hv8 9 0 2) - 1)) → (∃ n54, V_X9_record_54 post n54 0 hv9))) n13 297 hv)) ∧ (¬ ((hv 9 0 2) = 8) → (∃ n54, V_X9_record_54 post n54 0 hv)))
set_option maxHeartbeats 4000000 in
theorem c_X9_record (l : Launch) (G : wG) (A : Nat → Prop) (hv : HV) (post : HV → Prop) (h : V_X9_record hv post) : wM l yX9_record cX9_record 2 ((Option.none : Option FieldType)) 0 G A hv [.ref (ad G 9 0)] (qV G A post) := by
  refine wM_of (by decide +kernel) (Nat.le_of_ble_eq_true rfl) ?_
  intro p e s m args below meth c C0 hr ls hl hW hS
  have hx := C0.1
  have hb := C0.2.1
  have hown := C0.2.2.2.1
  have hts := C0.2.2.2.2.1
  have hl : lv_has ls 2 [(0, .ref (ad G 9 0))] := hl
  unfold V_X9_record at h
  refine lv_aload_n hx hb dX9_record_0 rfl (lv_at hl 0 rfl) ?_
  refine w_get (v := .int (hv 9 0 2)) C0 hW 9 0 (by decide) (by decide) rfl rfl in_X9 2 (by decide) w_764 rfl dX9_record_1 ?_
  refine lv_bipush (v := 8) hx hb dX9_record_4 (by decide) ?_
  refine lv_icmp_ne (tgt := 52) hx hb dX9_record_6 (by decide) (fun c1 => ?_) (fun c1 => ?_)
  · have h := h.2 c1
    refine lv_iconst (v := 0) hx hb dX9_record_52 (by decide) ?_
    refine lv_istore_n (lv' := [(1, .int 0), (0, .ref (ad G 9 0))]) hx hb dX9_record_53 rfl hl (by decide) rfl (fun ls hl => ?_)
    obtain ⟨n5, h⟩ := h
    exact k_X9_record_54 post C0 hr n5 0 hv (by omega) h _ _ _ hW hS (lv_sub hl [1, 0] rfl)
  · have h := h.1 c1
    refine lv_sipush (v := 297) hx hb dX9_record_9 (by decide) ?_
    refine lv_istore_n (lv' := [(1, .int 297), (0, .ref (ad G 9 0))]) hx hb dX9_record_12 rfl hl (by decide) rfl (fun ls hl => ?_)
    obtain ⟨n11, h⟩ := h
    refine k_X9_record_13 post _ C0 hr (fun hv8 h H locs ls hW hS hl => ?_) n11 297 hv (by omega) h _ _ _ hW hS (lv_sub hl [1, 0] rfl)
    refine lv_aload_n hx hb dX9_record_42 rfl (lv_at hl 0 rfl) ?_
    refine lv_dup hx hb dX9_record_43 rfl ?_
    refine w_get (v := .int (hv8 9 0 2)) C0 hW 9 0 (by decide) (by decide) rfl rfl in_X9 2 (by decide) w_764 rfl dX9_record_44 ?_
    refine lv_iconst (v := 1) hx hb dX9_record_47 (by decide) ?_
    refine lv_isub hx hb dX9_record_48 ?_
    refine w_put (v := ((hv8 9 0 2) - 1)) C0 hW hS 9 0 (by decide) (by decide) rfl rfl in_X9 tyX9_ok nmX9 2 (by decide) w_764 rfl rfl rfl (Nat.le_of_ble_eq_true rfl) rfl dX9_record_49 (fun hv9 ehv9 H locs hW hS => ?_)
    have h := h hv9 ehv9
    refine lv_iconst (v := 0) hx hb dX9_record_52 (by decide) ?_
    refine lv_istore_n (lv' := [(1, .int 0), (0, .ref (ad G 9 0))]) hx hb dX9_record_53 rfl hl (by decide) rfl (fun ls hl => ?_)
    obtain ⟨n10, h⟩ := h
    exact k_X9_record_54 post C0 hr n10 0 hv9 (by omega) h _ _ _ hW hS (lv_sub hl [1, 0] rfl)

def V_X9_undo_23 (post : Int32 → HV → Prop) : Nat → Nat → HV → Prop
  | 0, _, _ => False
  | n23 + 1, v1, hv => ((297 ≤ v1 → post (hv 9 0 2) hv) ∧ (¬ (297 ≤ v1) → (vp_in ((297 * (hv 9 0 2)) + (nI v1)) 2376 ∧ (∀ hv5 : HV, hv5 = up hv 15 0 (upd (hv 15 0) v1 (hv 16 0 (Int32.toNatClampNeg ((297 * (hv 9 0 2)) + (nI v1))))) → V_X9_undo_23 post n23 (v1 + 1) hv5))))
set_option maxHeartbeats 4000000 in
theorem k_X9_undo_23 {p : Program} {l : Launch} {e : Env} {s : State} {m : MethodId} {args : Array Value} {below : List Frame} {meth : Method} {c : Code} {G : wG} {A : Nat → Prop} (post : Int32 → HV → Prop) (C0 : cx p s m args meth c "RamStationModel" cX9_undo 2 G) (hr : meth.sig.returnType = (Option.some FieldType.int))   : ∀ (n : Nat) (v1 : Nat) (hv : HV), v1 ≤ 297 → V_X9_undo_23 post n v1 hv → ∀ (H : Heap) (locs : List Loc) (ls : Array Slot), wd G A hv H → va_S A s.heap H locs → lv_has ls 2 [(0, .ref (ad G 9 0)), (1, .int (nI v1))] → W p l e (wrm 0) s m args below meth c H locs 0 0 (MQ below (qI G A post) args s 0 0 A) (F0 m 23 ls []) := by
  have hx := C0.1
  have hb := C0.2.1
  have hown := C0.2.2.2.1
  have hts := C0.2.2.2.2.1
  intro n
  induction n with
  | zero =>
    intro v1 hv j0 h
    exact (h : False).elim
  | succ n ih =>
    intro v1 hv j0 h H locs ls hW hS hl
    rw [V_X9_undo_23] at h
    refine lv_iload_n hx hb dX9_undo_23 rfl (lv_at hl 1 rfl) ?_
    refine lv_sipush (v := 297) hx hb dX9_undo_24 (by decide) ?_
    refine lv_icmp_ge (tgt := 57) hx hb dX9_undo_27 (by decide) (fun c3 => ?_) (fun c3 => ?_)
    · have c3 : 297 ≤ v1 := (nI_leI (a := 297) (b := v1) (by omega) (by omega)).mp c3
      have h := h.1 c3
      refine lv_aload_n hx hb dX9_undo_57 rfl (lv_at hl 0 rfl) ?_
      refine w_get (v := .int (hv 9 0 2)) C0 hW 9 0 (by decide) (by decide) rfl rfl in_X9 2 (by decide) w_764 rfl dX9_undo_58 ?_
      exact w_iret C0 hr hW hS h dX9_undo_61
    · have c3 : ¬ (297 ≤ v1) := fun z => c3 ((nI_leI (a := 297) (b := v1) (by omega) (by omega)).mpr z)
      have h := h.2 c3
      refine lv_aload_n hx hb dX9_undo_30 rfl (lv_at hl 0 rfl) ?_
      refine w_get (v := .ref (ad G 15 0)) C0 hW 9 0 (by decide) (by decide) rfl rfl in_X9 0 (by decide) w_762 rfl dX9_undo_31 ?_
      refine lv_iload_n hx hb dX9_undo_34 rfl (lv_at hl 1 rfl) ?_
      refine lv_aload_n hx hb dX9_undo_35 rfl (lv_at hl 0 rfl) ?_
      refine w_get (v := .ref (ad G 16 0)) C0 hW 9 0 (by decide) (by decide) rfl rfl in_X9 1 (by decide) w_763 rfl dX9_undo_36 ?_
      refine lv_sipush (v := 297) hx hb dX9_undo_39 (by decide) ?_
      refine lv_aload_n hx hb dX9_undo_42 rfl (lv_at hl 0 rfl) ?_
      refine w_get (v := .int (hv 9 0 2)) C0 hW 9 0 (by decide) (by decide) rfl rfl in_X9 2 (by decide) w_764 rfl dX9_undo_43 ?_
      refine lv_imul hx hb dX9_undo_46 ?_
      refine lv_iload_n hx hb dX9_undo_47 rfl (lv_at hl 1 rfl) ?_
      refine lv_iadd hx hb dX9_undo_48 ?_
      obtain ⟨q4, h⟩ := h
      refine w_iald C0 hW 16 0 (by decide) (by decide) (n := 2376) rfl q4 dX9_undo_49 ?_
      refine w_iastN C0 hW hS 15 0 (by decide) (by decide) (n := 370) (fun _ => rfl) (j := v1) rfl (by omega) (by decide) dX9_undo_50 (fun hv5 ehv5 H locs hW hS => ?_)
      have h := h hv5 ehv5
      refine lv_iinc (v := (nI (v1 + 1))) (lv' := [(1, .int (nI (v1 + 1))), (0, .ref (ad G 9 0))]) hx hb dX9_undo_51 hl (k := 1) rfl (nI_add v1 1) (by decide) rfl (fun ls hl => ?_)
      refine lv_goto (tgt := 23) hx hb dX9_undo_54 (by decide) ?_
      exact ih (v1 + 1) hv5 (by omega) h _ _ _ hW hS (lv_sub hl [1, 0] rfl)
theorem pl_X9_undo : yX9_undo.cls ≠ "java/lang/invoke/MethodHandle" ∧ yX9_undo.cls ≠ "java/lang/invoke/VarHandle" ∧ (parseMethodDescriptor yX9_undo.desc).map (fun d => d.parameters.length) = some 0 := ⟨by decide +kernel, by decide +kernel, by decide +kernel⟩
def V_X9_undo  (hv : HV) (post : Int32 → HV → Prop) : Prop := (((hv 9 0 2) = 0 → post (-1005) hv) ∧ (¬ ((hv 9 0 2) = 0) → (∀ hv2 : HV, hv2 = up hv 9 0 (upd (hv 9 0) 2 ((hv 9 0 2) - 1)) → (∃ n23, V_X9_undo_23 post n23 0 hv2))))
set_option maxHeartbeats 4000000 in
theorem c_X9_undo (l : Launch) (G : wG) (A : Nat → Prop) (hv : HV) (post : Int32 → HV → Prop) (h : V_X9_undo hv post) : wM l yX9_undo cX9_undo 2 ((Option.some FieldType.int)) 0 G A hv [.ref (ad G 9 0)] (qI G A post) := by
  refine wM_of (by decide +kernel) (Nat.le_of_ble_eq_true rfl) ?_
  intro p e s m args below meth c C0 hr ls hl hW hS
  have hx := C0.1
  have hb := C0.2.1
  have hown := C0.2.2.2.1
  have hts := C0.2.2.2.2.1
  have hl : lv_has ls 2 [(0, .ref (ad G 9 0))] := hl
  unfold V_X9_undo at h
  refine lv_aload_n hx hb dX9_undo_0 rfl (lv_at hl 0 rfl) ?_
  refine w_get (v := .int (hv 9 0 2)) C0 hW 9 0 (by decide) (by decide) rfl rfl in_X9 2 (by decide) w_764 rfl dX9_undo_1 ?_
  refine lv_if_ne (tgt := 11) hx hb dX9_undo_4 (by decide) (fun c1 => ?_) (fun c1 => ?_)
  · have h := h.2 c1
    refine lv_aload_n hx hb dX9_undo_11 rfl (lv_at hl 0 rfl) ?_
    refine lv_dup hx hb dX9_undo_12 rfl ?_
    refine w_get (v := .int (hv 9 0 2)) C0 hW 9 0 (by decide) (by decide) rfl rfl in_X9 2 (by decide) w_764 rfl dX9_undo_13 ?_
    refine lv_iconst (v := 1) hx hb dX9_undo_16 (by decide) ?_
    refine lv_isub hx hb dX9_undo_17 ?_
    refine w_put (v := ((hv 9 0 2) - 1)) C0 hW hS 9 0 (by decide) (by decide) rfl rfl in_X9 tyX9_ok nmX9 2 (by decide) w_764 rfl rfl rfl (Nat.le_of_ble_eq_true rfl) rfl dX9_undo_18 (fun hv2 ehv2 H locs hW hS => ?_)
    have h := h hv2 ehv2
    refine lv_iconst (v := 0) hx hb dX9_undo_21 (by decide) ?_
    refine lv_istore_n (lv' := [(1, .int 0), (0, .ref (ad G 9 0))]) hx hb dX9_undo_22 rfl hl (by decide) rfl (fun ls hl => ?_)
    obtain ⟨n6, h⟩ := h
    exact k_X9_undo_23 post C0 hr n6 0 hv2 (by omega) h _ _ _ hW hS (lv_sub hl [1, 0] rfl)
  · have h := h.1 c1
    refine lv_sipush (v := (-1005)) hx hb dX9_undo_7 (by decide) ?_
    exact w_iret C0 hr hW hS h dX9_undo_10

theorem pl_X9_incident : yX9_incident.cls ≠ "java/lang/invoke/MethodHandle" ∧ yX9_incident.cls ≠ "java/lang/invoke/VarHandle" ∧ (parseMethodDescriptor yX9_incident.desc).map (fun d => d.parameters.length) = some 2 := ⟨by decide +kernel, by decide +kernel, by decide +kernel⟩
def V_X9_incident (a1 : Int32) (a2 : Int32) (hv : HV) (post : HV → Prop) : Prop := (∀ x1 : Int32, x1 = ((hv 9 0 6) - (hv 9 0 6) / 20 * 20) → (vp_in x1 20 ∧ ∀ hv2 : HV, hv2 = up hv 17 0 (upd (hv 17 0) (Int32.toNatClampNeg x1) a1) → (vp_in x1 20 ∧ ∀ hv3 : HV, hv3 = up hv2 18 0 (upd (hv2 18 0) (Int32.toNatClampNeg x1) a2) → (vp_in x1 20 ∧ ∀ hv4 : HV, hv4 = up hv3 19 0 (upd (hv3 19 0) (Int32.toNatClampNeg x1) (hv3 15 0 2)) → (∀ hv5 : HV, hv5 = up hv4 9 0 (upd (hv4 9 0) 6 ((hv4 9 0 6) + 1)) → post hv5)))))
set_option maxHeartbeats 4000000 in
theorem c_X9_incident (l : Launch) (G : wG) (A : Nat → Prop) (a1 : Int32) (a2 : Int32) (hv : HV) (post : HV → Prop) (h : V_X9_incident a1 a2 hv post) : wM l yX9_incident cX9_incident 4 ((Option.none : Option FieldType)) 0 G A hv [.ref (ad G 9 0), .int a1, .int a2] (qV G A post) := by
  refine wM_of (by decide +kernel) (Nat.le_of_ble_eq_true rfl) ?_
  intro p e s m args below meth c C0 hr ls hl hW hS
  have hx := C0.1
  have hb := C0.2.1
  have hown := C0.2.2.2.1
  have hts := C0.2.2.2.2.1
  have hl : lv_has ls 4 [(0, .ref (ad G 9 0)), (1, .int a1), (2, .int a2)] := hl
  unfold V_X9_incident at h
  refine lv_aload_n hx hb dX9_incident_0 rfl (lv_at hl 0 rfl) ?_
  refine w_get (v := .int (hv 9 0 6)) C0 hW 9 0 (by decide) (by decide) rfl rfl in_X9 6 (by decide) w_768 rfl dX9_incident_1 ?_
  refine lv_bipush (v := 20) hx hb dX9_incident_4 (by decide) ?_
  refine lv_irem hx hb dX9_incident_6 (by decide) ?_
  refine lv_topi (fun x1 ex1 => ?_)
  have h := h x1 ex1
  refine lv_istore_n (lv' := [(3, .int x1), (0, .ref (ad G 9 0)), (1, .int a1), (2, .int a2)]) hx hb dX9_incident_7 rfl hl (by decide) rfl (fun ls hl => ?_)
  refine lv_aload_n hx hb dX9_incident_8 rfl (lv_at hl 1 rfl) ?_
  refine w_get (v := .ref (ad G 17 0)) C0 hW 9 0 (by decide) (by decide) rfl rfl in_X9 3 (by decide) w_765 rfl dX9_incident_9 ?_
  refine lv_iload_n hx hb dX9_incident_12 rfl (lv_at hl 0 rfl) ?_
  refine lv_iload_n hx hb dX9_incident_13 rfl (lv_at hl 2 rfl) ?_
  obtain ⟨q2, h⟩ := h
  refine w_iast C0 hW hS 17 0 (by decide) (by decide) (n := 20) (fun _ => rfl) q2 dX9_incident_14 (fun hv2 ehv2 H locs hW hS => ?_)
  have h := h hv2 ehv2
  refine lv_aload_n hx hb dX9_incident_15 rfl (lv_at hl 1 rfl) ?_
  refine w_get (v := .ref (ad G 18 0)) C0 hW 9 0 (by decide) (by decide) rfl rfl in_X9 4 (by decide) w_766 rfl dX9_incident_16 ?_
  refine lv_iload_n hx hb dX9_incident_19 rfl (lv_at hl 0 rfl) ?_
  refine lv_iload_n hx hb dX9_incident_20 rfl (lv_at hl 3 rfl) ?_
  obtain ⟨q3, h⟩ := h
  refine w_iast C0 hW hS 18 0 (by decide) (by decide) (n := 20) (fun _ => rfl) q3 dX9_incident_21 (fun hv3 ehv3 H locs hW hS => ?_)
  have h := h hv3 ehv3
  refine lv_aload_n hx hb dX9_incident_22 rfl (lv_at hl 1 rfl) ?_
  refine w_get (v := .ref (ad G 19 0)) C0 hW 9 0 (by decide) (by decide) rfl rfl in_X9 5 (by decide) w_767 rfl dX9_incident_23 ?_
  refine lv_iload_n hx hb dX9_incident_26 rfl (lv_at hl 0 rfl) ?_
  refine lv_aload_n hx hb dX9_incident_27 rfl (lv_at hl 1 rfl) ?_
  refine w_get (v := .ref (ad G 15 0)) C0 hW 9 0 (by decide) (by decide) rfl rfl in_X9 0 (by decide) w_762 rfl dX9_incident_28 ?_
  refine lv_iconst (v := 2) hx hb dX9_incident_31 (by decide) ?_
  refine w_ialdN C0 hW 15 0 (by decide) (by decide) (n := 370) rfl (j := 2) rfl (by omega) (by decide) dX9_incident_32 ?_
  obtain ⟨q4, h⟩ := h
  refine w_iast C0 hW hS 19 0 (by decide) (by decide) (n := 20) (fun _ => rfl) q4 dX9_incident_33 (fun hv4 ehv4 H locs hW hS => ?_)
  have h := h hv4 ehv4
  refine lv_aload_n hx hb dX9_incident_34 rfl (lv_at hl 1 rfl) ?_
  refine lv_dup hx hb dX9_incident_35 rfl ?_
  refine w_get (v := .int (hv4 9 0 6)) C0 hW 9 0 (by decide) (by decide) rfl rfl in_X9 6 (by decide) w_768 rfl dX9_incident_36 ?_
  refine lv_iconst (v := 1) hx hb dX9_incident_39 (by decide) ?_
  refine lv_iadd hx hb dX9_incident_40 ?_
  refine w_put (v := ((hv4 9 0 6) + 1)) C0 hW hS 9 0 (by decide) (by decide) rfl rfl in_X9 tyX9_ok nmX9 6 (by decide) w_768 rfl rfl rfl (Nat.le_of_ble_eq_true rfl) rfl dX9_incident_41 (fun hv5 ehv5 H locs hW hS => ?_)
  have h := h hv5 ehv5
  exact w_vret C0 hr hW hS h dX9_incident_44

theorem pl_X9_place : yX9_place.cls ≠ "java/lang/invoke/MethodHandle" ∧ yX9_place.cls ≠ "java/lang/invoke/VarHandle" ∧ (parseMethodDescriptor yX9_place.desc).map (fun d => d.parameters.length) = some 1 := ⟨by decide +kernel, by decide +kernel, by decide +kernel⟩
def V_X9_place (a1 : Int32) (hv : HV) (post : Int32 → HV → Prop) : Prop := ((0 ≤ a1 → ((20 ≤ a1 → post (-1005) hv) ∧ (¬ (20 ≤ a1) → (((hv 9 0 6) ≤ a1 → post (-1005) hv) ∧ (¬ ((hv 9 0 6) ≤ a1) → post ((((hv 9 0 6) - 1) - a1) - (((hv 9 0 6) - 1) - a1) / 20 * 20) hv))))) ∧ (¬ (0 ≤ a1) → post (-1002) hv))
set_option maxHeartbeats 4000000 in
theorem c_X9_place (l : Launch) (G : wG) (A : Nat → Prop) (a1 : Int32) (hv : HV) (post : Int32 → HV → Prop) (h : V_X9_place a1 hv post) : wM l yX9_place cX9_place 2 ((Option.some FieldType.int)) 0 G A hv [.ref (ad G 9 0), .int a1] (qI G A post) := by
  refine wM_of (by decide +kernel) (Nat.le_of_ble_eq_true rfl) ?_
  intro p e s m args below meth c C0 hr ls hl hW hS
  have hx := C0.1
  have hb := C0.2.1
  have hown := C0.2.2.2.1
  have hts := C0.2.2.2.2.1
  have hl : lv_has ls 2 [(0, .ref (ad G 9 0)), (1, .int a1)] := hl
  unfold V_X9_place at h
  refine lv_iload_n hx hb dX9_place_0 rfl (lv_at hl 1 rfl) ?_
  refine lv_if_ge (tgt := 8) hx hb dX9_place_1 (by decide) (fun c1 => ?_) (fun c1 => ?_)
  · have h := h.1 c1
    refine lv_iload_n hx hb dX9_place_8 rfl (lv_at hl 1 rfl) ?_
    refine lv_bipush (v := 20) hx hb dX9_place_9 (by decide) ?_
    refine lv_icmp_ge (tgt := 36) hx hb dX9_place_11 (by decide) (fun c2 => ?_) (fun c2 => ?_)
    · have h := h.1 c2
      refine lv_sipush (v := (-1005)) hx hb dX9_place_36 (by decide) ?_
      exact w_iret C0 hr hW hS h dX9_place_39
    · have h := h.2 c2
      refine lv_iload_n hx hb dX9_place_14 rfl (lv_at hl 1 rfl) ?_
      refine lv_aload_n hx hb dX9_place_15 rfl (lv_at hl 0 rfl) ?_
      refine w_get (v := .int (hv 9 0 6)) C0 hW 9 0 (by decide) (by decide) rfl rfl in_X9 6 (by decide) w_768 rfl dX9_place_16 ?_
      refine lv_icmp_ge (tgt := 36) hx hb dX9_place_19 (by decide) (fun c3 => ?_) (fun c3 => ?_)
      · have h := h.1 c3
        refine lv_sipush (v := (-1005)) hx hb dX9_place_36 (by decide) ?_
        exact w_iret C0 hr hW hS h dX9_place_39
      · have h := h.2 c3
        refine lv_aload_n hx hb dX9_place_22 rfl (lv_at hl 0 rfl) ?_
        refine w_get (v := .int (hv 9 0 6)) C0 hW 9 0 (by decide) (by decide) rfl rfl in_X9 6 (by decide) w_768 rfl dX9_place_23 ?_
        refine lv_iconst (v := 1) hx hb dX9_place_26 (by decide) ?_
        refine lv_isub hx hb dX9_place_27 ?_
        refine lv_iload_n hx hb dX9_place_28 rfl (lv_at hl 1 rfl) ?_
        refine lv_isub hx hb dX9_place_29 ?_
        refine lv_bipush (v := 20) hx hb dX9_place_30 (by decide) ?_
        refine lv_irem hx hb dX9_place_32 (by decide) ?_
        refine lv_goto (tgt := 39) hx hb dX9_place_33 (by decide) ?_
        exact w_iret C0 hr hW hS h dX9_place_39
  · have h := h.2 c1
    refine lv_sipush (v := (-1002)) hx hb dX9_place_4 (by decide) ?_
    exact w_iret C0 hr hW hS h dX9_place_7

theorem pl_X9_leastSpace : yX9_leastSpace.cls ≠ "java/lang/invoke/MethodHandle" ∧ yX9_leastSpace.cls ≠ "java/lang/invoke/VarHandle" ∧ (parseMethodDescriptor yX9_leastSpace.desc).map (fun d => d.parameters.length) = some 1 := ⟨by decide +kernel, by decide +kernel, by decide +kernel⟩
def V_X9_leastSpace (n1 : Nat) (hv : HV) (post : Int32 → HV → Prop) : Prop := post ((hv 15 0 (n1 + 11)) / 10) hv
set_option maxHeartbeats 4000000 in
theorem c_X9_leastSpace (l : Launch) (G : wG) (A : Nat → Prop) (n1 : Nat) (hn1 : n1 + 73 ≤ 370) (hv : HV) (post : Int32 → HV → Prop) (h : V_X9_leastSpace n1 hv post) : wM l yX9_leastSpace cX9_leastSpace 2 ((Option.some FieldType.int)) 0 G A hv [.ref (ad G 9 0), .int (nI n1)] (qI G A post) := by
  refine wM_of (by decide +kernel) (Nat.le_of_ble_eq_true rfl) ?_
  intro p e s m args below meth c C0 hr ls hl hW hS
  have hx := C0.1
  have hb := C0.2.1
  have hown := C0.2.2.2.1
  have hts := C0.2.2.2.2.1
  have hl : lv_has ls 2 [(0, .ref (ad G 9 0)), (1, .int (nI n1))] := hl
  unfold V_X9_leastSpace at h
  refine lv_aload_n hx hb dX9_leastSpace_0 rfl (lv_at hl 0 rfl) ?_
  refine w_get (v := .ref (ad G 15 0)) C0 hW 9 0 (by decide) (by decide) rfl rfl in_X9 0 (by decide) w_762 rfl dX9_leastSpace_1 ?_
  refine lv_iload_n hx hb dX9_leastSpace_4 rfl (lv_at hl 1 rfl) ?_
  refine lv_bipush (v := 11) hx hb dX9_leastSpace_5 (by decide) ?_
  refine lv_iadd hx hb dX9_leastSpace_7 ?_
  refine w_top (y := nI (n1 + 11)) (nI_add n1 11) ?_
  refine w_ialdN C0 hW 15 0 (by decide) (by decide) (n := 370) rfl (j := (n1 + 11)) rfl (by omega) (by decide) dX9_leastSpace_8 ?_
  refine lv_bipush (v := 10) hx hb dX9_leastSpace_9 (by decide) ?_
  refine lv_idiv hx hb dX9_leastSpace_11 (by decide) ?_
  exact w_iret C0 hr hW hS h dX9_leastSpace_12

theorem pl_X9_head : yX9_head.cls ≠ "java/lang/invoke/MethodHandle" ∧ yX9_head.cls ≠ "java/lang/invoke/VarHandle" ∧ (parseMethodDescriptor yX9_head.desc).map (fun d => d.parameters.length) = some 1 := ⟨by decide +kernel, by decide +kernel, by decide +kernel⟩
def V_X9_head (n1 : Nat) (hv : HV) (post : Int32 → HV → Prop) : Prop := (¬ ((hv 15 0 (n1 + 11)) - (hv 15 0 (n1 + 13))) = 0 ∧ (∀ x2 : Int32, x2 = (((100 * (hv 15 0 (n1 + 14))) / ((hv 15 0 (n1 + 11)) - (hv 15 0 (n1 + 13)))) - 100) → ((0 ≤ x2 → post x2 hv) ∧ (¬ (0 ≤ x2) → post 0 hv))))
set_option maxHeartbeats 4000000 in
theorem c_X9_head (l : Launch) (G : wG) (A : Nat → Prop) (n1 : Nat) (hn1 : n1 + 73 ≤ 370) (hv : HV) (post : Int32 → HV → Prop) (h : V_X9_head n1 hv post) : wM l yX9_head cX9_head 3 ((Option.some FieldType.int)) 0 G A hv [.ref (ad G 9 0), .int (nI n1)] (qI G A post) := by
  refine wM_of (by decide +kernel) (Nat.le_of_ble_eq_true rfl) ?_
  intro p e s m args below meth c C0 hr ls hl hW hS
  have hx := C0.1
  have hb := C0.2.1
  have hown := C0.2.2.2.1
  have hts := C0.2.2.2.2.1
  have hl : lv_has ls 3 [(0, .ref (ad G 9 0)), (1, .int (nI n1))] := hl
  unfold V_X9_head at h
  refine lv_bipush (v := 100) hx hb dX9_head_0 (by decide) ?_
  refine lv_aload_n hx hb dX9_head_2 rfl (lv_at hl 0 rfl) ?_
  refine w_get (v := .ref (ad G 15 0)) C0 hW 9 0 (by decide) (by decide) rfl rfl in_X9 0 (by decide) w_762 rfl dX9_head_3 ?_
  refine lv_iload_n hx hb dX9_head_6 rfl (lv_at hl 1 rfl) ?_
  refine lv_bipush (v := 14) hx hb dX9_head_7 (by decide) ?_
  refine lv_iadd hx hb dX9_head_9 ?_
  refine w_top (y := nI (n1 + 14)) (nI_add n1 14) ?_
  refine w_ialdN C0 hW 15 0 (by decide) (by decide) (n := 370) rfl (j := (n1 + 14)) rfl (by omega) (by decide) dX9_head_10 ?_
  refine lv_imul hx hb dX9_head_11 ?_
  refine lv_aload_n hx hb dX9_head_12 rfl (lv_at hl 0 rfl) ?_
  refine w_get (v := .ref (ad G 15 0)) C0 hW 9 0 (by decide) (by decide) rfl rfl in_X9 0 (by decide) w_762 rfl dX9_head_13 ?_
  refine lv_iload_n hx hb dX9_head_16 rfl (lv_at hl 1 rfl) ?_
  refine lv_bipush (v := 11) hx hb dX9_head_17 (by decide) ?_
  refine lv_iadd hx hb dX9_head_19 ?_
  refine w_top (y := nI (n1 + 11)) (nI_add n1 11) ?_
  refine w_ialdN C0 hW 15 0 (by decide) (by decide) (n := 370) rfl (j := (n1 + 11)) rfl (by omega) (by decide) dX9_head_20 ?_
  refine lv_aload_n hx hb dX9_head_21 rfl (lv_at hl 0 rfl) ?_
  refine w_get (v := .ref (ad G 15 0)) C0 hW 9 0 (by decide) (by decide) rfl rfl in_X9 0 (by decide) w_762 rfl dX9_head_22 ?_
  refine lv_iload_n hx hb dX9_head_25 rfl (lv_at hl 1 rfl) ?_
  refine lv_bipush (v := 13) hx hb dX9_head_26 (by decide) ?_
  refine lv_iadd hx hb dX9_head_28 ?_
  refine w_top (y := nI (n1 + 13)) (nI_add n1 13) ?_
  refine w_ialdN C0 hW 15 0 (by decide) (by decide) (n := 370) rfl (j := (n1 + 13)) rfl (by omega) (by decide) dX9_head_29 ?_
  refine lv_isub hx hb dX9_head_30 ?_
  obtain ⟨q1, h⟩ := h
  refine lv_idiv hx hb dX9_head_31 q1 ?_
  refine lv_bipush (v := 100) hx hb dX9_head_32 (by decide) ?_
  refine lv_isub hx hb dX9_head_34 ?_
  refine lv_topi (fun x2 ex2 => ?_)
  have h := h x2 ex2
  refine lv_istore_n (lv' := [(2, .int x2), (0, .ref (ad G 9 0)), (1, .int (nI n1))]) hx hb dX9_head_35 rfl hl (by decide) rfl (fun ls hl => ?_)
  refine lv_iload_n hx hb dX9_head_36 rfl (lv_at hl 0 rfl) ?_
  refine lv_if_ge (tgt := 44) hx hb dX9_head_37 (by decide) (fun c3 => ?_) (fun c3 => ?_)
  · have h := h.1 c3
    refine lv_iload_n hx hb dX9_head_44 rfl (lv_at hl 0 rfl) ?_
    exact w_iret C0 hr hW hS h dX9_head_45
  · have h := h.2 c3
    refine lv_iconst (v := 0) hx hb dX9_head_40 (by decide) ?_
    refine lv_goto (tgt := 45) hx hb dX9_head_41 (by decide) ?_
    exact w_iret C0 hr hW hS h dX9_head_45

theorem pl_X9_slamsBy : yX9_slamsBy.cls ≠ "java/lang/invoke/MethodHandle" ∧ yX9_slamsBy.cls ≠ "java/lang/invoke/VarHandle" ∧ (parseMethodDescriptor yX9_slamsBy.desc).map (fun d => d.parameters.length) = some 1 := ⟨by decide +kernel, by decide +kernel, by decide +kernel⟩
def V_X9_slamsBy (n1 : Nat) (hv : HV) (post : Int32 → HV → Prop) : Prop := (∀ x1 : Int32, x1 = (hv 15 0 (n1 + 6)) → (((hv 15 0 (n1 + 9)) = 0 → ((x1 < (hv 15 0 (n1 + 10)) → post 0 hv) ∧ (¬ (x1 < (hv 15 0 (n1 + 10))) → post 1 hv))) ∧ (¬ ((hv 15 0 (n1 + 9)) = 0) → (((hv 15 0 (n1 + 9)) = 1 → (∀ x6 : Int32, x6 = ((x1 * x1) / 100) → ((x6 < (hv 15 0 (n1 + 10)) → post 0 hv) ∧ (¬ (x6 < (hv 15 0 (n1 + 10))) → post 1 hv)))) ∧ (¬ ((hv 15 0 (n1 + 9)) = 1) → (∀ x4 : Int32, x4 = (hv 15 0 (n1 + 8)) → ((x4 < (hv 15 0 (n1 + 10)) → post 0 hv) ∧ (¬ (x4 < (hv 15 0 (n1 + 10))) → post 1 hv))))))))
set_option maxHeartbeats 4000000 in
theorem c_X9_slamsBy (l : Launch) (G : wG) (A : Nat → Prop) (n1 : Nat) (hn1 : n1 + 73 ≤ 370) (hv : HV) (post : Int32 → HV → Prop) (h : V_X9_slamsBy n1 hv post) : wM l yX9_slamsBy cX9_slamsBy 4 ((Option.some FieldType.boolean)) 0 G A hv [.ref (ad G 9 0), .int (nI n1)] (qI G A post) := by
  refine wM_of (by decide +kernel) (Nat.le_of_ble_eq_true rfl) ?_
  intro p e s m args below meth c C0 hr ls hl hW hS
  have hx := C0.1
  have hb := C0.2.1
  have hown := C0.2.2.2.1
  have hts := C0.2.2.2.2.1
  have hl : lv_has ls 4 [(0, .ref (ad G 9 0)), (1, .int (nI n1))] := hl
  unfold V_X9_slamsBy at h
  refine lv_aload_n hx hb dX9_slamsBy_0 rfl (lv_at hl 0 rfl) ?_
  refine w_get (v := .ref (ad G 15 0)) C0 hW 9 0 (by decide) (by decide) rfl rfl in_X9 0 (by decide) w_762 rfl dX9_slamsBy_1 ?_
  refine lv_iload_n hx hb dX9_slamsBy_4 rfl (lv_at hl 1 rfl) ?_
  refine lv_bipush (v := 6) hx hb dX9_slamsBy_5 (by decide) ?_
  refine lv_iadd hx hb dX9_slamsBy_7 ?_
  refine w_top (y := nI (n1 + 6)) (nI_add n1 6) ?_
  refine w_ialdN C0 hW 15 0 (by decide) (by decide) (n := 370) rfl (j := (n1 + 6)) rfl (by omega) (by decide) dX9_slamsBy_8 ?_
  refine lv_topi (fun x1 ex1 => ?_)
  have h := h x1 ex1
  refine lv_istore_n (lv' := [(2, .int x1), (0, .ref (ad G 9 0)), (1, .int (nI n1))]) hx hb dX9_slamsBy_9 rfl hl (by decide) rfl (fun ls hl => ?_)
  refine lv_aload_n hx hb dX9_slamsBy_10 rfl (lv_at hl 1 rfl) ?_
  refine w_get (v := .ref (ad G 15 0)) C0 hW 9 0 (by decide) (by decide) rfl rfl in_X9 0 (by decide) w_762 rfl dX9_slamsBy_11 ?_
  refine lv_iload_n hx hb dX9_slamsBy_14 rfl (lv_at hl 2 rfl) ?_
  refine lv_bipush (v := 9) hx hb dX9_slamsBy_15 (by decide) ?_
  refine lv_iadd hx hb dX9_slamsBy_17 ?_
  refine w_top (y := nI (n1 + 9)) (nI_add n1 9) ?_
  refine w_ialdN C0 hW 15 0 (by decide) (by decide) (n := 370) rfl (j := (n1 + 9)) rfl (by omega) (by decide) dX9_slamsBy_18 ?_
  refine lv_if_ne (tgt := 26) hx hb dX9_slamsBy_19 (by decide) (fun c2 => ?_) (fun c2 => ?_)
  · have h := h.2 c2
    refine lv_aload_n hx hb dX9_slamsBy_26 rfl (lv_at hl 1 rfl) ?_
    refine w_get (v := .ref (ad G 15 0)) C0 hW 9 0 (by decide) (by decide) rfl rfl in_X9 0 (by decide) w_762 rfl dX9_slamsBy_27 ?_
    refine lv_iload_n hx hb dX9_slamsBy_30 rfl (lv_at hl 2 rfl) ?_
    refine lv_bipush (v := 9) hx hb dX9_slamsBy_31 (by decide) ?_
    refine lv_iadd hx hb dX9_slamsBy_33 ?_
    refine w_top (y := nI (n1 + 9)) (nI_add n1 9) ?_
    refine w_ialdN C0 hW 15 0 (by decide) (by decide) (n := 370) rfl (j := (n1 + 9)) rfl (by omega) (by decide) dX9_slamsBy_34 ?_
    refine lv_iconst (v := 1) hx hb dX9_slamsBy_35 (by decide) ?_
    refine lv_icmp_ne (tgt := 48) hx hb dX9_slamsBy_36 (by decide) (fun c3 => ?_) (fun c3 => ?_)
    · have h := h.2 c3
      refine lv_aload_n hx hb dX9_slamsBy_48 rfl (lv_at hl 1 rfl) ?_
      refine w_get (v := .ref (ad G 15 0)) C0 hW 9 0 (by decide) (by decide) rfl rfl in_X9 0 (by decide) w_762 rfl dX9_slamsBy_49 ?_
      refine lv_iload_n hx hb dX9_slamsBy_52 rfl (lv_at hl 2 rfl) ?_
      refine lv_bipush (v := 8) hx hb dX9_slamsBy_53 (by decide) ?_
      refine lv_iadd hx hb dX9_slamsBy_55 ?_
      refine w_top (y := nI (n1 + 8)) (nI_add n1 8) ?_
      refine w_ialdN C0 hW 15 0 (by decide) (by decide) (n := 370) rfl (j := (n1 + 8)) rfl (by omega) (by decide) dX9_slamsBy_56 ?_
      refine lv_topi (fun x4 ex4 => ?_)
      have h := h x4 ex4
      refine lv_istore_n (lv' := [(3, .int x4), (2, .int x1), (0, .ref (ad G 9 0)), (1, .int (nI n1))]) hx hb dX9_slamsBy_57 rfl hl (by decide) rfl (fun ls hl => ?_)
      refine lv_iload_n hx hb dX9_slamsBy_58 rfl (lv_at hl 0 rfl) ?_
      refine lv_aload_n hx hb dX9_slamsBy_59 rfl (lv_at hl 2 rfl) ?_
      refine w_get (v := .ref (ad G 15 0)) C0 hW 9 0 (by decide) (by decide) rfl rfl in_X9 0 (by decide) w_762 rfl dX9_slamsBy_60 ?_
      refine lv_iload_n hx hb dX9_slamsBy_63 rfl (lv_at hl 3 rfl) ?_
      refine lv_bipush (v := 10) hx hb dX9_slamsBy_64 (by decide) ?_
      refine lv_iadd hx hb dX9_slamsBy_66 ?_
      refine w_top (y := nI (n1 + 10)) (nI_add n1 10) ?_
      refine w_ialdN C0 hW 15 0 (by decide) (by decide) (n := 370) rfl (j := (n1 + 10)) rfl (by omega) (by decide) dX9_slamsBy_67 ?_
      refine lv_icmp_lt (tgt := 75) hx hb dX9_slamsBy_68 (by decide) (fun c5 => ?_) (fun c5 => ?_)
      · have h := h.1 c5
        refine lv_iconst (v := 0) hx hb dX9_slamsBy_75 (by decide) ?_
        exact w_zret C0 hr rfl hW hS h dX9_slamsBy_76
      · have h := h.2 c5
        refine lv_iconst (v := 1) hx hb dX9_slamsBy_71 (by decide) ?_
        refine lv_goto (tgt := 76) hx hb dX9_slamsBy_72 (by decide) ?_
        exact w_zret C0 hr rfl hW hS h dX9_slamsBy_76
    · have h := h.1 c3
      refine lv_iload_n hx hb dX9_slamsBy_39 rfl (lv_at hl 0 rfl) ?_
      refine lv_iload_n hx hb dX9_slamsBy_40 rfl (lv_at hl 0 rfl) ?_
      refine lv_imul hx hb dX9_slamsBy_41 ?_
      refine lv_bipush (v := 100) hx hb dX9_slamsBy_42 (by decide) ?_
      refine lv_idiv hx hb dX9_slamsBy_44 (by decide) ?_
      refine lv_goto (tgt := 57) hx hb dX9_slamsBy_45 (by decide) ?_
      refine lv_topi (fun x6 ex6 => ?_)
      have h := h x6 ex6
      refine lv_istore_n (lv' := [(3, .int x6), (2, .int x1), (0, .ref (ad G 9 0)), (1, .int (nI n1))]) hx hb dX9_slamsBy_57 rfl hl (by decide) rfl (fun ls hl => ?_)
      refine lv_iload_n hx hb dX9_slamsBy_58 rfl (lv_at hl 0 rfl) ?_
      refine lv_aload_n hx hb dX9_slamsBy_59 rfl (lv_at hl 2 rfl) ?_
      refine w_get (v := .ref (ad G 15 0)) C0 hW 9 0 (by decide) (by decide) rfl rfl in_X9 0 (by decide) w_762 rfl dX9_slamsBy_60 ?_
      refine lv_iload_n hx hb dX9_slamsBy_63 rfl (lv_at hl 3 rfl) ?_
      refine lv_bipush (v := 10) hx hb dX9_slamsBy_64 (by decide) ?_
      refine lv_iadd hx hb dX9_slamsBy_66 ?_
      refine w_top (y := nI (n1 + 10)) (nI_add n1 10) ?_
      refine w_ialdN C0 hW 15 0 (by decide) (by decide) (n := 370) rfl (j := (n1 + 10)) rfl (by omega) (by decide) dX9_slamsBy_67 ?_
      refine lv_icmp_lt (tgt := 75) hx hb dX9_slamsBy_68 (by decide) (fun c7 => ?_) (fun c7 => ?_)
      · have h := h.1 c7
        refine lv_iconst (v := 0) hx hb dX9_slamsBy_75 (by decide) ?_
        exact w_zret C0 hr rfl hW hS h dX9_slamsBy_76
      · have h := h.2 c7
        refine lv_iconst (v := 1) hx hb dX9_slamsBy_71 (by decide) ?_
        refine lv_goto (tgt := 76) hx hb dX9_slamsBy_72 (by decide) ?_
        exact w_zret C0 hr rfl hW hS h dX9_slamsBy_76
  · have h := h.1 c2
    refine lv_iload_n hx hb dX9_slamsBy_22 rfl (lv_at hl 0 rfl) ?_
    refine lv_goto (tgt := 57) hx hb dX9_slamsBy_23 (by decide) ?_
    refine lv_istore_n (lv' := [(3, .int x1), (2, .int x1), (0, .ref (ad G 9 0)), (1, .int (nI n1))]) hx hb dX9_slamsBy_57 rfl hl (by decide) rfl (fun ls hl => ?_)
    refine lv_iload_n hx hb dX9_slamsBy_58 rfl (lv_at hl 0 rfl) ?_
    refine lv_aload_n hx hb dX9_slamsBy_59 rfl (lv_at hl 2 rfl) ?_
    refine w_get (v := .ref (ad G 15 0)) C0 hW 9 0 (by decide) (by decide) rfl rfl in_X9 0 (by decide) w_762 rfl dX9_slamsBy_60 ?_
    refine lv_iload_n hx hb dX9_slamsBy_63 rfl (lv_at hl 3 rfl) ?_
    refine lv_bipush (v := 10) hx hb dX9_slamsBy_64 (by decide) ?_
    refine lv_iadd hx hb dX9_slamsBy_66 ?_
    refine w_top (y := nI (n1 + 10)) (nI_add n1 10) ?_
    refine w_ialdN C0 hW 15 0 (by decide) (by decide) (n := 370) rfl (j := (n1 + 10)) rfl (by omega) (by decide) dX9_slamsBy_67 ?_
    refine lv_icmp_lt (tgt := 75) hx hb dX9_slamsBy_68 (by decide) (fun c8 => ?_) (fun c8 => ?_)
    · have h := h.1 c8
      refine lv_iconst (v := 0) hx hb dX9_slamsBy_75 (by decide) ?_
      exact w_zret C0 hr rfl hW hS h dX9_slamsBy_76
    · have h := h.2 c8
      refine lv_iconst (v := 1) hx hb dX9_slamsBy_71 (by decide) ?_
      refine lv_goto (tgt := 76) hx hb dX9_slamsBy_72 (by decide) ?_
      exact w_zret C0 hr rfl hW hS h dX9_slamsBy_76

theorem pl_X9_open : yX9_open.cls ≠ "java/lang/invoke/MethodHandle" ∧ yX9_open.cls ≠ "java/lang/invoke/VarHandle" ∧ (parseMethodDescriptor yX9_open.desc).map (fun d => d.parameters.length) = some 1 := ⟨by decide +kernel, by decide +kernel, by decide +kernel⟩
def V_X9_open (n1 : Nat) (hv : HV) (post : HV → Prop) : Prop := (∀ hv1 : HV, hv1 = up hv 15 0 (upd (hv 15 0) (n1 + 6) 0) → (∀ hv2 : HV, hv2 = up hv1 15 0 (upd (hv1 15 0) (n1 + 7) 0) → (∀ hv3 : HV, hv3 = up hv2 15 0 (upd (hv2 15 0) (n1 + 8) 0) → post hv3)))
set_option maxHeartbeats 4000000 in
theorem c_X9_open (l : Launch) (G : wG) (A : Nat → Prop) (n1 : Nat) (hn1 : n1 + 73 ≤ 370) (hv : HV) (post : HV → Prop) (h : V_X9_open n1 hv post) : wM l yX9_open cX9_open 2 ((Option.none : Option FieldType)) 0 G A hv [.ref (ad G 9 0), .int (nI n1)] (qV G A post) := by
  refine wM_of (by decide +kernel) (Nat.le_of_ble_eq_true rfl) ?_
  intro p e s m args below meth c C0 hr ls hl hW hS
  have hx := C0.1
  have hb := C0.2.1
  have hown := C0.2.2.2.1
  have hts := C0.2.2.2.2.1
  have hl : lv_has ls 2 [(0, .ref (ad G 9 0)), (1, .int (nI n1))] := hl
  unfold V_X9_open at h
  refine lv_aload_n hx hb dX9_open_0 rfl (lv_at hl 0 rfl) ?_
  refine w_get (v := .ref (ad G 15 0)) C0 hW 9 0 (by decide) (by decide) rfl rfl in_X9 0 (by decide) w_762 rfl dX9_open_1 ?_
  refine lv_iload_n hx hb dX9_open_4 rfl (lv_at hl 1 rfl) ?_
  refine lv_bipush (v := 6) hx hb dX9_open_5 (by decide) ?_
  refine lv_iadd hx hb dX9_open_7 ?_
  refine w_top (y := nI (n1 + 6)) (nI_add n1 6) ?_
  refine lv_iconst (v := 0) hx hb dX9_open_8 (by decide) ?_
  refine w_iastN C0 hW hS 15 0 (by decide) (by decide) (n := 370) (fun _ => rfl) (j := (n1 + 6)) rfl (by omega) (by decide) dX9_open_9 (fun hv1 ehv1 H locs hW hS => ?_)
  have h := h hv1 ehv1
  refine lv_aload_n hx hb dX9_open_10 rfl (lv_at hl 0 rfl) ?_
  refine w_get (v := .ref (ad G 15 0)) C0 hW 9 0 (by decide) (by decide) rfl rfl in_X9 0 (by decide) w_762 rfl dX9_open_11 ?_
  refine lv_iload_n hx hb dX9_open_14 rfl (lv_at hl 1 rfl) ?_
  refine lv_bipush (v := 7) hx hb dX9_open_15 (by decide) ?_
  refine lv_iadd hx hb dX9_open_17 ?_
  refine w_top (y := nI (n1 + 7)) (nI_add n1 7) ?_
  refine lv_iconst (v := 0) hx hb dX9_open_18 (by decide) ?_
  refine w_iastN C0 hW hS 15 0 (by decide) (by decide) (n := 370) (fun _ => rfl) (j := (n1 + 7)) rfl (by omega) (by decide) dX9_open_19 (fun hv2 ehv2 H locs hW hS => ?_)
  have h := h hv2 ehv2
  refine lv_aload_n hx hb dX9_open_20 rfl (lv_at hl 0 rfl) ?_
  refine w_get (v := .ref (ad G 15 0)) C0 hW 9 0 (by decide) (by decide) rfl rfl in_X9 0 (by decide) w_762 rfl dX9_open_21 ?_
  refine lv_iload_n hx hb dX9_open_24 rfl (lv_at hl 1 rfl) ?_
  refine lv_bipush (v := 8) hx hb dX9_open_25 (by decide) ?_
  refine lv_iadd hx hb dX9_open_27 ?_
  refine w_top (y := nI (n1 + 8)) (nI_add n1 8) ?_
  refine lv_iconst (v := 0) hx hb dX9_open_28 (by decide) ?_
  refine w_iastN C0 hW hS 15 0 (by decide) (by decide) (n := 370) (fun _ => rfl) (j := (n1 + 8)) rfl (by omega) (by decide) dX9_open_29 (fun hv3 ehv3 H locs hW hS => ?_)
  have h := h hv3 ehv3
  exact w_vret C0 hr hW hS h dX9_open_30

def V_X9_addInterval_3 (n1 : Nat) (post : HV → Prop) (k_37 : HV → Prop) : Nat → Nat → HV → Prop
  | 0, _, _ => False
  | n3 + 1, v2, hv => ((v2 ≤ 0 → k_37 hv) ∧ (¬ (v2 ≤ 0) → (∀ hv2 : HV, hv2 = up hv 15 0 (upd (hv 15 0) ((n1 + 24) + v2) (hv 15 0 (((n1 + 24) + v2) - 1))) → V_X9_addInterval_3 n1 post k_37 n3 (v2 - 1) hv2)))
set_option maxHeartbeats 4000000 in
theorem k_X9_addInterval_3 {p : Program} {l : Launch} {e : Env} {s : State} {m : MethodId} {args : Array Value} {below : List Frame} {meth : Method} {c : Code} {G : wG} {A : Nat → Prop} (n1 : Nat) (post : HV → Prop) (k_37 : HV → Prop) (C0 : cx p s m args meth c "RamStationModel" cX9_addInterval 3 G) (hr : meth.sig.returnType = (Option.none : Option FieldType)) (hn1 : n1 + 73 ≤ 370) (hk_37 : ∀  (hv : HV),  k_37  hv → ∀ (H : Heap) (locs : List Loc) (ls : Array Slot), wd G A hv H → va_S A s.heap H locs → lv_has ls 3 [(0, .ref (ad G 9 0)), (1, .int (nI n1))] → W p l e (wrm 0) s m args below meth c H locs 0 0 (MQ below (qV G A post) args s 0 0 A) (F0 m 37 ls [])) : ∀ (n : Nat) (v2 : Nat) (hv : HV), v2 ≤ 15 → V_X9_addInterval_3 n1 post k_37 n v2 hv → ∀ (H : Heap) (locs : List Loc) (ls : Array Slot), wd G A hv H → va_S A s.heap H locs → lv_has ls 3 [(0, .ref (ad G 9 0)), (1, .int (nI n1)), (2, .int (nI v2))] → W p l e (wrm 0) s m args below meth c H locs 0 0 (MQ below (qV G A post) args s 0 0 A) (F0 m 3 ls []) := by
  have hx := C0.1
  have hb := C0.2.1
  have hown := C0.2.2.2.1
  have hts := C0.2.2.2.2.1
  intro n
  induction n with
  | zero =>
    intro v2 hv j0 h
    exact (h : False).elim
  | succ n ih =>
    intro v2 hv j0 h H locs ls hW hS hl
    rw [V_X9_addInterval_3] at h
    refine lv_iload_n hx hb dX9_addInterval_3 rfl (lv_at hl 2 rfl) ?_
    refine lv_if_le (tgt := 37) hx hb dX9_addInterval_4 (by decide) (fun c1 => ?_) (fun c1 => ?_)
    · have c1 : v2 ≤ 0 := (nI_leI (a := v2) (b := 0) (by omega) (by omega)).mp c1
      have h := h.1 c1
      exact hk_37 hv h _ _ _ hW hS (lv_sub hl [0, 1] rfl)
    · have c1 : ¬ (v2 ≤ 0) := fun z => c1 ((nI_leI (a := v2) (b := 0) (by omega) (by omega)).mpr z)
      have h := h.2 c1
      refine lv_aload_n hx hb dX9_addInterval_7 rfl (lv_at hl 0 rfl) ?_
      refine w_get (v := .ref (ad G 15 0)) C0 hW 9 0 (by decide) (by decide) rfl rfl in_X9 0 (by decide) w_762 rfl dX9_addInterval_8 ?_
      refine lv_iload_n hx hb dX9_addInterval_11 rfl (lv_at hl 1 rfl) ?_
      refine lv_bipush (v := 24) hx hb dX9_addInterval_12 (by decide) ?_
      refine lv_iadd hx hb dX9_addInterval_14 ?_
      refine w_top (y := nI (n1 + 24)) (nI_add n1 24) ?_
      refine lv_iload_n hx hb dX9_addInterval_15 rfl (lv_at hl 2 rfl) ?_
      refine lv_iadd hx hb dX9_addInterval_16 ?_
      refine w_top (y := nI ((n1 + 24) + v2)) (nI_add (n1 + 24) v2) ?_
      refine lv_aload_n hx hb dX9_addInterval_17 rfl (lv_at hl 0 rfl) ?_
      refine w_get (v := .ref (ad G 15 0)) C0 hW 9 0 (by decide) (by decide) rfl rfl in_X9 0 (by decide) w_762 rfl dX9_addInterval_18 ?_
      refine lv_iload_n hx hb dX9_addInterval_21 rfl (lv_at hl 1 rfl) ?_
      refine lv_bipush (v := 24) hx hb dX9_addInterval_22 (by decide) ?_
      refine lv_iadd hx hb dX9_addInterval_24 ?_
      refine w_top (y := nI (n1 + 24)) (nI_add n1 24) ?_
      refine lv_iload_n hx hb dX9_addInterval_25 rfl (lv_at hl 2 rfl) ?_
      refine lv_iadd hx hb dX9_addInterval_26 ?_
      refine w_top (y := nI ((n1 + 24) + v2)) (nI_add (n1 + 24) v2) ?_
      refine lv_iconst (v := 1) hx hb dX9_addInterval_27 (by decide) ?_
      refine lv_isub hx hb dX9_addInterval_28 ?_
      refine w_top (y := nI (((n1 + 24) + v2) - 1)) (pk_sub (a := ((n1 + 24) + v2)) (b := 1) (by omega)) ?_
      refine w_ialdN C0 hW 15 0 (by decide) (by decide) (n := 370) rfl (j := (((n1 + 24) + v2) - 1)) rfl (by omega) (by decide) dX9_addInterval_29 ?_
      refine w_iastN C0 hW hS 15 0 (by decide) (by decide) (n := 370) (fun _ => rfl) (j := ((n1 + 24) + v2)) rfl (by omega) (by decide) dX9_addInterval_30 (fun hv2 ehv2 H locs hW hS => ?_)
      have h := h hv2 ehv2
      refine lv_iinc (v := (nI (v2 - 1))) (lv' := [(2, .int (nI (v2 - 1))), (0, .ref (ad G 9 0)), (1, .int (nI n1))]) hx hb dX9_addInterval_31 hl (k := 2) rfl (sb_m1 (p := v2) (by omega)) (by decide) rfl (fun ls hl => ?_)
      refine lv_goto (tgt := 3) hx hb dX9_addInterval_34 (by decide) ?_
      exact ih (v2 - 1) hv2 (by omega) h _ _ _ hW hS (lv_sub hl [1, 2, 0] rfl)
theorem pl_X9_addInterval : yX9_addInterval.cls ≠ "java/lang/invoke/MethodHandle" ∧ yX9_addInterval.cls ≠ "java/lang/invoke/VarHandle" ∧ (parseMethodDescriptor yX9_addInterval.desc).map (fun d => d.parameters.length) = some 1 := ⟨by decide +kernel, by decide +kernel, by decide +kernel⟩
def V_X9_addInterval (n1 : Nat) (hv : HV) (post : HV → Prop) : Prop := (∃ n3, V_X9_addInterval_3 n1 post (fun hv3 => (∀ hv4 : HV, hv4 = up hv3 15 0 (upd (hv3 15 0) (n1 + 24) ((hv3 15 0 2) - (hv3 15 0 (n1 + 22)))) → (∀ hv5 : HV, hv5 = up hv4 15 0 (upd (hv4 15 0) (n1 + 22) (hv4 15 0 2)) → ((16 ≤ (hv5 15 0 (n1 + 23)) → (∀ hv7 : HV, hv7 = up hv5 15 0 (upd (hv5 15 0) (n1 + 23) ((hv5 15 0 (n1 + 23)) + 0)) → post hv7)) ∧ (¬ (16 ≤ (hv5 15 0 (n1 + 23))) → (∀ hv8 : HV, hv8 = up hv5 15 0 (upd (hv5 15 0) (n1 + 23) ((hv5 15 0 (n1 + 23)) + 1)) → post hv8)))))) n3 15 hv)
set_option maxHeartbeats 4000000 in
theorem c_X9_addInterval (l : Launch) (G : wG) (A : Nat → Prop) (n1 : Nat) (hn1 : n1 + 73 ≤ 370) (hv : HV) (post : HV → Prop) (h : V_X9_addInterval n1 hv post) : wM l yX9_addInterval cX9_addInterval 3 ((Option.none : Option FieldType)) 0 G A hv [.ref (ad G 9 0), .int (nI n1)] (qV G A post) := by
  refine wM_of (by decide +kernel) (Nat.le_of_ble_eq_true rfl) ?_
  intro p e s m args below meth c C0 hr ls hl hW hS
  have hx := C0.1
  have hb := C0.2.1
  have hown := C0.2.2.2.1
  have hts := C0.2.2.2.2.1
  have hl : lv_has ls 3 [(0, .ref (ad G 9 0)), (1, .int (nI n1))] := hl
  unfold V_X9_addInterval at h
  refine lv_bipush (v := 15) hx hb dX9_addInterval_0 (by decide) ?_
  refine lv_istore_n (lv' := [(2, .int 15), (0, .ref (ad G 9 0)), (1, .int (nI n1))]) hx hb dX9_addInterval_2 rfl hl (by decide) rfl (fun ls hl => ?_)
  obtain ⟨n9, h⟩ := h
  refine k_X9_addInterval_3 n1 post _ C0 hr hn1 (fun hv3 h H locs ls hW hS hl => ?_) n9 15 hv (by omega) h _ _ _ hW hS (lv_sub hl [1, 2, 0] rfl)
  refine lv_aload_n hx hb dX9_addInterval_37 rfl (lv_at hl 0 rfl) ?_
  refine w_get (v := .ref (ad G 15 0)) C0 hW 9 0 (by decide) (by decide) rfl rfl in_X9 0 (by decide) w_762 rfl dX9_addInterval_38 ?_
  refine lv_iload_n hx hb dX9_addInterval_41 rfl (lv_at hl 1 rfl) ?_
  refine lv_bipush (v := 24) hx hb dX9_addInterval_42 (by decide) ?_
  refine lv_iadd hx hb dX9_addInterval_44 ?_
  refine w_top (y := nI (n1 + 24)) (nI_add n1 24) ?_
  refine lv_aload_n hx hb dX9_addInterval_45 rfl (lv_at hl 0 rfl) ?_
  refine w_get (v := .ref (ad G 15 0)) C0 hW 9 0 (by decide) (by decide) rfl rfl in_X9 0 (by decide) w_762 rfl dX9_addInterval_46 ?_
  refine lv_iconst (v := 2) hx hb dX9_addInterval_49 (by decide) ?_
  refine w_ialdN C0 hW 15 0 (by decide) (by decide) (n := 370) rfl (j := 2) rfl (by omega) (by decide) dX9_addInterval_50 ?_
  refine lv_aload_n hx hb dX9_addInterval_51 rfl (lv_at hl 0 rfl) ?_
  refine w_get (v := .ref (ad G 15 0)) C0 hW 9 0 (by decide) (by decide) rfl rfl in_X9 0 (by decide) w_762 rfl dX9_addInterval_52 ?_
  refine lv_iload_n hx hb dX9_addInterval_55 rfl (lv_at hl 1 rfl) ?_
  refine lv_bipush (v := 22) hx hb dX9_addInterval_56 (by decide) ?_
  refine lv_iadd hx hb dX9_addInterval_58 ?_
  refine w_top (y := nI (n1 + 22)) (nI_add n1 22) ?_
  refine w_ialdN C0 hW 15 0 (by decide) (by decide) (n := 370) rfl (j := (n1 + 22)) rfl (by omega) (by decide) dX9_addInterval_59 ?_
  refine lv_isub hx hb dX9_addInterval_60 ?_
  refine w_iastN C0 hW hS 15 0 (by decide) (by decide) (n := 370) (fun _ => rfl) (j := (n1 + 24)) rfl (by omega) (by decide) dX9_addInterval_61 (fun hv4 ehv4 H locs hW hS => ?_)
  have h := h hv4 ehv4
  refine lv_aload_n hx hb dX9_addInterval_62 rfl (lv_at hl 0 rfl) ?_
  refine w_get (v := .ref (ad G 15 0)) C0 hW 9 0 (by decide) (by decide) rfl rfl in_X9 0 (by decide) w_762 rfl dX9_addInterval_63 ?_
  refine lv_iload_n hx hb dX9_addInterval_66 rfl (lv_at hl 1 rfl) ?_
  refine lv_bipush (v := 22) hx hb dX9_addInterval_67 (by decide) ?_
  refine lv_iadd hx hb dX9_addInterval_69 ?_
  refine w_top (y := nI (n1 + 22)) (nI_add n1 22) ?_
  refine lv_aload_n hx hb dX9_addInterval_70 rfl (lv_at hl 0 rfl) ?_
  refine w_get (v := .ref (ad G 15 0)) C0 hW 9 0 (by decide) (by decide) rfl rfl in_X9 0 (by decide) w_762 rfl dX9_addInterval_71 ?_
  refine lv_iconst (v := 2) hx hb dX9_addInterval_74 (by decide) ?_
  refine w_ialdN C0 hW 15 0 (by decide) (by decide) (n := 370) rfl (j := 2) rfl (by omega) (by decide) dX9_addInterval_75 ?_
  refine w_iastN C0 hW hS 15 0 (by decide) (by decide) (n := 370) (fun _ => rfl) (j := (n1 + 22)) rfl (by omega) (by decide) dX9_addInterval_76 (fun hv5 ehv5 H locs hW hS => ?_)
  have h := h hv5 ehv5
  refine lv_aload_n hx hb dX9_addInterval_77 rfl (lv_at hl 0 rfl) ?_
  refine w_get (v := .ref (ad G 15 0)) C0 hW 9 0 (by decide) (by decide) rfl rfl in_X9 0 (by decide) w_762 rfl dX9_addInterval_78 ?_
  refine lv_iload_n hx hb dX9_addInterval_81 rfl (lv_at hl 1 rfl) ?_
  refine lv_bipush (v := 23) hx hb dX9_addInterval_82 (by decide) ?_
  refine lv_iadd hx hb dX9_addInterval_84 ?_
  refine w_top (y := nI (n1 + 23)) (nI_add n1 23) ?_
  refine lv_dup2_11 hx hb dX9_addInterval_85 rfl rfl ?_
  refine w_ialdN C0 hW 15 0 (by decide) (by decide) (n := 370) rfl (j := (n1 + 23)) rfl (by omega) (by decide) dX9_addInterval_86 ?_
  refine lv_aload_n hx hb dX9_addInterval_87 rfl (lv_at hl 0 rfl) ?_
  refine w_get (v := .ref (ad G 15 0)) C0 hW 9 0 (by decide) (by decide) rfl rfl in_X9 0 (by decide) w_762 rfl dX9_addInterval_88 ?_
  refine lv_iload_n hx hb dX9_addInterval_91 rfl (lv_at hl 1 rfl) ?_
  refine lv_bipush (v := 23) hx hb dX9_addInterval_92 (by decide) ?_
  refine lv_iadd hx hb dX9_addInterval_94 ?_
  refine w_top (y := nI (n1 + 23)) (nI_add n1 23) ?_
  refine w_ialdN C0 hW 15 0 (by decide) (by decide) (n := 370) rfl (j := (n1 + 23)) rfl (by omega) (by decide) dX9_addInterval_95 ?_
  refine lv_bipush (v := 16) hx hb dX9_addInterval_96 (by decide) ?_
  refine lv_icmp_ge (tgt := 105) hx hb dX9_addInterval_98 (by decide) (fun c6 => ?_) (fun c6 => ?_)
  · have h := h.1 c6
    refine lv_iconst (v := 0) hx hb dX9_addInterval_105 (by decide) ?_
    refine lv_iadd hx hb dX9_addInterval_106 ?_
    refine w_iastN C0 hW hS 15 0 (by decide) (by decide) (n := 370) (fun _ => rfl) (j := (n1 + 23)) rfl (by omega) (by decide) dX9_addInterval_107 (fun hv7 ehv7 H locs hW hS => ?_)
    have h := h hv7 ehv7
    exact w_vret C0 hr hW hS h dX9_addInterval_108
  · have h := h.2 c6
    refine lv_iconst (v := 1) hx hb dX9_addInterval_101 (by decide) ?_
    refine lv_goto (tgt := 106) hx hb dX9_addInterval_102 (by decide) ?_
    refine lv_iadd hx hb dX9_addInterval_106 ?_
    refine w_iastN C0 hW hS 15 0 (by decide) (by decide) (n := 370) (fun _ => rfl) (j := (n1 + 23)) rfl (by omega) (by decide) dX9_addInterval_107 (fun hv8 ehv8 H locs hW hS => ?_)
    have h := h hv8 ehv8
    exact w_vret C0 hr hW hS h dX9_addInterval_108

def V_X9_addTrace_3 (n1 : Nat) (post : HV → Prop) (k_37 : HV → Prop) : Nat → Nat → HV → Prop
  | 0, _, _ => False
  | n3 + 1, v2, hv => ((v2 ≤ 0 → k_37 hv) ∧ (¬ (v2 ≤ 0) → (∀ hv2 : HV, hv2 = up hv 15 0 (upd (hv 15 0) ((n1 + 41) + v2) (hv 15 0 (((n1 + 41) + v2) - 1))) → V_X9_addTrace_3 n1 post k_37 n3 (v2 - 1) hv2)))
set_option maxHeartbeats 4000000 in
theorem k_X9_addTrace_3 {p : Program} {l : Launch} {e : Env} {s : State} {m : MethodId} {args : Array Value} {below : List Frame} {meth : Method} {c : Code} {G : wG} {A : Nat → Prop} (n1 : Nat) (post : HV → Prop) (k_37 : HV → Prop) (C0 : cx p s m args meth c "RamStationModel" cX9_addTrace 3 G) (hr : meth.sig.returnType = (Option.none : Option FieldType)) (hn1 : n1 + 73 ≤ 370) (hk_37 : ∀  (hv : HV),  k_37  hv → ∀ (H : Heap) (locs : List Loc) (ls : Array Slot), wd G A hv H → va_S A s.heap H locs → lv_has ls 3 [(0, .ref (ad G 9 0)), (1, .int (nI n1))] → W p l e (wrm 0) s m args below meth c H locs 0 0 (MQ below (qV G A post) args s 0 0 A) (F0 m 37 ls [])) : ∀ (n : Nat) (v2 : Nat) (hv : HV), v2 ≤ 31 → V_X9_addTrace_3 n1 post k_37 n v2 hv → ∀ (H : Heap) (locs : List Loc) (ls : Array Slot), wd G A hv H → va_S A s.heap H locs → lv_has ls 3 [(0, .ref (ad G 9 0)), (1, .int (nI n1)), (2, .int (nI v2))] → W p l e (wrm 0) s m args below meth c H locs 0 0 (MQ below (qV G A post) args s 0 0 A) (F0 m 3 ls []) := by
  have hx := C0.1
  have hb := C0.2.1
  have hown := C0.2.2.2.1
  have hts := C0.2.2.2.2.1
  intro n
  induction n with
  | zero =>
    intro v2 hv j0 h
    exact (h : False).elim
  | succ n ih =>
    intro v2 hv j0 h H locs ls hW hS hl
    rw [V_X9_addTrace_3] at h
    refine lv_iload_n hx hb dX9_addTrace_3 rfl (lv_at hl 2 rfl) ?_
    refine lv_if_le (tgt := 37) hx hb dX9_addTrace_4 (by decide) (fun c1 => ?_) (fun c1 => ?_)
    · have c1 : v2 ≤ 0 := (nI_leI (a := v2) (b := 0) (by omega) (by omega)).mp c1
      have h := h.1 c1
      exact hk_37 hv h _ _ _ hW hS (lv_sub hl [0, 1] rfl)
    · have c1 : ¬ (v2 ≤ 0) := fun z => c1 ((nI_leI (a := v2) (b := 0) (by omega) (by omega)).mpr z)
      have h := h.2 c1
      refine lv_aload_n hx hb dX9_addTrace_7 rfl (lv_at hl 0 rfl) ?_
      refine w_get (v := .ref (ad G 15 0)) C0 hW 9 0 (by decide) (by decide) rfl rfl in_X9 0 (by decide) w_762 rfl dX9_addTrace_8 ?_
      refine lv_iload_n hx hb dX9_addTrace_11 rfl (lv_at hl 1 rfl) ?_
      refine lv_bipush (v := 41) hx hb dX9_addTrace_12 (by decide) ?_
      refine lv_iadd hx hb dX9_addTrace_14 ?_
      refine w_top (y := nI (n1 + 41)) (nI_add n1 41) ?_
      refine lv_iload_n hx hb dX9_addTrace_15 rfl (lv_at hl 2 rfl) ?_
      refine lv_iadd hx hb dX9_addTrace_16 ?_
      refine w_top (y := nI ((n1 + 41) + v2)) (nI_add (n1 + 41) v2) ?_
      refine lv_aload_n hx hb dX9_addTrace_17 rfl (lv_at hl 0 rfl) ?_
      refine w_get (v := .ref (ad G 15 0)) C0 hW 9 0 (by decide) (by decide) rfl rfl in_X9 0 (by decide) w_762 rfl dX9_addTrace_18 ?_
      refine lv_iload_n hx hb dX9_addTrace_21 rfl (lv_at hl 1 rfl) ?_
      refine lv_bipush (v := 41) hx hb dX9_addTrace_22 (by decide) ?_
      refine lv_iadd hx hb dX9_addTrace_24 ?_
      refine w_top (y := nI (n1 + 41)) (nI_add n1 41) ?_
      refine lv_iload_n hx hb dX9_addTrace_25 rfl (lv_at hl 2 rfl) ?_
      refine lv_iadd hx hb dX9_addTrace_26 ?_
      refine w_top (y := nI ((n1 + 41) + v2)) (nI_add (n1 + 41) v2) ?_
      refine lv_iconst (v := 1) hx hb dX9_addTrace_27 (by decide) ?_
      refine lv_isub hx hb dX9_addTrace_28 ?_
      refine w_top (y := nI (((n1 + 41) + v2) - 1)) (pk_sub (a := ((n1 + 41) + v2)) (b := 1) (by omega)) ?_
      refine w_ialdN C0 hW 15 0 (by decide) (by decide) (n := 370) rfl (j := (((n1 + 41) + v2) - 1)) rfl (by omega) (by decide) dX9_addTrace_29 ?_
      refine w_iastN C0 hW hS 15 0 (by decide) (by decide) (n := 370) (fun _ => rfl) (j := ((n1 + 41) + v2)) rfl (by omega) (by decide) dX9_addTrace_30 (fun hv2 ehv2 H locs hW hS => ?_)
      have h := h hv2 ehv2
      refine lv_iinc (v := (nI (v2 - 1))) (lv' := [(2, .int (nI (v2 - 1))), (0, .ref (ad G 9 0)), (1, .int (nI n1))]) hx hb dX9_addTrace_31 hl (k := 2) rfl (sb_m1 (p := v2) (by omega)) (by decide) rfl (fun ls hl => ?_)
      refine lv_goto (tgt := 3) hx hb dX9_addTrace_34 (by decide) ?_
      exact ih (v2 - 1) hv2 (by omega) h _ _ _ hW hS (lv_sub hl [1, 2, 0] rfl)
theorem pl_X9_addTrace : yX9_addTrace.cls ≠ "java/lang/invoke/MethodHandle" ∧ yX9_addTrace.cls ≠ "java/lang/invoke/VarHandle" ∧ (parseMethodDescriptor yX9_addTrace.desc).map (fun d => d.parameters.length) = some 1 := ⟨by decide +kernel, by decide +kernel, by decide +kernel⟩
def V_X9_addTrace (n1 : Nat) (hv : HV) (post : HV → Prop) : Prop := (∃ n3, V_X9_addTrace_3 n1 post (fun hv3 => (∀ x4 : Int32, x4 = ((hv3 15 0 (n1 + 6)) - (hv3 15 0 (n1 + 6)) / 256 * 256) → ((x4 ≤ 127 → (∀ hv6 : HV, hv6 = up hv3 15 0 (upd (hv3 15 0) (n1 + 41) x4) → ((32 ≤ (hv6 15 0 (n1 + 40)) → (∀ hv8 : HV, hv8 = up hv6 15 0 (upd (hv6 15 0) (n1 + 40) ((hv6 15 0 (n1 + 40)) + 0)) → post hv8)) ∧ (¬ (32 ≤ (hv6 15 0 (n1 + 40))) → (∀ hv9 : HV, hv9 = up hv6 15 0 (upd (hv6 15 0) (n1 + 40) ((hv6 15 0 (n1 + 40)) + 1)) → post hv9))))) ∧ (¬ (x4 ≤ 127) → (∀ hv10 : HV, hv10 = up hv3 15 0 (upd (hv3 15 0) (n1 + 41) (x4 - 256)) → ((32 ≤ (hv10 15 0 (n1 + 40)) → (∀ hv12 : HV, hv12 = up hv10 15 0 (upd (hv10 15 0) (n1 + 40) ((hv10 15 0 (n1 + 40)) + 0)) → post hv12)) ∧ (¬ (32 ≤ (hv10 15 0 (n1 + 40))) → (∀ hv13 : HV, hv13 = up hv10 15 0 (upd (hv10 15 0) (n1 + 40) ((hv10 15 0 (n1 + 40)) + 1)) → post hv13)))))))) n3 31 hv)
set_option maxHeartbeats 4000000 in
theorem c_X9_addTrace (l : Launch) (G : wG) (A : Nat → Prop) (n1 : Nat) (hn1 : n1 + 73 ≤ 370) (hv : HV) (post : HV → Prop) (h : V_X9_addTrace n1 hv post) : wM l yX9_addTrace cX9_addTrace 3 ((Option.none : Option FieldType)) 0 G A hv [.ref (ad G 9 0), .int (nI n1)] (qV G A post) := by
  refine wM_of (by decide +kernel) (Nat.le_of_ble_eq_true rfl) ?_
  intro p e s m args below meth c C0 hr ls hl hW hS
  have hx := C0.1
  have hb := C0.2.1
  have hown := C0.2.2.2.1
  have hts := C0.2.2.2.2.1
  have hl : lv_has ls 3 [(0, .ref (ad G 9 0)), (1, .int (nI n1))] := hl
  unfold V_X9_addTrace at h
  refine lv_bipush (v := 31) hx hb dX9_addTrace_0 (by decide) ?_
  refine lv_istore_n (lv' := [(2, .int 31), (0, .ref (ad G 9 0)), (1, .int (nI n1))]) hx hb dX9_addTrace_2 rfl hl (by decide) rfl (fun ls hl => ?_)
  obtain ⟨n14, h⟩ := h
  refine k_X9_addTrace_3 n1 post _ C0 hr hn1 (fun hv3 h H locs ls hW hS hl => ?_) n14 31 hv (by omega) h _ _ _ hW hS (lv_sub hl [1, 2, 0] rfl)
  refine lv_aload_n hx hb dX9_addTrace_37 rfl (lv_at hl 0 rfl) ?_
  refine w_get (v := .ref (ad G 15 0)) C0 hW 9 0 (by decide) (by decide) rfl rfl in_X9 0 (by decide) w_762 rfl dX9_addTrace_38 ?_
  refine lv_iload_n hx hb dX9_addTrace_41 rfl (lv_at hl 1 rfl) ?_
  refine lv_bipush (v := 6) hx hb dX9_addTrace_42 (by decide) ?_
  refine lv_iadd hx hb dX9_addTrace_44 ?_
  refine w_top (y := nI (n1 + 6)) (nI_add n1 6) ?_
  refine w_ialdN C0 hW 15 0 (by decide) (by decide) (n := 370) rfl (j := (n1 + 6)) rfl (by omega) (by decide) dX9_addTrace_45 ?_
  refine lv_sipush (v := 256) hx hb dX9_addTrace_46 (by decide) ?_
  refine lv_irem hx hb dX9_addTrace_49 (by decide) ?_
  refine lv_topi (fun x4 ex4 => ?_)
  have h := h x4 ex4
  refine lv_istore_n (lv' := [(2, .int x4), (0, .ref (ad G 9 0)), (1, .int (nI n1))]) hx hb dX9_addTrace_50 rfl hl (by decide) rfl (fun ls hl => ?_)
  refine lv_aload_n hx hb dX9_addTrace_51 rfl (lv_at hl 1 rfl) ?_
  refine w_get (v := .ref (ad G 15 0)) C0 hW 9 0 (by decide) (by decide) rfl rfl in_X9 0 (by decide) w_762 rfl dX9_addTrace_52 ?_
  refine lv_iload_n hx hb dX9_addTrace_55 rfl (lv_at hl 2 rfl) ?_
  refine lv_bipush (v := 41) hx hb dX9_addTrace_56 (by decide) ?_
  refine lv_iadd hx hb dX9_addTrace_58 ?_
  refine w_top (y := nI (n1 + 41)) (nI_add n1 41) ?_
  refine lv_iload_n hx hb dX9_addTrace_59 rfl (lv_at hl 0 rfl) ?_
  refine lv_bipush (v := 127) hx hb dX9_addTrace_60 (by decide) ?_
  refine lv_icmp_le (tgt := 73) hx hb dX9_addTrace_62 (by decide) (fun c5 => ?_) (fun c5 => ?_)
  · have h := h.1 c5
    refine lv_iload_n hx hb dX9_addTrace_73 rfl (lv_at hl 0 rfl) ?_
    refine w_iastN C0 hW hS 15 0 (by decide) (by decide) (n := 370) (fun _ => rfl) (j := (n1 + 41)) rfl (by omega) (by decide) dX9_addTrace_74 (fun hv6 ehv6 H locs hW hS => ?_)
    have h := h hv6 ehv6
    refine lv_aload_n hx hb dX9_addTrace_75 rfl (lv_at hl 1 rfl) ?_
    refine w_get (v := .ref (ad G 15 0)) C0 hW 9 0 (by decide) (by decide) rfl rfl in_X9 0 (by decide) w_762 rfl dX9_addTrace_76 ?_
    refine lv_iload_n hx hb dX9_addTrace_79 rfl (lv_at hl 2 rfl) ?_
    refine lv_bipush (v := 40) hx hb dX9_addTrace_80 (by decide) ?_
    refine lv_iadd hx hb dX9_addTrace_82 ?_
    refine w_top (y := nI (n1 + 40)) (nI_add n1 40) ?_
    refine lv_dup2_11 hx hb dX9_addTrace_83 rfl rfl ?_
    refine w_ialdN C0 hW 15 0 (by decide) (by decide) (n := 370) rfl (j := (n1 + 40)) rfl (by omega) (by decide) dX9_addTrace_84 ?_
    refine lv_aload_n hx hb dX9_addTrace_85 rfl (lv_at hl 1 rfl) ?_
    refine w_get (v := .ref (ad G 15 0)) C0 hW 9 0 (by decide) (by decide) rfl rfl in_X9 0 (by decide) w_762 rfl dX9_addTrace_86 ?_
    refine lv_iload_n hx hb dX9_addTrace_89 rfl (lv_at hl 2 rfl) ?_
    refine lv_bipush (v := 40) hx hb dX9_addTrace_90 (by decide) ?_
    refine lv_iadd hx hb dX9_addTrace_92 ?_
    refine w_top (y := nI (n1 + 40)) (nI_add n1 40) ?_
    refine w_ialdN C0 hW 15 0 (by decide) (by decide) (n := 370) rfl (j := (n1 + 40)) rfl (by omega) (by decide) dX9_addTrace_93 ?_
    refine lv_bipush (v := 32) hx hb dX9_addTrace_94 (by decide) ?_
    refine lv_icmp_ge (tgt := 103) hx hb dX9_addTrace_96 (by decide) (fun c7 => ?_) (fun c7 => ?_)
    · have h := h.1 c7
      refine lv_iconst (v := 0) hx hb dX9_addTrace_103 (by decide) ?_
      refine lv_iadd hx hb dX9_addTrace_104 ?_
      refine w_iastN C0 hW hS 15 0 (by decide) (by decide) (n := 370) (fun _ => rfl) (j := (n1 + 40)) rfl (by omega) (by decide) dX9_addTrace_105 (fun hv8 ehv8 H locs hW hS => ?_)
      have h := h hv8 ehv8
      exact w_vret C0 hr hW hS h dX9_addTrace_106
    · have h := h.2 c7
      refine lv_iconst (v := 1) hx hb dX9_addTrace_99 (by decide) ?_
      refine lv_goto (tgt := 104) hx hb dX9_addTrace_100 (by decide) ?_
      refine lv_iadd hx hb dX9_addTrace_104 ?_
      refine w_iastN C0 hW hS 15 0 (by decide) (by decide) (n := 370) (fun _ => rfl) (j := (n1 + 40)) rfl (by omega) (by decide) dX9_addTrace_105 (fun hv9 ehv9 H locs hW hS => ?_)
      have h := h hv9 ehv9
      exact w_vret C0 hr hW hS h dX9_addTrace_106
  · have h := h.2 c5
    refine lv_iload_n hx hb dX9_addTrace_65 rfl (lv_at hl 0 rfl) ?_
    refine lv_sipush (v := 256) hx hb dX9_addTrace_66 (by decide) ?_
    refine lv_isub hx hb dX9_addTrace_69 ?_
    refine lv_goto (tgt := 74) hx hb dX9_addTrace_70 (by decide) ?_
    refine w_iastN C0 hW hS 15 0 (by decide) (by decide) (n := 370) (fun _ => rfl) (j := (n1 + 41)) rfl (by omega) (by decide) dX9_addTrace_74 (fun hv10 ehv10 H locs hW hS => ?_)
    have h := h hv10 ehv10
    refine lv_aload_n hx hb dX9_addTrace_75 rfl (lv_at hl 1 rfl) ?_
    refine w_get (v := .ref (ad G 15 0)) C0 hW 9 0 (by decide) (by decide) rfl rfl in_X9 0 (by decide) w_762 rfl dX9_addTrace_76 ?_
    refine lv_iload_n hx hb dX9_addTrace_79 rfl (lv_at hl 2 rfl) ?_
    refine lv_bipush (v := 40) hx hb dX9_addTrace_80 (by decide) ?_
    refine lv_iadd hx hb dX9_addTrace_82 ?_
    refine w_top (y := nI (n1 + 40)) (nI_add n1 40) ?_
    refine lv_dup2_11 hx hb dX9_addTrace_83 rfl rfl ?_
    refine w_ialdN C0 hW 15 0 (by decide) (by decide) (n := 370) rfl (j := (n1 + 40)) rfl (by omega) (by decide) dX9_addTrace_84 ?_
    refine lv_aload_n hx hb dX9_addTrace_85 rfl (lv_at hl 1 rfl) ?_
    refine w_get (v := .ref (ad G 15 0)) C0 hW 9 0 (by decide) (by decide) rfl rfl in_X9 0 (by decide) w_762 rfl dX9_addTrace_86 ?_
    refine lv_iload_n hx hb dX9_addTrace_89 rfl (lv_at hl 2 rfl) ?_
    refine lv_bipush (v := 40) hx hb dX9_addTrace_90 (by decide) ?_
    refine lv_iadd hx hb dX9_addTrace_92 ?_
    refine w_top (y := nI (n1 + 40)) (nI_add n1 40) ?_
    refine w_ialdN C0 hW 15 0 (by decide) (by decide) (n := 370) rfl (j := (n1 + 40)) rfl (by omega) (by decide) dX9_addTrace_93 ?_
    refine lv_bipush (v := 32) hx hb dX9_addTrace_94 (by decide) ?_
    refine lv_icmp_ge (tgt := 103) hx hb dX9_addTrace_96 (by decide) (fun c11 => ?_) (fun c11 => ?_)
    · have h := h.1 c11
      refine lv_iconst (v := 0) hx hb dX9_addTrace_103 (by decide) ?_
      refine lv_iadd hx hb dX9_addTrace_104 ?_
      refine w_iastN C0 hW hS 15 0 (by decide) (by decide) (n := 370) (fun _ => rfl) (j := (n1 + 40)) rfl (by omega) (by decide) dX9_addTrace_105 (fun hv12 ehv12 H locs hW hS => ?_)
      have h := h hv12 ehv12
      exact w_vret C0 hr hW hS h dX9_addTrace_106
    · have h := h.2 c11
      refine lv_iconst (v := 1) hx hb dX9_addTrace_99 (by decide) ?_
      refine lv_goto (tgt := 104) hx hb dX9_addTrace_100 (by decide) ?_
      refine lv_iadd hx hb dX9_addTrace_104 ?_
      refine w_iastN C0 hW hS 15 0 (by decide) (by decide) (n := 370) (fun _ => rfl) (j := (n1 + 40)) rfl (by omega) (by decide) dX9_addTrace_105 (fun hv13 ehv13 H locs hW hS => ?_)
      have h := h hv13 ehv13
      exact w_vret C0 hr hW hS h dX9_addTrace_106

def V_X9_slam_37 (n1 : Nat) (a2 : Int32) (post : HV → Prop)  (hv : HV) : Prop := (∀ x5 : Int32, x5 = (hv 15 0 (n1 + 14)) → (V_X9_leastSpace n1 hv (fun r6 hv6 => (((hv6 15 0 (n1 + 12)) = 1 → (((x5 + 2) ≤ (hv6 15 0 (n1 + 11)) → (∀ hv20 : HV, hv20 = up hv6 15 0 (upd (hv6 15 0) (n1 + 14) (x5 + 2)) → ((a2 < 0 → post hv20) ∧ (¬ (a2 < 0) → (((hv20 15 0 (n1 + 14)) = r6 → ((x5 ≤ r6 → post hv20) ∧ (¬ (x5 ≤ r6) → (V_X9_incident 4 a2 hv20 (fun hv24 => post hv24))))) ∧ (¬ ((hv20 15 0 (n1 + 14)) = r6) → post hv20)))))) ∧ (¬ ((x5 + 2) ≤ (hv6 15 0 (n1 + 11))) → (∀ hv25 : HV, hv25 = up hv6 15 0 (upd (hv6 15 0) (n1 + 14) (hv6 15 0 (n1 + 11))) → ((a2 < 0 → post hv25) ∧ (¬ (a2 < 0) → (((hv25 15 0 (n1 + 14)) = r6 → ((x5 ≤ r6 → post hv25) ∧ (¬ (x5 ≤ r6) → (V_X9_incident 4 a2 hv25 (fun hv29 => post hv29))))) ∧ (¬ ((hv25 15 0 (n1 + 14)) = r6) → post hv25)))))))) ∧ (¬ ((hv6 15 0 (n1 + 12)) = 1) → ((r6 ≤ (x5 - 1) → (∀ hv9 : HV, hv9 = up hv6 15 0 (upd (hv6 15 0) (n1 + 14) (x5 - 1)) → ((a2 < 0 → post hv9) ∧ (¬ (a2 < 0) → (((hv9 15 0 (n1 + 14)) = r6 → ((x5 ≤ r6 → post hv9) ∧ (¬ (x5 ≤ r6) → (V_X9_incident 4 a2 hv9 (fun hv13 => post hv13))))) ∧ (¬ ((hv9 15 0 (n1 + 14)) = r6) → post hv9)))))) ∧ (¬ (r6 ≤ (x5 - 1)) → (∀ hv14 : HV, hv14 = up hv6 15 0 (upd (hv6 15 0) (n1 + 14) r6) → ((a2 < 0 → post hv14) ∧ (¬ (a2 < 0) → (((hv14 15 0 (n1 + 14)) = r6 → ((x5 ≤ r6 → post hv14) ∧ (¬ (x5 ≤ r6) → (V_X9_incident 4 a2 hv14 (fun hv18 => post hv18))))) ∧ (¬ ((hv14 15 0 (n1 + 14)) = r6) → post hv14))))))))))))
set_option maxHeartbeats 4000000 in
theorem k_X9_slam_37 {p : Program} {l : Launch} {e : Env} {s : State} {m : MethodId} {args : Array Value} {below : List Frame} {meth : Method} {c : Code} {G : wG} {A : Nat → Prop} (n1 : Nat) (a2 : Int32) (post : HV → Prop) (C0 : cx p s m args meth c "RamStationModel" cX9_slam 5 G) (hr : meth.sig.returnType = (Option.none : Option FieldType)) (hn1 : n1 + 73 ≤ 370)  : ∀  (hv : HV), V_X9_slam_37 n1 a2 post  hv → ∀ (H : Heap) (locs : List Loc) (ls : Array Slot), wd G A hv H → va_S A s.heap H locs → lv_has ls 5 [(0, .ref (ad G 9 0)), (1, .int (nI n1)), (2, .int a2)] → W p l e (wrm 1) s m args below meth c H locs 0 0 (MQ below (qV G A post) args s 0 0 A) (F0 m 37 ls []) := by
  have hx := C0.1
  have hb := C0.2.1
  have hown := C0.2.2.2.1
  have hts := C0.2.2.2.2.1
  intro  hv  h H locs ls hW hS hl
  unfold V_X9_slam_37 at h
  refine lv_aload_n hx hb dX9_slam_37 rfl (lv_at hl 0 rfl) ?_
  refine w_get (v := .ref (ad G 15 0)) C0 hW 9 0 (by decide) (by decide) rfl rfl in_X9 0 (by decide) w_762 rfl dX9_slam_38 ?_
  refine lv_iload_n hx hb dX9_slam_41 rfl (lv_at hl 1 rfl) ?_
  refine lv_bipush (v := 14) hx hb dX9_slam_42 (by decide) ?_
  refine lv_iadd hx hb dX9_slam_44 ?_
  refine w_top (y := nI (n1 + 14)) (nI_add n1 14) ?_
  refine w_ialdN C0 hW 15 0 (by decide) (by decide) (n := 370) rfl (j := (n1 + 14)) rfl (by omega) (by decide) dX9_slam_45 ?_
  refine lv_topi (fun x5 ex5 => ?_)
  have h := h x5 ex5
  refine lv_istore_n (lv' := [(3, .int x5), (0, .ref (ad G 9 0)), (1, .int (nI n1)), (2, .int a2)]) hx hb dX9_slam_46 rfl hl (by decide) rfl (fun ls hl => ?_)
  refine lv_aload_n hx hb dX9_slam_47 rfl (lv_at hl 1 rfl) ?_
  refine lv_iload_n hx hb dX9_slam_48 rfl (lv_at hl 2 rfl) ?_
  refine w_ci hS (w_runV (As := [.int (nI n1)]) C0 hW 9 0 (by decide) (by decide) rfl rfl (c_X9_leastSpace l G A n1 (by omega) hv _ h) ⟨⟨w_947, w_61, w_950⟩, pl_X9_leastSpace, ⟨Nat.le_of_ble_eq_true rfl, Nat.le_of_ble_eq_true rfl⟩, ⟨Nat.le_refl _, Nat.le_refl _⟩⟩ ⟨w_949, w_30⟩ rfl hl.1 rfl (Nat.le_of_ble_eq_true rfl) dX9_slam_49) (fun r6 hv6 h H locs hW hS => ?_)
  refine lv_istore (lv' := [(4, .int r6), (3, .int x5), (0, .ref (ad G 9 0)), (1, .int (nI n1)), (2, .int a2)]) hx hb dX9_slam_52 hl (by decide) rfl (fun ls hl => ?_)
  refine lv_aload_n hx hb dX9_slam_54 rfl (lv_at hl 2 rfl) ?_
  refine w_get (v := .ref (ad G 15 0)) C0 hW 9 0 (by decide) (by decide) rfl rfl in_X9 0 (by decide) w_762 rfl dX9_slam_55 ?_
  refine lv_iload_n hx hb dX9_slam_58 rfl (lv_at hl 3 rfl) ?_
  refine lv_bipush (v := 12) hx hb dX9_slam_59 (by decide) ?_
  refine lv_iadd hx hb dX9_slam_61 ?_
  refine w_top (y := nI (n1 + 12)) (nI_add n1 12) ?_
  refine w_ialdN C0 hW 15 0 (by decide) (by decide) (n := 370) rfl (j := (n1 + 12)) rfl (by omega) (by decide) dX9_slam_62 ?_
  refine lv_iconst (v := 1) hx hb dX9_slam_63 (by decide) ?_
  refine lv_icmp_ne (tgt := 109) hx hb dX9_slam_64 (by decide) (fun c7 => ?_) (fun c7 => ?_)
  · have h := h.2 c7
    refine lv_aload_n hx hb dX9_slam_109 rfl (lv_at hl 2 rfl) ?_
    refine w_get (v := .ref (ad G 15 0)) C0 hW 9 0 (by decide) (by decide) rfl rfl in_X9 0 (by decide) w_762 rfl dX9_slam_110 ?_
    refine lv_iload_n hx hb dX9_slam_113 rfl (lv_at hl 3 rfl) ?_
    refine lv_bipush (v := 14) hx hb dX9_slam_114 (by decide) ?_
    refine lv_iadd hx hb dX9_slam_116 ?_
    refine w_top (y := nI (n1 + 14)) (nI_add n1 14) ?_
    refine lv_iload_n hx hb dX9_slam_117 rfl (lv_at hl 1 rfl) ?_
    refine lv_iconst (v := 1) hx hb dX9_slam_118 (by decide) ?_
    refine lv_isub hx hb dX9_slam_119 ?_
    refine lv_iload hx hb dX9_slam_120 (lv_at hl 0 rfl) ?_
    refine lv_icmp_ge (tgt := 130) hx hb dX9_slam_122 (by decide) (fun c8 => ?_) (fun c8 => ?_)
    · have h := h.1 c8
      refine lv_iload_n hx hb dX9_slam_130 rfl (lv_at hl 1 rfl) ?_
      refine lv_iconst (v := 1) hx hb dX9_slam_131 (by decide) ?_
      refine lv_isub hx hb dX9_slam_132 ?_
      refine w_iastN C0 hW hS 15 0 (by decide) (by decide) (n := 370) (fun _ => rfl) (j := (n1 + 14)) rfl (by omega) (by decide) dX9_slam_133 (fun hv9 ehv9 H locs hW hS => ?_)
      have h := h hv9 ehv9
      refine lv_iload_n hx hb dX9_slam_134 rfl (lv_at hl 4 rfl) ?_
      refine lv_if_lt (tgt := 164) hx hb dX9_slam_135 (by decide) (fun c10 => ?_) (fun c10 => ?_)
      · have h := h.1 c10
        exact w_vret C0 hr hW hS h dX9_slam_164
      · have h := h.2 c10
        refine lv_aload_n hx hb dX9_slam_138 rfl (lv_at hl 2 rfl) ?_
        refine w_get (v := .ref (ad G 15 0)) C0 hW 9 0 (by decide) (by decide) rfl rfl in_X9 0 (by decide) w_762 rfl dX9_slam_139 ?_
        refine lv_iload_n hx hb dX9_slam_142 rfl (lv_at hl 3 rfl) ?_
        refine lv_bipush (v := 14) hx hb dX9_slam_143 (by decide) ?_
        refine lv_iadd hx hb dX9_slam_145 ?_
        refine w_top (y := nI (n1 + 14)) (nI_add n1 14) ?_
        refine w_ialdN C0 hW 15 0 (by decide) (by decide) (n := 370) rfl (j := (n1 + 14)) rfl (by omega) (by decide) dX9_slam_146 ?_
        refine lv_iload hx hb dX9_slam_147 (lv_at hl 0 rfl) ?_
        refine lv_icmp_ne (tgt := 164) hx hb dX9_slam_149 (by decide) (fun c11 => ?_) (fun c11 => ?_)
        · have h := h.2 c11
          exact w_vret C0 hr hW hS h dX9_slam_164
        · have h := h.1 c11
          refine lv_iload_n hx hb dX9_slam_152 rfl (lv_at hl 1 rfl) ?_
          refine lv_iload hx hb dX9_slam_153 (lv_at hl 0 rfl) ?_
          refine lv_icmp_le (tgt := 164) hx hb dX9_slam_155 (by decide) (fun c12 => ?_) (fun c12 => ?_)
          · have h := h.1 c12
            exact w_vret C0 hr hW hS h dX9_slam_164
          · have h := h.2 c12
            refine lv_aload_n hx hb dX9_slam_158 rfl (lv_at hl 2 rfl) ?_
            refine lv_iconst (v := 4) hx hb dX9_slam_159 (by decide) ?_
            refine lv_iload_n hx hb dX9_slam_160 rfl (lv_at hl 4 rfl) ?_
            refine w_cv hS (w_runV (As := [.int 4, .int a2]) C0 hW 9 0 (by decide) (by decide) rfl rfl (c_X9_incident l G A 4 a2 hv9 _ h) ⟨⟨w_926, w_61, w_929⟩, pl_X9_incident, ⟨Nat.le_of_ble_eq_true rfl, Nat.le_of_ble_eq_true rfl⟩, ⟨Nat.le_refl _, Nat.le_refl _⟩⟩ ⟨w_928, w_25⟩ rfl hl.1 rfl (Nat.le_of_ble_eq_true rfl) dX9_slam_161) (fun hv13 h H locs hW hS => ?_)
            exact w_vret C0 hr hW hS h dX9_slam_164
    · have h := h.2 c8
      refine lv_iload hx hb dX9_slam_125 (lv_at hl 0 rfl) ?_
      refine lv_goto (tgt := 133) hx hb dX9_slam_127 (by decide) ?_
      refine w_iastN C0 hW hS 15 0 (by decide) (by decide) (n := 370) (fun _ => rfl) (j := (n1 + 14)) rfl (by omega) (by decide) dX9_slam_133 (fun hv14 ehv14 H locs hW hS => ?_)
      have h := h hv14 ehv14
      refine lv_iload_n hx hb dX9_slam_134 rfl (lv_at hl 4 rfl) ?_
      refine lv_if_lt (tgt := 164) hx hb dX9_slam_135 (by decide) (fun c15 => ?_) (fun c15 => ?_)
      · have h := h.1 c15
        exact w_vret C0 hr hW hS h dX9_slam_164
      · have h := h.2 c15
        refine lv_aload_n hx hb dX9_slam_138 rfl (lv_at hl 2 rfl) ?_
        refine w_get (v := .ref (ad G 15 0)) C0 hW 9 0 (by decide) (by decide) rfl rfl in_X9 0 (by decide) w_762 rfl dX9_slam_139 ?_
        refine lv_iload_n hx hb dX9_slam_142 rfl (lv_at hl 3 rfl) ?_
        refine lv_bipush (v := 14) hx hb dX9_slam_143 (by decide) ?_
        refine lv_iadd hx hb dX9_slam_145 ?_
        refine w_top (y := nI (n1 + 14)) (nI_add n1 14) ?_
        refine w_ialdN C0 hW 15 0 (by decide) (by decide) (n := 370) rfl (j := (n1 + 14)) rfl (by omega) (by decide) dX9_slam_146 ?_
        refine lv_iload hx hb dX9_slam_147 (lv_at hl 0 rfl) ?_
        refine lv_icmp_ne (tgt := 164) hx hb dX9_slam_149 (by decide) (fun c16 => ?_) (fun c16 => ?_)
        · have h := h.2 c16
          exact w_vret C0 hr hW hS h dX9_slam_164
        · have h := h.1 c16
          refine lv_iload_n hx hb dX9_slam_152 rfl (lv_at hl 1 rfl) ?_
          refine lv_iload hx hb dX9_slam_153 (lv_at hl 0 rfl) ?_
          refine lv_icmp_le (tgt := 164) hx hb dX9_slam_155 (by decide) (fun c17 => ?_) (fun c17 => ?_)
          · have h := h.1 c17
            exact w_vret C0 hr hW hS h dX9_slam_164
          · have h := h.2 c17
            refine lv_aload_n hx hb dX9_slam_158 rfl (lv_at hl 2 rfl) ?_
            refine lv_iconst (v := 4) hx hb dX9_slam_159 (by decide) ?_
            refine lv_iload_n hx hb dX9_slam_160 rfl (lv_at hl 4 rfl) ?_
            refine w_cv hS (w_runV (As := [.int 4, .int a2]) C0 hW 9 0 (by decide) (by decide) rfl rfl (c_X9_incident l G A 4 a2 hv14 _ h) ⟨⟨w_926, w_61, w_929⟩, pl_X9_incident, ⟨Nat.le_of_ble_eq_true rfl, Nat.le_of_ble_eq_true rfl⟩, ⟨Nat.le_refl _, Nat.le_refl _⟩⟩ ⟨w_928, w_25⟩ rfl hl.1 rfl (Nat.le_of_ble_eq_true rfl) dX9_slam_161) (fun hv18 h H locs hW hS => ?_)
            exact w_vret C0 hr hW hS h dX9_slam_164
  · have h := h.1 c7
    refine lv_aload_n hx hb dX9_slam_67 rfl (lv_at hl 2 rfl) ?_
    refine w_get (v := .ref (ad G 15 0)) C0 hW 9 0 (by decide) (by decide) rfl rfl in_X9 0 (by decide) w_762 rfl dX9_slam_68 ?_
    refine lv_iload_n hx hb dX9_slam_71 rfl (lv_at hl 3 rfl) ?_
    refine lv_bipush (v := 14) hx hb dX9_slam_72 (by decide) ?_
    refine lv_iadd hx hb dX9_slam_74 ?_
    refine w_top (y := nI (n1 + 14)) (nI_add n1 14) ?_
    refine lv_iload_n hx hb dX9_slam_75 rfl (lv_at hl 1 rfl) ?_
    refine lv_iconst (v := 2) hx hb dX9_slam_76 (by decide) ?_
    refine lv_iadd hx hb dX9_slam_77 ?_
    refine lv_aload_n hx hb dX9_slam_78 rfl (lv_at hl 2 rfl) ?_
    refine w_get (v := .ref (ad G 15 0)) C0 hW 9 0 (by decide) (by decide) rfl rfl in_X9 0 (by decide) w_762 rfl dX9_slam_79 ?_
    refine lv_iload_n hx hb dX9_slam_82 rfl (lv_at hl 3 rfl) ?_
    refine lv_bipush (v := 11) hx hb dX9_slam_83 (by decide) ?_
    refine lv_iadd hx hb dX9_slam_85 ?_
    refine w_top (y := nI (n1 + 11)) (nI_add n1 11) ?_
    refine w_ialdN C0 hW 15 0 (by decide) (by decide) (n := 370) rfl (j := (n1 + 11)) rfl (by omega) (by decide) dX9_slam_86 ?_
    refine lv_icmp_le (tgt := 102) hx hb dX9_slam_87 (by decide) (fun c19 => ?_) (fun c19 => ?_)
    · have h := h.1 c19
      refine lv_iload_n hx hb dX9_slam_102 rfl (lv_at hl 1 rfl) ?_
      refine lv_iconst (v := 2) hx hb dX9_slam_103 (by decide) ?_
      refine lv_iadd hx hb dX9_slam_104 ?_
      refine w_iastN C0 hW hS 15 0 (by decide) (by decide) (n := 370) (fun _ => rfl) (j := (n1 + 14)) rfl (by omega) (by decide) dX9_slam_105 (fun hv20 ehv20 H locs hW hS => ?_)
      have h := h hv20 ehv20
      refine lv_goto (tgt := 134) hx hb dX9_slam_106 (by decide) ?_
      refine lv_iload_n hx hb dX9_slam_134 rfl (lv_at hl 4 rfl) ?_
      refine lv_if_lt (tgt := 164) hx hb dX9_slam_135 (by decide) (fun c21 => ?_) (fun c21 => ?_)
      · have h := h.1 c21
        exact w_vret C0 hr hW hS h dX9_slam_164
      · have h := h.2 c21
        refine lv_aload_n hx hb dX9_slam_138 rfl (lv_at hl 2 rfl) ?_
        refine w_get (v := .ref (ad G 15 0)) C0 hW 9 0 (by decide) (by decide) rfl rfl in_X9 0 (by decide) w_762 rfl dX9_slam_139 ?_
        refine lv_iload_n hx hb dX9_slam_142 rfl (lv_at hl 3 rfl) ?_
        refine lv_bipush (v := 14) hx hb dX9_slam_143 (by decide) ?_
        refine lv_iadd hx hb dX9_slam_145 ?_
        refine w_top (y := nI (n1 + 14)) (nI_add n1 14) ?_
        refine w_ialdN C0 hW 15 0 (by decide) (by decide) (n := 370) rfl (j := (n1 + 14)) rfl (by omega) (by decide) dX9_slam_146 ?_
        refine lv_iload hx hb dX9_slam_147 (lv_at hl 0 rfl) ?_
        refine lv_icmp_ne (tgt := 164) hx hb dX9_slam_149 (by decide) (fun c22 => ?_) (fun c22 => ?_)
        · have h := h.2 c22
          exact w_vret C0 hr hW hS h dX9_slam_164
        · have h := h.1 c22
          refine lv_iload_n hx hb dX9_slam_152 rfl (lv_at hl 1 rfl) ?_
          refine lv_iload hx hb dX9_slam_153 (lv_at hl 0 rfl) ?_
          refine lv_icmp_le (tgt := 164) hx hb dX9_slam_155 (by decide) (fun c23 => ?_) (fun c23 => ?_)
          · have h := h.1 c23
            exact w_vret C0 hr hW hS h dX9_slam_164
          · have h := h.2 c23
            refine lv_aload_n hx hb dX9_slam_158 rfl (lv_at hl 2 rfl) ?_
            refine lv_iconst (v := 4) hx hb dX9_slam_159 (by decide) ?_
            refine lv_iload_n hx hb dX9_slam_160 rfl (lv_at hl 4 rfl) ?_
            refine w_cv hS (w_runV (As := [.int 4, .int a2]) C0 hW 9 0 (by decide) (by decide) rfl rfl (c_X9_incident l G A 4 a2 hv20 _ h) ⟨⟨w_926, w_61, w_929⟩, pl_X9_incident, ⟨Nat.le_of_ble_eq_true rfl, Nat.le_of_ble_eq_true rfl⟩, ⟨Nat.le_refl _, Nat.le_refl _⟩⟩ ⟨w_928, w_25⟩ rfl hl.1 rfl (Nat.le_of_ble_eq_true rfl) dX9_slam_161) (fun hv24 h H locs hW hS => ?_)
            exact w_vret C0 hr hW hS h dX9_slam_164
    · have h := h.2 c19
      refine lv_aload_n hx hb dX9_slam_90 rfl (lv_at hl 2 rfl) ?_
      refine w_get (v := .ref (ad G 15 0)) C0 hW 9 0 (by decide) (by decide) rfl rfl in_X9 0 (by decide) w_762 rfl dX9_slam_91 ?_
      refine lv_iload_n hx hb dX9_slam_94 rfl (lv_at hl 3 rfl) ?_
      refine lv_bipush (v := 11) hx hb dX9_slam_95 (by decide) ?_
      refine lv_iadd hx hb dX9_slam_97 ?_
      refine w_top (y := nI (n1 + 11)) (nI_add n1 11) ?_
      refine w_ialdN C0 hW 15 0 (by decide) (by decide) (n := 370) rfl (j := (n1 + 11)) rfl (by omega) (by decide) dX9_slam_98 ?_
      refine lv_goto (tgt := 105) hx hb dX9_slam_99 (by decide) ?_
      refine w_iastN C0 hW hS 15 0 (by decide) (by decide) (n := 370) (fun _ => rfl) (j := (n1 + 14)) rfl (by omega) (by decide) dX9_slam_105 (fun hv25 ehv25 H locs hW hS => ?_)
      have h := h hv25 ehv25
      refine lv_goto (tgt := 134) hx hb dX9_slam_106 (by decide) ?_
      refine lv_iload_n hx hb dX9_slam_134 rfl (lv_at hl 4 rfl) ?_
      refine lv_if_lt (tgt := 164) hx hb dX9_slam_135 (by decide) (fun c26 => ?_) (fun c26 => ?_)
      · have h := h.1 c26
        exact w_vret C0 hr hW hS h dX9_slam_164
      · have h := h.2 c26
        refine lv_aload_n hx hb dX9_slam_138 rfl (lv_at hl 2 rfl) ?_
        refine w_get (v := .ref (ad G 15 0)) C0 hW 9 0 (by decide) (by decide) rfl rfl in_X9 0 (by decide) w_762 rfl dX9_slam_139 ?_
        refine lv_iload_n hx hb dX9_slam_142 rfl (lv_at hl 3 rfl) ?_
        refine lv_bipush (v := 14) hx hb dX9_slam_143 (by decide) ?_
        refine lv_iadd hx hb dX9_slam_145 ?_
        refine w_top (y := nI (n1 + 14)) (nI_add n1 14) ?_
        refine w_ialdN C0 hW 15 0 (by decide) (by decide) (n := 370) rfl (j := (n1 + 14)) rfl (by omega) (by decide) dX9_slam_146 ?_
        refine lv_iload hx hb dX9_slam_147 (lv_at hl 0 rfl) ?_
        refine lv_icmp_ne (tgt := 164) hx hb dX9_slam_149 (by decide) (fun c27 => ?_) (fun c27 => ?_)
        · have h := h.2 c27
          exact w_vret C0 hr hW hS h dX9_slam_164
        · have h := h.1 c27
          refine lv_iload_n hx hb dX9_slam_152 rfl (lv_at hl 1 rfl) ?_
          refine lv_iload hx hb dX9_slam_153 (lv_at hl 0 rfl) ?_
          refine lv_icmp_le (tgt := 164) hx hb dX9_slam_155 (by decide) (fun c28 => ?_) (fun c28 => ?_)
          · have h := h.1 c28
            exact w_vret C0 hr hW hS h dX9_slam_164
          · have h := h.2 c28
            refine lv_aload_n hx hb dX9_slam_158 rfl (lv_at hl 2 rfl) ?_
            refine lv_iconst (v := 4) hx hb dX9_slam_159 (by decide) ?_
            refine lv_iload_n hx hb dX9_slam_160 rfl (lv_at hl 4 rfl) ?_
            refine w_cv hS (w_runV (As := [.int 4, .int a2]) C0 hW 9 0 (by decide) (by decide) rfl rfl (c_X9_incident l G A 4 a2 hv25 _ h) ⟨⟨w_926, w_61, w_929⟩, pl_X9_incident, ⟨Nat.le_of_ble_eq_true rfl, Nat.le_of_ble_eq_true rfl⟩, ⟨Nat.le_refl _, Nat.le_refl _⟩⟩ ⟨w_928, w_25⟩ rfl hl.1 rfl (Nat.le_of_ble_eq_true rfl) dX9_slam_161) (fun hv29 h H locs hW hS => ?_)
            exact w_vret C0 hr hW hS h dX9_slam_164
theorem pl_X9_slam : yX9_slam.cls ≠ "java/lang/invoke/MethodHandle" ∧ yX9_slam.cls ≠ "java/lang/invoke/VarHandle" ∧ (parseMethodDescriptor yX9_slam.desc).map (fun d => d.parameters.length) = some 2 := ⟨by decide +kernel, by decide +kernel, by decide +kernel⟩
def V_X9_slam (n1 : Nat) (a2 : Int32) (hv : HV) (post : HV → Prop) : Prop := (∀ hv1 : HV, hv1 = up hv 9 0 (upd (hv 9 0) 7 1) → (∀ hv2 : HV, hv2 = up hv1 15 0 (upd (hv1 15 0) (n1 + 7) 1) → (∀ hv3 : HV, hv3 = up hv2 15 0 (upd (hv2 15 0) (n1 + 16) ((hv2 15 0 (n1 + 16)) + 1)) → ((a2 < 0 → (V_X9_slam_37 n1 a2 post hv3)) ∧ (¬ (a2 < 0) → (V_X9_addInterval n1 hv3 (fun hv30 => (V_X9_slam_37 n1 a2 post hv30))))))))
set_option maxHeartbeats 4000000 in
theorem c_X9_slam (l : Launch) (G : wG) (A : Nat → Prop) (n1 : Nat) (a2 : Int32) (hn1 : n1 + 73 ≤ 370) (hv : HV) (post : HV → Prop) (h : V_X9_slam n1 a2 hv post) : wM l yX9_slam cX9_slam 5 ((Option.none : Option FieldType)) 1 G A hv [.ref (ad G 9 0), .int (nI n1), .int a2] (qV G A post) := by
  refine wM_of (by decide +kernel) (Nat.le_of_ble_eq_true rfl) ?_
  intro p e s m args below meth c C0 hr ls hl hW hS
  have hx := C0.1
  have hb := C0.2.1
  have hown := C0.2.2.2.1
  have hts := C0.2.2.2.2.1
  have hl : lv_has ls 5 [(0, .ref (ad G 9 0)), (1, .int (nI n1)), (2, .int a2)] := hl
  unfold V_X9_slam at h
  refine lv_aload_n hx hb dX9_slam_0 rfl (lv_at hl 0 rfl) ?_
  refine lv_iconst (v := 1) hx hb dX9_slam_1 (by decide) ?_
  refine w_put (v := 1) C0 hW hS 9 0 (by decide) (by decide) rfl rfl in_X9 tyX9_ok nmX9 7 (by decide) w_769 rfl rfl rfl (Nat.le_of_ble_eq_true rfl) rfl dX9_slam_2 (fun hv1 ehv1 H locs hW hS => ?_)
  have h := h hv1 ehv1
  refine lv_aload_n hx hb dX9_slam_5 rfl (lv_at hl 0 rfl) ?_
  refine w_get (v := .ref (ad G 15 0)) C0 hW 9 0 (by decide) (by decide) rfl rfl in_X9 0 (by decide) w_762 rfl dX9_slam_6 ?_
  refine lv_iload_n hx hb dX9_slam_9 rfl (lv_at hl 1 rfl) ?_
  refine lv_bipush (v := 7) hx hb dX9_slam_10 (by decide) ?_
  refine lv_iadd hx hb dX9_slam_12 ?_
  refine w_top (y := nI (n1 + 7)) (nI_add n1 7) ?_
  refine lv_iconst (v := 1) hx hb dX9_slam_13 (by decide) ?_
  refine w_iastN C0 hW hS 15 0 (by decide) (by decide) (n := 370) (fun _ => rfl) (j := (n1 + 7)) rfl (by omega) (by decide) dX9_slam_14 (fun hv2 ehv2 H locs hW hS => ?_)
  have h := h hv2 ehv2
  refine lv_aload_n hx hb dX9_slam_15 rfl (lv_at hl 0 rfl) ?_
  refine w_get (v := .ref (ad G 15 0)) C0 hW 9 0 (by decide) (by decide) rfl rfl in_X9 0 (by decide) w_762 rfl dX9_slam_16 ?_
  refine lv_iload_n hx hb dX9_slam_19 rfl (lv_at hl 1 rfl) ?_
  refine lv_bipush (v := 16) hx hb dX9_slam_20 (by decide) ?_
  refine lv_iadd hx hb dX9_slam_22 ?_
  refine w_top (y := nI (n1 + 16)) (nI_add n1 16) ?_
  refine lv_dup2_11 hx hb dX9_slam_23 rfl rfl ?_
  refine w_ialdN C0 hW 15 0 (by decide) (by decide) (n := 370) rfl (j := (n1 + 16)) rfl (by omega) (by decide) dX9_slam_24 ?_
  refine lv_iconst (v := 1) hx hb dX9_slam_25 (by decide) ?_
  refine lv_iadd hx hb dX9_slam_26 ?_
  refine w_iastN C0 hW hS 15 0 (by decide) (by decide) (n := 370) (fun _ => rfl) (j := (n1 + 16)) rfl (by omega) (by decide) dX9_slam_27 (fun hv3 ehv3 H locs hW hS => ?_)
  have h := h hv3 ehv3
  refine lv_iload_n hx hb dX9_slam_28 rfl (lv_at hl 2 rfl) ?_
  refine lv_if_lt (tgt := 37) hx hb dX9_slam_29 (by decide) (fun c4 => ?_) (fun c4 => ?_)
  · have h := h.1 c4
    exact k_X9_slam_37 n1 a2 post C0 hr hn1 hv3 h _ _ _ hW hS (lv_sub hl [0, 1, 2] rfl)
  · have h := h.2 c4
    refine lv_aload_n hx hb dX9_slam_32 rfl (lv_at hl 0 rfl) ?_
    refine lv_iload_n hx hb dX9_slam_33 rfl (lv_at hl 1 rfl) ?_
    refine w_cv hS (w_runV (As := [.int (nI n1)]) C0 hW 9 0 (by decide) (by decide) rfl rfl (c_X9_addInterval l G A n1 (by omega) hv3 _ h) ⟨⟨w_943, w_61, w_946⟩, pl_X9_addInterval, ⟨Nat.le_of_ble_eq_true rfl, Nat.le_of_ble_eq_true rfl⟩, ⟨Nat.le_refl _, Nat.le_refl _⟩⟩ ⟨w_945, w_29⟩ rfl hl.1 rfl (Nat.le_of_ble_eq_true rfl) dX9_slam_34) (fun hv30 h H locs hW hS => ?_)
    exact k_X9_slam_37 n1 a2 post C0 hr hn1 hv30 h _ _ _ hW hS (lv_sub hl [0, 1, 2] rfl)

theorem pl_X9_gain : yX9_gain.cls ≠ "java/lang/invoke/MethodHandle" ∧ yX9_gain.cls ≠ "java/lang/invoke/VarHandle" ∧ (parseMethodDescriptor yX9_gain.desc).map (fun d => d.parameters.length) = some 3 := ⟨by decide +kernel, by decide +kernel, by decide +kernel⟩
def V_X9_gain (n1 : Nat) (a2 : Int32) (a3 : Int32) (hv : HV) (post : HV → Prop) : Prop := (∀ hv1 : HV, hv1 = up hv 15 0 (upd (hv 15 0) (n1 + 17) ((hv 15 0 (n1 + 17)) + a3)) → (∀ x2 : Int32, x2 = (hv1 15 0 (n1 + 6)) → (¬ (hv1 15 0 (n1 + 1)) = 0 ∧ (∀ x4 : Int32, x4 = ((x2 + ((100 * (hv1 15 0 (n1 + 0))) / (hv1 15 0 (n1 + 1)))) - ((((hv1 15 0 (n1 + 3)) * x2) * x2) / 100000)) → ((0 ≤ x4 → ((x4 ≤ 2000 → (∀ hv7 : HV, hv7 = up hv1 15 0 (upd (hv1 15 0) (n1 + 6) x4) → (∀ hv8 : HV, hv8 = up hv7 15 0 (upd (hv7 15 0) (n1 + 8) ((hv7 15 0 (n1 + 8)) + 1)) → (V_X9_slamsBy n1 hv8 (fun r9 hv9 => ((r9 = 0 → post hv9) ∧ (¬ (r9 = 0) → (V_X9_slam n1 a2 hv9 (fun hv11 => post hv11))))))))) ∧ (¬ (x4 ≤ 2000) → (∀ hv12 : HV, hv12 = up hv1 15 0 (upd (hv1 15 0) (n1 + 6) 2000) → (∀ hv13 : HV, hv13 = up hv12 15 0 (upd (hv12 15 0) (n1 + 8) ((hv12 15 0 (n1 + 8)) + 1)) → (V_X9_slamsBy n1 hv13 (fun r14 hv14 => ((r14 = 0 → post hv14) ∧ (¬ (r14 = 0) → (V_X9_slam n1 a2 hv14 (fun hv16 => post hv16))))))))))) ∧ (¬ (0 ≤ x4) → (∀ hv17 : HV, hv17 = up hv1 15 0 (upd (hv1 15 0) (n1 + 6) 0) → (∀ hv18 : HV, hv18 = up hv17 15 0 (upd (hv17 15 0) (n1 + 8) ((hv17 15 0 (n1 + 8)) + 1)) → (V_X9_slamsBy n1 hv18 (fun r19 hv19 => ((r19 = 0 → post hv19) ∧ (¬ (r19 = 0) → (V_X9_slam n1 a2 hv19 (fun hv21 => post hv21))))))))))))))
set_option maxHeartbeats 4000000 in
theorem c_X9_gain (l : Launch) (G : wG) (A : Nat → Prop) (n1 : Nat) (a2 : Int32) (a3 : Int32) (hn1 : n1 + 73 ≤ 370) (hv : HV) (post : HV → Prop) (h : V_X9_gain n1 a2 a3 hv post) : wM l yX9_gain cX9_gain 6 ((Option.none : Option FieldType)) 2 G A hv [.ref (ad G 9 0), .int (nI n1), .int a2, .int a3] (qV G A post) := by
  refine wM_of (by decide +kernel) (Nat.le_of_ble_eq_true rfl) ?_
  intro p e s m args below meth c C0 hr ls hl hW hS
  have hx := C0.1
  have hb := C0.2.1
  have hown := C0.2.2.2.1
  have hts := C0.2.2.2.2.1
  have hl : lv_has ls 6 [(0, .ref (ad G 9 0)), (1, .int (nI n1)), (2, .int a2), (3, .int a3)] := hl
  unfold V_X9_gain at h
  refine lv_aload_n hx hb dX9_gain_0 rfl (lv_at hl 0 rfl) ?_
  refine w_get (v := .ref (ad G 15 0)) C0 hW 9 0 (by decide) (by decide) rfl rfl in_X9 0 (by decide) w_762 rfl dX9_gain_1 ?_
  refine lv_iload_n hx hb dX9_gain_4 rfl (lv_at hl 1 rfl) ?_
  refine lv_bipush (v := 17) hx hb dX9_gain_5 (by decide) ?_
  refine lv_iadd hx hb dX9_gain_7 ?_
  refine w_top (y := nI (n1 + 17)) (nI_add n1 17) ?_
  refine lv_dup2_11 hx hb dX9_gain_8 rfl rfl ?_
  refine w_ialdN C0 hW 15 0 (by decide) (by decide) (n := 370) rfl (j := (n1 + 17)) rfl (by omega) (by decide) dX9_gain_9 ?_
  refine lv_iload_n hx hb dX9_gain_10 rfl (lv_at hl 3 rfl) ?_
  refine lv_iadd hx hb dX9_gain_11 ?_
  refine w_iastN C0 hW hS 15 0 (by decide) (by decide) (n := 370) (fun _ => rfl) (j := (n1 + 17)) rfl (by omega) (by decide) dX9_gain_12 (fun hv1 ehv1 H locs hW hS => ?_)
  have h := h hv1 ehv1
  refine lv_aload_n hx hb dX9_gain_13 rfl (lv_at hl 0 rfl) ?_
  refine w_get (v := .ref (ad G 15 0)) C0 hW 9 0 (by decide) (by decide) rfl rfl in_X9 0 (by decide) w_762 rfl dX9_gain_14 ?_
  refine lv_iload_n hx hb dX9_gain_17 rfl (lv_at hl 1 rfl) ?_
  refine lv_bipush (v := 6) hx hb dX9_gain_18 (by decide) ?_
  refine lv_iadd hx hb dX9_gain_20 ?_
  refine w_top (y := nI (n1 + 6)) (nI_add n1 6) ?_
  refine w_ialdN C0 hW 15 0 (by decide) (by decide) (n := 370) rfl (j := (n1 + 6)) rfl (by omega) (by decide) dX9_gain_21 ?_
  refine lv_topi (fun x2 ex2 => ?_)
  have h := h x2 ex2
  refine lv_istore (lv' := [(4, .int x2), (0, .ref (ad G 9 0)), (1, .int (nI n1)), (2, .int a2), (3, .int a3)]) hx hb dX9_gain_22 hl (by decide) rfl (fun ls hl => ?_)
  refine lv_iload hx hb dX9_gain_24 (lv_at hl 0 rfl) ?_
  refine lv_bipush (v := 100) hx hb dX9_gain_26 (by decide) ?_
  refine lv_aload_n hx hb dX9_gain_28 rfl (lv_at hl 1 rfl) ?_
  refine w_get (v := .ref (ad G 15 0)) C0 hW 9 0 (by decide) (by decide) rfl rfl in_X9 0 (by decide) w_762 rfl dX9_gain_29 ?_
  refine lv_iload_n hx hb dX9_gain_32 rfl (lv_at hl 2 rfl) ?_
  refine lv_iconst (v := 0) hx hb dX9_gain_33 (by decide) ?_
  refine lv_iadd hx hb dX9_gain_34 ?_
  refine w_top (y := nI (n1 + 0)) (nI_add n1 0) ?_
  refine w_ialdN C0 hW 15 0 (by decide) (by decide) (n := 370) rfl (j := (n1 + 0)) rfl (by omega) (by decide) dX9_gain_35 ?_
  refine lv_imul hx hb dX9_gain_36 ?_
  refine lv_aload_n hx hb dX9_gain_37 rfl (lv_at hl 1 rfl) ?_
  refine w_get (v := .ref (ad G 15 0)) C0 hW 9 0 (by decide) (by decide) rfl rfl in_X9 0 (by decide) w_762 rfl dX9_gain_38 ?_
  refine lv_iload_n hx hb dX9_gain_41 rfl (lv_at hl 2 rfl) ?_
  refine lv_iconst (v := 1) hx hb dX9_gain_42 (by decide) ?_
  refine lv_iadd hx hb dX9_gain_43 ?_
  refine w_top (y := nI (n1 + 1)) (nI_add n1 1) ?_
  refine w_ialdN C0 hW 15 0 (by decide) (by decide) (n := 370) rfl (j := (n1 + 1)) rfl (by omega) (by decide) dX9_gain_44 ?_
  obtain ⟨q3, h⟩ := h
  refine lv_idiv hx hb dX9_gain_45 q3 ?_
  refine lv_iadd hx hb dX9_gain_46 ?_
  refine lv_aload_n hx hb dX9_gain_47 rfl (lv_at hl 1 rfl) ?_
  refine w_get (v := .ref (ad G 15 0)) C0 hW 9 0 (by decide) (by decide) rfl rfl in_X9 0 (by decide) w_762 rfl dX9_gain_48 ?_
  refine lv_iload_n hx hb dX9_gain_51 rfl (lv_at hl 2 rfl) ?_
  refine lv_iconst (v := 3) hx hb dX9_gain_52 (by decide) ?_
  refine lv_iadd hx hb dX9_gain_53 ?_
  refine w_top (y := nI (n1 + 3)) (nI_add n1 3) ?_
  refine w_ialdN C0 hW 15 0 (by decide) (by decide) (n := 370) rfl (j := (n1 + 3)) rfl (by omega) (by decide) dX9_gain_54 ?_
  refine lv_iload hx hb dX9_gain_55 (lv_at hl 0 rfl) ?_
  refine lv_imul hx hb dX9_gain_57 ?_
  refine lv_iload hx hb dX9_gain_58 (lv_at hl 0 rfl) ?_
  refine lv_imul hx hb dX9_gain_60 ?_
  refine lv_ldc (v := 100000) hx hb hown (hts _ w_934) dX9_gain_61 ?_
  refine lv_idiv hx hb dX9_gain_63 (by decide) ?_
  refine lv_isub hx hb dX9_gain_64 ?_
  refine lv_topi (fun x4 ex4 => ?_)
  have h := h x4 ex4
  refine lv_istore (lv' := [(5, .int x4), (4, .int x2), (0, .ref (ad G 9 0)), (1, .int (nI n1)), (2, .int a2), (3, .int a3)]) hx hb dX9_gain_65 hl (by decide) rfl (fun ls hl => ?_)
  refine lv_aload_n hx hb dX9_gain_67 rfl (lv_at hl 2 rfl) ?_
  refine w_get (v := .ref (ad G 15 0)) C0 hW 9 0 (by decide) (by decide) rfl rfl in_X9 0 (by decide) w_762 rfl dX9_gain_68 ?_
  refine lv_iload_n hx hb dX9_gain_71 rfl (lv_at hl 3 rfl) ?_
  refine lv_bipush (v := 6) hx hb dX9_gain_72 (by decide) ?_
  refine lv_iadd hx hb dX9_gain_74 ?_
  refine w_top (y := nI (n1 + 6)) (nI_add n1 6) ?_
  refine lv_iload hx hb dX9_gain_75 (lv_at hl 0 rfl) ?_
  refine lv_if_ge (tgt := 84) hx hb dX9_gain_77 (by decide) (fun c5 => ?_) (fun c5 => ?_)
  · have h := h.1 c5
    refine lv_iload hx hb dX9_gain_84 (lv_at hl 0 rfl) ?_
    refine lv_sipush (v := 2000) hx hb dX9_gain_86 (by decide) ?_
    refine lv_icmp_le (tgt := 98) hx hb dX9_gain_89 (by decide) (fun c6 => ?_) (fun c6 => ?_)
    · have h := h.1 c6
      refine lv_iload hx hb dX9_gain_98 (lv_at hl 0 rfl) ?_
      refine w_iastN C0 hW hS 15 0 (by decide) (by decide) (n := 370) (fun _ => rfl) (j := (n1 + 6)) rfl (by omega) (by decide) dX9_gain_100 (fun hv7 ehv7 H locs hW hS => ?_)
      have h := h hv7 ehv7
      refine lv_aload_n hx hb dX9_gain_101 rfl (lv_at hl 2 rfl) ?_
      refine w_get (v := .ref (ad G 15 0)) C0 hW 9 0 (by decide) (by decide) rfl rfl in_X9 0 (by decide) w_762 rfl dX9_gain_102 ?_
      refine lv_iload_n hx hb dX9_gain_105 rfl (lv_at hl 3 rfl) ?_
      refine lv_bipush (v := 8) hx hb dX9_gain_106 (by decide) ?_
      refine lv_iadd hx hb dX9_gain_108 ?_
      refine w_top (y := nI (n1 + 8)) (nI_add n1 8) ?_
      refine lv_dup2_11 hx hb dX9_gain_109 rfl rfl ?_
      refine w_ialdN C0 hW 15 0 (by decide) (by decide) (n := 370) rfl (j := (n1 + 8)) rfl (by omega) (by decide) dX9_gain_110 ?_
      refine lv_iconst (v := 1) hx hb dX9_gain_111 (by decide) ?_
      refine lv_iadd hx hb dX9_gain_112 ?_
      refine w_iastN C0 hW hS 15 0 (by decide) (by decide) (n := 370) (fun _ => rfl) (j := (n1 + 8)) rfl (by omega) (by decide) dX9_gain_113 (fun hv8 ehv8 H locs hW hS => ?_)
      have h := h hv8 ehv8
      refine lv_aload_n hx hb dX9_gain_114 rfl (lv_at hl 2 rfl) ?_
      refine lv_iload_n hx hb dX9_gain_115 rfl (lv_at hl 3 rfl) ?_
      refine w_ci hS (w_runV (As := [.int (nI n1)]) C0 hW 9 0 (by decide) (by decide) rfl rfl (c_X9_slamsBy l G A n1 (by omega) hv8 _ h) ⟨⟨w_935, w_61, w_938⟩, pl_X9_slamsBy, ⟨Nat.le_of_ble_eq_true rfl, Nat.le_of_ble_eq_true rfl⟩, ⟨Nat.le_refl _, Nat.le_refl _⟩⟩ ⟨w_937, w_27⟩ rfl hl.1 rfl (Nat.le_of_ble_eq_true rfl) dX9_gain_116) (fun r9 hv9 h H locs hW hS => ?_)
      refine lv_if_eq (tgt := 128) hx hb dX9_gain_119 (by decide) (fun c10 => ?_) (fun c10 => ?_)
      · have h := h.1 c10
        exact w_vret C0 hr hW hS h dX9_gain_128
      · have h := h.2 c10
        refine lv_aload_n hx hb dX9_gain_122 rfl (lv_at hl 2 rfl) ?_
        refine lv_iload_n hx hb dX9_gain_123 rfl (lv_at hl 3 rfl) ?_
        refine lv_iload_n hx hb dX9_gain_124 rfl (lv_at hl 4 rfl) ?_
        refine w_cv hS (w_runV (As := [.int (nI n1), .int a2]) C0 hW 9 0 (by decide) (by decide) rfl rfl (c_X9_slam l G A n1 a2 (by omega) hv9 _ h) ⟨⟨w_939, w_61, w_942⟩, pl_X9_slam, ⟨Nat.le_of_ble_eq_true rfl, Nat.le_of_ble_eq_true rfl⟩, ⟨Nat.le_refl _, Nat.le_refl _⟩⟩ ⟨w_941, w_28⟩ rfl hl.1 rfl (Nat.le_of_ble_eq_true rfl) dX9_gain_125) (fun hv11 h H locs hW hS => ?_)
        exact w_vret C0 hr hW hS h dX9_gain_128
    · have h := h.2 c6
      refine lv_sipush (v := 2000) hx hb dX9_gain_92 (by decide) ?_
      refine lv_goto (tgt := 100) hx hb dX9_gain_95 (by decide) ?_
      refine w_iastN C0 hW hS 15 0 (by decide) (by decide) (n := 370) (fun _ => rfl) (j := (n1 + 6)) rfl (by omega) (by decide) dX9_gain_100 (fun hv12 ehv12 H locs hW hS => ?_)
      have h := h hv12 ehv12
      refine lv_aload_n hx hb dX9_gain_101 rfl (lv_at hl 2 rfl) ?_
      refine w_get (v := .ref (ad G 15 0)) C0 hW 9 0 (by decide) (by decide) rfl rfl in_X9 0 (by decide) w_762 rfl dX9_gain_102 ?_
      refine lv_iload_n hx hb dX9_gain_105 rfl (lv_at hl 3 rfl) ?_
      refine lv_bipush (v := 8) hx hb dX9_gain_106 (by decide) ?_
      refine lv_iadd hx hb dX9_gain_108 ?_
      refine w_top (y := nI (n1 + 8)) (nI_add n1 8) ?_
      refine lv_dup2_11 hx hb dX9_gain_109 rfl rfl ?_
      refine w_ialdN C0 hW 15 0 (by decide) (by decide) (n := 370) rfl (j := (n1 + 8)) rfl (by omega) (by decide) dX9_gain_110 ?_
      refine lv_iconst (v := 1) hx hb dX9_gain_111 (by decide) ?_
      refine lv_iadd hx hb dX9_gain_112 ?_
      refine w_iastN C0 hW hS 15 0 (by decide) (by decide) (n := 370) (fun _ => rfl) (j := (n1 + 8)) rfl (by omega) (by decide) dX9_gain_113 (fun hv13 ehv13 H locs hW hS => ?_)
      have h := h hv13 ehv13
      refine lv_aload_n hx hb dX9_gain_114 rfl (lv_at hl 2 rfl) ?_
      refine lv_iload_n hx hb dX9_gain_115 rfl (lv_at hl 3 rfl) ?_
      refine w_ci hS (w_runV (As := [.int (nI n1)]) C0 hW 9 0 (by decide) (by decide) rfl rfl (c_X9_slamsBy l G A n1 (by omega) hv13 _ h) ⟨⟨w_935, w_61, w_938⟩, pl_X9_slamsBy, ⟨Nat.le_of_ble_eq_true rfl, Nat.le_of_ble_eq_true rfl⟩, ⟨Nat.le_refl _, Nat.le_refl _⟩⟩ ⟨w_937, w_27⟩ rfl hl.1 rfl (Nat.le_of_ble_eq_true rfl) dX9_gain_116) (fun r14 hv14 h H locs hW hS => ?_)
      refine lv_if_eq (tgt := 128) hx hb dX9_gain_119 (by decide) (fun c15 => ?_) (fun c15 => ?_)
      · have h := h.1 c15
        exact w_vret C0 hr hW hS h dX9_gain_128
      · have h := h.2 c15
        refine lv_aload_n hx hb dX9_gain_122 rfl (lv_at hl 2 rfl) ?_
        refine lv_iload_n hx hb dX9_gain_123 rfl (lv_at hl 3 rfl) ?_
        refine lv_iload_n hx hb dX9_gain_124 rfl (lv_at hl 4 rfl) ?_
        refine w_cv hS (w_runV (As := [.int (nI n1), .int a2]) C0 hW 9 0 (by decide) (by decide) rfl rfl (c_X9_slam l G A n1 a2 (by omega) hv14 _ h) ⟨⟨w_939, w_61, w_942⟩, pl_X9_slam, ⟨Nat.le_of_ble_eq_true rfl, Nat.le_of_ble_eq_true rfl⟩, ⟨Nat.le_refl _, Nat.le_refl _⟩⟩ ⟨w_941, w_28⟩ rfl hl.1 rfl (Nat.le_of_ble_eq_true rfl) dX9_gain_125) (fun hv16 h H locs hW hS => ?_)
        exact w_vret C0 hr hW hS h dX9_gain_128
  · have h := h.2 c5
    refine lv_iconst (v := 0) hx hb dX9_gain_80 (by decide) ?_
    refine lv_goto (tgt := 100) hx hb dX9_gain_81 (by decide) ?_
    refine w_iastN C0 hW hS 15 0 (by decide) (by decide) (n := 370) (fun _ => rfl) (j := (n1 + 6)) rfl (by omega) (by decide) dX9_gain_100 (fun hv17 ehv17 H locs hW hS => ?_)
    have h := h hv17 ehv17
    refine lv_aload_n hx hb dX9_gain_101 rfl (lv_at hl 2 rfl) ?_
    refine w_get (v := .ref (ad G 15 0)) C0 hW 9 0 (by decide) (by decide) rfl rfl in_X9 0 (by decide) w_762 rfl dX9_gain_102 ?_
    refine lv_iload_n hx hb dX9_gain_105 rfl (lv_at hl 3 rfl) ?_
    refine lv_bipush (v := 8) hx hb dX9_gain_106 (by decide) ?_
    refine lv_iadd hx hb dX9_gain_108 ?_
    refine w_top (y := nI (n1 + 8)) (nI_add n1 8) ?_
    refine lv_dup2_11 hx hb dX9_gain_109 rfl rfl ?_
    refine w_ialdN C0 hW 15 0 (by decide) (by decide) (n := 370) rfl (j := (n1 + 8)) rfl (by omega) (by decide) dX9_gain_110 ?_
    refine lv_iconst (v := 1) hx hb dX9_gain_111 (by decide) ?_
    refine lv_iadd hx hb dX9_gain_112 ?_
    refine w_iastN C0 hW hS 15 0 (by decide) (by decide) (n := 370) (fun _ => rfl) (j := (n1 + 8)) rfl (by omega) (by decide) dX9_gain_113 (fun hv18 ehv18 H locs hW hS => ?_)
    have h := h hv18 ehv18
    refine lv_aload_n hx hb dX9_gain_114 rfl (lv_at hl 2 rfl) ?_
    refine lv_iload_n hx hb dX9_gain_115 rfl (lv_at hl 3 rfl) ?_
    refine w_ci hS (w_runV (As := [.int (nI n1)]) C0 hW 9 0 (by decide) (by decide) rfl rfl (c_X9_slamsBy l G A n1 (by omega) hv18 _ h) ⟨⟨w_935, w_61, w_938⟩, pl_X9_slamsBy, ⟨Nat.le_of_ble_eq_true rfl, Nat.le_of_ble_eq_true rfl⟩, ⟨Nat.le_refl _, Nat.le_refl _⟩⟩ ⟨w_937, w_27⟩ rfl hl.1 rfl (Nat.le_of_ble_eq_true rfl) dX9_gain_116) (fun r19 hv19 h H locs hW hS => ?_)
    refine lv_if_eq (tgt := 128) hx hb dX9_gain_119 (by decide) (fun c20 => ?_) (fun c20 => ?_)
    · have h := h.1 c20
      exact w_vret C0 hr hW hS h dX9_gain_128
    · have h := h.2 c20
      refine lv_aload_n hx hb dX9_gain_122 rfl (lv_at hl 2 rfl) ?_
      refine lv_iload_n hx hb dX9_gain_123 rfl (lv_at hl 3 rfl) ?_
      refine lv_iload_n hx hb dX9_gain_124 rfl (lv_at hl 4 rfl) ?_
      refine w_cv hS (w_runV (As := [.int (nI n1), .int a2]) C0 hW 9 0 (by decide) (by decide) rfl rfl (c_X9_slam l G A n1 a2 (by omega) hv19 _ h) ⟨⟨w_939, w_61, w_942⟩, pl_X9_slam, ⟨Nat.le_of_ble_eq_true rfl, Nat.le_of_ble_eq_true rfl⟩, ⟨Nat.le_refl _, Nat.le_refl _⟩⟩ ⟨w_941, w_28⟩ rfl hl.1 rfl (Nat.le_of_ble_eq_true rfl) dX9_gain_125) (fun hv21 h H locs hW hS => ?_)
      exact w_vret C0 hr hW hS h dX9_gain_128

def V_X9_push_87 (n1 : Nat) (a2 : Int32) (a3 : Int32) (post : HV → Prop)  (hv : HV) : Prop := (V_X9_head n1 hv (fun r7 hv7 => (∀ x8 : Int32, x8 = (r7 - (hv7 15 0 (n1 + 0))) → ((0 ≤ x8 → (¬ (hv7 15 0 (n1 + 1)) = 0 ∧ (∀ hv11 : HV, hv11 = up hv7 15 0 (upd (hv7 15 0) (n1 + 6) ((hv7 15 0 (n1 + 6)) - (1 + ((100 * x8) / (hv7 15 0 (n1 + 1)))))) → ((1 ≤ (hv11 15 0 (n1 + 6)) → post hv11) ∧ (¬ (1 ≤ (hv11 15 0 (n1 + 6))) → (V_X9_open n1 hv11 (fun hv13 => post hv13))))))) ∧ (¬ (0 ≤ x8) → (¬ (hv7 15 0 (n1 + 1)) = 0 ∧ (∀ hv15 : HV, hv15 = up hv7 15 0 (upd (hv7 15 0) (n1 + 6) ((hv7 15 0 (n1 + 6)) - (1 + ((100 * 0) / (hv7 15 0 (n1 + 1)))))) → ((1 ≤ (hv15 15 0 (n1 + 6)) → post hv15) ∧ (¬ (1 ≤ (hv15 15 0 (n1 + 6))) → (V_X9_open n1 hv15 (fun hv17 => post hv17)))))))))))
set_option maxHeartbeats 4000000 in
theorem k_X9_push_87 {p : Program} {l : Launch} {e : Env} {s : State} {m : MethodId} {args : Array Value} {below : List Frame} {meth : Method} {c : Code} {G : wG} {A : Nat → Prop} (n1 : Nat) (a2 : Int32) (a3 : Int32) (post : HV → Prop) (C0 : cx p s m args meth c "RamStationModel" cX9_push 8 G) (hr : meth.sig.returnType = (Option.none : Option FieldType)) (hn1 : n1 + 73 ≤ 370)  : ∀  (hv : HV), V_X9_push_87 n1 a2 a3 post  hv → ∀ (H : Heap) (locs : List Loc) (ls : Array Slot), wd G A hv H → va_S A s.heap H locs → lv_has ls 8 [(0, .ref (ad G 9 0)), (1, .int (nI n1))] → W p l e (wrm 1) s m args below meth c H locs 0 0 (MQ below (qV G A post) args s 0 0 A) (F0 m 87 ls []) := by
  have hx := C0.1
  have hb := C0.2.1
  have hown := C0.2.2.2.1
  have hts := C0.2.2.2.2.1
  intro  hv  h H locs ls hW hS hl
  unfold V_X9_push_87 at h
  refine lv_aload_n hx hb dX9_push_87 rfl (lv_at hl 0 rfl) ?_
  refine lv_iload_n hx hb dX9_push_88 rfl (lv_at hl 1 rfl) ?_
  refine w_ci hS (w_runV (As := [.int (nI n1)]) C0 hW 9 0 (by decide) (by decide) rfl rfl (c_X9_head l G A n1 (by omega) hv _ h) ⟨⟨w_955, w_61, w_958⟩, pl_X9_head, ⟨Nat.le_of_ble_eq_true rfl, Nat.le_of_ble_eq_true rfl⟩, ⟨Nat.le_refl _, Nat.le_refl _⟩⟩ ⟨w_957, w_32⟩ rfl hl.1 rfl (Nat.le_of_ble_eq_true rfl) dX9_push_89) (fun r7 hv7 h H locs hW hS => ?_)
  refine lv_aload_n hx hb dX9_push_92 rfl (lv_at hl 0 rfl) ?_
  refine w_get (v := .ref (ad G 15 0)) C0 hW 9 0 (by decide) (by decide) rfl rfl in_X9 0 (by decide) w_762 rfl dX9_push_93 ?_
  refine lv_iload_n hx hb dX9_push_96 rfl (lv_at hl 1 rfl) ?_
  refine lv_iconst (v := 0) hx hb dX9_push_97 (by decide) ?_
  refine lv_iadd hx hb dX9_push_98 ?_
  refine w_top (y := nI (n1 + 0)) (nI_add n1 0) ?_
  refine w_ialdN C0 hW 15 0 (by decide) (by decide) (n := 370) rfl (j := (n1 + 0)) rfl (by omega) (by decide) dX9_push_99 ?_
  refine lv_isub hx hb dX9_push_100 ?_
  refine lv_topi (fun x8 ex8 => ?_)
  have h := h x8 ex8
  refine lv_istore (lv' := [(6, .int x8), (0, .ref (ad G 9 0)), (1, .int (nI n1))]) hx hb dX9_push_101 hl (by decide) rfl (fun ls hl => ?_)
  refine lv_iload hx hb dX9_push_103 (lv_at hl 0 rfl) ?_
  refine lv_if_ge (tgt := 112) hx hb dX9_push_105 (by decide) (fun c9 => ?_) (fun c9 => ?_)
  · have h := h.1 c9
    refine lv_iload hx hb dX9_push_112 (lv_at hl 0 rfl) ?_
    refine lv_istore (lv' := [(7, .int x8), (6, .int x8), (0, .ref (ad G 9 0)), (1, .int (nI n1))]) hx hb dX9_push_114 hl (by decide) rfl (fun ls hl => ?_)
    refine lv_aload_n hx hb dX9_push_116 rfl (lv_at hl 2 rfl) ?_
    refine w_get (v := .ref (ad G 15 0)) C0 hW 9 0 (by decide) (by decide) rfl rfl in_X9 0 (by decide) w_762 rfl dX9_push_117 ?_
    refine lv_iload_n hx hb dX9_push_120 rfl (lv_at hl 3 rfl) ?_
    refine lv_bipush (v := 6) hx hb dX9_push_121 (by decide) ?_
    refine lv_iadd hx hb dX9_push_123 ?_
    refine w_top (y := nI (n1 + 6)) (nI_add n1 6) ?_
    refine lv_dup2_11 hx hb dX9_push_124 rfl rfl ?_
    refine w_ialdN C0 hW 15 0 (by decide) (by decide) (n := 370) rfl (j := (n1 + 6)) rfl (by omega) (by decide) dX9_push_125 ?_
    refine lv_iconst (v := 1) hx hb dX9_push_126 (by decide) ?_
    refine lv_bipush (v := 100) hx hb dX9_push_127 (by decide) ?_
    refine lv_iload hx hb dX9_push_129 (lv_at hl 0 rfl) ?_
    refine lv_imul hx hb dX9_push_131 ?_
    refine lv_aload_n hx hb dX9_push_132 rfl (lv_at hl 2 rfl) ?_
    refine w_get (v := .ref (ad G 15 0)) C0 hW 9 0 (by decide) (by decide) rfl rfl in_X9 0 (by decide) w_762 rfl dX9_push_133 ?_
    refine lv_iload_n hx hb dX9_push_136 rfl (lv_at hl 3 rfl) ?_
    refine lv_iconst (v := 1) hx hb dX9_push_137 (by decide) ?_
    refine lv_iadd hx hb dX9_push_138 ?_
    refine w_top (y := nI (n1 + 1)) (nI_add n1 1) ?_
    refine w_ialdN C0 hW 15 0 (by decide) (by decide) (n := 370) rfl (j := (n1 + 1)) rfl (by omega) (by decide) dX9_push_139 ?_
    obtain ⟨q10, h⟩ := h
    refine lv_idiv hx hb dX9_push_140 q10 ?_
    refine lv_iadd hx hb dX9_push_141 ?_
    refine lv_isub hx hb dX9_push_142 ?_
    refine w_iastN C0 hW hS 15 0 (by decide) (by decide) (n := 370) (fun _ => rfl) (j := (n1 + 6)) rfl (by omega) (by decide) dX9_push_143 (fun hv11 ehv11 H locs hW hS => ?_)
    have h := h hv11 ehv11
    refine lv_aload_n hx hb dX9_push_144 rfl (lv_at hl 2 rfl) ?_
    refine w_get (v := .ref (ad G 15 0)) C0 hW 9 0 (by decide) (by decide) rfl rfl in_X9 0 (by decide) w_762 rfl dX9_push_145 ?_
    refine lv_iload_n hx hb dX9_push_148 rfl (lv_at hl 3 rfl) ?_
    refine lv_bipush (v := 6) hx hb dX9_push_149 (by decide) ?_
    refine lv_iadd hx hb dX9_push_151 ?_
    refine w_top (y := nI (n1 + 6)) (nI_add n1 6) ?_
    refine w_ialdN C0 hW 15 0 (by decide) (by decide) (n := 370) rfl (j := (n1 + 6)) rfl (by omega) (by decide) dX9_push_152 ?_
    refine lv_iconst (v := 1) hx hb dX9_push_153 (by decide) ?_
    refine lv_icmp_ge (tgt := 162) hx hb dX9_push_154 (by decide) (fun c12 => ?_) (fun c12 => ?_)
    · have h := h.1 c12
      exact w_vret C0 hr hW hS h dX9_push_162
    · have h := h.2 c12
      refine lv_aload_n hx hb dX9_push_157 rfl (lv_at hl 2 rfl) ?_
      refine lv_iload_n hx hb dX9_push_158 rfl (lv_at hl 3 rfl) ?_
      refine w_cv hS (w_runV (As := [.int (nI n1)]) C0 hW 9 0 (by decide) (by decide) rfl rfl (c_X9_open l G A n1 (by omega) hv11 _ h) ⟨⟨w_894, w_61, w_897⟩, pl_X9_open, ⟨Nat.le_of_ble_eq_true rfl, Nat.le_of_ble_eq_true rfl⟩, ⟨Nat.le_refl _, Nat.le_refl _⟩⟩ ⟨w_896, w_19⟩ rfl hl.1 rfl (Nat.le_of_ble_eq_true rfl) dX9_push_159) (fun hv13 h H locs hW hS => ?_)
      exact w_vret C0 hr hW hS h dX9_push_162
  · have h := h.2 c9
    refine lv_iconst (v := 0) hx hb dX9_push_108 (by decide) ?_
    refine lv_goto (tgt := 114) hx hb dX9_push_109 (by decide) ?_
    refine lv_istore (lv' := [(7, .int 0), (6, .int x8), (0, .ref (ad G 9 0)), (1, .int (nI n1))]) hx hb dX9_push_114 hl (by decide) rfl (fun ls hl => ?_)
    refine lv_aload_n hx hb dX9_push_116 rfl (lv_at hl 2 rfl) ?_
    refine w_get (v := .ref (ad G 15 0)) C0 hW 9 0 (by decide) (by decide) rfl rfl in_X9 0 (by decide) w_762 rfl dX9_push_117 ?_
    refine lv_iload_n hx hb dX9_push_120 rfl (lv_at hl 3 rfl) ?_
    refine lv_bipush (v := 6) hx hb dX9_push_121 (by decide) ?_
    refine lv_iadd hx hb dX9_push_123 ?_
    refine w_top (y := nI (n1 + 6)) (nI_add n1 6) ?_
    refine lv_dup2_11 hx hb dX9_push_124 rfl rfl ?_
    refine w_ialdN C0 hW 15 0 (by decide) (by decide) (n := 370) rfl (j := (n1 + 6)) rfl (by omega) (by decide) dX9_push_125 ?_
    refine lv_iconst (v := 1) hx hb dX9_push_126 (by decide) ?_
    refine lv_bipush (v := 100) hx hb dX9_push_127 (by decide) ?_
    refine lv_iload hx hb dX9_push_129 (lv_at hl 0 rfl) ?_
    refine lv_imul hx hb dX9_push_131 ?_
    refine lv_aload_n hx hb dX9_push_132 rfl (lv_at hl 2 rfl) ?_
    refine w_get (v := .ref (ad G 15 0)) C0 hW 9 0 (by decide) (by decide) rfl rfl in_X9 0 (by decide) w_762 rfl dX9_push_133 ?_
    refine lv_iload_n hx hb dX9_push_136 rfl (lv_at hl 3 rfl) ?_
    refine lv_iconst (v := 1) hx hb dX9_push_137 (by decide) ?_
    refine lv_iadd hx hb dX9_push_138 ?_
    refine w_top (y := nI (n1 + 1)) (nI_add n1 1) ?_
    refine w_ialdN C0 hW 15 0 (by decide) (by decide) (n := 370) rfl (j := (n1 + 1)) rfl (by omega) (by decide) dX9_push_139 ?_
    obtain ⟨q14, h⟩ := h
    refine lv_idiv hx hb dX9_push_140 q14 ?_
    refine lv_iadd hx hb dX9_push_141 ?_
    refine lv_isub hx hb dX9_push_142 ?_
    refine w_iastN C0 hW hS 15 0 (by decide) (by decide) (n := 370) (fun _ => rfl) (j := (n1 + 6)) rfl (by omega) (by decide) dX9_push_143 (fun hv15 ehv15 H locs hW hS => ?_)
    have h := h hv15 ehv15
    refine lv_aload_n hx hb dX9_push_144 rfl (lv_at hl 2 rfl) ?_
    refine w_get (v := .ref (ad G 15 0)) C0 hW 9 0 (by decide) (by decide) rfl rfl in_X9 0 (by decide) w_762 rfl dX9_push_145 ?_
    refine lv_iload_n hx hb dX9_push_148 rfl (lv_at hl 3 rfl) ?_
    refine lv_bipush (v := 6) hx hb dX9_push_149 (by decide) ?_
    refine lv_iadd hx hb dX9_push_151 ?_
    refine w_top (y := nI (n1 + 6)) (nI_add n1 6) ?_
    refine w_ialdN C0 hW 15 0 (by decide) (by decide) (n := 370) rfl (j := (n1 + 6)) rfl (by omega) (by decide) dX9_push_152 ?_
    refine lv_iconst (v := 1) hx hb dX9_push_153 (by decide) ?_
    refine lv_icmp_ge (tgt := 162) hx hb dX9_push_154 (by decide) (fun c16 => ?_) (fun c16 => ?_)
    · have h := h.1 c16
      exact w_vret C0 hr hW hS h dX9_push_162
    · have h := h.2 c16
      refine lv_aload_n hx hb dX9_push_157 rfl (lv_at hl 2 rfl) ?_
      refine lv_iload_n hx hb dX9_push_158 rfl (lv_at hl 3 rfl) ?_
      refine w_cv hS (w_runV (As := [.int (nI n1)]) C0 hW 9 0 (by decide) (by decide) rfl rfl (c_X9_open l G A n1 (by omega) hv15 _ h) ⟨⟨w_894, w_61, w_897⟩, pl_X9_open, ⟨Nat.le_of_ble_eq_true rfl, Nat.le_of_ble_eq_true rfl⟩, ⟨Nat.le_refl _, Nat.le_refl _⟩⟩ ⟨w_896, w_19⟩ rfl hl.1 rfl (Nat.le_of_ble_eq_true rfl) dX9_push_159) (fun hv17 h H locs hW hS => ?_)
      exact w_vret C0 hr hW hS h dX9_push_162
theorem pl_X9_push : yX9_push.cls ≠ "java/lang/invoke/MethodHandle" ∧ yX9_push.cls ≠ "java/lang/invoke/VarHandle" ∧ (parseMethodDescriptor yX9_push.desc).map (fun d => d.parameters.length) = some 3 := ⟨by decide +kernel, by decide +kernel, by decide +kernel⟩
def V_X9_push (n1 : Nat) (a2 : Int32) (a3 : Int32) (hv : HV) (post : HV → Prop) : Prop := (V_X9_leastSpace n1 hv (fun r1 hv1 => (∀ x2 : Int32, x2 = (((hv 15 0 (n1 + 11)) - r1) - (hv1 15 0 (n1 + 13))) → ((x2 ≤ a3 → (∀ hv4 : HV, hv4 = up hv1 15 0 (upd (hv1 15 0) (n1 + 13) ((hv1 15 0 (n1 + 13)) + x2)) → (∀ hv5 : HV, hv5 = up hv4 15 0 (upd (hv4 15 0) (n1 + 18) ((hv4 15 0 (n1 + 18)) + (a3 - x2))) → ((a2 < 0 → (V_X9_push_87 n1 a2 a3 post hv5)) ∧ (¬ (a2 < 0) → ((a3 ≤ x2 → (V_X9_push_87 n1 a2 a3 post hv5)) ∧ (¬ (a3 ≤ x2) → (V_X9_incident 2 a2 hv5 (fun hv19 => (V_X9_push_87 n1 a2 a3 post hv19)))))))))) ∧ (¬ (x2 ≤ a3) → (∀ hv20 : HV, hv20 = up hv1 15 0 (upd (hv1 15 0) (n1 + 13) ((hv1 15 0 (n1 + 13)) + a3)) → (∀ hv21 : HV, hv21 = up hv20 15 0 (upd (hv20 15 0) (n1 + 18) ((hv20 15 0 (n1 + 18)) + (a3 - a3))) → ((a2 < 0 → (V_X9_push_87 n1 a2 a3 post hv21)) ∧ (¬ (a2 < 0) → ((a3 ≤ a3 → (V_X9_push_87 n1 a2 a3 post hv21)) ∧ (¬ (a3 ≤ a3) → (V_X9_incident 2 a2 hv21 (fun hv24 => (V_X9_push_87 n1 a2 a3 post hv24))))))))))))))
set_option maxHeartbeats 4000000 in
theorem c_X9_push (l : Launch) (G : wG) (A : Nat → Prop) (n1 : Nat) (a2 : Int32) (a3 : Int32) (hn1 : n1 + 73 ≤ 370) (hv : HV) (post : HV → Prop) (h : V_X9_push n1 a2 a3 hv post) : wM l yX9_push cX9_push 8 ((Option.none : Option FieldType)) 1 G A hv [.ref (ad G 9 0), .int (nI n1), .int a2, .int a3] (qV G A post) := by
  refine wM_of (by decide +kernel) (Nat.le_of_ble_eq_true rfl) ?_
  intro p e s m args below meth c C0 hr ls hl hW hS
  have hx := C0.1
  have hb := C0.2.1
  have hown := C0.2.2.2.1
  have hts := C0.2.2.2.2.1
  have hl : lv_has ls 8 [(0, .ref (ad G 9 0)), (1, .int (nI n1)), (2, .int a2), (3, .int a3)] := hl
  unfold V_X9_push at h
  refine lv_aload_n hx hb dX9_push_0 rfl (lv_at hl 0 rfl) ?_
  refine w_get (v := .ref (ad G 15 0)) C0 hW 9 0 (by decide) (by decide) rfl rfl in_X9 0 (by decide) w_762 rfl dX9_push_1 ?_
  refine lv_iload_n hx hb dX9_push_4 rfl (lv_at hl 1 rfl) ?_
  refine lv_bipush (v := 11) hx hb dX9_push_5 (by decide) ?_
  refine lv_iadd hx hb dX9_push_7 ?_
  refine w_top (y := nI (n1 + 11)) (nI_add n1 11) ?_
  refine w_ialdN C0 hW 15 0 (by decide) (by decide) (n := 370) rfl (j := (n1 + 11)) rfl (by omega) (by decide) dX9_push_8 ?_
  refine lv_aload_n hx hb dX9_push_9 rfl (lv_at hl 0 rfl) ?_
  refine lv_iload_n hx hb dX9_push_10 rfl (lv_at hl 1 rfl) ?_
  refine w_ci hS (w_runV (As := [.int (nI n1)]) C0 hW 9 0 (by decide) (by decide) rfl rfl (c_X9_leastSpace l G A n1 (by omega) hv _ h) ⟨⟨w_947, w_61, w_950⟩, pl_X9_leastSpace, ⟨Nat.le_of_ble_eq_true rfl, Nat.le_of_ble_eq_true rfl⟩, ⟨Nat.le_refl _, Nat.le_refl _⟩⟩ ⟨w_949, w_30⟩ rfl hl.1 rfl (Nat.le_of_ble_eq_true rfl) dX9_push_11) (fun r1 hv1 h H locs hW hS => ?_)
  refine lv_isub hx hb dX9_push_14 ?_
  refine lv_aload_n hx hb dX9_push_15 rfl (lv_at hl 0 rfl) ?_
  refine w_get (v := .ref (ad G 15 0)) C0 hW 9 0 (by decide) (by decide) rfl rfl in_X9 0 (by decide) w_762 rfl dX9_push_16 ?_
  refine lv_iload_n hx hb dX9_push_19 rfl (lv_at hl 1 rfl) ?_
  refine lv_bipush (v := 13) hx hb dX9_push_20 (by decide) ?_
  refine lv_iadd hx hb dX9_push_22 ?_
  refine w_top (y := nI (n1 + 13)) (nI_add n1 13) ?_
  refine w_ialdN C0 hW 15 0 (by decide) (by decide) (n := 370) rfl (j := (n1 + 13)) rfl (by omega) (by decide) dX9_push_23 ?_
  refine lv_isub hx hb dX9_push_24 ?_
  refine lv_topi (fun x2 ex2 => ?_)
  have h := h x2 ex2
  refine lv_istore (lv' := [(4, .int x2), (0, .ref (ad G 9 0)), (1, .int (nI n1)), (2, .int a2), (3, .int a3)]) hx hb dX9_push_25 hl (by decide) rfl (fun ls hl => ?_)
  refine lv_iload_n hx hb dX9_push_27 rfl (lv_at hl 4 rfl) ?_
  refine lv_iload hx hb dX9_push_28 (lv_at hl 0 rfl) ?_
  refine lv_icmp_ge (tgt := 37) hx hb dX9_push_30 (by decide) (fun c3 => ?_) (fun c3 => ?_)
  · have h := h.1 c3
    refine lv_iload hx hb dX9_push_37 (lv_at hl 0 rfl) ?_
    refine lv_istore (lv' := [(5, .int x2), (4, .int x2), (0, .ref (ad G 9 0)), (1, .int (nI n1)), (2, .int a2), (3, .int a3)]) hx hb dX9_push_39 hl (by decide) rfl (fun ls hl => ?_)
    refine lv_aload_n hx hb dX9_push_41 rfl (lv_at hl 2 rfl) ?_
    refine w_get (v := .ref (ad G 15 0)) C0 hW 9 0 (by decide) (by decide) rfl rfl in_X9 0 (by decide) w_762 rfl dX9_push_42 ?_
    refine lv_iload_n hx hb dX9_push_45 rfl (lv_at hl 3 rfl) ?_
    refine lv_bipush (v := 13) hx hb dX9_push_46 (by decide) ?_
    refine lv_iadd hx hb dX9_push_48 ?_
    refine w_top (y := nI (n1 + 13)) (nI_add n1 13) ?_
    refine lv_dup2_11 hx hb dX9_push_49 rfl rfl ?_
    refine w_ialdN C0 hW 15 0 (by decide) (by decide) (n := 370) rfl (j := (n1 + 13)) rfl (by omega) (by decide) dX9_push_50 ?_
    refine lv_iload hx hb dX9_push_51 (lv_at hl 0 rfl) ?_
    refine lv_iadd hx hb dX9_push_53 ?_
    refine w_iastN C0 hW hS 15 0 (by decide) (by decide) (n := 370) (fun _ => rfl) (j := (n1 + 13)) rfl (by omega) (by decide) dX9_push_54 (fun hv4 ehv4 H locs hW hS => ?_)
    have h := h hv4 ehv4
    refine lv_aload_n hx hb dX9_push_55 rfl (lv_at hl 2 rfl) ?_
    refine w_get (v := .ref (ad G 15 0)) C0 hW 9 0 (by decide) (by decide) rfl rfl in_X9 0 (by decide) w_762 rfl dX9_push_56 ?_
    refine lv_iload_n hx hb dX9_push_59 rfl (lv_at hl 3 rfl) ?_
    refine lv_bipush (v := 18) hx hb dX9_push_60 (by decide) ?_
    refine lv_iadd hx hb dX9_push_62 ?_
    refine w_top (y := nI (n1 + 18)) (nI_add n1 18) ?_
    refine lv_dup2_11 hx hb dX9_push_63 rfl rfl ?_
    refine w_ialdN C0 hW 15 0 (by decide) (by decide) (n := 370) rfl (j := (n1 + 18)) rfl (by omega) (by decide) dX9_push_64 ?_
    refine lv_iload_n hx hb dX9_push_65 rfl (lv_at hl 5 rfl) ?_
    refine lv_iload hx hb dX9_push_66 (lv_at hl 0 rfl) ?_
    refine lv_isub hx hb dX9_push_68 ?_
    refine lv_iadd hx hb dX9_push_69 ?_
    refine w_iastN C0 hW hS 15 0 (by decide) (by decide) (n := 370) (fun _ => rfl) (j := (n1 + 18)) rfl (by omega) (by decide) dX9_push_70 (fun hv5 ehv5 H locs hW hS => ?_)
    have h := h hv5 ehv5
    refine lv_iload_n hx hb dX9_push_71 rfl (lv_at hl 4 rfl) ?_
    refine lv_if_lt (tgt := 87) hx hb dX9_push_72 (by decide) (fun c6 => ?_) (fun c6 => ?_)
    · have h := h.1 c6
      exact k_X9_push_87 n1 a2 a3 post C0 hr hn1 hv5 h _ _ _ hW hS (lv_sub hl [2, 3] rfl)
    · have h := h.2 c6
      refine lv_iload_n hx hb dX9_push_75 rfl (lv_at hl 5 rfl) ?_
      refine lv_iload hx hb dX9_push_76 (lv_at hl 0 rfl) ?_
      refine lv_icmp_le (tgt := 87) hx hb dX9_push_78 (by decide) (fun c18 => ?_) (fun c18 => ?_)
      · have h := h.1 c18
        exact k_X9_push_87 n1 a2 a3 post C0 hr hn1 hv5 h _ _ _ hW hS (lv_sub hl [2, 3] rfl)
      · have h := h.2 c18
        refine lv_aload_n hx hb dX9_push_81 rfl (lv_at hl 2 rfl) ?_
        refine lv_iconst (v := 2) hx hb dX9_push_82 (by decide) ?_
        refine lv_iload_n hx hb dX9_push_83 rfl (lv_at hl 4 rfl) ?_
        refine w_cv hS (w_runV (As := [.int 2, .int a2]) C0 hW 9 0 (by decide) (by decide) rfl rfl (c_X9_incident l G A 2 a2 hv5 _ h) ⟨⟨w_926, w_61, w_929⟩, pl_X9_incident, ⟨Nat.le_of_ble_eq_true rfl, Nat.le_of_ble_eq_true rfl⟩, ⟨Nat.le_refl _, Nat.le_refl _⟩⟩ ⟨w_928, w_25⟩ rfl hl.1 rfl (Nat.le_of_ble_eq_true rfl) dX9_push_84) (fun hv19 h H locs hW hS => ?_)
        exact k_X9_push_87 n1 a2 a3 post C0 hr hn1 hv19 h _ _ _ hW hS (lv_sub hl [2, 3] rfl)
  · have h := h.2 c3
    refine lv_iload_n hx hb dX9_push_33 rfl (lv_at hl 4 rfl) ?_
    refine lv_goto (tgt := 39) hx hb dX9_push_34 (by decide) ?_
    refine lv_istore (lv' := [(5, .int a3), (4, .int x2), (0, .ref (ad G 9 0)), (1, .int (nI n1)), (2, .int a2), (3, .int a3)]) hx hb dX9_push_39 hl (by decide) rfl (fun ls hl => ?_)
    refine lv_aload_n hx hb dX9_push_41 rfl (lv_at hl 2 rfl) ?_
    refine w_get (v := .ref (ad G 15 0)) C0 hW 9 0 (by decide) (by decide) rfl rfl in_X9 0 (by decide) w_762 rfl dX9_push_42 ?_
    refine lv_iload_n hx hb dX9_push_45 rfl (lv_at hl 3 rfl) ?_
    refine lv_bipush (v := 13) hx hb dX9_push_46 (by decide) ?_
    refine lv_iadd hx hb dX9_push_48 ?_
    refine w_top (y := nI (n1 + 13)) (nI_add n1 13) ?_
    refine lv_dup2_11 hx hb dX9_push_49 rfl rfl ?_
    refine w_ialdN C0 hW 15 0 (by decide) (by decide) (n := 370) rfl (j := (n1 + 13)) rfl (by omega) (by decide) dX9_push_50 ?_
    refine lv_iload hx hb dX9_push_51 (lv_at hl 0 rfl) ?_
    refine lv_iadd hx hb dX9_push_53 ?_
    refine w_iastN C0 hW hS 15 0 (by decide) (by decide) (n := 370) (fun _ => rfl) (j := (n1 + 13)) rfl (by omega) (by decide) dX9_push_54 (fun hv20 ehv20 H locs hW hS => ?_)
    have h := h hv20 ehv20
    refine lv_aload_n hx hb dX9_push_55 rfl (lv_at hl 2 rfl) ?_
    refine w_get (v := .ref (ad G 15 0)) C0 hW 9 0 (by decide) (by decide) rfl rfl in_X9 0 (by decide) w_762 rfl dX9_push_56 ?_
    refine lv_iload_n hx hb dX9_push_59 rfl (lv_at hl 3 rfl) ?_
    refine lv_bipush (v := 18) hx hb dX9_push_60 (by decide) ?_
    refine lv_iadd hx hb dX9_push_62 ?_
    refine w_top (y := nI (n1 + 18)) (nI_add n1 18) ?_
    refine lv_dup2_11 hx hb dX9_push_63 rfl rfl ?_
    refine w_ialdN C0 hW 15 0 (by decide) (by decide) (n := 370) rfl (j := (n1 + 18)) rfl (by omega) (by decide) dX9_push_64 ?_
    refine lv_iload_n hx hb dX9_push_65 rfl (lv_at hl 5 rfl) ?_
    refine lv_iload hx hb dX9_push_66 (lv_at hl 0 rfl) ?_
    refine lv_isub hx hb dX9_push_68 ?_
    refine lv_iadd hx hb dX9_push_69 ?_
    refine w_iastN C0 hW hS 15 0 (by decide) (by decide) (n := 370) (fun _ => rfl) (j := (n1 + 18)) rfl (by omega) (by decide) dX9_push_70 (fun hv21 ehv21 H locs hW hS => ?_)
    have h := h hv21 ehv21
    refine lv_iload_n hx hb dX9_push_71 rfl (lv_at hl 4 rfl) ?_
    refine lv_if_lt (tgt := 87) hx hb dX9_push_72 (by decide) (fun c22 => ?_) (fun c22 => ?_)
    · have h := h.1 c22
      exact k_X9_push_87 n1 a2 a3 post C0 hr hn1 hv21 h _ _ _ hW hS (lv_sub hl [2, 3] rfl)
    · have h := h.2 c22
      refine lv_iload_n hx hb dX9_push_75 rfl (lv_at hl 5 rfl) ?_
      refine lv_iload hx hb dX9_push_76 (lv_at hl 0 rfl) ?_
      refine lv_icmp_le (tgt := 87) hx hb dX9_push_78 (by decide) (fun c23 => ?_) (fun c23 => ?_)
      · have h := h.1 c23
        exact k_X9_push_87 n1 a2 a3 post C0 hr hn1 hv21 h _ _ _ hW hS (lv_sub hl [2, 3] rfl)
      · have h := h.2 c23
        refine lv_aload_n hx hb dX9_push_81 rfl (lv_at hl 2 rfl) ?_
        refine lv_iconst (v := 2) hx hb dX9_push_82 (by decide) ?_
        refine lv_iload_n hx hb dX9_push_83 rfl (lv_at hl 4 rfl) ?_
        refine w_cv hS (w_runV (As := [.int 2, .int a2]) C0 hW 9 0 (by decide) (by decide) rfl rfl (c_X9_incident l G A 2 a2 hv21 _ h) ⟨⟨w_926, w_61, w_929⟩, pl_X9_incident, ⟨Nat.le_of_ble_eq_true rfl, Nat.le_of_ble_eq_true rfl⟩, ⟨Nat.le_refl _, Nat.le_refl _⟩⟩ ⟨w_928, w_25⟩ rfl hl.1 rfl (Nat.le_of_ble_eq_true rfl) dX9_push_84) (fun hv24 h H locs hW hS => ?_)
        exact k_X9_push_87 n1 a2 a3 post C0 hr hn1 hv24 h _ _ _ hW hS (lv_sub hl [2, 3] rfl)

theorem pl_X9_deliver : yX9_deliver.cls ≠ "java/lang/invoke/MethodHandle" ∧ yX9_deliver.cls ≠ "java/lang/invoke/VarHandle" ∧ (parseMethodDescriptor yX9_deliver.desc).map (fun d => d.parameters.length) = some 2 := ⟨by decide +kernel, by decide +kernel, by decide +kernel⟩
def V_X9_deliver (n1 : Nat) (a2 : Int32) (hv : HV) (post : HV → Prop) : Prop := (V_X9_head n1 hv (fun r1 hv1 => (∀ x2 : Int32, x2 = (r1 - (hv1 15 0 (n1 + 4))) → ((0 < x2 → (∀ x4 : Int32, x4 = (1 + (x2 / 10)) → ((x4 ≤ (hv1 15 0 (n1 + 13)) → (∀ hv6 : HV, hv6 = up hv1 15 0 (upd (hv1 15 0) (n1 + 13) ((hv1 15 0 (n1 + 13)) - x4)) → (∀ hv7 : HV, hv7 = up hv6 15 0 (upd (hv6 15 0) (n1 + 19) ((hv6 15 0 (n1 + 19)) + x4)) → (∀ hv8 : HV, hv8 = up hv7 15 0 (upd (hv7 15 0) (n1 + 15) ((hv7 15 0 (n1 + 15)) + x4)) → (∀ hv9 : HV, hv9 = up hv8 9 0 (upd (hv8 9 0) 9 ((hv8 9 0 9) + x4)) → (((hv9 15 0 (n1 + 15)) ≤ 30000 → post hv9) ∧ (¬ ((hv9 15 0 (n1 + 15)) ≤ 30000) → (∀ hv11 : HV, hv11 = up hv9 15 0 (upd (hv9 15 0) (n1 + 20) ((hv9 15 0 (n1 + 20)) + ((hv9 15 0 (n1 + 15)) - 30000))) → (∀ hv12 : HV, hv12 = up hv11 15 0 (upd (hv11 15 0) (n1 + 15) 30000) → ((a2 < 0 → post hv12) ∧ (¬ (a2 < 0) → (V_X9_incident 3 a2 hv12 (fun hv14 => post hv14))))))))))))) ∧ (¬ (x4 ≤ (hv1 15 0 (n1 + 13))) → (∀ x15 : Int32, x15 = (hv1 15 0 (n1 + 13)) → (∀ hv16 : HV, hv16 = up hv1 15 0 (upd (hv1 15 0) (n1 + 13) ((hv1 15 0 (n1 + 13)) - x15)) → (∀ hv17 : HV, hv17 = up hv16 15 0 (upd (hv16 15 0) (n1 + 19) ((hv16 15 0 (n1 + 19)) + x15)) → (∀ hv18 : HV, hv18 = up hv17 15 0 (upd (hv17 15 0) (n1 + 15) ((hv17 15 0 (n1 + 15)) + x15)) → (∀ hv19 : HV, hv19 = up hv18 9 0 (upd (hv18 9 0) 9 ((hv18 9 0 9) + x15)) → (((hv19 15 0 (n1 + 15)) ≤ 30000 → post hv19) ∧ (¬ ((hv19 15 0 (n1 + 15)) ≤ 30000) → (∀ hv21 : HV, hv21 = up hv19 15 0 (upd (hv19 15 0) (n1 + 20) ((hv19 15 0 (n1 + 20)) + ((hv19 15 0 (n1 + 15)) - 30000))) → (∀ hv22 : HV, hv22 = up hv21 15 0 (upd (hv21 15 0) (n1 + 15) 30000) → ((a2 < 0 → post hv22) ∧ (¬ (a2 < 0) → (V_X9_incident 3 a2 hv22 (fun hv24 => post hv24))))))))))))))))) ∧ (¬ (0 < x2) → post hv1)))))
set_option maxHeartbeats 4000000 in
theorem c_X9_deliver (l : Launch) (G : wG) (A : Nat → Prop) (n1 : Nat) (a2 : Int32) (hn1 : n1 + 73 ≤ 370) (hv : HV) (post : HV → Prop) (h : V_X9_deliver n1 a2 hv post) : wM l yX9_deliver cX9_deliver 6 ((Option.none : Option FieldType)) 1 G A hv [.ref (ad G 9 0), .int (nI n1), .int a2] (qV G A post) := by
  refine wM_of (by decide +kernel) (Nat.le_of_ble_eq_true rfl) ?_
  intro p e s m args below meth c C0 hr ls hl hW hS
  have hx := C0.1
  have hb := C0.2.1
  have hown := C0.2.2.2.1
  have hts := C0.2.2.2.2.1
  have hl : lv_has ls 6 [(0, .ref (ad G 9 0)), (1, .int (nI n1)), (2, .int a2)] := hl
  unfold V_X9_deliver at h
  refine lv_aload_n hx hb dX9_deliver_0 rfl (lv_at hl 0 rfl) ?_
  refine lv_iload_n hx hb dX9_deliver_1 rfl (lv_at hl 1 rfl) ?_
  refine w_ci hS (w_runV (As := [.int (nI n1)]) C0 hW 9 0 (by decide) (by decide) rfl rfl (c_X9_head l G A n1 (by omega) hv _ h) ⟨⟨w_955, w_61, w_958⟩, pl_X9_head, ⟨Nat.le_of_ble_eq_true rfl, Nat.le_of_ble_eq_true rfl⟩, ⟨Nat.le_refl _, Nat.le_refl _⟩⟩ ⟨w_957, w_32⟩ rfl hl.1 rfl (Nat.le_of_ble_eq_true rfl) dX9_deliver_2) (fun r1 hv1 h H locs hW hS => ?_)
  refine lv_aload_n hx hb dX9_deliver_5 rfl (lv_at hl 0 rfl) ?_
  refine w_get (v := .ref (ad G 15 0)) C0 hW 9 0 (by decide) (by decide) rfl rfl in_X9 0 (by decide) w_762 rfl dX9_deliver_6 ?_
  refine lv_iload_n hx hb dX9_deliver_9 rfl (lv_at hl 1 rfl) ?_
  refine lv_iconst (v := 4) hx hb dX9_deliver_10 (by decide) ?_
  refine lv_iadd hx hb dX9_deliver_11 ?_
  refine w_top (y := nI (n1 + 4)) (nI_add n1 4) ?_
  refine w_ialdN C0 hW 15 0 (by decide) (by decide) (n := 370) rfl (j := (n1 + 4)) rfl (by omega) (by decide) dX9_deliver_12 ?_
  refine lv_isub hx hb dX9_deliver_13 ?_
  refine lv_topi (fun x2 ex2 => ?_)
  have h := h x2 ex2
  refine lv_istore_n (lv' := [(3, .int x2), (0, .ref (ad G 9 0)), (1, .int (nI n1)), (2, .int a2)]) hx hb dX9_deliver_14 rfl hl (by decide) rfl (fun ls hl => ?_)
  refine lv_iload_n hx hb dX9_deliver_15 rfl (lv_at hl 0 rfl) ?_
  refine lv_if_gt (tgt := 20) hx hb dX9_deliver_16 (by decide) (fun c3 => ?_) (fun c3 => ?_)
  · have h := h.1 c3
    refine lv_iconst (v := 1) hx hb dX9_deliver_20 (by decide) ?_
    refine lv_iload_n hx hb dX9_deliver_21 rfl (lv_at hl 0 rfl) ?_
    refine lv_bipush (v := 10) hx hb dX9_deliver_22 (by decide) ?_
    refine lv_idiv hx hb dX9_deliver_24 (by decide) ?_
    refine lv_iadd hx hb dX9_deliver_25 ?_
    refine lv_topi (fun x4 ex4 => ?_)
    have h := h x4 ex4
    refine lv_istore (lv' := [(4, .int x4), (3, .int x2), (0, .ref (ad G 9 0)), (1, .int (nI n1)), (2, .int a2)]) hx hb dX9_deliver_26 hl (by decide) rfl (fun ls hl => ?_)
    refine lv_aload_n hx hb dX9_deliver_28 rfl (lv_at hl 2 rfl) ?_
    refine w_get (v := .ref (ad G 15 0)) C0 hW 9 0 (by decide) (by decide) rfl rfl in_X9 0 (by decide) w_762 rfl dX9_deliver_29 ?_
    refine lv_iload_n hx hb dX9_deliver_32 rfl (lv_at hl 3 rfl) ?_
    refine lv_bipush (v := 13) hx hb dX9_deliver_33 (by decide) ?_
    refine lv_iadd hx hb dX9_deliver_35 ?_
    refine w_top (y := nI (n1 + 13)) (nI_add n1 13) ?_
    refine w_ialdN C0 hW 15 0 (by decide) (by decide) (n := 370) rfl (j := (n1 + 13)) rfl (by omega) (by decide) dX9_deliver_36 ?_
    refine lv_iload hx hb dX9_deliver_37 (lv_at hl 0 rfl) ?_
    refine lv_icmp_ge (tgt := 54) hx hb dX9_deliver_39 (by decide) (fun c5 => ?_) (fun c5 => ?_)
    · have h := h.1 c5
      refine lv_iload hx hb dX9_deliver_54 (lv_at hl 0 rfl) ?_
      refine lv_istore (lv' := [(5, .int x4), (4, .int x4), (3, .int x2), (0, .ref (ad G 9 0)), (1, .int (nI n1)), (2, .int a2)]) hx hb dX9_deliver_56 hl (by decide) rfl (fun ls hl => ?_)
      refine lv_aload_n hx hb dX9_deliver_58 rfl (lv_at hl 3 rfl) ?_
      refine w_get (v := .ref (ad G 15 0)) C0 hW 9 0 (by decide) (by decide) rfl rfl in_X9 0 (by decide) w_762 rfl dX9_deliver_59 ?_
      refine lv_iload_n hx hb dX9_deliver_62 rfl (lv_at hl 4 rfl) ?_
      refine lv_bipush (v := 13) hx hb dX9_deliver_63 (by decide) ?_
      refine lv_iadd hx hb dX9_deliver_65 ?_
      refine w_top (y := nI (n1 + 13)) (nI_add n1 13) ?_
      refine lv_dup2_11 hx hb dX9_deliver_66 rfl rfl ?_
      refine w_ialdN C0 hW 15 0 (by decide) (by decide) (n := 370) rfl (j := (n1 + 13)) rfl (by omega) (by decide) dX9_deliver_67 ?_
      refine lv_iload hx hb dX9_deliver_68 (lv_at hl 0 rfl) ?_
      refine lv_isub hx hb dX9_deliver_70 ?_
      refine w_iastN C0 hW hS 15 0 (by decide) (by decide) (n := 370) (fun _ => rfl) (j := (n1 + 13)) rfl (by omega) (by decide) dX9_deliver_71 (fun hv6 ehv6 H locs hW hS => ?_)
      have h := h hv6 ehv6
      refine lv_aload_n hx hb dX9_deliver_72 rfl (lv_at hl 3 rfl) ?_
      refine w_get (v := .ref (ad G 15 0)) C0 hW 9 0 (by decide) (by decide) rfl rfl in_X9 0 (by decide) w_762 rfl dX9_deliver_73 ?_
      refine lv_iload_n hx hb dX9_deliver_76 rfl (lv_at hl 4 rfl) ?_
      refine lv_bipush (v := 19) hx hb dX9_deliver_77 (by decide) ?_
      refine lv_iadd hx hb dX9_deliver_79 ?_
      refine w_top (y := nI (n1 + 19)) (nI_add n1 19) ?_
      refine lv_dup2_11 hx hb dX9_deliver_80 rfl rfl ?_
      refine w_ialdN C0 hW 15 0 (by decide) (by decide) (n := 370) rfl (j := (n1 + 19)) rfl (by omega) (by decide) dX9_deliver_81 ?_
      refine lv_iload hx hb dX9_deliver_82 (lv_at hl 0 rfl) ?_
      refine lv_iadd hx hb dX9_deliver_84 ?_
      refine w_iastN C0 hW hS 15 0 (by decide) (by decide) (n := 370) (fun _ => rfl) (j := (n1 + 19)) rfl (by omega) (by decide) dX9_deliver_85 (fun hv7 ehv7 H locs hW hS => ?_)
      have h := h hv7 ehv7
      refine lv_aload_n hx hb dX9_deliver_86 rfl (lv_at hl 3 rfl) ?_
      refine w_get (v := .ref (ad G 15 0)) C0 hW 9 0 (by decide) (by decide) rfl rfl in_X9 0 (by decide) w_762 rfl dX9_deliver_87 ?_
      refine lv_iload_n hx hb dX9_deliver_90 rfl (lv_at hl 4 rfl) ?_
      refine lv_bipush (v := 15) hx hb dX9_deliver_91 (by decide) ?_
      refine lv_iadd hx hb dX9_deliver_93 ?_
      refine w_top (y := nI (n1 + 15)) (nI_add n1 15) ?_
      refine lv_dup2_11 hx hb dX9_deliver_94 rfl rfl ?_
      refine w_ialdN C0 hW 15 0 (by decide) (by decide) (n := 370) rfl (j := (n1 + 15)) rfl (by omega) (by decide) dX9_deliver_95 ?_
      refine lv_iload hx hb dX9_deliver_96 (lv_at hl 0 rfl) ?_
      refine lv_iadd hx hb dX9_deliver_98 ?_
      refine w_iastN C0 hW hS 15 0 (by decide) (by decide) (n := 370) (fun _ => rfl) (j := (n1 + 15)) rfl (by omega) (by decide) dX9_deliver_99 (fun hv8 ehv8 H locs hW hS => ?_)
      have h := h hv8 ehv8
      refine lv_aload_n hx hb dX9_deliver_100 rfl (lv_at hl 3 rfl) ?_
      refine lv_dup hx hb dX9_deliver_101 rfl ?_
      refine w_get (v := .int (hv8 9 0 9)) C0 hW 9 0 (by decide) (by decide) rfl rfl in_X9 9 (by decide) w_771 rfl dX9_deliver_102 ?_
      refine lv_iload hx hb dX9_deliver_105 (lv_at hl 0 rfl) ?_
      refine lv_iadd hx hb dX9_deliver_107 ?_
      refine w_put (v := ((hv8 9 0 9) + x4)) C0 hW hS 9 0 (by decide) (by decide) rfl rfl in_X9 tyX9_ok nmX9 9 (by decide) w_771 rfl rfl rfl (Nat.le_of_ble_eq_true rfl) rfl dX9_deliver_108 (fun hv9 ehv9 H locs hW hS => ?_)
      have h := h hv9 ehv9
      refine lv_aload_n hx hb dX9_deliver_111 rfl (lv_at hl 3 rfl) ?_
      refine w_get (v := .ref (ad G 15 0)) C0 hW 9 0 (by decide) (by decide) rfl rfl in_X9 0 (by decide) w_762 rfl dX9_deliver_112 ?_
      refine lv_iload_n hx hb dX9_deliver_115 rfl (lv_at hl 4 rfl) ?_
      refine lv_bipush (v := 15) hx hb dX9_deliver_116 (by decide) ?_
      refine lv_iadd hx hb dX9_deliver_118 ?_
      refine w_top (y := nI (n1 + 15)) (nI_add n1 15) ?_
      refine w_ialdN C0 hW 15 0 (by decide) (by decide) (n := 370) rfl (j := (n1 + 15)) rfl (by omega) (by decide) dX9_deliver_119 ?_
      refine lv_sipush (v := 30000) hx hb dX9_deliver_120 (by decide) ?_
      refine lv_icmp_le (tgt := 173) hx hb dX9_deliver_123 (by decide) (fun c10 => ?_) (fun c10 => ?_)
      · have h := h.1 c10
        exact w_vret C0 hr hW hS h dX9_deliver_173
      · have h := h.2 c10
        refine lv_aload_n hx hb dX9_deliver_126 rfl (lv_at hl 3 rfl) ?_
        refine w_get (v := .ref (ad G 15 0)) C0 hW 9 0 (by decide) (by decide) rfl rfl in_X9 0 (by decide) w_762 rfl dX9_deliver_127 ?_
        refine lv_iload_n hx hb dX9_deliver_130 rfl (lv_at hl 4 rfl) ?_
        refine lv_bipush (v := 20) hx hb dX9_deliver_131 (by decide) ?_
        refine lv_iadd hx hb dX9_deliver_133 ?_
        refine w_top (y := nI (n1 + 20)) (nI_add n1 20) ?_
        refine lv_dup2_11 hx hb dX9_deliver_134 rfl rfl ?_
        refine w_ialdN C0 hW 15 0 (by decide) (by decide) (n := 370) rfl (j := (n1 + 20)) rfl (by omega) (by decide) dX9_deliver_135 ?_
        refine lv_aload_n hx hb dX9_deliver_136 rfl (lv_at hl 3 rfl) ?_
        refine w_get (v := .ref (ad G 15 0)) C0 hW 9 0 (by decide) (by decide) rfl rfl in_X9 0 (by decide) w_762 rfl dX9_deliver_137 ?_
        refine lv_iload_n hx hb dX9_deliver_140 rfl (lv_at hl 4 rfl) ?_
        refine lv_bipush (v := 15) hx hb dX9_deliver_141 (by decide) ?_
        refine lv_iadd hx hb dX9_deliver_143 ?_
        refine w_top (y := nI (n1 + 15)) (nI_add n1 15) ?_
        refine w_ialdN C0 hW 15 0 (by decide) (by decide) (n := 370) rfl (j := (n1 + 15)) rfl (by omega) (by decide) dX9_deliver_144 ?_
        refine lv_sipush (v := 30000) hx hb dX9_deliver_145 (by decide) ?_
        refine lv_isub hx hb dX9_deliver_148 ?_
        refine lv_iadd hx hb dX9_deliver_149 ?_
        refine w_iastN C0 hW hS 15 0 (by decide) (by decide) (n := 370) (fun _ => rfl) (j := (n1 + 20)) rfl (by omega) (by decide) dX9_deliver_150 (fun hv11 ehv11 H locs hW hS => ?_)
        have h := h hv11 ehv11
        refine lv_aload_n hx hb dX9_deliver_151 rfl (lv_at hl 3 rfl) ?_
        refine w_get (v := .ref (ad G 15 0)) C0 hW 9 0 (by decide) (by decide) rfl rfl in_X9 0 (by decide) w_762 rfl dX9_deliver_152 ?_
        refine lv_iload_n hx hb dX9_deliver_155 rfl (lv_at hl 4 rfl) ?_
        refine lv_bipush (v := 15) hx hb dX9_deliver_156 (by decide) ?_
        refine lv_iadd hx hb dX9_deliver_158 ?_
        refine w_top (y := nI (n1 + 15)) (nI_add n1 15) ?_
        refine lv_sipush (v := 30000) hx hb dX9_deliver_159 (by decide) ?_
        refine w_iastN C0 hW hS 15 0 (by decide) (by decide) (n := 370) (fun _ => rfl) (j := (n1 + 15)) rfl (by omega) (by decide) dX9_deliver_162 (fun hv12 ehv12 H locs hW hS => ?_)
        have h := h hv12 ehv12
        refine lv_iload_n hx hb dX9_deliver_163 rfl (lv_at hl 5 rfl) ?_
        refine lv_if_lt (tgt := 173) hx hb dX9_deliver_164 (by decide) (fun c13 => ?_) (fun c13 => ?_)
        · have h := h.1 c13
          exact w_vret C0 hr hW hS h dX9_deliver_173
        · have h := h.2 c13
          refine lv_aload_n hx hb dX9_deliver_167 rfl (lv_at hl 3 rfl) ?_
          refine lv_iconst (v := 3) hx hb dX9_deliver_168 (by decide) ?_
          refine lv_iload_n hx hb dX9_deliver_169 rfl (lv_at hl 5 rfl) ?_
          refine w_cv hS (w_runV (As := [.int 3, .int a2]) C0 hW 9 0 (by decide) (by decide) rfl rfl (c_X9_incident l G A 3 a2 hv12 _ h) ⟨⟨w_926, w_61, w_929⟩, pl_X9_incident, ⟨Nat.le_of_ble_eq_true rfl, Nat.le_of_ble_eq_true rfl⟩, ⟨Nat.le_refl _, Nat.le_refl _⟩⟩ ⟨w_928, w_25⟩ rfl hl.1 rfl (Nat.le_of_ble_eq_true rfl) dX9_deliver_170) (fun hv14 h H locs hW hS => ?_)
          exact w_vret C0 hr hW hS h dX9_deliver_173
    · have h := h.2 c5
      refine lv_aload_n hx hb dX9_deliver_42 rfl (lv_at hl 2 rfl) ?_
      refine w_get (v := .ref (ad G 15 0)) C0 hW 9 0 (by decide) (by decide) rfl rfl in_X9 0 (by decide) w_762 rfl dX9_deliver_43 ?_
      refine lv_iload_n hx hb dX9_deliver_46 rfl (lv_at hl 3 rfl) ?_
      refine lv_bipush (v := 13) hx hb dX9_deliver_47 (by decide) ?_
      refine lv_iadd hx hb dX9_deliver_49 ?_
      refine w_top (y := nI (n1 + 13)) (nI_add n1 13) ?_
      refine w_ialdN C0 hW 15 0 (by decide) (by decide) (n := 370) rfl (j := (n1 + 13)) rfl (by omega) (by decide) dX9_deliver_50 ?_
      refine lv_goto (tgt := 56) hx hb dX9_deliver_51 (by decide) ?_
      refine lv_topi (fun x15 ex15 => ?_)
      have h := h x15 ex15
      refine lv_istore (lv' := [(5, .int x15), (4, .int x4), (3, .int x2), (0, .ref (ad G 9 0)), (1, .int (nI n1)), (2, .int a2)]) hx hb dX9_deliver_56 hl (by decide) rfl (fun ls hl => ?_)
      refine lv_aload_n hx hb dX9_deliver_58 rfl (lv_at hl 3 rfl) ?_
      refine w_get (v := .ref (ad G 15 0)) C0 hW 9 0 (by decide) (by decide) rfl rfl in_X9 0 (by decide) w_762 rfl dX9_deliver_59 ?_
      refine lv_iload_n hx hb dX9_deliver_62 rfl (lv_at hl 4 rfl) ?_
      refine lv_bipush (v := 13) hx hb dX9_deliver_63 (by decide) ?_
      refine lv_iadd hx hb dX9_deliver_65 ?_
      refine w_top (y := nI (n1 + 13)) (nI_add n1 13) ?_
      refine lv_dup2_11 hx hb dX9_deliver_66 rfl rfl ?_
      refine w_ialdN C0 hW 15 0 (by decide) (by decide) (n := 370) rfl (j := (n1 + 13)) rfl (by omega) (by decide) dX9_deliver_67 ?_
      refine lv_iload hx hb dX9_deliver_68 (lv_at hl 0 rfl) ?_
      refine lv_isub hx hb dX9_deliver_70 ?_
      refine w_iastN C0 hW hS 15 0 (by decide) (by decide) (n := 370) (fun _ => rfl) (j := (n1 + 13)) rfl (by omega) (by decide) dX9_deliver_71 (fun hv16 ehv16 H locs hW hS => ?_)
      have h := h hv16 ehv16
      refine lv_aload_n hx hb dX9_deliver_72 rfl (lv_at hl 3 rfl) ?_
      refine w_get (v := .ref (ad G 15 0)) C0 hW 9 0 (by decide) (by decide) rfl rfl in_X9 0 (by decide) w_762 rfl dX9_deliver_73 ?_
      refine lv_iload_n hx hb dX9_deliver_76 rfl (lv_at hl 4 rfl) ?_
      refine lv_bipush (v := 19) hx hb dX9_deliver_77 (by decide) ?_
      refine lv_iadd hx hb dX9_deliver_79 ?_
      refine w_top (y := nI (n1 + 19)) (nI_add n1 19) ?_
      refine lv_dup2_11 hx hb dX9_deliver_80 rfl rfl ?_
      refine w_ialdN C0 hW 15 0 (by decide) (by decide) (n := 370) rfl (j := (n1 + 19)) rfl (by omega) (by decide) dX9_deliver_81 ?_
      refine lv_iload hx hb dX9_deliver_82 (lv_at hl 0 rfl) ?_
      refine lv_iadd hx hb dX9_deliver_84 ?_
      refine w_iastN C0 hW hS 15 0 (by decide) (by decide) (n := 370) (fun _ => rfl) (j := (n1 + 19)) rfl (by omega) (by decide) dX9_deliver_85 (fun hv17 ehv17 H locs hW hS => ?_)
      have h := h hv17 ehv17
      refine lv_aload_n hx hb dX9_deliver_86 rfl (lv_at hl 3 rfl) ?_
      refine w_get (v := .ref (ad G 15 0)) C0 hW 9 0 (by decide) (by decide) rfl rfl in_X9 0 (by decide) w_762 rfl dX9_deliver_87 ?_
      refine lv_iload_n hx hb dX9_deliver_90 rfl (lv_at hl 4 rfl) ?_
      refine lv_bipush (v := 15) hx hb dX9_deliver_91 (by decide) ?_
      refine lv_iadd hx hb dX9_deliver_93 ?_
      refine w_top (y := nI (n1 + 15)) (nI_add n1 15) ?_
      refine lv_dup2_11 hx hb dX9_deliver_94 rfl rfl ?_
      refine w_ialdN C0 hW 15 0 (by decide) (by decide) (n := 370) rfl (j := (n1 + 15)) rfl (by omega) (by decide) dX9_deliver_95 ?_
      refine lv_iload hx hb dX9_deliver_96 (lv_at hl 0 rfl) ?_
      refine lv_iadd hx hb dX9_deliver_98 ?_
      refine w_iastN C0 hW hS 15 0 (by decide) (by decide) (n := 370) (fun _ => rfl) (j := (n1 + 15)) rfl (by omega) (by decide) dX9_deliver_99 (fun hv18 ehv18 H locs hW hS => ?_)
      have h := h hv18 ehv18
      refine lv_aload_n hx hb dX9_deliver_100 rfl (lv_at hl 3 rfl) ?_
      refine lv_dup hx hb dX9_deliver_101 rfl ?_
      refine w_get (v := .int (hv18 9 0 9)) C0 hW 9 0 (by decide) (by decide) rfl rfl in_X9 9 (by decide) w_771 rfl dX9_deliver_102 ?_
      refine lv_iload hx hb dX9_deliver_105 (lv_at hl 0 rfl) ?_
      refine lv_iadd hx hb dX9_deliver_107 ?_
      refine w_put (v := ((hv18 9 0 9) + x15)) C0 hW hS 9 0 (by decide) (by decide) rfl rfl in_X9 tyX9_ok nmX9 9 (by decide) w_771 rfl rfl rfl (Nat.le_of_ble_eq_true rfl) rfl dX9_deliver_108 (fun hv19 ehv19 H locs hW hS => ?_)
      have h := h hv19 ehv19
      refine lv_aload_n hx hb dX9_deliver_111 rfl (lv_at hl 3 rfl) ?_
      refine w_get (v := .ref (ad G 15 0)) C0 hW 9 0 (by decide) (by decide) rfl rfl in_X9 0 (by decide) w_762 rfl dX9_deliver_112 ?_
      refine lv_iload_n hx hb dX9_deliver_115 rfl (lv_at hl 4 rfl) ?_
      refine lv_bipush (v := 15) hx hb dX9_deliver_116 (by decide) ?_
      refine lv_iadd hx hb dX9_deliver_118 ?_
      refine w_top (y := nI (n1 + 15)) (nI_add n1 15) ?_
      refine w_ialdN C0 hW 15 0 (by decide) (by decide) (n := 370) rfl (j := (n1 + 15)) rfl (by omega) (by decide) dX9_deliver_119 ?_
      refine lv_sipush (v := 30000) hx hb dX9_deliver_120 (by decide) ?_
      refine lv_icmp_le (tgt := 173) hx hb dX9_deliver_123 (by decide) (fun c20 => ?_) (fun c20 => ?_)
      · have h := h.1 c20
        exact w_vret C0 hr hW hS h dX9_deliver_173
      · have h := h.2 c20
        refine lv_aload_n hx hb dX9_deliver_126 rfl (lv_at hl 3 rfl) ?_
        refine w_get (v := .ref (ad G 15 0)) C0 hW 9 0 (by decide) (by decide) rfl rfl in_X9 0 (by decide) w_762 rfl dX9_deliver_127 ?_
        refine lv_iload_n hx hb dX9_deliver_130 rfl (lv_at hl 4 rfl) ?_
        refine lv_bipush (v := 20) hx hb dX9_deliver_131 (by decide) ?_
        refine lv_iadd hx hb dX9_deliver_133 ?_
        refine w_top (y := nI (n1 + 20)) (nI_add n1 20) ?_
        refine lv_dup2_11 hx hb dX9_deliver_134 rfl rfl ?_
        refine w_ialdN C0 hW 15 0 (by decide) (by decide) (n := 370) rfl (j := (n1 + 20)) rfl (by omega) (by decide) dX9_deliver_135 ?_
        refine lv_aload_n hx hb dX9_deliver_136 rfl (lv_at hl 3 rfl) ?_
        refine w_get (v := .ref (ad G 15 0)) C0 hW 9 0 (by decide) (by decide) rfl rfl in_X9 0 (by decide) w_762 rfl dX9_deliver_137 ?_
        refine lv_iload_n hx hb dX9_deliver_140 rfl (lv_at hl 4 rfl) ?_
        refine lv_bipush (v := 15) hx hb dX9_deliver_141 (by decide) ?_
        refine lv_iadd hx hb dX9_deliver_143 ?_
        refine w_top (y := nI (n1 + 15)) (nI_add n1 15) ?_
        refine w_ialdN C0 hW 15 0 (by decide) (by decide) (n := 370) rfl (j := (n1 + 15)) rfl (by omega) (by decide) dX9_deliver_144 ?_
        refine lv_sipush (v := 30000) hx hb dX9_deliver_145 (by decide) ?_
        refine lv_isub hx hb dX9_deliver_148 ?_
        refine lv_iadd hx hb dX9_deliver_149 ?_
        refine w_iastN C0 hW hS 15 0 (by decide) (by decide) (n := 370) (fun _ => rfl) (j := (n1 + 20)) rfl (by omega) (by decide) dX9_deliver_150 (fun hv21 ehv21 H locs hW hS => ?_)
        have h := h hv21 ehv21
        refine lv_aload_n hx hb dX9_deliver_151 rfl (lv_at hl 3 rfl) ?_
        refine w_get (v := .ref (ad G 15 0)) C0 hW 9 0 (by decide) (by decide) rfl rfl in_X9 0 (by decide) w_762 rfl dX9_deliver_152 ?_
        refine lv_iload_n hx hb dX9_deliver_155 rfl (lv_at hl 4 rfl) ?_
        refine lv_bipush (v := 15) hx hb dX9_deliver_156 (by decide) ?_
        refine lv_iadd hx hb dX9_deliver_158 ?_
        refine w_top (y := nI (n1 + 15)) (nI_add n1 15) ?_
        refine lv_sipush (v := 30000) hx hb dX9_deliver_159 (by decide) ?_
        refine w_iastN C0 hW hS 15 0 (by decide) (by decide) (n := 370) (fun _ => rfl) (j := (n1 + 15)) rfl (by omega) (by decide) dX9_deliver_162 (fun hv22 ehv22 H locs hW hS => ?_)
        have h := h hv22 ehv22
        refine lv_iload_n hx hb dX9_deliver_163 rfl (lv_at hl 5 rfl) ?_
        refine lv_if_lt (tgt := 173) hx hb dX9_deliver_164 (by decide) (fun c23 => ?_) (fun c23 => ?_)
        · have h := h.1 c23
          exact w_vret C0 hr hW hS h dX9_deliver_173
        · have h := h.2 c23
          refine lv_aload_n hx hb dX9_deliver_167 rfl (lv_at hl 3 rfl) ?_
          refine lv_iconst (v := 3) hx hb dX9_deliver_168 (by decide) ?_
          refine lv_iload_n hx hb dX9_deliver_169 rfl (lv_at hl 5 rfl) ?_
          refine w_cv hS (w_runV (As := [.int 3, .int a2]) C0 hW 9 0 (by decide) (by decide) rfl rfl (c_X9_incident l G A 3 a2 hv22 _ h) ⟨⟨w_926, w_61, w_929⟩, pl_X9_incident, ⟨Nat.le_of_ble_eq_true rfl, Nat.le_of_ble_eq_true rfl⟩, ⟨Nat.le_refl _, Nat.le_refl _⟩⟩ ⟨w_928, w_25⟩ rfl hl.1 rfl (Nat.le_of_ble_eq_true rfl) dX9_deliver_170) (fun hv24 h H locs hW hS => ?_)
          exact w_vret C0 hr hW hS h dX9_deliver_173
  · have h := h.2 c3
    exact w_vret C0 hr hW hS h dX9_deliver_19

def V_X9_tick_120 (n1 : Nat) (a2 : Int32) (post : HV → Prop)  (hv : HV) : Prop := (V_X9_deliver n1 a2 hv (fun hv8 => ((a2 < 0 → post hv8) ∧ (¬ (a2 < 0) → (V_X9_addTrace n1 hv8 (fun hv10 => post hv10))))))
set_option maxHeartbeats 4000000 in
theorem k_X9_tick_120 {p : Program} {l : Launch} {e : Env} {s : State} {m : MethodId} {args : Array Value} {below : List Frame} {meth : Method} {c : Code} {G : wG} {A : Nat → Prop} (n1 : Nat) (a2 : Int32) (post : HV → Prop) (C0 : cx p s m args meth c "RamStationModel" cX9_tick 4 G) (hr : meth.sig.returnType = (Option.none : Option FieldType)) (hn1 : n1 + 73 ≤ 370)  : ∀  (hv : HV), V_X9_tick_120 n1 a2 post  hv → ∀ (H : Heap) (locs : List Loc) (ls : Array Slot), wd G A hv H → va_S A s.heap H locs → lv_has ls 4 [(0, .ref (ad G 9 0)), (1, .int (nI n1)), (2, .int a2)] → W p l e (wrm 3) s m args below meth c H locs 0 0 (MQ below (qV G A post) args s 0 0 A) (F0 m 120 ls []) := by
  have hx := C0.1
  have hb := C0.2.1
  have hown := C0.2.2.2.1
  have hts := C0.2.2.2.2.1
  intro  hv  h H locs ls hW hS hl
  unfold V_X9_tick_120 at h
  refine lv_aload_n hx hb dX9_tick_120 rfl (lv_at hl 0 rfl) ?_
  refine lv_iload_n hx hb dX9_tick_121 rfl (lv_at hl 1 rfl) ?_
  refine lv_iload_n hx hb dX9_tick_122 rfl (lv_at hl 2 rfl) ?_
  refine w_cv hS (w_runV (As := [.int (nI n1), .int a2]) C0 hW 9 0 (by decide) (by decide) rfl rfl (c_X9_deliver l G A n1 a2 (by omega) hv _ h) ⟨⟨w_959, w_61, w_962⟩, pl_X9_deliver, ⟨Nat.le_of_ble_eq_true rfl, Nat.le_of_ble_eq_true rfl⟩, ⟨Nat.le_refl _, Nat.le_refl _⟩⟩ ⟨w_961, w_33⟩ rfl hl.1 rfl (Nat.le_of_ble_eq_true rfl) dX9_tick_123) (fun hv8 h H locs hW hS => ?_)
  refine lv_iload_n hx hb dX9_tick_126 rfl (lv_at hl 2 rfl) ?_
  refine lv_if_lt (tgt := 135) hx hb dX9_tick_127 (by decide) (fun c9 => ?_) (fun c9 => ?_)
  · have h := h.1 c9
    exact w_vret C0 hr hW hS h dX9_tick_135
  · have h := h.2 c9
    refine lv_aload_n hx hb dX9_tick_130 rfl (lv_at hl 0 rfl) ?_
    refine lv_iload_n hx hb dX9_tick_131 rfl (lv_at hl 1 rfl) ?_
    refine w_cv hS (w_runV (As := [.int (nI n1)]) C0 hW 9 0 (by decide) (by decide) rfl rfl (c_X9_addTrace l G A n1 (by omega) hv8 _ h) ⟨⟨w_963, w_61, w_966⟩, pl_X9_addTrace, ⟨Nat.le_of_ble_eq_true rfl, Nat.le_of_ble_eq_true rfl⟩, ⟨Nat.le_refl _, Nat.le_refl _⟩⟩ ⟨w_965, w_34⟩ rfl hl.1 rfl (Nat.le_of_ble_eq_true rfl) dX9_tick_132) (fun hv10 h H locs hW hS => ?_)
    exact w_vret C0 hr hW hS h dX9_tick_135
theorem pl_X9_tick : yX9_tick.cls ≠ "java/lang/invoke/MethodHandle" ∧ yX9_tick.cls ≠ "java/lang/invoke/VarHandle" ∧ (parseMethodDescriptor yX9_tick.desc).map (fun d => d.parameters.length) = some 2 := ⟨by decide +kernel, by decide +kernel, by decide +kernel⟩
def V_X9_tick (n1 : Nat) (a2 : Int32) (hv : HV) (post : HV → Prop) : Prop := (∀ x1 : Int32, x1 = (((hv 15 0 (n1 + 2)) * (hv 15 0 (n1 + 6))) / 10) → ((a2 < 0 → ((a2 < 0 → (∀ hv4 : HV, hv4 = up hv 15 0 (upd (hv 15 0) 0 ((hv 15 0 0) - 0)) → (∀ hv5 : HV, hv5 = up hv4 9 0 (upd (hv4 9 0) 8 ((hv4 9 0 8) + x1)) → (((hv5 15 0 (n1 + 7)) = 0 → (V_X9_gain n1 a2 x1 hv5 (fun hv11 => (V_X9_tick_120 n1 a2 post hv11)))) ∧ (¬ ((hv5 15 0 (n1 + 7)) = 0) → (V_X9_push n1 a2 x1 hv5 (fun hv7 => (V_X9_tick_120 n1 a2 post hv7)))))))) ∧ (¬ (a2 < 0) → (∀ hv12 : HV, hv12 = up hv 15 0 (upd (hv 15 0) 0 ((hv 15 0 0) - x1)) → (∀ hv13 : HV, hv13 = up hv12 9 0 (upd (hv12 9 0) 8 ((hv12 9 0 8) + x1)) → (((hv13 15 0 (n1 + 7)) = 0 → (V_X9_gain n1 a2 x1 hv13 (fun hv16 => (V_X9_tick_120 n1 a2 post hv16)))) ∧ (¬ ((hv13 15 0 (n1 + 7)) = 0) → (V_X9_push n1 a2 x1 hv13 (fun hv15 => (V_X9_tick_120 n1 a2 post hv15)))))))))) ∧ (¬ (a2 < 0) → ((x1 ≤ (hv 15 0 0) → ((a2 < 0 → (∀ hv19 : HV, hv19 = up hv 15 0 (upd (hv 15 0) 0 ((hv 15 0 0) - 0)) → (∀ hv20 : HV, hv20 = up hv19 9 0 (upd (hv19 9 0) 8 ((hv19 9 0 8) + x1)) → (((hv20 15 0 (n1 + 7)) = 0 → (V_X9_gain n1 a2 x1 hv20 (fun hv23 => (V_X9_tick_120 n1 a2 post hv23)))) ∧ (¬ ((hv20 15 0 (n1 + 7)) = 0) → (V_X9_push n1 a2 x1 hv20 (fun hv22 => (V_X9_tick_120 n1 a2 post hv22)))))))) ∧ (¬ (a2 < 0) → (∀ hv24 : HV, hv24 = up hv 15 0 (upd (hv 15 0) 0 ((hv 15 0 0) - x1)) → (∀ hv25 : HV, hv25 = up hv24 9 0 (upd (hv24 9 0) 8 ((hv24 9 0 8) + x1)) → (((hv25 15 0 (n1 + 7)) = 0 → (V_X9_gain n1 a2 x1 hv25 (fun hv28 => (V_X9_tick_120 n1 a2 post hv28)))) ∧ (¬ ((hv25 15 0 (n1 + 7)) = 0) → (V_X9_push n1 a2 x1 hv25 (fun hv27 => (V_X9_tick_120 n1 a2 post hv27)))))))))) ∧ (¬ (x1 ≤ (hv 15 0 0)) → (V_X9_open n1 hv (fun hv29 => (∀ hv30 : HV, hv30 = up hv29 15 0 (upd (hv29 15 0) (n1 + 21) ((hv29 15 0 (n1 + 21)) + 1)) → (V_X9_incident 1 a2 hv30 (fun hv31 => (V_X9_tick_120 n1 a2 post hv31)))))))))))
set_option maxHeartbeats 4000000 in
theorem c_X9_tick (l : Launch) (G : wG) (A : Nat → Prop) (n1 : Nat) (a2 : Int32) (hn1 : n1 + 73 ≤ 370) (hv : HV) (post : HV → Prop) (h : V_X9_tick n1 a2 hv post) : wM l yX9_tick cX9_tick 4 ((Option.none : Option FieldType)) 3 G A hv [.ref (ad G 9 0), .int (nI n1), .int a2] (qV G A post) := by
  refine wM_of (by decide +kernel) (Nat.le_of_ble_eq_true rfl) ?_
  intro p e s m args below meth c C0 hr ls hl hW hS
  have hx := C0.1
  have hb := C0.2.1
  have hown := C0.2.2.2.1
  have hts := C0.2.2.2.2.1
  have hl : lv_has ls 4 [(0, .ref (ad G 9 0)), (1, .int (nI n1)), (2, .int a2)] := hl
  unfold V_X9_tick at h
  refine lv_aload_n hx hb dX9_tick_0 rfl (lv_at hl 0 rfl) ?_
  refine w_get (v := .ref (ad G 15 0)) C0 hW 9 0 (by decide) (by decide) rfl rfl in_X9 0 (by decide) w_762 rfl dX9_tick_1 ?_
  refine lv_iload_n hx hb dX9_tick_4 rfl (lv_at hl 1 rfl) ?_
  refine lv_iconst (v := 2) hx hb dX9_tick_5 (by decide) ?_
  refine lv_iadd hx hb dX9_tick_6 ?_
  refine w_top (y := nI (n1 + 2)) (nI_add n1 2) ?_
  refine w_ialdN C0 hW 15 0 (by decide) (by decide) (n := 370) rfl (j := (n1 + 2)) rfl (by omega) (by decide) dX9_tick_7 ?_
  refine lv_aload_n hx hb dX9_tick_8 rfl (lv_at hl 0 rfl) ?_
  refine w_get (v := .ref (ad G 15 0)) C0 hW 9 0 (by decide) (by decide) rfl rfl in_X9 0 (by decide) w_762 rfl dX9_tick_9 ?_
  refine lv_iload_n hx hb dX9_tick_12 rfl (lv_at hl 1 rfl) ?_
  refine lv_bipush (v := 6) hx hb dX9_tick_13 (by decide) ?_
  refine lv_iadd hx hb dX9_tick_15 ?_
  refine w_top (y := nI (n1 + 6)) (nI_add n1 6) ?_
  refine w_ialdN C0 hW 15 0 (by decide) (by decide) (n := 370) rfl (j := (n1 + 6)) rfl (by omega) (by decide) dX9_tick_16 ?_
  refine lv_imul hx hb dX9_tick_17 ?_
  refine lv_bipush (v := 10) hx hb dX9_tick_18 (by decide) ?_
  refine lv_idiv hx hb dX9_tick_20 (by decide) ?_
  refine lv_topi (fun x1 ex1 => ?_)
  have h := h x1 ex1
  refine lv_istore_n (lv' := [(3, .int x1), (0, .ref (ad G 9 0)), (1, .int (nI n1)), (2, .int a2)]) hx hb dX9_tick_21 rfl hl (by decide) rfl (fun ls hl => ?_)
  refine lv_iload_n hx hb dX9_tick_22 rfl (lv_at hl 3 rfl) ?_
  refine lv_if_lt (tgt := 63) hx hb dX9_tick_23 (by decide) (fun c2 => ?_) (fun c2 => ?_)
  · have h := h.1 c2
    refine lv_aload_n hx hb dX9_tick_63 rfl (lv_at hl 1 rfl) ?_
    refine w_get (v := .ref (ad G 15 0)) C0 hW 9 0 (by decide) (by decide) rfl rfl in_X9 0 (by decide) w_762 rfl dX9_tick_64 ?_
    refine lv_iconst (v := 0) hx hb dX9_tick_67 (by decide) ?_
    refine lv_dup2_11 hx hb dX9_tick_68 rfl rfl ?_
    refine w_ialdN C0 hW 15 0 (by decide) (by decide) (n := 370) rfl (j := 0) rfl (by omega) (by decide) dX9_tick_69 ?_
    refine lv_iload_n hx hb dX9_tick_70 rfl (lv_at hl 3 rfl) ?_
    refine lv_if_lt (tgt := 78) hx hb dX9_tick_71 (by decide) (fun c3 => ?_) (fun c3 => ?_)
    · have h := h.1 c3
      refine lv_iconst (v := 0) hx hb dX9_tick_78 (by decide) ?_
      refine lv_isub hx hb dX9_tick_79 ?_
      refine w_iastN C0 hW hS 15 0 (by decide) (by decide) (n := 370) (fun _ => rfl) (j := 0) rfl (by omega) (by decide) dX9_tick_80 (fun hv4 ehv4 H locs hW hS => ?_)
      have h := h hv4 ehv4
      refine lv_aload_n hx hb dX9_tick_81 rfl (lv_at hl 1 rfl) ?_
      refine lv_dup hx hb dX9_tick_82 rfl ?_
      refine w_get (v := .int (hv4 9 0 8)) C0 hW 9 0 (by decide) (by decide) rfl rfl in_X9 8 (by decide) w_770 rfl dX9_tick_83 ?_
      refine lv_iload_n hx hb dX9_tick_86 rfl (lv_at hl 0 rfl) ?_
      refine lv_iadd hx hb dX9_tick_87 ?_
      refine w_put (v := ((hv4 9 0 8) + x1)) C0 hW hS 9 0 (by decide) (by decide) rfl rfl in_X9 tyX9_ok nmX9 8 (by decide) w_770 rfl rfl rfl (Nat.le_of_ble_eq_true rfl) rfl dX9_tick_88 (fun hv5 ehv5 H locs hW hS => ?_)
      have h := h hv5 ehv5
      refine lv_aload_n hx hb dX9_tick_91 rfl (lv_at hl 1 rfl) ?_
      refine w_get (v := .ref (ad G 15 0)) C0 hW 9 0 (by decide) (by decide) rfl rfl in_X9 0 (by decide) w_762 rfl dX9_tick_92 ?_
      refine lv_iload_n hx hb dX9_tick_95 rfl (lv_at hl 2 rfl) ?_
      refine lv_bipush (v := 7) hx hb dX9_tick_96 (by decide) ?_
      refine lv_iadd hx hb dX9_tick_98 ?_
      refine w_top (y := nI (n1 + 7)) (nI_add n1 7) ?_
      refine w_ialdN C0 hW 15 0 (by decide) (by decide) (n := 370) rfl (j := (n1 + 7)) rfl (by omega) (by decide) dX9_tick_99 ?_
      refine lv_if_ne (tgt := 113) hx hb dX9_tick_100 (by decide) (fun c6 => ?_) (fun c6 => ?_)
      · have h := h.2 c6
        refine lv_aload_n hx hb dX9_tick_113 rfl (lv_at hl 1 rfl) ?_
        refine lv_iload_n hx hb dX9_tick_114 rfl (lv_at hl 2 rfl) ?_
        refine lv_iload_n hx hb dX9_tick_115 rfl (lv_at hl 3 rfl) ?_
        refine lv_iload_n hx hb dX9_tick_116 rfl (lv_at hl 0 rfl) ?_
        refine w_cv hS (w_runV (As := [.int (nI n1), .int a2, .int x1]) C0 hW 9 0 (by decide) (by decide) rfl rfl (c_X9_push l G A n1 a2 x1 (by omega) hv5 _ h) ⟨⟨w_951, w_61, w_954⟩, pl_X9_push, ⟨Nat.le_of_ble_eq_true rfl, Nat.le_of_ble_eq_true rfl⟩, ⟨Nat.le_refl _, Nat.le_refl _⟩⟩ ⟨w_953, w_31⟩ rfl hl.1 rfl (Nat.le_of_ble_eq_true rfl) dX9_tick_117) (fun hv7 h H locs hW hS => ?_)
        exact k_X9_tick_120 n1 a2 post C0 hr hn1 hv7 h _ _ _ hW hS (lv_sub hl [1, 2, 3] rfl)
      · have h := h.1 c6
        refine lv_aload_n hx hb dX9_tick_103 rfl (lv_at hl 1 rfl) ?_
        refine lv_iload_n hx hb dX9_tick_104 rfl (lv_at hl 2 rfl) ?_
        refine lv_iload_n hx hb dX9_tick_105 rfl (lv_at hl 3 rfl) ?_
        refine lv_iload_n hx hb dX9_tick_106 rfl (lv_at hl 0 rfl) ?_
        refine w_cv hS (w_runV (As := [.int (nI n1), .int a2, .int x1]) C0 hW 9 0 (by decide) (by decide) rfl rfl (c_X9_gain l G A n1 a2 x1 (by omega) hv5 _ h) ⟨⟨w_930, w_61, w_933⟩, pl_X9_gain, ⟨Nat.le_of_ble_eq_true rfl, Nat.le_of_ble_eq_true rfl⟩, ⟨Nat.le_refl _, Nat.le_refl _⟩⟩ ⟨w_932, w_26⟩ rfl hl.1 rfl (Nat.le_of_ble_eq_true rfl) dX9_tick_107) (fun hv11 h H locs hW hS => ?_)
        refine lv_goto (tgt := 120) hx hb dX9_tick_110 (by decide) ?_
        exact k_X9_tick_120 n1 a2 post C0 hr hn1 hv11 h _ _ _ hW hS (lv_sub hl [1, 2, 3] rfl)
    · have h := h.2 c3
      refine lv_iload_n hx hb dX9_tick_74 rfl (lv_at hl 0 rfl) ?_
      refine lv_goto (tgt := 79) hx hb dX9_tick_75 (by decide) ?_
      refine lv_isub hx hb dX9_tick_79 ?_
      refine w_iastN C0 hW hS 15 0 (by decide) (by decide) (n := 370) (fun _ => rfl) (j := 0) rfl (by omega) (by decide) dX9_tick_80 (fun hv12 ehv12 H locs hW hS => ?_)
      have h := h hv12 ehv12
      refine lv_aload_n hx hb dX9_tick_81 rfl (lv_at hl 1 rfl) ?_
      refine lv_dup hx hb dX9_tick_82 rfl ?_
      refine w_get (v := .int (hv12 9 0 8)) C0 hW 9 0 (by decide) (by decide) rfl rfl in_X9 8 (by decide) w_770 rfl dX9_tick_83 ?_
      refine lv_iload_n hx hb dX9_tick_86 rfl (lv_at hl 0 rfl) ?_
      refine lv_iadd hx hb dX9_tick_87 ?_
      refine w_put (v := ((hv12 9 0 8) + x1)) C0 hW hS 9 0 (by decide) (by decide) rfl rfl in_X9 tyX9_ok nmX9 8 (by decide) w_770 rfl rfl rfl (Nat.le_of_ble_eq_true rfl) rfl dX9_tick_88 (fun hv13 ehv13 H locs hW hS => ?_)
      have h := h hv13 ehv13
      refine lv_aload_n hx hb dX9_tick_91 rfl (lv_at hl 1 rfl) ?_
      refine w_get (v := .ref (ad G 15 0)) C0 hW 9 0 (by decide) (by decide) rfl rfl in_X9 0 (by decide) w_762 rfl dX9_tick_92 ?_
      refine lv_iload_n hx hb dX9_tick_95 rfl (lv_at hl 2 rfl) ?_
      refine lv_bipush (v := 7) hx hb dX9_tick_96 (by decide) ?_
      refine lv_iadd hx hb dX9_tick_98 ?_
      refine w_top (y := nI (n1 + 7)) (nI_add n1 7) ?_
      refine w_ialdN C0 hW 15 0 (by decide) (by decide) (n := 370) rfl (j := (n1 + 7)) rfl (by omega) (by decide) dX9_tick_99 ?_
      refine lv_if_ne (tgt := 113) hx hb dX9_tick_100 (by decide) (fun c14 => ?_) (fun c14 => ?_)
      · have h := h.2 c14
        refine lv_aload_n hx hb dX9_tick_113 rfl (lv_at hl 1 rfl) ?_
        refine lv_iload_n hx hb dX9_tick_114 rfl (lv_at hl 2 rfl) ?_
        refine lv_iload_n hx hb dX9_tick_115 rfl (lv_at hl 3 rfl) ?_
        refine lv_iload_n hx hb dX9_tick_116 rfl (lv_at hl 0 rfl) ?_
        refine w_cv hS (w_runV (As := [.int (nI n1), .int a2, .int x1]) C0 hW 9 0 (by decide) (by decide) rfl rfl (c_X9_push l G A n1 a2 x1 (by omega) hv13 _ h) ⟨⟨w_951, w_61, w_954⟩, pl_X9_push, ⟨Nat.le_of_ble_eq_true rfl, Nat.le_of_ble_eq_true rfl⟩, ⟨Nat.le_refl _, Nat.le_refl _⟩⟩ ⟨w_953, w_31⟩ rfl hl.1 rfl (Nat.le_of_ble_eq_true rfl) dX9_tick_117) (fun hv15 h H locs hW hS => ?_)
        exact k_X9_tick_120 n1 a2 post C0 hr hn1 hv15 h _ _ _ hW hS (lv_sub hl [1, 2, 3] rfl)
      · have h := h.1 c14
        refine lv_aload_n hx hb dX9_tick_103 rfl (lv_at hl 1 rfl) ?_
        refine lv_iload_n hx hb dX9_tick_104 rfl (lv_at hl 2 rfl) ?_
        refine lv_iload_n hx hb dX9_tick_105 rfl (lv_at hl 3 rfl) ?_
        refine lv_iload_n hx hb dX9_tick_106 rfl (lv_at hl 0 rfl) ?_
        refine w_cv hS (w_runV (As := [.int (nI n1), .int a2, .int x1]) C0 hW 9 0 (by decide) (by decide) rfl rfl (c_X9_gain l G A n1 a2 x1 (by omega) hv13 _ h) ⟨⟨w_930, w_61, w_933⟩, pl_X9_gain, ⟨Nat.le_of_ble_eq_true rfl, Nat.le_of_ble_eq_true rfl⟩, ⟨Nat.le_refl _, Nat.le_refl _⟩⟩ ⟨w_932, w_26⟩ rfl hl.1 rfl (Nat.le_of_ble_eq_true rfl) dX9_tick_107) (fun hv16 h H locs hW hS => ?_)
        refine lv_goto (tgt := 120) hx hb dX9_tick_110 (by decide) ?_
        exact k_X9_tick_120 n1 a2 post C0 hr hn1 hv16 h _ _ _ hW hS (lv_sub hl [1, 2, 3] rfl)
  · have h := h.2 c2
    refine lv_iload_n hx hb dX9_tick_26 rfl (lv_at hl 0 rfl) ?_
    refine lv_aload_n hx hb dX9_tick_27 rfl (lv_at hl 1 rfl) ?_
    refine w_get (v := .ref (ad G 15 0)) C0 hW 9 0 (by decide) (by decide) rfl rfl in_X9 0 (by decide) w_762 rfl dX9_tick_28 ?_
    refine lv_iconst (v := 0) hx hb dX9_tick_31 (by decide) ?_
    refine w_ialdN C0 hW 15 0 (by decide) (by decide) (n := 370) rfl (j := 0) rfl (by omega) (by decide) dX9_tick_32 ?_
    refine lv_icmp_le (tgt := 63) hx hb dX9_tick_33 (by decide) (fun c17 => ?_) (fun c17 => ?_)
    · have h := h.1 c17
      refine lv_aload_n hx hb dX9_tick_63 rfl (lv_at hl 1 rfl) ?_
      refine w_get (v := .ref (ad G 15 0)) C0 hW 9 0 (by decide) (by decide) rfl rfl in_X9 0 (by decide) w_762 rfl dX9_tick_64 ?_
      refine lv_iconst (v := 0) hx hb dX9_tick_67 (by decide) ?_
      refine lv_dup2_11 hx hb dX9_tick_68 rfl rfl ?_
      refine w_ialdN C0 hW 15 0 (by decide) (by decide) (n := 370) rfl (j := 0) rfl (by omega) (by decide) dX9_tick_69 ?_
      refine lv_iload_n hx hb dX9_tick_70 rfl (lv_at hl 3 rfl) ?_
      refine lv_if_lt (tgt := 78) hx hb dX9_tick_71 (by decide) (fun c18 => ?_) (fun c18 => ?_)
      · have h := h.1 c18
        refine lv_iconst (v := 0) hx hb dX9_tick_78 (by decide) ?_
        refine lv_isub hx hb dX9_tick_79 ?_
        refine w_iastN C0 hW hS 15 0 (by decide) (by decide) (n := 370) (fun _ => rfl) (j := 0) rfl (by omega) (by decide) dX9_tick_80 (fun hv19 ehv19 H locs hW hS => ?_)
        have h := h hv19 ehv19
        refine lv_aload_n hx hb dX9_tick_81 rfl (lv_at hl 1 rfl) ?_
        refine lv_dup hx hb dX9_tick_82 rfl ?_
        refine w_get (v := .int (hv19 9 0 8)) C0 hW 9 0 (by decide) (by decide) rfl rfl in_X9 8 (by decide) w_770 rfl dX9_tick_83 ?_
        refine lv_iload_n hx hb dX9_tick_86 rfl (lv_at hl 0 rfl) ?_
        refine lv_iadd hx hb dX9_tick_87 ?_
        refine w_put (v := ((hv19 9 0 8) + x1)) C0 hW hS 9 0 (by decide) (by decide) rfl rfl in_X9 tyX9_ok nmX9 8 (by decide) w_770 rfl rfl rfl (Nat.le_of_ble_eq_true rfl) rfl dX9_tick_88 (fun hv20 ehv20 H locs hW hS => ?_)
        have h := h hv20 ehv20
        refine lv_aload_n hx hb dX9_tick_91 rfl (lv_at hl 1 rfl) ?_
        refine w_get (v := .ref (ad G 15 0)) C0 hW 9 0 (by decide) (by decide) rfl rfl in_X9 0 (by decide) w_762 rfl dX9_tick_92 ?_
        refine lv_iload_n hx hb dX9_tick_95 rfl (lv_at hl 2 rfl) ?_
        refine lv_bipush (v := 7) hx hb dX9_tick_96 (by decide) ?_
        refine lv_iadd hx hb dX9_tick_98 ?_
        refine w_top (y := nI (n1 + 7)) (nI_add n1 7) ?_
        refine w_ialdN C0 hW 15 0 (by decide) (by decide) (n := 370) rfl (j := (n1 + 7)) rfl (by omega) (by decide) dX9_tick_99 ?_
        refine lv_if_ne (tgt := 113) hx hb dX9_tick_100 (by decide) (fun c21 => ?_) (fun c21 => ?_)
        · have h := h.2 c21
          refine lv_aload_n hx hb dX9_tick_113 rfl (lv_at hl 1 rfl) ?_
          refine lv_iload_n hx hb dX9_tick_114 rfl (lv_at hl 2 rfl) ?_
          refine lv_iload_n hx hb dX9_tick_115 rfl (lv_at hl 3 rfl) ?_
          refine lv_iload_n hx hb dX9_tick_116 rfl (lv_at hl 0 rfl) ?_
          refine w_cv hS (w_runV (As := [.int (nI n1), .int a2, .int x1]) C0 hW 9 0 (by decide) (by decide) rfl rfl (c_X9_push l G A n1 a2 x1 (by omega) hv20 _ h) ⟨⟨w_951, w_61, w_954⟩, pl_X9_push, ⟨Nat.le_of_ble_eq_true rfl, Nat.le_of_ble_eq_true rfl⟩, ⟨Nat.le_refl _, Nat.le_refl _⟩⟩ ⟨w_953, w_31⟩ rfl hl.1 rfl (Nat.le_of_ble_eq_true rfl) dX9_tick_117) (fun hv22 h H locs hW hS => ?_)
          exact k_X9_tick_120 n1 a2 post C0 hr hn1 hv22 h _ _ _ hW hS (lv_sub hl [1, 2, 3] rfl)
        · have h := h.1 c21
          refine lv_aload_n hx hb dX9_tick_103 rfl (lv_at hl 1 rfl) ?_
          refine lv_iload_n hx hb dX9_tick_104 rfl (lv_at hl 2 rfl) ?_
          refine lv_iload_n hx hb dX9_tick_105 rfl (lv_at hl 3 rfl) ?_
          refine lv_iload_n hx hb dX9_tick_106 rfl (lv_at hl 0 rfl) ?_
          refine w_cv hS (w_runV (As := [.int (nI n1), .int a2, .int x1]) C0 hW 9 0 (by decide) (by decide) rfl rfl (c_X9_gain l G A n1 a2 x1 (by omega) hv20 _ h) ⟨⟨w_930, w_61, w_933⟩, pl_X9_gain, ⟨Nat.le_of_ble_eq_true rfl, Nat.le_of_ble_eq_true rfl⟩, ⟨Nat.le_refl _, Nat.le_refl _⟩⟩ ⟨w_932, w_26⟩ rfl hl.1 rfl (Nat.le_of_ble_eq_true rfl) dX9_tick_107) (fun hv23 h H locs hW hS => ?_)
          refine lv_goto (tgt := 120) hx hb dX9_tick_110 (by decide) ?_
          exact k_X9_tick_120 n1 a2 post C0 hr hn1 hv23 h _ _ _ hW hS (lv_sub hl [1, 2, 3] rfl)
      · have h := h.2 c18
        refine lv_iload_n hx hb dX9_tick_74 rfl (lv_at hl 0 rfl) ?_
        refine lv_goto (tgt := 79) hx hb dX9_tick_75 (by decide) ?_
        refine lv_isub hx hb dX9_tick_79 ?_
        refine w_iastN C0 hW hS 15 0 (by decide) (by decide) (n := 370) (fun _ => rfl) (j := 0) rfl (by omega) (by decide) dX9_tick_80 (fun hv24 ehv24 H locs hW hS => ?_)
        have h := h hv24 ehv24
        refine lv_aload_n hx hb dX9_tick_81 rfl (lv_at hl 1 rfl) ?_
        refine lv_dup hx hb dX9_tick_82 rfl ?_
        refine w_get (v := .int (hv24 9 0 8)) C0 hW 9 0 (by decide) (by decide) rfl rfl in_X9 8 (by decide) w_770 rfl dX9_tick_83 ?_
        refine lv_iload_n hx hb dX9_tick_86 rfl (lv_at hl 0 rfl) ?_
        refine lv_iadd hx hb dX9_tick_87 ?_
        refine w_put (v := ((hv24 9 0 8) + x1)) C0 hW hS 9 0 (by decide) (by decide) rfl rfl in_X9 tyX9_ok nmX9 8 (by decide) w_770 rfl rfl rfl (Nat.le_of_ble_eq_true rfl) rfl dX9_tick_88 (fun hv25 ehv25 H locs hW hS => ?_)
        have h := h hv25 ehv25
        refine lv_aload_n hx hb dX9_tick_91 rfl (lv_at hl 1 rfl) ?_
        refine w_get (v := .ref (ad G 15 0)) C0 hW 9 0 (by decide) (by decide) rfl rfl in_X9 0 (by decide) w_762 rfl dX9_tick_92 ?_
        refine lv_iload_n hx hb dX9_tick_95 rfl (lv_at hl 2 rfl) ?_
        refine lv_bipush (v := 7) hx hb dX9_tick_96 (by decide) ?_
        refine lv_iadd hx hb dX9_tick_98 ?_
        refine w_top (y := nI (n1 + 7)) (nI_add n1 7) ?_
        refine w_ialdN C0 hW 15 0 (by decide) (by decide) (n := 370) rfl (j := (n1 + 7)) rfl (by omega) (by decide) dX9_tick_99 ?_
        refine lv_if_ne (tgt := 113) hx hb dX9_tick_100 (by decide) (fun c26 => ?_) (fun c26 => ?_)
        · have h := h.2 c26
          refine lv_aload_n hx hb dX9_tick_113 rfl (lv_at hl 1 rfl) ?_
          refine lv_iload_n hx hb dX9_tick_114 rfl (lv_at hl 2 rfl) ?_
          refine lv_iload_n hx hb dX9_tick_115 rfl (lv_at hl 3 rfl) ?_
          refine lv_iload_n hx hb dX9_tick_116 rfl (lv_at hl 0 rfl) ?_
          refine w_cv hS (w_runV (As := [.int (nI n1), .int a2, .int x1]) C0 hW 9 0 (by decide) (by decide) rfl rfl (c_X9_push l G A n1 a2 x1 (by omega) hv25 _ h) ⟨⟨w_951, w_61, w_954⟩, pl_X9_push, ⟨Nat.le_of_ble_eq_true rfl, Nat.le_of_ble_eq_true rfl⟩, ⟨Nat.le_refl _, Nat.le_refl _⟩⟩ ⟨w_953, w_31⟩ rfl hl.1 rfl (Nat.le_of_ble_eq_true rfl) dX9_tick_117) (fun hv27 h H locs hW hS => ?_)
          exact k_X9_tick_120 n1 a2 post C0 hr hn1 hv27 h _ _ _ hW hS (lv_sub hl [1, 2, 3] rfl)
        · have h := h.1 c26
          refine lv_aload_n hx hb dX9_tick_103 rfl (lv_at hl 1 rfl) ?_
          refine lv_iload_n hx hb dX9_tick_104 rfl (lv_at hl 2 rfl) ?_
          refine lv_iload_n hx hb dX9_tick_105 rfl (lv_at hl 3 rfl) ?_
          refine lv_iload_n hx hb dX9_tick_106 rfl (lv_at hl 0 rfl) ?_
          refine w_cv hS (w_runV (As := [.int (nI n1), .int a2, .int x1]) C0 hW 9 0 (by decide) (by decide) rfl rfl (c_X9_gain l G A n1 a2 x1 (by omega) hv25 _ h) ⟨⟨w_930, w_61, w_933⟩, pl_X9_gain, ⟨Nat.le_of_ble_eq_true rfl, Nat.le_of_ble_eq_true rfl⟩, ⟨Nat.le_refl _, Nat.le_refl _⟩⟩ ⟨w_932, w_26⟩ rfl hl.1 rfl (Nat.le_of_ble_eq_true rfl) dX9_tick_107) (fun hv28 h H locs hW hS => ?_)
          refine lv_goto (tgt := 120) hx hb dX9_tick_110 (by decide) ?_
          exact k_X9_tick_120 n1 a2 post C0 hr hn1 hv28 h _ _ _ hW hS (lv_sub hl [1, 2, 3] rfl)
    · have h := h.2 c17
      refine lv_aload_n hx hb dX9_tick_36 rfl (lv_at hl 1 rfl) ?_
      refine lv_iload_n hx hb dX9_tick_37 rfl (lv_at hl 2 rfl) ?_
      refine w_cv hS (w_runV (As := [.int (nI n1)]) C0 hW 9 0 (by decide) (by decide) rfl rfl (c_X9_open l G A n1 (by omega) hv _ h) ⟨⟨w_894, w_61, w_897⟩, pl_X9_open, ⟨Nat.le_of_ble_eq_true rfl, Nat.le_of_ble_eq_true rfl⟩, ⟨Nat.le_refl _, Nat.le_refl _⟩⟩ ⟨w_896, w_19⟩ rfl hl.1 rfl (Nat.le_of_ble_eq_true rfl) dX9_tick_38) (fun hv29 h H locs hW hS => ?_)
      refine lv_aload_n hx hb dX9_tick_41 rfl (lv_at hl 1 rfl) ?_
      refine w_get (v := .ref (ad G 15 0)) C0 hW 9 0 (by decide) (by decide) rfl rfl in_X9 0 (by decide) w_762 rfl dX9_tick_42 ?_
      refine lv_iload_n hx hb dX9_tick_45 rfl (lv_at hl 2 rfl) ?_
      refine lv_bipush (v := 21) hx hb dX9_tick_46 (by decide) ?_
      refine lv_iadd hx hb dX9_tick_48 ?_
      refine w_top (y := nI (n1 + 21)) (nI_add n1 21) ?_
      refine lv_dup2_11 hx hb dX9_tick_49 rfl rfl ?_
      refine w_ialdN C0 hW 15 0 (by decide) (by decide) (n := 370) rfl (j := (n1 + 21)) rfl (by omega) (by decide) dX9_tick_50 ?_
      refine lv_iconst (v := 1) hx hb dX9_tick_51 (by decide) ?_
      refine lv_iadd hx hb dX9_tick_52 ?_
      refine w_iastN C0 hW hS 15 0 (by decide) (by decide) (n := 370) (fun _ => rfl) (j := (n1 + 21)) rfl (by omega) (by decide) dX9_tick_53 (fun hv30 ehv30 H locs hW hS => ?_)
      have h := h hv30 ehv30
      refine lv_aload_n hx hb dX9_tick_54 rfl (lv_at hl 1 rfl) ?_
      refine lv_iconst (v := 1) hx hb dX9_tick_55 (by decide) ?_
      refine lv_iload_n hx hb dX9_tick_56 rfl (lv_at hl 3 rfl) ?_
      refine w_cv hS (w_runV (As := [.int 1, .int a2]) C0 hW 9 0 (by decide) (by decide) rfl rfl (c_X9_incident l G A 1 a2 hv30 _ h) ⟨⟨w_926, w_61, w_929⟩, pl_X9_incident, ⟨Nat.le_of_ble_eq_true rfl, Nat.le_of_ble_eq_true rfl⟩, ⟨Nat.le_refl _, Nat.le_refl _⟩⟩ ⟨w_928, w_25⟩ rfl hl.1 rfl (Nat.le_of_ble_eq_true rfl) dX9_tick_57) (fun hv31 h H locs hW hS => ?_)
      refine lv_goto (tgt := 120) hx hb dX9_tick_60 (by decide) ?_
      exact k_X9_tick_120 n1 a2 post C0 hr hn1 hv31 h _ _ _ hW hS (lv_sub hl [1, 2, 3] rfl)

theorem pl_X9_fill : yX9_fill.cls ≠ "java/lang/invoke/MethodHandle" ∧ yX9_fill.cls ≠ "java/lang/invoke/VarHandle" ∧ (parseMethodDescriptor yX9_fill.desc).map (fun d => d.parameters.length) = some 1 := ⟨by decide +kernel, by decide +kernel, by decide +kernel⟩
def V_X9_fill (a1 : Int32) (hv : HV) (post : HV → Prop) : Prop := (∀ hv1 : HV, hv1 = up hv 15 0 (upd (hv 15 0) 0 ((hv 15 0 0) + a1)) → (((hv1 15 0 0) ≤ 20000 → post hv1) ∧ (¬ ((hv1 15 0 0) ≤ 20000) → (∀ hv3 : HV, hv3 = up hv1 15 0 (upd (hv1 15 0) 3 ((hv1 15 0 3) + ((hv1 15 0 0) - 20000))) → (∀ hv4 : HV, hv4 = up hv3 15 0 (upd (hv3 15 0) 0 20000) → post hv4)))))
set_option maxHeartbeats 4000000 in
theorem c_X9_fill (l : Launch) (G : wG) (A : Nat → Prop) (a1 : Int32) (hv : HV) (post : HV → Prop) (h : V_X9_fill a1 hv post) : wM l yX9_fill cX9_fill 2 ((Option.none : Option FieldType)) 0 G A hv [.ref (ad G 9 0), .int a1] (qV G A post) := by
  refine wM_of (by decide +kernel) (Nat.le_of_ble_eq_true rfl) ?_
  intro p e s m args below meth c C0 hr ls hl hW hS
  have hx := C0.1
  have hb := C0.2.1
  have hown := C0.2.2.2.1
  have hts := C0.2.2.2.2.1
  have hl : lv_has ls 2 [(0, .ref (ad G 9 0)), (1, .int a1)] := hl
  unfold V_X9_fill at h
  refine lv_aload_n hx hb dX9_fill_0 rfl (lv_at hl 0 rfl) ?_
  refine w_get (v := .ref (ad G 15 0)) C0 hW 9 0 (by decide) (by decide) rfl rfl in_X9 0 (by decide) w_762 rfl dX9_fill_1 ?_
  refine lv_iconst (v := 0) hx hb dX9_fill_4 (by decide) ?_
  refine lv_dup2_11 hx hb dX9_fill_5 rfl rfl ?_
  refine w_ialdN C0 hW 15 0 (by decide) (by decide) (n := 370) rfl (j := 0) rfl (by omega) (by decide) dX9_fill_6 ?_
  refine lv_iload_n hx hb dX9_fill_7 rfl (lv_at hl 1 rfl) ?_
  refine lv_iadd hx hb dX9_fill_8 ?_
  refine w_iastN C0 hW hS 15 0 (by decide) (by decide) (n := 370) (fun _ => rfl) (j := 0) rfl (by omega) (by decide) dX9_fill_9 (fun hv1 ehv1 H locs hW hS => ?_)
  have h := h hv1 ehv1
  refine lv_aload_n hx hb dX9_fill_10 rfl (lv_at hl 0 rfl) ?_
  refine w_get (v := .ref (ad G 15 0)) C0 hW 9 0 (by decide) (by decide) rfl rfl in_X9 0 (by decide) w_762 rfl dX9_fill_11 ?_
  refine lv_iconst (v := 0) hx hb dX9_fill_14 (by decide) ?_
  refine w_ialdN C0 hW 15 0 (by decide) (by decide) (n := 370) rfl (j := 0) rfl (by omega) (by decide) dX9_fill_15 ?_
  refine lv_sipush (v := 20000) hx hb dX9_fill_16 (by decide) ?_
  refine lv_icmp_le (tgt := 50) hx hb dX9_fill_19 (by decide) (fun c2 => ?_) (fun c2 => ?_)
  · have h := h.1 c2
    exact w_vret C0 hr hW hS h dX9_fill_50
  · have h := h.2 c2
    refine lv_aload_n hx hb dX9_fill_22 rfl (lv_at hl 0 rfl) ?_
    refine w_get (v := .ref (ad G 15 0)) C0 hW 9 0 (by decide) (by decide) rfl rfl in_X9 0 (by decide) w_762 rfl dX9_fill_23 ?_
    refine lv_iconst (v := 3) hx hb dX9_fill_26 (by decide) ?_
    refine lv_dup2_11 hx hb dX9_fill_27 rfl rfl ?_
    refine w_ialdN C0 hW 15 0 (by decide) (by decide) (n := 370) rfl (j := 3) rfl (by omega) (by decide) dX9_fill_28 ?_
    refine lv_aload_n hx hb dX9_fill_29 rfl (lv_at hl 0 rfl) ?_
    refine w_get (v := .ref (ad G 15 0)) C0 hW 9 0 (by decide) (by decide) rfl rfl in_X9 0 (by decide) w_762 rfl dX9_fill_30 ?_
    refine lv_iconst (v := 0) hx hb dX9_fill_33 (by decide) ?_
    refine w_ialdN C0 hW 15 0 (by decide) (by decide) (n := 370) rfl (j := 0) rfl (by omega) (by decide) dX9_fill_34 ?_
    refine lv_sipush (v := 20000) hx hb dX9_fill_35 (by decide) ?_
    refine lv_isub hx hb dX9_fill_38 ?_
    refine lv_iadd hx hb dX9_fill_39 ?_
    refine w_iastN C0 hW hS 15 0 (by decide) (by decide) (n := 370) (fun _ => rfl) (j := 3) rfl (by omega) (by decide) dX9_fill_40 (fun hv3 ehv3 H locs hW hS => ?_)
    have h := h hv3 ehv3
    refine lv_aload_n hx hb dX9_fill_41 rfl (lv_at hl 0 rfl) ?_
    refine w_get (v := .ref (ad G 15 0)) C0 hW 9 0 (by decide) (by decide) rfl rfl in_X9 0 (by decide) w_762 rfl dX9_fill_42 ?_
    refine lv_iconst (v := 0) hx hb dX9_fill_45 (by decide) ?_
    refine lv_sipush (v := 20000) hx hb dX9_fill_46 (by decide) ?_
    refine w_iastN C0 hW hS 15 0 (by decide) (by decide) (n := 370) (fun _ => rfl) (j := 0) rfl (by omega) (by decide) dX9_fill_49 (fun hv4 ehv4 H locs hW hS => ?_)
    have h := h hv4 ehv4
    exact w_vret C0 hr hW hS h dX9_fill_50

def V_X9_passNow_24 (a1 : Int32) (f2 : Int32) (post : Int32 → HV → Prop) (k_64 : HV → Prop) : Nat → Int32 → HV → Prop
  | 0, _, _ => False
  | n24 + 1, v3, hv => (((hv 15 0 4) ≤ v3 → k_64 hv) ∧ (¬ ((hv 15 0 4) ≤ v3) → (V_X9_at v3 hv (fun r5 hv5 => (∃ m5 : Nat, r5 = nI m5 ∧ (m5 + 73 ≤ 370) ∧ (((hv5 15 0 (m5 + 5)) = 1 → (V_X9_at v3 hv5 (fun r8 hv8 => (∃ m8 : Nat, r8 = nI m8 ∧ (m8 + 73 ≤ 370) ∧ (V_X9_tick m8 v3 hv8 (fun hv9 => (∀ x10 : Int32, x10 = v3 + 1 → V_X9_passNow_24 a1 f2 post k_64 n24 x10 hv9))))))) ∧ (¬ ((hv5 15 0 (m5 + 5)) = 1) → (∀ x7 : Int32, x7 = v3 + 1 → V_X9_passNow_24 a1 f2 post k_64 n24 x7 hv5))))))))
set_option maxHeartbeats 4000000 in
theorem k_X9_passNow_24 {p : Program} {l : Launch} {e : Env} {s : State} {m : MethodId} {args : Array Value} {below : List Frame} {meth : Method} {c : Code} {G : wG} {A : Nat → Prop} (a1 : Int32) (f2 : Int32) (post : Int32 → HV → Prop) (k_64 : HV → Prop) (C0 : cx p s m args meth c "RamStationModel" cX9_passNow 4 G) (hr : meth.sig.returnType = (Option.some FieldType.int))  (hk_64 : ∀  (hv : HV),  k_64  hv → ∀ (H : Heap) (locs : List Loc) (ls : Array Slot), wd G A hv H → va_S A s.heap H locs → lv_has ls 4 [(0, .ref (ad G 9 0)), (1, .int a1), (2, .int f2)] → W p l e (wrm 4) s m args below meth c H locs 0 0 (MQ below (qI G A post) args s 0 0 A) (F0 m 64 ls [])) : ∀ (n : Nat) (v3 : Int32) (hv : HV), V_X9_passNow_24 a1 f2 post k_64 n v3 hv → ∀ (H : Heap) (locs : List Loc) (ls : Array Slot), wd G A hv H → va_S A s.heap H locs → lv_has ls 4 [(0, .ref (ad G 9 0)), (1, .int a1), (2, .int f2), (3, .int v3)] → W p l e (wrm 4) s m args below meth c H locs 0 0 (MQ below (qI G A post) args s 0 0 A) (F0 m 24 ls []) := by
  have hx := C0.1
  have hb := C0.2.1
  have hown := C0.2.2.2.1
  have hts := C0.2.2.2.2.1
  intro n
  induction n with
  | zero =>
    intro v3 hv  h
    exact (h : False).elim
  | succ n ih =>
    intro v3 hv  h H locs ls hW hS hl
    rw [V_X9_passNow_24] at h
    refine lv_iload_n hx hb dX9_passNow_24 rfl (lv_at hl 3 rfl) ?_
    refine lv_aload_n hx hb dX9_passNow_25 rfl (lv_at hl 0 rfl) ?_
    refine w_get (v := .ref (ad G 15 0)) C0 hW 9 0 (by decide) (by decide) rfl rfl in_X9 0 (by decide) w_762 rfl dX9_passNow_26 ?_
    refine lv_iconst (v := 4) hx hb dX9_passNow_29 (by decide) ?_
    refine w_ialdN C0 hW 15 0 (by decide) (by decide) (n := 370) rfl (j := 4) rfl (by omega) (by decide) dX9_passNow_30 ?_
    refine lv_icmp_ge (tgt := 64) hx hb dX9_passNow_31 (by decide) (fun c4 => ?_) (fun c4 => ?_)
    · have h := h.1 c4
      exact hk_64 hv h _ _ _ hW hS (lv_sub hl [0, 1, 2] rfl)
    · have h := h.2 c4
      refine lv_aload_n hx hb dX9_passNow_34 rfl (lv_at hl 0 rfl) ?_
      refine w_get (v := .ref (ad G 15 0)) C0 hW 9 0 (by decide) (by decide) rfl rfl in_X9 0 (by decide) w_762 rfl dX9_passNow_35 ?_
      refine lv_iload_n hx hb dX9_passNow_38 rfl (lv_at hl 3 rfl) ?_
      refine w_ci hS (w_runS (As := [.int v3]) C0 hW (c_X9_at l G A v3 hv _ h) ⟨⟨w_835, w_61, w_837⟩, pl_X9_at, ⟨Nat.le_of_ble_eq_true rfl, Nat.le_of_ble_eq_true rfl⟩, ⟨Nat.le_refl _, Nat.le_refl _⟩⟩ w_836 rfl hl.1 rfl (Nat.le_of_ble_eq_true rfl) dX9_passNow_39) (fun r5 hv5 h H locs hW hS => ?_)
      obtain ⟨m5, em5, im5, h⟩ := h
      subst em5
      refine lv_iconst (v := 5) hx hb dX9_passNow_42 (by decide) ?_
      refine lv_iadd hx hb dX9_passNow_43 ?_
      refine w_top (y := nI (m5 + 5)) (nI_add m5 5) ?_
      refine w_ialdN C0 hW 15 0 (by decide) (by decide) (n := 370) rfl (j := (m5 + 5)) rfl (by omega) (by decide) dX9_passNow_44 ?_
      refine lv_iconst (v := 1) hx hb dX9_passNow_45 (by decide) ?_
      refine lv_icmp_ne (tgt := 58) hx hb dX9_passNow_46 (by decide) (fun c6 => ?_) (fun c6 => ?_)
      · have h := h.2 c6
        obtain ⟨x7, ex7⟩ : ∃ y : Int32, y = v3 + 1 := ⟨_, rfl⟩
        have h := h x7 ex7
        refine lv_iinc (v := x7) (lv' := [(3, .int x7), (0, .ref (ad G 9 0)), (1, .int a1), (2, .int f2)]) hx hb dX9_passNow_58 hl (k := 3) rfl (by rw [ex7]; rfl) (by decide) rfl (fun ls hl => ?_)
        refine lv_goto (tgt := 24) hx hb dX9_passNow_61 (by decide) ?_
        exact ih x7 hv5 h _ _ _ hW hS (lv_sub hl [1, 2, 3, 0] rfl)
      · have h := h.1 c6
        refine lv_aload_n hx hb dX9_passNow_49 rfl (lv_at hl 0 rfl) ?_
        refine lv_iload_n hx hb dX9_passNow_50 rfl (lv_at hl 3 rfl) ?_
        refine w_ci hS (w_runS (As := [.int v3]) C0 hW (c_X9_at l G A v3 hv5 _ h) ⟨⟨w_835, w_61, w_837⟩, pl_X9_at, ⟨Nat.le_of_ble_eq_true rfl, Nat.le_of_ble_eq_true rfl⟩, ⟨Nat.le_refl _, Nat.le_refl _⟩⟩ w_836 rfl hl.1 rfl (Nat.le_of_ble_eq_true rfl) dX9_passNow_51) (fun r8 hv8 h H locs hW hS => ?_)
        obtain ⟨m8, em8, im8, h⟩ := h
        subst em8
        refine lv_iload_n hx hb dX9_passNow_54 rfl (lv_at hl 3 rfl) ?_
        refine w_cv hS (w_runV (As := [.int (nI m8), .int v3]) C0 hW 9 0 (by decide) (by decide) rfl rfl (c_X9_tick l G A m8 v3 (by omega) hv8 _ h) ⟨⟨w_922, w_61, w_925⟩, pl_X9_tick, ⟨Nat.le_of_ble_eq_true rfl, Nat.le_of_ble_eq_true rfl⟩, ⟨Nat.le_refl _, Nat.le_refl _⟩⟩ ⟨w_924, w_24⟩ rfl hl.1 rfl (Nat.le_of_ble_eq_true rfl) dX9_passNow_55) (fun hv9 h H locs hW hS => ?_)
        obtain ⟨x10, ex10⟩ : ∃ y : Int32, y = v3 + 1 := ⟨_, rfl⟩
        have h := h x10 ex10
        refine lv_iinc (v := x10) (lv' := [(3, .int x10), (0, .ref (ad G 9 0)), (1, .int a1), (2, .int f2)]) hx hb dX9_passNow_58 hl (k := 3) rfl (by rw [ex10]; rfl) (by decide) rfl (fun ls hl => ?_)
        refine lv_goto (tgt := 24) hx hb dX9_passNow_61 (by decide) ?_
        exact ih x10 hv9 h _ _ _ hW hS (lv_sub hl [1, 2, 3, 0] rfl)
def V_X9_passNow_7 (a1 : Int32) (post : Int32 → HV → Prop) : Nat → Int32 → HV → Prop
  | 0, _, _ => False
  | n7 + 1, v2, hv => ((a1 ≤ v2 → post (hv 9 0 9) hv) ∧ (¬ (a1 ≤ v2) → (V_X9_fill (hv 15 0 1) hv (fun hv3 => (∃ n24, V_X9_passNow_24 a1 v2 post (fun hv11 => (∀ hv12 : HV, hv12 = up hv11 15 0 (upd (hv11 15 0) 2 ((hv11 15 0 2) + 1)) → (∀ x13 : Int32, x13 = v2 + 1 → V_X9_passNow_7 a1 post n7 x13 hv12))) n24 0 hv3)))))
set_option maxHeartbeats 4000000 in
theorem k_X9_passNow_7 {p : Program} {l : Launch} {e : Env} {s : State} {m : MethodId} {args : Array Value} {below : List Frame} {meth : Method} {c : Code} {G : wG} {A : Nat → Prop} (a1 : Int32) (post : Int32 → HV → Prop) (C0 : cx p s m args meth c "RamStationModel" cX9_passNow 4 G) (hr : meth.sig.returnType = (Option.some FieldType.int))   : ∀ (n : Nat) (v2 : Int32) (hv : HV), V_X9_passNow_7 a1 post n v2 hv → ∀ (H : Heap) (locs : List Loc) (ls : Array Slot), wd G A hv H → va_S A s.heap H locs → lv_has ls 4 [(0, .ref (ad G 9 0)), (1, .int a1), (2, .int v2)] → W p l e (wrm 4) s m args below meth c H locs 0 0 (MQ below (qI G A post) args s 0 0 A) (F0 m 7 ls []) := by
  have hx := C0.1
  have hb := C0.2.1
  have hown := C0.2.2.2.1
  have hts := C0.2.2.2.2.1
  intro n
  induction n with
  | zero =>
    intro v2 hv  h
    exact (h : False).elim
  | succ n ih =>
    intro v2 hv  h H locs ls hW hS hl
    rw [V_X9_passNow_7] at h
    refine lv_iload_n hx hb dX9_passNow_7 rfl (lv_at hl 2 rfl) ?_
    refine lv_iload_n hx hb dX9_passNow_8 rfl (lv_at hl 1 rfl) ?_
    refine lv_icmp_ge (tgt := 80) hx hb dX9_passNow_9 (by decide) (fun c2 => ?_) (fun c2 => ?_)
    · have h := h.1 c2
      refine lv_aload_n hx hb dX9_passNow_80 rfl (lv_at hl 0 rfl) ?_
      refine w_get (v := .int (hv 9 0 9)) C0 hW 9 0 (by decide) (by decide) rfl rfl in_X9 9 (by decide) w_771 rfl dX9_passNow_81 ?_
      exact w_iret C0 hr hW hS h dX9_passNow_84
    · have h := h.2 c2
      refine lv_aload_n hx hb dX9_passNow_12 rfl (lv_at hl 0 rfl) ?_
      refine lv_aload_n hx hb dX9_passNow_13 rfl (lv_at hl 0 rfl) ?_
      refine w_get (v := .ref (ad G 15 0)) C0 hW 9 0 (by decide) (by decide) rfl rfl in_X9 0 (by decide) w_762 rfl dX9_passNow_14 ?_
      refine lv_iconst (v := 1) hx hb dX9_passNow_17 (by decide) ?_
      refine w_ialdN C0 hW 15 0 (by decide) (by decide) (n := 370) rfl (j := 1) rfl (by omega) (by decide) dX9_passNow_18 ?_
      refine w_cv hS (w_runV (As := [.int (hv 15 0 1)]) C0 hW 9 0 (by decide) (by decide) rfl rfl (c_X9_fill l G A (hv 15 0 1) hv _ h) ⟨⟨w_858, w_61, w_861⟩, pl_X9_fill, ⟨Nat.le_of_ble_eq_true rfl, Nat.le_of_ble_eq_true rfl⟩, ⟨Nat.le_refl _, Nat.le_refl _⟩⟩ ⟨w_860, w_13⟩ rfl hl.1 rfl (Nat.le_of_ble_eq_true rfl) dX9_passNow_19) (fun hv3 h H locs hW hS => ?_)
      refine lv_iconst (v := 0) hx hb dX9_passNow_22 (by decide) ?_
      refine lv_istore_n (lv' := [(3, .int 0), (0, .ref (ad G 9 0)), (1, .int a1), (2, .int v2)]) hx hb dX9_passNow_23 rfl hl (by decide) rfl (fun ls hl => ?_)
      obtain ⟨n14, h⟩ := h
      refine k_X9_passNow_24 a1 v2 post _ C0 hr (fun hv11 h H locs ls hW hS hl => ?_) n14 0 hv3 h _ _ _ hW hS (lv_sub hl [1, 2, 3, 0] rfl)
      refine lv_aload_n hx hb dX9_passNow_64 rfl (lv_at hl 0 rfl) ?_
      refine w_get (v := .ref (ad G 15 0)) C0 hW 9 0 (by decide) (by decide) rfl rfl in_X9 0 (by decide) w_762 rfl dX9_passNow_65 ?_
      refine lv_iconst (v := 2) hx hb dX9_passNow_68 (by decide) ?_
      refine lv_dup2_11 hx hb dX9_passNow_69 rfl rfl ?_
      refine w_ialdN C0 hW 15 0 (by decide) (by decide) (n := 370) rfl (j := 2) rfl (by omega) (by decide) dX9_passNow_70 ?_
      refine lv_iconst (v := 1) hx hb dX9_passNow_71 (by decide) ?_
      refine lv_iadd hx hb dX9_passNow_72 ?_
      refine w_iastN C0 hW hS 15 0 (by decide) (by decide) (n := 370) (fun _ => rfl) (j := 2) rfl (by omega) (by decide) dX9_passNow_73 (fun hv12 ehv12 H locs hW hS => ?_)
      have h := h hv12 ehv12
      obtain ⟨x13, ex13⟩ : ∃ y : Int32, y = v2 + 1 := ⟨_, rfl⟩
      have h := h x13 ex13
      refine lv_iinc (v := x13) (lv' := [(2, .int x13), (0, .ref (ad G 9 0)), (1, .int a1)]) hx hb dX9_passNow_74 hl (k := 2) rfl (by rw [ex13]; rfl) (by decide) rfl (fun ls hl => ?_)
      refine lv_goto (tgt := 7) hx hb dX9_passNow_77 (by decide) ?_
      exact ih x13 hv12 h _ _ _ hW hS (lv_sub hl [1, 2, 0] rfl)
theorem pl_X9_passNow : yX9_passNow.cls ≠ "java/lang/invoke/MethodHandle" ∧ yX9_passNow.cls ≠ "java/lang/invoke/VarHandle" ∧ (parseMethodDescriptor yX9_passNow.desc).map (fun d => d.parameters.length) = some 1 := ⟨by decide +kernel, by decide +kernel, by decide +kernel⟩
def V_X9_passNow (a1 : Int32) (hv : HV) (post : Int32 → HV → Prop) : Prop := (∀ hv1 : HV, hv1 = up hv 9 0 (upd (hv 9 0) 9 0) → (∃ n7, V_X9_passNow_7 a1 post n7 0 hv1))
set_option maxHeartbeats 4000000 in
theorem c_X9_passNow (l : Launch) (G : wG) (A : Nat → Prop) (a1 : Int32) (hv : HV) (post : Int32 → HV → Prop) (h : V_X9_passNow a1 hv post) : wM l yX9_passNow cX9_passNow 4 ((Option.some FieldType.int)) 4 G A hv [.ref (ad G 9 0), .int a1] (qI G A post) := by
  refine wM_of (by decide +kernel) (Nat.le_of_ble_eq_true rfl) ?_
  intro p e s m args below meth c C0 hr ls hl hW hS
  have hx := C0.1
  have hb := C0.2.1
  have hown := C0.2.2.2.1
  have hts := C0.2.2.2.2.1
  have hl : lv_has ls 4 [(0, .ref (ad G 9 0)), (1, .int a1)] := hl
  unfold V_X9_passNow at h
  refine lv_aload_n hx hb dX9_passNow_0 rfl (lv_at hl 0 rfl) ?_
  refine lv_iconst (v := 0) hx hb dX9_passNow_1 (by decide) ?_
  refine w_put (v := 0) C0 hW hS 9 0 (by decide) (by decide) rfl rfl in_X9 tyX9_ok nmX9 9 (by decide) w_771 rfl rfl rfl (Nat.le_of_ble_eq_true rfl) rfl dX9_passNow_2 (fun hv1 ehv1 H locs hW hS => ?_)
  have h := h hv1 ehv1
  refine lv_iconst (v := 0) hx hb dX9_passNow_5 (by decide) ?_
  refine lv_istore_n (lv' := [(2, .int 0), (0, .ref (ad G 9 0)), (1, .int a1)]) hx hb dX9_passNow_6 rfl hl (by decide) rfl (fun ls hl => ?_)
  obtain ⟨n15, h⟩ := h
  exact k_X9_passNow_7 a1 post C0 hr n15 0 hv1 h _ _ _ hW hS (lv_sub hl [1, 2, 0] rfl)

def V_X9_addPump_106 (a1 : Int32) (a2 : Int32) (a3 : Int32) (a4 : Int32) (a5 : Int32) (f7 : Nat) (post : Int32 → HV → Prop) (k_130 : HV → Prop) : Nat → Nat → HV → Prop
  | 0, _, _ => False
  | n106 + 1, v8, hv => ((73 ≤ v8 → k_130 hv) ∧ (¬ (73 ≤ v8) → (∀ hv8 : HV, hv8 = up hv 15 0 (upd (hv 15 0) (f7 + v8) 0) → V_X9_addPump_106 a1 a2 a3 a4 a5 f7 post k_130 n106 (v8 + 1) hv8)))
set_option maxHeartbeats 4000000 in
theorem k_X9_addPump_106 {p : Program} {l : Launch} {e : Env} {s : State} {m : MethodId} {args : Array Value} {below : List Frame} {meth : Method} {c : Code} {G : wG} {A : Nat → Prop} (a1 : Int32) (a2 : Int32) (a3 : Int32) (a4 : Int32) (a5 : Int32) (f7 : Nat) (post : Int32 → HV → Prop) (k_130 : HV → Prop) (C0 : cx p s m args meth c "RamStationModel" cX9_addPump 9 G) (hr : meth.sig.returnType = (Option.some FieldType.int)) (hf7 : f7 + 73 ≤ 370) (hk_130 : ∀  (hv : HV),  k_130  hv → ∀ (H : Heap) (locs : List Loc) (ls : Array Slot), wd G A hv H → va_S A s.heap H locs → lv_has ls 9 [(0, .ref (ad G 9 0)), (1, .int a1), (2, .int a2), (3, .int a3), (4, .int a4), (5, .int a5), (7, .int (nI f7))] → W p l e (wrm 1) s m args below meth c H locs 0 0 (MQ below (qI G A post) args s 0 0 A) (F0 m 130 ls [])) : ∀ (n : Nat) (v8 : Nat) (hv : HV), v8 ≤ 73 → V_X9_addPump_106 a1 a2 a3 a4 a5 f7 post k_130 n v8 hv → ∀ (H : Heap) (locs : List Loc) (ls : Array Slot), wd G A hv H → va_S A s.heap H locs → lv_has ls 9 [(0, .ref (ad G 9 0)), (1, .int a1), (2, .int a2), (3, .int a3), (4, .int a4), (5, .int a5), (7, .int (nI f7)), (8, .int (nI v8))] → W p l e (wrm 1) s m args below meth c H locs 0 0 (MQ below (qI G A post) args s 0 0 A) (F0 m 106 ls []) := by
  have hx := C0.1
  have hb := C0.2.1
  have hown := C0.2.2.2.1
  have hts := C0.2.2.2.2.1
  intro n
  induction n with
  | zero =>
    intro v8 hv j0 h
    exact (h : False).elim
  | succ n ih =>
    intro v8 hv j0 h H locs ls hW hS hl
    rw [V_X9_addPump_106] at h
    refine lv_iload hx hb dX9_addPump_106 (lv_at hl 7 rfl) ?_
    refine lv_bipush (v := 73) hx hb dX9_addPump_108 (by decide) ?_
    refine lv_icmp_ge (tgt := 130) hx hb dX9_addPump_110 (by decide) (fun c7 => ?_) (fun c7 => ?_)
    · have c7 : 73 ≤ v8 := (nI_leI (a := 73) (b := v8) (by omega) (by omega)).mp c7
      have h := h.1 c7
      exact hk_130 hv h _ _ _ hW hS (lv_sub hl [0, 1, 2, 3, 4, 5, 6] rfl)
    · have c7 : ¬ (73 ≤ v8) := fun z => c7 ((nI_leI (a := 73) (b := v8) (by omega) (by omega)).mpr z)
      have h := h.2 c7
      refine lv_aload_n hx hb dX9_addPump_113 rfl (lv_at hl 0 rfl) ?_
      refine w_get (v := .ref (ad G 15 0)) C0 hW 9 0 (by decide) (by decide) rfl rfl in_X9 0 (by decide) w_762 rfl dX9_addPump_114 ?_
      refine lv_iload hx hb dX9_addPump_117 (lv_at hl 6 rfl) ?_
      refine lv_iload hx hb dX9_addPump_119 (lv_at hl 7 rfl) ?_
      refine lv_iadd hx hb dX9_addPump_121 ?_
      refine w_top (y := nI (f7 + v8)) (nI_add f7 v8) ?_
      refine lv_iconst (v := 0) hx hb dX9_addPump_122 (by decide) ?_
      refine w_iastN C0 hW hS 15 0 (by decide) (by decide) (n := 370) (fun _ => rfl) (j := (f7 + v8)) rfl (by omega) (by decide) dX9_addPump_123 (fun hv8 ehv8 H locs hW hS => ?_)
      have h := h hv8 ehv8
      refine lv_iinc (v := (nI (v8 + 1))) (lv' := [(8, .int (nI (v8 + 1))), (0, .ref (ad G 9 0)), (1, .int a1), (2, .int a2), (3, .int a3), (4, .int a4), (5, .int a5), (7, .int (nI f7))]) hx hb dX9_addPump_124 hl (k := 7) rfl (nI_add v8 1) (by decide) rfl (fun ls hl => ?_)
      refine lv_goto (tgt := 106) hx hb dX9_addPump_127 (by decide) ?_
      exact ih (v8 + 1) hv8 (by omega) h _ _ _ hW hS (lv_sub hl [1, 2, 3, 4, 5, 6, 7, 0] rfl)
def V_X9_addPump_63 (a1 : Int32) (a2 : Int32) (a3 : Int32) (a4 : Int32) (a5 : Int32) (post : Int32 → HV → Prop) (s0 : Int32) (hv : HV) : Prop := ((s0 = 0 → post (-1002) hv) ∧ (¬ (s0 = 0) → (((hv 15 0 4) = 4 → post (-1004) hv) ∧ (¬ ((hv 15 0 4) = 4) → (V_X9_record hv (fun hv5 => (V_X9_at (hv5 15 0 4) hv5 (fun r6 hv6 => (∃ m6 : Nat, r6 = nI m6 ∧ (m6 + 73 ≤ 370) ∧ (∃ n106, V_X9_addPump_106 a1 a2 a3 a4 a5 m6 post (fun hv9 => (∀ hv10 : HV, hv10 = up hv9 15 0 (upd (hv9 15 0) (m6 + 0) a1) → (∀ hv11 : HV, hv11 = up hv10 15 0 (upd (hv10 15 0) (m6 + 1) a2) → (∀ hv12 : HV, hv12 = up hv11 15 0 (upd (hv11 15 0) (m6 + 2) a3) → (∀ hv13 : HV, hv13 = up hv12 15 0 (upd (hv12 15 0) (m6 + 3) a4) → (∀ hv14 : HV, hv14 = up hv13 15 0 (upd (hv13 15 0) (m6 + 4) a5) → (∀ hv15 : HV, hv15 = up hv14 15 0 (upd (hv14 15 0) (m6 + 10) 60) → (∀ hv16 : HV, hv16 = up hv15 15 0 (upd (hv15 15 0) (m6 + 11) 400) → (∀ hv17 : HV, hv17 = up hv16 15 0 (upd (hv16 15 0) (m6 + 14) 400) → (∀ hv18 : HV, hv18 = up hv17 15 0 (upd (hv17 15 0) 4 ((hv17 15 0 4) + 1)) → post ((hv18 15 0 4) - 1) hv18)))))))))) n106 0 hv6))))))))))
set_option maxHeartbeats 4000000 in
theorem k_X9_addPump_63 {p : Program} {l : Launch} {e : Env} {s : State} {m : MethodId} {args : Array Value} {below : List Frame} {meth : Method} {c : Code} {G : wG} {A : Nat → Prop} (a1 : Int32) (a2 : Int32) (a3 : Int32) (a4 : Int32) (a5 : Int32) (post : Int32 → HV → Prop) (C0 : cx p s m args meth c "RamStationModel" cX9_addPump 9 G) (hr : meth.sig.returnType = (Option.some FieldType.int))   : ∀ (s0 : Int32) (hv : HV), V_X9_addPump_63 a1 a2 a3 a4 a5 post s0 hv → ∀ (H : Heap) (locs : List Loc) (ls : Array Slot), wd G A hv H → va_S A s.heap H locs → lv_has ls 9 [(0, .ref (ad G 9 0)), (1, .int a1), (2, .int a2), (3, .int a3), (4, .int a4), (5, .int a5)] → W p l e (wrm 1) s m args below meth c H locs 0 0 (MQ below (qI G A post) args s 0 0 A) (F0 m 63 ls [.int s0]) := by
  have hx := C0.1
  have hb := C0.2.1
  have hown := C0.2.2.2.1
  have hts := C0.2.2.2.2.1
  intro s0 hv  h H locs ls hW hS hl
  unfold V_X9_addPump_63 at h
  refine lv_istore (lv' := [(6, .int s0), (0, .ref (ad G 9 0)), (1, .int a1), (2, .int a2), (3, .int a3), (4, .int a4), (5, .int a5)]) hx hb dX9_addPump_63 hl (by decide) rfl (fun ls hl => ?_)
  refine lv_iload hx hb dX9_addPump_65 (lv_at hl 0 rfl) ?_
  refine lv_if_ne (tgt := 74) hx hb dX9_addPump_67 (by decide) (fun c3 => ?_) (fun c3 => ?_)
  · have h := h.2 c3
    refine lv_aload_n hx hb dX9_addPump_74 rfl (lv_at hl 1 rfl) ?_
    refine w_get (v := .ref (ad G 15 0)) C0 hW 9 0 (by decide) (by decide) rfl rfl in_X9 0 (by decide) w_762 rfl dX9_addPump_75 ?_
    refine lv_iconst (v := 4) hx hb dX9_addPump_78 (by decide) ?_
    refine w_ialdN C0 hW 15 0 (by decide) (by decide) (n := 370) rfl (j := 4) rfl (by omega) (by decide) dX9_addPump_79 ?_
    refine lv_iconst (v := 4) hx hb dX9_addPump_80 (by decide) ?_
    refine lv_icmp_ne (tgt := 88) hx hb dX9_addPump_81 (by decide) (fun c4 => ?_) (fun c4 => ?_)
    · have h := h.2 c4
      refine lv_aload_n hx hb dX9_addPump_88 rfl (lv_at hl 1 rfl) ?_
      refine w_cv hS (w_runV (As := []) C0 hW 9 0 (by decide) (by decide) rfl rfl (c_X9_record l G A hv _ h) ⟨⟨w_831, w_61, w_834⟩, pl_X9_record, ⟨Nat.le_of_ble_eq_true rfl, Nat.le_of_ble_eq_true rfl⟩, ⟨Nat.le_refl _, Nat.le_refl _⟩⟩ ⟨w_833, w_9⟩ rfl hl.1 rfl (Nat.le_of_ble_eq_true rfl) dX9_addPump_89) (fun hv5 h H locs hW hS => ?_)
      refine lv_aload_n hx hb dX9_addPump_92 rfl (lv_at hl 1 rfl) ?_
      refine w_get (v := .ref (ad G 15 0)) C0 hW 9 0 (by decide) (by decide) rfl rfl in_X9 0 (by decide) w_762 rfl dX9_addPump_93 ?_
      refine lv_iconst (v := 4) hx hb dX9_addPump_96 (by decide) ?_
      refine w_ialdN C0 hW 15 0 (by decide) (by decide) (n := 370) rfl (j := 4) rfl (by omega) (by decide) dX9_addPump_97 ?_
      refine w_ci hS (w_runS (As := [.int (hv5 15 0 4)]) C0 hW (c_X9_at l G A (hv5 15 0 4) hv5 _ h) ⟨⟨w_835, w_61, w_837⟩, pl_X9_at, ⟨Nat.le_of_ble_eq_true rfl, Nat.le_of_ble_eq_true rfl⟩, ⟨Nat.le_refl _, Nat.le_refl _⟩⟩ w_836 rfl hl.1 rfl (Nat.le_of_ble_eq_true rfl) dX9_addPump_98) (fun r6 hv6 h H locs hW hS => ?_)
      obtain ⟨m6, em6, im6, h⟩ := h
      subst em6
      refine lv_istore (lv' := [(7, .int (nI m6)), (6, .int s0), (0, .ref (ad G 9 0)), (1, .int a1), (2, .int a2), (3, .int a3), (4, .int a4), (5, .int a5)]) hx hb dX9_addPump_101 hl (by decide) rfl (fun ls hl => ?_)
      refine lv_iconst (v := 0) hx hb dX9_addPump_103 (by decide) ?_
      refine lv_istore (lv' := [(8, .int 0), (7, .int (nI m6)), (6, .int s0), (0, .ref (ad G 9 0)), (1, .int a1), (2, .int a2), (3, .int a3), (4, .int a4), (5, .int a5)]) hx hb dX9_addPump_104 hl (by decide) rfl (fun ls hl => ?_)
      obtain ⟨n19, h⟩ := h
      refine k_X9_addPump_106 a1 a2 a3 a4 a5 m6 post _ C0 hr (by omega) (fun hv9 h H locs ls hW hS hl => ?_) n19 0 hv6 (by omega) h _ _ _ hW hS (lv_sub hl [3, 4, 5, 6, 7, 8, 1, 0] rfl)
      refine lv_aload_n hx hb dX9_addPump_130 rfl (lv_at hl 0 rfl) ?_
      refine w_get (v := .ref (ad G 15 0)) C0 hW 9 0 (by decide) (by decide) rfl rfl in_X9 0 (by decide) w_762 rfl dX9_addPump_131 ?_
      refine lv_iload hx hb dX9_addPump_134 (lv_at hl 6 rfl) ?_
      refine lv_iconst (v := 0) hx hb dX9_addPump_136 (by decide) ?_
      refine lv_iadd hx hb dX9_addPump_137 ?_
      refine w_top (y := nI (m6 + 0)) (nI_add m6 0) ?_
      refine lv_iload_n hx hb dX9_addPump_138 rfl (lv_at hl 1 rfl) ?_
      refine w_iastN C0 hW hS 15 0 (by decide) (by decide) (n := 370) (fun _ => rfl) (j := (m6 + 0)) rfl (by omega) (by decide) dX9_addPump_139 (fun hv10 ehv10 H locs hW hS => ?_)
      have h := h hv10 ehv10
      refine lv_aload_n hx hb dX9_addPump_140 rfl (lv_at hl 0 rfl) ?_
      refine w_get (v := .ref (ad G 15 0)) C0 hW 9 0 (by decide) (by decide) rfl rfl in_X9 0 (by decide) w_762 rfl dX9_addPump_141 ?_
      refine lv_iload hx hb dX9_addPump_144 (lv_at hl 6 rfl) ?_
      refine lv_iconst (v := 1) hx hb dX9_addPump_146 (by decide) ?_
      refine lv_iadd hx hb dX9_addPump_147 ?_
      refine w_top (y := nI (m6 + 1)) (nI_add m6 1) ?_
      refine lv_iload_n hx hb dX9_addPump_148 rfl (lv_at hl 2 rfl) ?_
      refine w_iastN C0 hW hS 15 0 (by decide) (by decide) (n := 370) (fun _ => rfl) (j := (m6 + 1)) rfl (by omega) (by decide) dX9_addPump_149 (fun hv11 ehv11 H locs hW hS => ?_)
      have h := h hv11 ehv11
      refine lv_aload_n hx hb dX9_addPump_150 rfl (lv_at hl 0 rfl) ?_
      refine w_get (v := .ref (ad G 15 0)) C0 hW 9 0 (by decide) (by decide) rfl rfl in_X9 0 (by decide) w_762 rfl dX9_addPump_151 ?_
      refine lv_iload hx hb dX9_addPump_154 (lv_at hl 6 rfl) ?_
      refine lv_iconst (v := 2) hx hb dX9_addPump_156 (by decide) ?_
      refine lv_iadd hx hb dX9_addPump_157 ?_
      refine w_top (y := nI (m6 + 2)) (nI_add m6 2) ?_
      refine lv_iload_n hx hb dX9_addPump_158 rfl (lv_at hl 3 rfl) ?_
      refine w_iastN C0 hW hS 15 0 (by decide) (by decide) (n := 370) (fun _ => rfl) (j := (m6 + 2)) rfl (by omega) (by decide) dX9_addPump_159 (fun hv12 ehv12 H locs hW hS => ?_)
      have h := h hv12 ehv12
      refine lv_aload_n hx hb dX9_addPump_160 rfl (lv_at hl 0 rfl) ?_
      refine w_get (v := .ref (ad G 15 0)) C0 hW 9 0 (by decide) (by decide) rfl rfl in_X9 0 (by decide) w_762 rfl dX9_addPump_161 ?_
      refine lv_iload hx hb dX9_addPump_164 (lv_at hl 6 rfl) ?_
      refine lv_iconst (v := 3) hx hb dX9_addPump_166 (by decide) ?_
      refine lv_iadd hx hb dX9_addPump_167 ?_
      refine w_top (y := nI (m6 + 3)) (nI_add m6 3) ?_
      refine lv_iload hx hb dX9_addPump_168 (lv_at hl 4 rfl) ?_
      refine w_iastN C0 hW hS 15 0 (by decide) (by decide) (n := 370) (fun _ => rfl) (j := (m6 + 3)) rfl (by omega) (by decide) dX9_addPump_170 (fun hv13 ehv13 H locs hW hS => ?_)
      have h := h hv13 ehv13
      refine lv_aload_n hx hb dX9_addPump_171 rfl (lv_at hl 0 rfl) ?_
      refine w_get (v := .ref (ad G 15 0)) C0 hW 9 0 (by decide) (by decide) rfl rfl in_X9 0 (by decide) w_762 rfl dX9_addPump_172 ?_
      refine lv_iload hx hb dX9_addPump_175 (lv_at hl 6 rfl) ?_
      refine lv_iconst (v := 4) hx hb dX9_addPump_177 (by decide) ?_
      refine lv_iadd hx hb dX9_addPump_178 ?_
      refine w_top (y := nI (m6 + 4)) (nI_add m6 4) ?_
      refine lv_iload hx hb dX9_addPump_179 (lv_at hl 5 rfl) ?_
      refine w_iastN C0 hW hS 15 0 (by decide) (by decide) (n := 370) (fun _ => rfl) (j := (m6 + 4)) rfl (by omega) (by decide) dX9_addPump_181 (fun hv14 ehv14 H locs hW hS => ?_)
      have h := h hv14 ehv14
      refine lv_aload_n hx hb dX9_addPump_182 rfl (lv_at hl 0 rfl) ?_
      refine w_get (v := .ref (ad G 15 0)) C0 hW 9 0 (by decide) (by decide) rfl rfl in_X9 0 (by decide) w_762 rfl dX9_addPump_183 ?_
      refine lv_iload hx hb dX9_addPump_186 (lv_at hl 6 rfl) ?_
      refine lv_bipush (v := 10) hx hb dX9_addPump_188 (by decide) ?_
      refine lv_iadd hx hb dX9_addPump_190 ?_
      refine w_top (y := nI (m6 + 10)) (nI_add m6 10) ?_
      refine lv_bipush (v := 60) hx hb dX9_addPump_191 (by decide) ?_
      refine w_iastN C0 hW hS 15 0 (by decide) (by decide) (n := 370) (fun _ => rfl) (j := (m6 + 10)) rfl (by omega) (by decide) dX9_addPump_193 (fun hv15 ehv15 H locs hW hS => ?_)
      have h := h hv15 ehv15
      refine lv_aload_n hx hb dX9_addPump_194 rfl (lv_at hl 0 rfl) ?_
      refine w_get (v := .ref (ad G 15 0)) C0 hW 9 0 (by decide) (by decide) rfl rfl in_X9 0 (by decide) w_762 rfl dX9_addPump_195 ?_
      refine lv_iload hx hb dX9_addPump_198 (lv_at hl 6 rfl) ?_
      refine lv_bipush (v := 11) hx hb dX9_addPump_200 (by decide) ?_
      refine lv_iadd hx hb dX9_addPump_202 ?_
      refine w_top (y := nI (m6 + 11)) (nI_add m6 11) ?_
      refine lv_sipush (v := 400) hx hb dX9_addPump_203 (by decide) ?_
      refine w_iastN C0 hW hS 15 0 (by decide) (by decide) (n := 370) (fun _ => rfl) (j := (m6 + 11)) rfl (by omega) (by decide) dX9_addPump_206 (fun hv16 ehv16 H locs hW hS => ?_)
      have h := h hv16 ehv16
      refine lv_aload_n hx hb dX9_addPump_207 rfl (lv_at hl 0 rfl) ?_
      refine w_get (v := .ref (ad G 15 0)) C0 hW 9 0 (by decide) (by decide) rfl rfl in_X9 0 (by decide) w_762 rfl dX9_addPump_208 ?_
      refine lv_iload hx hb dX9_addPump_211 (lv_at hl 6 rfl) ?_
      refine lv_bipush (v := 14) hx hb dX9_addPump_213 (by decide) ?_
      refine lv_iadd hx hb dX9_addPump_215 ?_
      refine w_top (y := nI (m6 + 14)) (nI_add m6 14) ?_
      refine lv_sipush (v := 400) hx hb dX9_addPump_216 (by decide) ?_
      refine w_iastN C0 hW hS 15 0 (by decide) (by decide) (n := 370) (fun _ => rfl) (j := (m6 + 14)) rfl (by omega) (by decide) dX9_addPump_219 (fun hv17 ehv17 H locs hW hS => ?_)
      have h := h hv17 ehv17
      refine lv_aload_n hx hb dX9_addPump_220 rfl (lv_at hl 0 rfl) ?_
      refine w_get (v := .ref (ad G 15 0)) C0 hW 9 0 (by decide) (by decide) rfl rfl in_X9 0 (by decide) w_762 rfl dX9_addPump_221 ?_
      refine lv_iconst (v := 4) hx hb dX9_addPump_224 (by decide) ?_
      refine lv_dup2_11 hx hb dX9_addPump_225 rfl rfl ?_
      refine w_ialdN C0 hW 15 0 (by decide) (by decide) (n := 370) rfl (j := 4) rfl (by omega) (by decide) dX9_addPump_226 ?_
      refine lv_iconst (v := 1) hx hb dX9_addPump_227 (by decide) ?_
      refine lv_iadd hx hb dX9_addPump_228 ?_
      refine w_iastN C0 hW hS 15 0 (by decide) (by decide) (n := 370) (fun _ => rfl) (j := 4) rfl (by omega) (by decide) dX9_addPump_229 (fun hv18 ehv18 H locs hW hS => ?_)
      have h := h hv18 ehv18
      refine lv_aload_n hx hb dX9_addPump_230 rfl (lv_at hl 0 rfl) ?_
      refine w_get (v := .ref (ad G 15 0)) C0 hW 9 0 (by decide) (by decide) rfl rfl in_X9 0 (by decide) w_762 rfl dX9_addPump_231 ?_
      refine lv_iconst (v := 4) hx hb dX9_addPump_234 (by decide) ?_
      refine w_ialdN C0 hW 15 0 (by decide) (by decide) (n := 370) rfl (j := 4) rfl (by omega) (by decide) dX9_addPump_235 ?_
      refine lv_iconst (v := 1) hx hb dX9_addPump_236 (by decide) ?_
      refine lv_isub hx hb dX9_addPump_237 ?_
      exact w_iret C0 hr hW hS h dX9_addPump_238
    · have h := h.1 c4
      refine lv_sipush (v := (-1004)) hx hb dX9_addPump_84 (by decide) ?_
      exact w_iret C0 hr hW hS h dX9_addPump_87
  · have h := h.1 c3
    refine lv_sipush (v := (-1002)) hx hb dX9_addPump_70 (by decide) ?_
    exact w_iret C0 hr hW hS h dX9_addPump_73
theorem pl_X9_addPump : yX9_addPump.cls ≠ "java/lang/invoke/MethodHandle" ∧ yX9_addPump.cls ≠ "java/lang/invoke/VarHandle" ∧ (parseMethodDescriptor yX9_addPump.desc).map (fun d => d.parameters.length) = some 5 := ⟨by decide +kernel, by decide +kernel, by decide +kernel⟩
def V_X9_addPump (a1 : Int32) (a2 : Int32) (a3 : Int32) (a4 : Int32) (a5 : Int32) (hv : HV) (post : Int32 → HV → Prop) : Prop := (V_X9_in a1 10 99 hv (fun r1 hv1 => ((r1 = 0 → (V_X9_addPump_63 a1 a2 a3 a4 a5 post 0 hv1)) ∧ (¬ (r1 = 0) → (V_X9_in a2 10 400 hv1 (fun r20 hv20 => ((r20 = 0 → (V_X9_addPump_63 a1 a2 a3 a4 a5 post 0 hv20)) ∧ (¬ (r20 = 0) → (V_X9_in a3 1 20 hv20 (fun r22 hv22 => ((r22 = 0 → (V_X9_addPump_63 a1 a2 a3 a4 a5 post 0 hv22)) ∧ (¬ (r22 = 0) → (V_X9_in a4 0 100 hv22 (fun r24 hv24 => ((r24 = 0 → (V_X9_addPump_63 a1 a2 a3 a4 a5 post 0 hv24)) ∧ (¬ (r24 = 0) → (V_X9_in a5 (a1 + 1) 500 hv24 (fun r26 hv26 => ((r26 = 0 → (V_X9_addPump_63 a1 a2 a3 a4 a5 post 0 hv26)) ∧ (¬ (r26 = 0) → (V_X9_addPump_63 a1 a2 a3 a4 a5 post 1 hv26)))))))))))))))))))))
set_option maxHeartbeats 4000000 in
theorem c_X9_addPump (l : Launch) (G : wG) (A : Nat → Prop) (a1 : Int32) (a2 : Int32) (a3 : Int32) (a4 : Int32) (a5 : Int32) (hv : HV) (post : Int32 → HV → Prop) (h : V_X9_addPump a1 a2 a3 a4 a5 hv post) : wM l yX9_addPump cX9_addPump 9 ((Option.some FieldType.int)) 1 G A hv [.ref (ad G 9 0), .int a1, .int a2, .int a3, .int a4, .int a5] (qI G A post) := by
  refine wM_of (by decide +kernel) (Nat.le_of_ble_eq_true rfl) ?_
  intro p e s m args below meth c C0 hr ls hl hW hS
  have hx := C0.1
  have hb := C0.2.1
  have hown := C0.2.2.2.1
  have hts := C0.2.2.2.2.1
  have hl : lv_has ls 9 [(0, .ref (ad G 9 0)), (1, .int a1), (2, .int a2), (3, .int a3), (4, .int a4), (5, .int a5)] := hl
  unfold V_X9_addPump at h
  refine lv_iload_n hx hb dX9_addPump_0 rfl (lv_at hl 1 rfl) ?_
  refine lv_bipush (v := 10) hx hb dX9_addPump_1 (by decide) ?_
  refine lv_bipush (v := 99) hx hb dX9_addPump_3 (by decide) ?_
  refine w_ci hS (w_runS (As := [.int a1, .int 10, .int 99]) C0 hW (c_X9_in l G A a1 10 99 hv _ h) ⟨⟨w_828, w_61, w_830⟩, pl_X9_in, ⟨Nat.le_of_ble_eq_true rfl, Nat.le_of_ble_eq_true rfl⟩, ⟨Nat.le_refl _, Nat.le_refl _⟩⟩ w_829 rfl hl.1 rfl (Nat.le_of_ble_eq_true rfl) dX9_addPump_5) (fun r1 hv1 h H locs hW hS => ?_)
  refine lv_if_eq (tgt := 62) hx hb dX9_addPump_8 (by decide) (fun c2 => ?_) (fun c2 => ?_)
  · have h := h.1 c2
    refine lv_iconst (v := 0) hx hb dX9_addPump_62 (by decide) ?_
    exact k_X9_addPump_63 a1 a2 a3 a4 a5 post C0 hr 0 hv1 h _ _ _ hW hS (lv_sub hl [0, 1, 2, 3, 4, 5] rfl)
  · have h := h.2 c2
    refine lv_iload_n hx hb dX9_addPump_11 rfl (lv_at hl 2 rfl) ?_
    refine lv_bipush (v := 10) hx hb dX9_addPump_12 (by decide) ?_
    refine lv_sipush (v := 400) hx hb dX9_addPump_14 (by decide) ?_
    refine w_ci hS (w_runS (As := [.int a2, .int 10, .int 400]) C0 hW (c_X9_in l G A a2 10 400 hv1 _ h) ⟨⟨w_828, w_61, w_830⟩, pl_X9_in, ⟨Nat.le_of_ble_eq_true rfl, Nat.le_of_ble_eq_true rfl⟩, ⟨Nat.le_refl _, Nat.le_refl _⟩⟩ w_829 rfl hl.1 rfl (Nat.le_of_ble_eq_true rfl) dX9_addPump_17) (fun r20 hv20 h H locs hW hS => ?_)
    refine lv_if_eq (tgt := 62) hx hb dX9_addPump_20 (by decide) (fun c21 => ?_) (fun c21 => ?_)
    · have h := h.1 c21
      refine lv_iconst (v := 0) hx hb dX9_addPump_62 (by decide) ?_
      exact k_X9_addPump_63 a1 a2 a3 a4 a5 post C0 hr 0 hv20 h _ _ _ hW hS (lv_sub hl [0, 1, 2, 3, 4, 5] rfl)
    · have h := h.2 c21
      refine lv_iload_n hx hb dX9_addPump_23 rfl (lv_at hl 3 rfl) ?_
      refine lv_iconst (v := 1) hx hb dX9_addPump_24 (by decide) ?_
      refine lv_bipush (v := 20) hx hb dX9_addPump_25 (by decide) ?_
      refine w_ci hS (w_runS (As := [.int a3, .int 1, .int 20]) C0 hW (c_X9_in l G A a3 1 20 hv20 _ h) ⟨⟨w_828, w_61, w_830⟩, pl_X9_in, ⟨Nat.le_of_ble_eq_true rfl, Nat.le_of_ble_eq_true rfl⟩, ⟨Nat.le_refl _, Nat.le_refl _⟩⟩ w_829 rfl hl.1 rfl (Nat.le_of_ble_eq_true rfl) dX9_addPump_27) (fun r22 hv22 h H locs hW hS => ?_)
      refine lv_if_eq (tgt := 62) hx hb dX9_addPump_30 (by decide) (fun c23 => ?_) (fun c23 => ?_)
      · have h := h.1 c23
        refine lv_iconst (v := 0) hx hb dX9_addPump_62 (by decide) ?_
        exact k_X9_addPump_63 a1 a2 a3 a4 a5 post C0 hr 0 hv22 h _ _ _ hW hS (lv_sub hl [0, 1, 2, 3, 4, 5] rfl)
      · have h := h.2 c23
        refine lv_iload hx hb dX9_addPump_33 (lv_at hl 4 rfl) ?_
        refine lv_iconst (v := 0) hx hb dX9_addPump_35 (by decide) ?_
        refine lv_bipush (v := 100) hx hb dX9_addPump_36 (by decide) ?_
        refine w_ci hS (w_runS (As := [.int a4, .int 0, .int 100]) C0 hW (c_X9_in l G A a4 0 100 hv22 _ h) ⟨⟨w_828, w_61, w_830⟩, pl_X9_in, ⟨Nat.le_of_ble_eq_true rfl, Nat.le_of_ble_eq_true rfl⟩, ⟨Nat.le_refl _, Nat.le_refl _⟩⟩ w_829 rfl hl.1 rfl (Nat.le_of_ble_eq_true rfl) dX9_addPump_38) (fun r24 hv24 h H locs hW hS => ?_)
        refine lv_if_eq (tgt := 62) hx hb dX9_addPump_41 (by decide) (fun c25 => ?_) (fun c25 => ?_)
        · have h := h.1 c25
          refine lv_iconst (v := 0) hx hb dX9_addPump_62 (by decide) ?_
          exact k_X9_addPump_63 a1 a2 a3 a4 a5 post C0 hr 0 hv24 h _ _ _ hW hS (lv_sub hl [0, 1, 2, 3, 4, 5] rfl)
        · have h := h.2 c25
          refine lv_iload hx hb dX9_addPump_44 (lv_at hl 5 rfl) ?_
          refine lv_iload_n hx hb dX9_addPump_46 rfl (lv_at hl 1 rfl) ?_
          refine lv_iconst (v := 1) hx hb dX9_addPump_47 (by decide) ?_
          refine lv_iadd hx hb dX9_addPump_48 ?_
          refine lv_sipush (v := 500) hx hb dX9_addPump_49 (by decide) ?_
          refine w_ci hS (w_runS (As := [.int a5, .int (a1 + 1), .int 500]) C0 hW (c_X9_in l G A a5 (a1 + 1) 500 hv24 _ h) ⟨⟨w_828, w_61, w_830⟩, pl_X9_in, ⟨Nat.le_of_ble_eq_true rfl, Nat.le_of_ble_eq_true rfl⟩, ⟨Nat.le_refl _, Nat.le_refl _⟩⟩ w_829 rfl hl.1 rfl (Nat.le_of_ble_eq_true rfl) dX9_addPump_52) (fun r26 hv26 h H locs hW hS => ?_)
          refine lv_if_eq (tgt := 62) hx hb dX9_addPump_55 (by decide) (fun c27 => ?_) (fun c27 => ?_)
          · have h := h.1 c27
            refine lv_iconst (v := 0) hx hb dX9_addPump_62 (by decide) ?_
            exact k_X9_addPump_63 a1 a2 a3 a4 a5 post C0 hr 0 hv26 h _ _ _ hW hS (lv_sub hl [0, 1, 2, 3, 4, 5] rfl)
          · have h := h.2 c27
            refine lv_iconst (v := 1) hx hb dX9_addPump_58 (by decide) ?_
            refine lv_goto (tgt := 63) hx hb dX9_addPump_59 (by decide) ?_
            exact k_X9_addPump_63 a1 a2 a3 a4 a5 post C0 hr 1 hv26 h _ _ _ hW hS (lv_sub hl [0, 1, 2, 3, 4, 5] rfl)

theorem pl_X9_valveRefused : yX9_valveRefused.cls ≠ "java/lang/invoke/MethodHandle" ∧ yX9_valveRefused.cls ≠ "java/lang/invoke/VarHandle" ∧ (parseMethodDescriptor yX9_valveRefused.desc).map (fun d => d.parameters.length) = some 3 := ⟨by decide +kernel, by decide +kernel, by decide +kernel⟩
def V_X9_valveRefused (a1 : Int32) (a2 : Int32) (a3 : Int32) (hv : HV) (post : Int32 → HV → Prop) : Prop := (V_X9_isPump a1 hv (fun r1 hv1 => ((r1 = 0 → post (-1001) hv1) ∧ (¬ (r1 = 0) → (V_X9_in a2 0 2 hv1 (fun r3 hv3 => ((r3 = 0 → post (-1002) hv3) ∧ (¬ (r3 = 0) → (V_X9_in a3 1 500 hv3 (fun r5 hv5 => ((r5 = 0 → post (-1002) hv5) ∧ (¬ (r5 = 0) → (V_X9_at a1 hv5 (fun r7 hv7 => (∃ m7 : Nat, r7 = nI m7 ∧ (m7 + 73 ≤ 370) ∧ (((hv7 15 0 (m7 + 5)) = 1 → post (-1003) hv7) ∧ (¬ ((hv7 15 0 (m7 + 5)) = 1) → post 0 hv7)))))))))))))))))
set_option maxHeartbeats 4000000 in
theorem c_X9_valveRefused (l : Launch) (G : wG) (A : Nat → Prop) (a1 : Int32) (a2 : Int32) (a3 : Int32) (hv : HV) (post : Int32 → HV → Prop) (h : V_X9_valveRefused a1 a2 a3 hv post) : wM l yX9_valveRefused cX9_valveRefused 4 ((Option.some FieldType.int)) 2 G A hv [.ref (ad G 9 0), .int a1, .int a2, .int a3] (qI G A post) := by
  refine wM_of (by decide +kernel) (Nat.le_of_ble_eq_true rfl) ?_
  intro p e s m args below meth c C0 hr ls hl hW hS
  have hx := C0.1
  have hb := C0.2.1
  have hown := C0.2.2.2.1
  have hts := C0.2.2.2.2.1
  have hl : lv_has ls 4 [(0, .ref (ad G 9 0)), (1, .int a1), (2, .int a2), (3, .int a3)] := hl
  unfold V_X9_valveRefused at h
  refine lv_aload_n hx hb dX9_valveRefused_0 rfl (lv_at hl 0 rfl) ?_
  refine lv_iload_n hx hb dX9_valveRefused_1 rfl (lv_at hl 1 rfl) ?_
  refine w_ci hS (w_runV (As := [.int a1]) C0 hW 9 0 (by decide) (by decide) rfl rfl (c_X9_isPump l G A a1 hv _ h) ⟨⟨w_846, w_61, w_849⟩, pl_X9_isPump, ⟨Nat.le_of_ble_eq_true rfl, Nat.le_of_ble_eq_true rfl⟩, ⟨Nat.le_refl _, Nat.le_refl _⟩⟩ ⟨w_848, w_11⟩ rfl hl.1 rfl (Nat.le_of_ble_eq_true rfl) dX9_valveRefused_2) (fun r1 hv1 h H locs hW hS => ?_)
  refine lv_if_ne (tgt := 12) hx hb dX9_valveRefused_5 (by decide) (fun c2 => ?_) (fun c2 => ?_)
  · have h := h.2 c2
    refine lv_iload_n hx hb dX9_valveRefused_12 rfl (lv_at hl 2 rfl) ?_
    refine lv_iconst (v := 0) hx hb dX9_valveRefused_13 (by decide) ?_
    refine lv_iconst (v := 2) hx hb dX9_valveRefused_14 (by decide) ?_
    refine w_ci hS (w_runS (As := [.int a2, .int 0, .int 2]) C0 hW (c_X9_in l G A a2 0 2 hv1 _ h) ⟨⟨w_828, w_61, w_830⟩, pl_X9_in, ⟨Nat.le_of_ble_eq_true rfl, Nat.le_of_ble_eq_true rfl⟩, ⟨Nat.le_refl _, Nat.le_refl _⟩⟩ w_829 rfl hl.1 rfl (Nat.le_of_ble_eq_true rfl) dX9_valveRefused_15) (fun r3 hv3 h H locs hW hS => ?_)
    refine lv_if_eq (tgt := 32) hx hb dX9_valveRefused_18 (by decide) (fun c4 => ?_) (fun c4 => ?_)
    · have h := h.1 c4
      refine lv_sipush (v := (-1002)) hx hb dX9_valveRefused_32 (by decide) ?_
      exact w_iret C0 hr hW hS h dX9_valveRefused_35
    · have h := h.2 c4
      refine lv_iload_n hx hb dX9_valveRefused_21 rfl (lv_at hl 3 rfl) ?_
      refine lv_iconst (v := 1) hx hb dX9_valveRefused_22 (by decide) ?_
      refine lv_sipush (v := 500) hx hb dX9_valveRefused_23 (by decide) ?_
      refine w_ci hS (w_runS (As := [.int a3, .int 1, .int 500]) C0 hW (c_X9_in l G A a3 1 500 hv3 _ h) ⟨⟨w_828, w_61, w_830⟩, pl_X9_in, ⟨Nat.le_of_ble_eq_true rfl, Nat.le_of_ble_eq_true rfl⟩, ⟨Nat.le_refl _, Nat.le_refl _⟩⟩ w_829 rfl hl.1 rfl (Nat.le_of_ble_eq_true rfl) dX9_valveRefused_26) (fun r5 hv5 h H locs hW hS => ?_)
      refine lv_if_ne (tgt := 36) hx hb dX9_valveRefused_29 (by decide) (fun c6 => ?_) (fun c6 => ?_)
      · have h := h.2 c6
        refine lv_aload_n hx hb dX9_valveRefused_36 rfl (lv_at hl 0 rfl) ?_
        refine w_get (v := .ref (ad G 15 0)) C0 hW 9 0 (by decide) (by decide) rfl rfl in_X9 0 (by decide) w_762 rfl dX9_valveRefused_37 ?_
        refine lv_iload_n hx hb dX9_valveRefused_40 rfl (lv_at hl 1 rfl) ?_
        refine w_ci hS (w_runS (As := [.int a1]) C0 hW (c_X9_at l G A a1 hv5 _ h) ⟨⟨w_835, w_61, w_837⟩, pl_X9_at, ⟨Nat.le_of_ble_eq_true rfl, Nat.le_of_ble_eq_true rfl⟩, ⟨Nat.le_refl _, Nat.le_refl _⟩⟩ w_836 rfl hl.1 rfl (Nat.le_of_ble_eq_true rfl) dX9_valveRefused_41) (fun r7 hv7 h H locs hW hS => ?_)
        obtain ⟨m7, em7, im7, h⟩ := h
        subst em7
        refine lv_iconst (v := 5) hx hb dX9_valveRefused_44 (by decide) ?_
        refine lv_iadd hx hb dX9_valveRefused_45 ?_
        refine w_top (y := nI (m7 + 5)) (nI_add m7 5) ?_
        refine w_ialdN C0 hW 15 0 (by decide) (by decide) (n := 370) rfl (j := (m7 + 5)) rfl (by omega) (by decide) dX9_valveRefused_46 ?_
        refine lv_iconst (v := 1) hx hb dX9_valveRefused_47 (by decide) ?_
        refine lv_icmp_ne (tgt := 57) hx hb dX9_valveRefused_48 (by decide) (fun c8 => ?_) (fun c8 => ?_)
        · have h := h.2 c8
          refine lv_iconst (v := 0) hx hb dX9_valveRefused_57 (by decide) ?_
          exact w_iret C0 hr hW hS h dX9_valveRefused_58
        · have h := h.1 c8
          refine lv_sipush (v := (-1003)) hx hb dX9_valveRefused_51 (by decide) ?_
          refine lv_goto (tgt := 58) hx hb dX9_valveRefused_54 (by decide) ?_
          exact w_iret C0 hr hW hS h dX9_valveRefused_58
      · have h := h.1 c6
        refine lv_sipush (v := (-1002)) hx hb dX9_valveRefused_32 (by decide) ?_
        exact w_iret C0 hr hW hS h dX9_valveRefused_35
  · have h := h.1 c2
    refine lv_sipush (v := (-1001)) hx hb dX9_valveRefused_8 (by decide) ?_
    exact w_iret C0 hr hW hS h dX9_valveRefused_11

theorem pl_X9_valveNow : yX9_valveNow.cls ≠ "java/lang/invoke/MethodHandle" ∧ yX9_valveNow.cls ≠ "java/lang/invoke/VarHandle" ∧ (parseMethodDescriptor yX9_valveNow.desc).map (fun d => d.parameters.length) = some 3 := ⟨by decide +kernel, by decide +kernel, by decide +kernel⟩
def V_X9_valveNow (a1 : Int32) (a2 : Int32) (a3 : Int32) (hv : HV) (post : Int32 → HV → Prop) : Prop := (V_X9_at a1 hv (fun r1 hv1 => (∃ m1 : Nat, r1 = nI m1 ∧ (m1 + 73 ≤ 370) ∧ (∀ x2 : Int32, x2 = (hv1 15 0 (m1 + 10)) → (∀ hv3 : HV, hv3 = up hv1 15 0 (upd (hv1 15 0) (m1 + 9) a2) → (∀ hv4 : HV, hv4 = up hv3 15 0 (upd (hv3 15 0) (m1 + 10) a3) → post x2 hv4))))))
set_option maxHeartbeats 4000000 in
theorem c_X9_valveNow (l : Launch) (G : wG) (A : Nat → Prop) (a1 : Int32) (a2 : Int32) (a3 : Int32) (hv : HV) (post : Int32 → HV → Prop) (h : V_X9_valveNow a1 a2 a3 hv post) : wM l yX9_valveNow cX9_valveNow 6 ((Option.some FieldType.int)) 1 G A hv [.ref (ad G 9 0), .int a1, .int a2, .int a3] (qI G A post) := by
  refine wM_of (by decide +kernel) (Nat.le_of_ble_eq_true rfl) ?_
  intro p e s m args below meth c C0 hr ls hl hW hS
  have hx := C0.1
  have hb := C0.2.1
  have hown := C0.2.2.2.1
  have hts := C0.2.2.2.2.1
  have hl : lv_has ls 6 [(0, .ref (ad G 9 0)), (1, .int a1), (2, .int a2), (3, .int a3)] := hl
  unfold V_X9_valveNow at h
  refine lv_iload_n hx hb dX9_valveNow_0 rfl (lv_at hl 1 rfl) ?_
  refine w_ci hS (w_runS (As := [.int a1]) C0 hW (c_X9_at l G A a1 hv _ h) ⟨⟨w_835, w_61, w_837⟩, pl_X9_at, ⟨Nat.le_of_ble_eq_true rfl, Nat.le_of_ble_eq_true rfl⟩, ⟨Nat.le_refl _, Nat.le_refl _⟩⟩ w_836 rfl hl.1 rfl (Nat.le_of_ble_eq_true rfl) dX9_valveNow_1) (fun r1 hv1 h H locs hW hS => ?_)
  obtain ⟨m1, em1, im1, h⟩ := h
  subst em1
  refine lv_istore (lv' := [(4, .int (nI m1)), (0, .ref (ad G 9 0)), (1, .int a1), (2, .int a2), (3, .int a3)]) hx hb dX9_valveNow_4 hl (by decide) rfl (fun ls hl => ?_)
  refine lv_aload_n hx hb dX9_valveNow_6 rfl (lv_at hl 1 rfl) ?_
  refine w_get (v := .ref (ad G 15 0)) C0 hW 9 0 (by decide) (by decide) rfl rfl in_X9 0 (by decide) w_762 rfl dX9_valveNow_7 ?_
  refine lv_iload hx hb dX9_valveNow_10 (lv_at hl 0 rfl) ?_
  refine lv_bipush (v := 10) hx hb dX9_valveNow_12 (by decide) ?_
  refine lv_iadd hx hb dX9_valveNow_14 ?_
  refine w_top (y := nI (m1 + 10)) (nI_add m1 10) ?_
  refine w_ialdN C0 hW 15 0 (by decide) (by decide) (n := 370) rfl (j := (m1 + 10)) rfl (by omega) (by decide) dX9_valveNow_15 ?_
  refine lv_topi (fun x2 ex2 => ?_)
  have h := h x2 ex2
  refine lv_istore (lv' := [(5, .int x2), (4, .int (nI m1)), (0, .ref (ad G 9 0)), (1, .int a1), (2, .int a2), (3, .int a3)]) hx hb dX9_valveNow_16 hl (by decide) rfl (fun ls hl => ?_)
  refine lv_aload_n hx hb dX9_valveNow_18 rfl (lv_at hl 2 rfl) ?_
  refine w_get (v := .ref (ad G 15 0)) C0 hW 9 0 (by decide) (by decide) rfl rfl in_X9 0 (by decide) w_762 rfl dX9_valveNow_19 ?_
  refine lv_iload hx hb dX9_valveNow_22 (lv_at hl 1 rfl) ?_
  refine lv_bipush (v := 9) hx hb dX9_valveNow_24 (by decide) ?_
  refine lv_iadd hx hb dX9_valveNow_26 ?_
  refine w_top (y := nI (m1 + 9)) (nI_add m1 9) ?_
  refine lv_iload_n hx hb dX9_valveNow_27 rfl (lv_at hl 4 rfl) ?_
  refine w_iastN C0 hW hS 15 0 (by decide) (by decide) (n := 370) (fun _ => rfl) (j := (m1 + 9)) rfl (by omega) (by decide) dX9_valveNow_28 (fun hv3 ehv3 H locs hW hS => ?_)
  have h := h hv3 ehv3
  refine lv_aload_n hx hb dX9_valveNow_29 rfl (lv_at hl 2 rfl) ?_
  refine w_get (v := .ref (ad G 15 0)) C0 hW 9 0 (by decide) (by decide) rfl rfl in_X9 0 (by decide) w_762 rfl dX9_valveNow_30 ?_
  refine lv_iload hx hb dX9_valveNow_33 (lv_at hl 1 rfl) ?_
  refine lv_bipush (v := 10) hx hb dX9_valveNow_35 (by decide) ?_
  refine lv_iadd hx hb dX9_valveNow_37 ?_
  refine w_top (y := nI (m1 + 10)) (nI_add m1 10) ?_
  refine lv_iload_n hx hb dX9_valveNow_38 rfl (lv_at hl 5 rfl) ?_
  refine w_iastN C0 hW hS 15 0 (by decide) (by decide) (n := 370) (fun _ => rfl) (j := (m1 + 10)) rfl (by omega) (by decide) dX9_valveNow_39 (fun hv4 ehv4 H locs hW hS => ?_)
  have h := h hv4 ehv4
  refine lv_iload hx hb dX9_valveNow_40 (lv_at hl 0 rfl) ?_
  exact w_iret C0 hr hW hS h dX9_valveNow_42

theorem pl_X9_setValve : yX9_setValve.cls ≠ "java/lang/invoke/MethodHandle" ∧ yX9_setValve.cls ≠ "java/lang/invoke/VarHandle" ∧ (parseMethodDescriptor yX9_setValve.desc).map (fun d => d.parameters.length) = some 3 := ⟨by decide +kernel, by decide +kernel, by decide +kernel⟩
def V_X9_setValve (a1 : Int32) (a2 : Int32) (a3 : Int32) (hv : HV) (post : Int32 → HV → Prop) : Prop := (V_X9_valveRefused a1 a2 a3 hv (fun r1 hv1 => ((r1 = 0 → (V_X9_record hv1 (fun hv3 => (V_X9_valveNow a1 a2 a3 hv3 (fun r4 hv4 => post r4 hv4))))) ∧ (¬ (r1 = 0) → post r1 hv1))))
set_option maxHeartbeats 4000000 in
theorem c_X9_setValve (l : Launch) (G : wG) (A : Nat → Prop) (a1 : Int32) (a2 : Int32) (a3 : Int32) (hv : HV) (post : Int32 → HV → Prop) (h : V_X9_setValve a1 a2 a3 hv post) : wM l yX9_setValve cX9_setValve 5 ((Option.some FieldType.int)) 3 G A hv [.ref (ad G 9 0), .int a1, .int a2, .int a3] (qI G A post) := by
  refine wM_of (by decide +kernel) (Nat.le_of_ble_eq_true rfl) ?_
  intro p e s m args below meth c C0 hr ls hl hW hS
  have hx := C0.1
  have hb := C0.2.1
  have hown := C0.2.2.2.1
  have hts := C0.2.2.2.2.1
  have hl : lv_has ls 5 [(0, .ref (ad G 9 0)), (1, .int a1), (2, .int a2), (3, .int a3)] := hl
  unfold V_X9_setValve at h
  refine lv_aload_n hx hb dX9_setValve_0 rfl (lv_at hl 0 rfl) ?_
  refine lv_iload_n hx hb dX9_setValve_1 rfl (lv_at hl 1 rfl) ?_
  refine lv_iload_n hx hb dX9_setValve_2 rfl (lv_at hl 2 rfl) ?_
  refine lv_iload_n hx hb dX9_setValve_3 rfl (lv_at hl 3 rfl) ?_
  refine w_ci hS (w_runV (As := [.int a1, .int a2, .int a3]) C0 hW 9 0 (by decide) (by decide) rfl rfl (c_X9_valveRefused l G A a1 a2 a3 hv _ h) ⟨⟨w_842, w_61, w_845⟩, pl_X9_valveRefused, ⟨Nat.le_of_ble_eq_true rfl, Nat.le_of_ble_eq_true rfl⟩, ⟨Nat.le_refl _, Nat.le_refl _⟩⟩ ⟨w_844, w_10⟩ rfl hl.1 rfl (Nat.le_of_ble_eq_true rfl) dX9_setValve_4) (fun r1 hv1 h H locs hW hS => ?_)
  refine lv_istore (lv' := [(4, .int r1), (0, .ref (ad G 9 0)), (1, .int a1), (2, .int a2), (3, .int a3)]) hx hb dX9_setValve_7 hl (by decide) rfl (fun ls hl => ?_)
  refine lv_iload hx hb dX9_setValve_9 (lv_at hl 0 rfl) ?_
  refine lv_if_eq (tgt := 17) hx hb dX9_setValve_11 (by decide) (fun c2 => ?_) (fun c2 => ?_)
  · have h := h.1 c2
    refine lv_aload_n hx hb dX9_setValve_17 rfl (lv_at hl 1 rfl) ?_
    refine w_cv hS (w_runV (As := []) C0 hW 9 0 (by decide) (by decide) rfl rfl (c_X9_record l G A hv1 _ h) ⟨⟨w_831, w_61, w_834⟩, pl_X9_record, ⟨Nat.le_of_ble_eq_true rfl, Nat.le_of_ble_eq_true rfl⟩, ⟨Nat.le_refl _, Nat.le_refl _⟩⟩ ⟨w_833, w_9⟩ rfl hl.1 rfl (Nat.le_of_ble_eq_true rfl) dX9_setValve_18) (fun hv3 h H locs hW hS => ?_)
    refine lv_aload_n hx hb dX9_setValve_21 rfl (lv_at hl 1 rfl) ?_
    refine lv_iload_n hx hb dX9_setValve_22 rfl (lv_at hl 2 rfl) ?_
    refine lv_iload_n hx hb dX9_setValve_23 rfl (lv_at hl 3 rfl) ?_
    refine lv_iload_n hx hb dX9_setValve_24 rfl (lv_at hl 4 rfl) ?_
    refine w_ci hS (w_runV (As := [.int a1, .int a2, .int a3]) C0 hW 9 0 (by decide) (by decide) rfl rfl (c_X9_valveNow l G A a1 a2 a3 hv3 _ h) ⟨⟨w_850, w_61, w_853⟩, pl_X9_valveNow, ⟨Nat.le_of_ble_eq_true rfl, Nat.le_of_ble_eq_true rfl⟩, ⟨Nat.le_refl _, Nat.le_refl _⟩⟩ ⟨w_852, w_12⟩ rfl hl.1 rfl (Nat.le_of_ble_eq_true rfl) dX9_setValve_25) (fun r4 hv4 h H locs hW hS => ?_)
    exact w_iret C0 hr hW hS h dX9_setValve_28
  · have h := h.2 c2
    refine lv_iload hx hb dX9_setValve_14 (lv_at hl 0 rfl) ?_
    exact w_iret C0 hr hW hS h dX9_setValve_16

theorem pl_X9_setChamber : yX9_setChamber.cls ≠ "java/lang/invoke/MethodHandle" ∧ yX9_setChamber.cls ≠ "java/lang/invoke/VarHandle" ∧ (parseMethodDescriptor yX9_setChamber.desc).map (fun d => d.parameters.length) = some 3 := ⟨by decide +kernel, by decide +kernel, by decide +kernel⟩
def V_X9_setChamber (a1 : Int32) (a2 : Int32) (a3 : Int32) (hv : HV) (post : Int32 → HV → Prop) : Prop := (V_X9_isPump a1 hv (fun r1 hv1 => ((r1 = 0 → post (-1001) hv1) ∧ (¬ (r1 = 0) → (V_X9_in a2 50 2000 hv1 (fun r3 hv3 => ((r3 = 0 → post (-1002) hv3) ∧ (¬ (r3 = 0) → (V_X9_at a1 hv3 (fun r5 hv5 => (∃ m5 : Nat, r5 = nI m5 ∧ (m5 + 73 ≤ 370) ∧ (((hv5 15 0 (m5 + 5)) = 1 → post (-1003) hv5) ∧ (¬ ((hv5 15 0 (m5 + 5)) = 1) → (V_X9_record hv5 (fun hv7 => (∀ x8 : Int32, x8 = (hv7 15 0 (m5 + 13)) → (V_X9_fill x8 hv7 (fun hv9 => (∀ hv10 : HV, hv10 = up hv9 15 0 (upd (hv9 15 0) (m5 + 11) a2) → ((a3 = 0 → (∀ hv12 : HV, hv12 = up hv10 15 0 (upd (hv10 15 0) (m5 + 12) 0) → (∀ hv13 : HV, hv13 = up hv12 15 0 (upd (hv12 15 0) (m5 + 13) 0) → (∀ hv14 : HV, hv14 = up hv13 15 0 (upd (hv13 15 0) (m5 + 14) a2) → post x8 hv14)))) ∧ (¬ (a3 = 0) → (∀ hv15 : HV, hv15 = up hv10 15 0 (upd (hv10 15 0) (m5 + 12) 1) → (∀ hv16 : HV, hv16 = up hv15 15 0 (upd (hv15 15 0) (m5 + 13) 0) → (∀ hv17 : HV, hv17 = up hv16 15 0 (upd (hv16 15 0) (m5 + 14) a2) → post x8 hv17))))))))))))))))))))))))
set_option maxHeartbeats 4000000 in
theorem c_X9_setChamber (l : Launch) (G : wG) (A : Nat → Prop) (a1 : Int32) (a2 : Int32) (a3 : Int32) (hv : HV) (post : Int32 → HV → Prop) (h : V_X9_setChamber a1 a2 a3 hv post) : wM l yX9_setChamber cX9_setChamber 6 ((Option.some FieldType.int)) 2 G A hv [.ref (ad G 9 0), .int a1, .int a2, .int a3] (qI G A post) := by
  refine wM_of (by decide +kernel) (Nat.le_of_ble_eq_true rfl) ?_
  intro p e s m args below meth c C0 hr ls hl hW hS
  have hx := C0.1
  have hb := C0.2.1
  have hown := C0.2.2.2.1
  have hts := C0.2.2.2.2.1
  have hl : lv_has ls 6 [(0, .ref (ad G 9 0)), (1, .int a1), (2, .int a2), (3, .int a3)] := hl
  unfold V_X9_setChamber at h
  refine lv_aload_n hx hb dX9_setChamber_0 rfl (lv_at hl 0 rfl) ?_
  refine lv_iload_n hx hb dX9_setChamber_1 rfl (lv_at hl 1 rfl) ?_
  refine w_ci hS (w_runV (As := [.int a1]) C0 hW 9 0 (by decide) (by decide) rfl rfl (c_X9_isPump l G A a1 hv _ h) ⟨⟨w_846, w_61, w_849⟩, pl_X9_isPump, ⟨Nat.le_of_ble_eq_true rfl, Nat.le_of_ble_eq_true rfl⟩, ⟨Nat.le_refl _, Nat.le_refl _⟩⟩ ⟨w_848, w_11⟩ rfl hl.1 rfl (Nat.le_of_ble_eq_true rfl) dX9_setChamber_2) (fun r1 hv1 h H locs hW hS => ?_)
  refine lv_if_ne (tgt := 12) hx hb dX9_setChamber_5 (by decide) (fun c2 => ?_) (fun c2 => ?_)
  · have h := h.2 c2
    refine lv_iload_n hx hb dX9_setChamber_12 rfl (lv_at hl 2 rfl) ?_
    refine lv_bipush (v := 50) hx hb dX9_setChamber_13 (by decide) ?_
    refine lv_sipush (v := 2000) hx hb dX9_setChamber_15 (by decide) ?_
    refine w_ci hS (w_runS (As := [.int a2, .int 50, .int 2000]) C0 hW (c_X9_in l G A a2 50 2000 hv1 _ h) ⟨⟨w_828, w_61, w_830⟩, pl_X9_in, ⟨Nat.le_of_ble_eq_true rfl, Nat.le_of_ble_eq_true rfl⟩, ⟨Nat.le_refl _, Nat.le_refl _⟩⟩ w_829 rfl hl.1 rfl (Nat.le_of_ble_eq_true rfl) dX9_setChamber_18) (fun r3 hv3 h H locs hW hS => ?_)
    refine lv_if_ne (tgt := 28) hx hb dX9_setChamber_21 (by decide) (fun c4 => ?_) (fun c4 => ?_)
    · have h := h.2 c4
      refine lv_iload_n hx hb dX9_setChamber_28 rfl (lv_at hl 1 rfl) ?_
      refine w_ci hS (w_runS (As := [.int a1]) C0 hW (c_X9_at l G A a1 hv3 _ h) ⟨⟨w_835, w_61, w_837⟩, pl_X9_at, ⟨Nat.le_of_ble_eq_true rfl, Nat.le_of_ble_eq_true rfl⟩, ⟨Nat.le_refl _, Nat.le_refl _⟩⟩ w_836 rfl hl.1 rfl (Nat.le_of_ble_eq_true rfl) dX9_setChamber_29) (fun r5 hv5 h H locs hW hS => ?_)
      obtain ⟨m5, em5, im5, h⟩ := h
      subst em5
      refine lv_istore (lv' := [(4, .int (nI m5)), (0, .ref (ad G 9 0)), (1, .int a1), (2, .int a2), (3, .int a3)]) hx hb dX9_setChamber_32 hl (by decide) rfl (fun ls hl => ?_)
      refine lv_aload_n hx hb dX9_setChamber_34 rfl (lv_at hl 1 rfl) ?_
      refine w_get (v := .ref (ad G 15 0)) C0 hW 9 0 (by decide) (by decide) rfl rfl in_X9 0 (by decide) w_762 rfl dX9_setChamber_35 ?_
      refine lv_iload hx hb dX9_setChamber_38 (lv_at hl 0 rfl) ?_
      refine lv_iconst (v := 5) hx hb dX9_setChamber_40 (by decide) ?_
      refine lv_iadd hx hb dX9_setChamber_41 ?_
      refine w_top (y := nI (m5 + 5)) (nI_add m5 5) ?_
      refine w_ialdN C0 hW 15 0 (by decide) (by decide) (n := 370) rfl (j := (m5 + 5)) rfl (by omega) (by decide) dX9_setChamber_42 ?_
      refine lv_iconst (v := 1) hx hb dX9_setChamber_43 (by decide) ?_
      refine lv_icmp_ne (tgt := 51) hx hb dX9_setChamber_44 (by decide) (fun c6 => ?_) (fun c6 => ?_)
      · have h := h.2 c6
        refine lv_aload_n hx hb dX9_setChamber_51 rfl (lv_at hl 1 rfl) ?_
        refine w_cv hS (w_runV (As := []) C0 hW 9 0 (by decide) (by decide) rfl rfl (c_X9_record l G A hv5 _ h) ⟨⟨w_831, w_61, w_834⟩, pl_X9_record, ⟨Nat.le_of_ble_eq_true rfl, Nat.le_of_ble_eq_true rfl⟩, ⟨Nat.le_refl _, Nat.le_refl _⟩⟩ ⟨w_833, w_9⟩ rfl hl.1 rfl (Nat.le_of_ble_eq_true rfl) dX9_setChamber_52) (fun hv7 h H locs hW hS => ?_)
        refine lv_aload_n hx hb dX9_setChamber_55 rfl (lv_at hl 1 rfl) ?_
        refine w_get (v := .ref (ad G 15 0)) C0 hW 9 0 (by decide) (by decide) rfl rfl in_X9 0 (by decide) w_762 rfl dX9_setChamber_56 ?_
        refine lv_iload hx hb dX9_setChamber_59 (lv_at hl 0 rfl) ?_
        refine lv_bipush (v := 13) hx hb dX9_setChamber_61 (by decide) ?_
        refine lv_iadd hx hb dX9_setChamber_63 ?_
        refine w_top (y := nI (m5 + 13)) (nI_add m5 13) ?_
        refine w_ialdN C0 hW 15 0 (by decide) (by decide) (n := 370) rfl (j := (m5 + 13)) rfl (by omega) (by decide) dX9_setChamber_64 ?_
        refine lv_topi (fun x8 ex8 => ?_)
        have h := h x8 ex8
        refine lv_istore (lv' := [(5, .int x8), (4, .int (nI m5)), (0, .ref (ad G 9 0)), (1, .int a1), (2, .int a2), (3, .int a3)]) hx hb dX9_setChamber_65 hl (by decide) rfl (fun ls hl => ?_)
        refine lv_aload_n hx hb dX9_setChamber_67 rfl (lv_at hl 2 rfl) ?_
        refine lv_iload hx hb dX9_setChamber_68 (lv_at hl 0 rfl) ?_
        refine w_cv hS (w_runV (As := [.int x8]) C0 hW 9 0 (by decide) (by decide) rfl rfl (c_X9_fill l G A x8 hv7 _ h) ⟨⟨w_858, w_61, w_861⟩, pl_X9_fill, ⟨Nat.le_of_ble_eq_true rfl, Nat.le_of_ble_eq_true rfl⟩, ⟨Nat.le_refl _, Nat.le_refl _⟩⟩ ⟨w_860, w_13⟩ rfl hl.1 rfl (Nat.le_of_ble_eq_true rfl) dX9_setChamber_70) (fun hv9 h H locs hW hS => ?_)
        refine lv_aload_n hx hb dX9_setChamber_73 rfl (lv_at hl 2 rfl) ?_
        refine w_get (v := .ref (ad G 15 0)) C0 hW 9 0 (by decide) (by decide) rfl rfl in_X9 0 (by decide) w_762 rfl dX9_setChamber_74 ?_
        refine lv_iload hx hb dX9_setChamber_77 (lv_at hl 1 rfl) ?_
        refine lv_bipush (v := 11) hx hb dX9_setChamber_79 (by decide) ?_
        refine lv_iadd hx hb dX9_setChamber_81 ?_
        refine w_top (y := nI (m5 + 11)) (nI_add m5 11) ?_
        refine lv_iload_n hx hb dX9_setChamber_82 rfl (lv_at hl 4 rfl) ?_
        refine w_iastN C0 hW hS 15 0 (by decide) (by decide) (n := 370) (fun _ => rfl) (j := (m5 + 11)) rfl (by omega) (by decide) dX9_setChamber_83 (fun hv10 ehv10 H locs hW hS => ?_)
        have h := h hv10 ehv10
        refine lv_aload_n hx hb dX9_setChamber_84 rfl (lv_at hl 2 rfl) ?_
        refine w_get (v := .ref (ad G 15 0)) C0 hW 9 0 (by decide) (by decide) rfl rfl in_X9 0 (by decide) w_762 rfl dX9_setChamber_85 ?_
        refine lv_iload hx hb dX9_setChamber_88 (lv_at hl 1 rfl) ?_
        refine lv_bipush (v := 12) hx hb dX9_setChamber_90 (by decide) ?_
        refine lv_iadd hx hb dX9_setChamber_92 ?_
        refine w_top (y := nI (m5 + 12)) (nI_add m5 12) ?_
        refine lv_iload_n hx hb dX9_setChamber_93 rfl (lv_at hl 5 rfl) ?_
        refine lv_if_eq (tgt := 101) hx hb dX9_setChamber_94 (by decide) (fun c11 => ?_) (fun c11 => ?_)
        · have h := h.1 c11
          refine lv_iconst (v := 0) hx hb dX9_setChamber_101 (by decide) ?_
          refine w_iastN C0 hW hS 15 0 (by decide) (by decide) (n := 370) (fun _ => rfl) (j := (m5 + 12)) rfl (by omega) (by decide) dX9_setChamber_102 (fun hv12 ehv12 H locs hW hS => ?_)
          have h := h hv12 ehv12
          refine lv_aload_n hx hb dX9_setChamber_103 rfl (lv_at hl 2 rfl) ?_
          refine w_get (v := .ref (ad G 15 0)) C0 hW 9 0 (by decide) (by decide) rfl rfl in_X9 0 (by decide) w_762 rfl dX9_setChamber_104 ?_
          refine lv_iload hx hb dX9_setChamber_107 (lv_at hl 1 rfl) ?_
          refine lv_bipush (v := 13) hx hb dX9_setChamber_109 (by decide) ?_
          refine lv_iadd hx hb dX9_setChamber_111 ?_
          refine w_top (y := nI (m5 + 13)) (nI_add m5 13) ?_
          refine lv_iconst (v := 0) hx hb dX9_setChamber_112 (by decide) ?_
          refine w_iastN C0 hW hS 15 0 (by decide) (by decide) (n := 370) (fun _ => rfl) (j := (m5 + 13)) rfl (by omega) (by decide) dX9_setChamber_113 (fun hv13 ehv13 H locs hW hS => ?_)
          have h := h hv13 ehv13
          refine lv_aload_n hx hb dX9_setChamber_114 rfl (lv_at hl 2 rfl) ?_
          refine w_get (v := .ref (ad G 15 0)) C0 hW 9 0 (by decide) (by decide) rfl rfl in_X9 0 (by decide) w_762 rfl dX9_setChamber_115 ?_
          refine lv_iload hx hb dX9_setChamber_118 (lv_at hl 1 rfl) ?_
          refine lv_bipush (v := 14) hx hb dX9_setChamber_120 (by decide) ?_
          refine lv_iadd hx hb dX9_setChamber_122 ?_
          refine w_top (y := nI (m5 + 14)) (nI_add m5 14) ?_
          refine lv_iload_n hx hb dX9_setChamber_123 rfl (lv_at hl 4 rfl) ?_
          refine w_iastN C0 hW hS 15 0 (by decide) (by decide) (n := 370) (fun _ => rfl) (j := (m5 + 14)) rfl (by omega) (by decide) dX9_setChamber_124 (fun hv14 ehv14 H locs hW hS => ?_)
          have h := h hv14 ehv14
          refine lv_iload hx hb dX9_setChamber_125 (lv_at hl 0 rfl) ?_
          exact w_iret C0 hr hW hS h dX9_setChamber_127
        · have h := h.2 c11
          refine lv_iconst (v := 1) hx hb dX9_setChamber_97 (by decide) ?_
          refine lv_goto (tgt := 102) hx hb dX9_setChamber_98 (by decide) ?_
          refine w_iastN C0 hW hS 15 0 (by decide) (by decide) (n := 370) (fun _ => rfl) (j := (m5 + 12)) rfl (by omega) (by decide) dX9_setChamber_102 (fun hv15 ehv15 H locs hW hS => ?_)
          have h := h hv15 ehv15
          refine lv_aload_n hx hb dX9_setChamber_103 rfl (lv_at hl 2 rfl) ?_
          refine w_get (v := .ref (ad G 15 0)) C0 hW 9 0 (by decide) (by decide) rfl rfl in_X9 0 (by decide) w_762 rfl dX9_setChamber_104 ?_
          refine lv_iload hx hb dX9_setChamber_107 (lv_at hl 1 rfl) ?_
          refine lv_bipush (v := 13) hx hb dX9_setChamber_109 (by decide) ?_
          refine lv_iadd hx hb dX9_setChamber_111 ?_
          refine w_top (y := nI (m5 + 13)) (nI_add m5 13) ?_
          refine lv_iconst (v := 0) hx hb dX9_setChamber_112 (by decide) ?_
          refine w_iastN C0 hW hS 15 0 (by decide) (by decide) (n := 370) (fun _ => rfl) (j := (m5 + 13)) rfl (by omega) (by decide) dX9_setChamber_113 (fun hv16 ehv16 H locs hW hS => ?_)
          have h := h hv16 ehv16
          refine lv_aload_n hx hb dX9_setChamber_114 rfl (lv_at hl 2 rfl) ?_
          refine w_get (v := .ref (ad G 15 0)) C0 hW 9 0 (by decide) (by decide) rfl rfl in_X9 0 (by decide) w_762 rfl dX9_setChamber_115 ?_
          refine lv_iload hx hb dX9_setChamber_118 (lv_at hl 1 rfl) ?_
          refine lv_bipush (v := 14) hx hb dX9_setChamber_120 (by decide) ?_
          refine lv_iadd hx hb dX9_setChamber_122 ?_
          refine w_top (y := nI (m5 + 14)) (nI_add m5 14) ?_
          refine lv_iload_n hx hb dX9_setChamber_123 rfl (lv_at hl 4 rfl) ?_
          refine w_iastN C0 hW hS 15 0 (by decide) (by decide) (n := 370) (fun _ => rfl) (j := (m5 + 14)) rfl (by omega) (by decide) dX9_setChamber_124 (fun hv17 ehv17 H locs hW hS => ?_)
          have h := h hv17 ehv17
          refine lv_iload hx hb dX9_setChamber_125 (lv_at hl 0 rfl) ?_
          exact w_iret C0 hr hW hS h dX9_setChamber_127
      · have h := h.1 c6
        refine lv_sipush (v := (-1003)) hx hb dX9_setChamber_47 (by decide) ?_
        exact w_iret C0 hr hW hS h dX9_setChamber_50
    · have h := h.1 c4
      refine lv_sipush (v := (-1002)) hx hb dX9_setChamber_24 (by decide) ?_
      exact w_iret C0 hr hW hS h dX9_setChamber_27
  · have h := h.1 c2
    refine lv_sipush (v := (-1001)) hx hb dX9_setChamber_8 (by decide) ?_
    exact w_iret C0 hr hW hS h dX9_setChamber_11

theorem pl_X9_inflowNow : yX9_inflowNow.cls ≠ "java/lang/invoke/MethodHandle" ∧ yX9_inflowNow.cls ≠ "java/lang/invoke/VarHandle" ∧ (parseMethodDescriptor yX9_inflowNow.desc).map (fun d => d.parameters.length) = some 1 := ⟨by decide +kernel, by decide +kernel, by decide +kernel⟩
def V_X9_inflowNow (a1 : Int32) (hv : HV) (post : Int32 → HV → Prop) : Prop := (∀ x1 : Int32, x1 = (hv 15 0 1) → (∀ hv2 : HV, hv2 = up hv 15 0 (upd (hv 15 0) 1 a1) → post x1 hv2))
set_option maxHeartbeats 4000000 in
theorem c_X9_inflowNow (l : Launch) (G : wG) (A : Nat → Prop) (a1 : Int32) (hv : HV) (post : Int32 → HV → Prop) (h : V_X9_inflowNow a1 hv post) : wM l yX9_inflowNow cX9_inflowNow 3 ((Option.some FieldType.int)) 0 G A hv [.ref (ad G 9 0), .int a1] (qI G A post) := by
  refine wM_of (by decide +kernel) (Nat.le_of_ble_eq_true rfl) ?_
  intro p e s m args below meth c C0 hr ls hl hW hS
  have hx := C0.1
  have hb := C0.2.1
  have hown := C0.2.2.2.1
  have hts := C0.2.2.2.2.1
  have hl : lv_has ls 3 [(0, .ref (ad G 9 0)), (1, .int a1)] := hl
  unfold V_X9_inflowNow at h
  refine lv_aload_n hx hb dX9_inflowNow_0 rfl (lv_at hl 0 rfl) ?_
  refine w_get (v := .ref (ad G 15 0)) C0 hW 9 0 (by decide) (by decide) rfl rfl in_X9 0 (by decide) w_762 rfl dX9_inflowNow_1 ?_
  refine lv_iconst (v := 1) hx hb dX9_inflowNow_4 (by decide) ?_
  refine w_ialdN C0 hW 15 0 (by decide) (by decide) (n := 370) rfl (j := 1) rfl (by omega) (by decide) dX9_inflowNow_5 ?_
  refine lv_topi (fun x1 ex1 => ?_)
  have h := h x1 ex1
  refine lv_istore_n (lv' := [(2, .int x1), (0, .ref (ad G 9 0)), (1, .int a1)]) hx hb dX9_inflowNow_6 rfl hl (by decide) rfl (fun ls hl => ?_)
  refine lv_aload_n hx hb dX9_inflowNow_7 rfl (lv_at hl 1 rfl) ?_
  refine w_get (v := .ref (ad G 15 0)) C0 hW 9 0 (by decide) (by decide) rfl rfl in_X9 0 (by decide) w_762 rfl dX9_inflowNow_8 ?_
  refine lv_iconst (v := 1) hx hb dX9_inflowNow_11 (by decide) ?_
  refine lv_iload_n hx hb dX9_inflowNow_12 rfl (lv_at hl 2 rfl) ?_
  refine w_iastN C0 hW hS 15 0 (by decide) (by decide) (n := 370) (fun _ => rfl) (j := 1) rfl (by omega) (by decide) dX9_inflowNow_13 (fun hv2 ehv2 H locs hW hS => ?_)
  have h := h hv2 ehv2
  refine lv_iload_n hx hb dX9_inflowNow_14 rfl (lv_at hl 0 rfl) ?_
  exact w_iret C0 hr hW hS h dX9_inflowNow_15

theorem pl_X9_setInflow : yX9_setInflow.cls ≠ "java/lang/invoke/MethodHandle" ∧ yX9_setInflow.cls ≠ "java/lang/invoke/VarHandle" ∧ (parseMethodDescriptor yX9_setInflow.desc).map (fun d => d.parameters.length) = some 1 := ⟨by decide +kernel, by decide +kernel, by decide +kernel⟩
def V_X9_setInflow (a1 : Int32) (hv : HV) (post : Int32 → HV → Prop) : Prop := (V_X9_in a1 0 500 hv (fun r1 hv1 => ((r1 = 0 → post (-1002) hv1) ∧ (¬ (r1 = 0) → (V_X9_record hv1 (fun hv3 => (V_X9_inflowNow a1 hv3 (fun r4 hv4 => post r4 hv4))))))))
set_option maxHeartbeats 4000000 in
theorem c_X9_setInflow (l : Launch) (G : wG) (A : Nat → Prop) (a1 : Int32) (hv : HV) (post : Int32 → HV → Prop) (h : V_X9_setInflow a1 hv post) : wM l yX9_setInflow cX9_setInflow 2 ((Option.some FieldType.int)) 1 G A hv [.ref (ad G 9 0), .int a1] (qI G A post) := by
  refine wM_of (by decide +kernel) (Nat.le_of_ble_eq_true rfl) ?_
  intro p e s m args below meth c C0 hr ls hl hW hS
  have hx := C0.1
  have hb := C0.2.1
  have hown := C0.2.2.2.1
  have hts := C0.2.2.2.2.1
  have hl : lv_has ls 2 [(0, .ref (ad G 9 0)), (1, .int a1)] := hl
  unfold V_X9_setInflow at h
  refine lv_iload_n hx hb dX9_setInflow_0 rfl (lv_at hl 1 rfl) ?_
  refine lv_iconst (v := 0) hx hb dX9_setInflow_1 (by decide) ?_
  refine lv_sipush (v := 500) hx hb dX9_setInflow_2 (by decide) ?_
  refine w_ci hS (w_runS (As := [.int a1, .int 0, .int 500]) C0 hW (c_X9_in l G A a1 0 500 hv _ h) ⟨⟨w_828, w_61, w_830⟩, pl_X9_in, ⟨Nat.le_of_ble_eq_true rfl, Nat.le_of_ble_eq_true rfl⟩, ⟨Nat.le_refl _, Nat.le_refl _⟩⟩ w_829 rfl hl.1 rfl (Nat.le_of_ble_eq_true rfl) dX9_setInflow_5) (fun r1 hv1 h H locs hW hS => ?_)
  refine lv_if_ne (tgt := 15) hx hb dX9_setInflow_8 (by decide) (fun c2 => ?_) (fun c2 => ?_)
  · have h := h.2 c2
    refine lv_aload_n hx hb dX9_setInflow_15 rfl (lv_at hl 0 rfl) ?_
    refine w_cv hS (w_runV (As := []) C0 hW 9 0 (by decide) (by decide) rfl rfl (c_X9_record l G A hv1 _ h) ⟨⟨w_831, w_61, w_834⟩, pl_X9_record, ⟨Nat.le_of_ble_eq_true rfl, Nat.le_of_ble_eq_true rfl⟩, ⟨Nat.le_refl _, Nat.le_refl _⟩⟩ ⟨w_833, w_9⟩ rfl hl.1 rfl (Nat.le_of_ble_eq_true rfl) dX9_setInflow_16) (fun hv3 h H locs hW hS => ?_)
    refine lv_aload_n hx hb dX9_setInflow_19 rfl (lv_at hl 0 rfl) ?_
    refine lv_iload_n hx hb dX9_setInflow_20 rfl (lv_at hl 1 rfl) ?_
    refine w_ci hS (w_runV (As := [.int a1]) C0 hW 9 0 (by decide) (by decide) rfl rfl (c_X9_inflowNow l G A a1 hv3 _ h) ⟨⟨w_866, w_61, w_869⟩, pl_X9_inflowNow, ⟨Nat.le_of_ble_eq_true rfl, Nat.le_of_ble_eq_true rfl⟩, ⟨Nat.le_refl _, Nat.le_refl _⟩⟩ ⟨w_868, w_14⟩ rfl hl.1 rfl (Nat.le_of_ble_eq_true rfl) dX9_setInflow_21) (fun r4 hv4 h H locs hW hS => ?_)
    exact w_iret C0 hr hW hS h dX9_setInflow_24
  · have h := h.1 c2
    refine lv_sipush (v := (-1002)) hx hb dX9_setInflow_11 (by decide) ?_
    exact w_iret C0 hr hW hS h dX9_setInflow_14

theorem pl_X9_runRefused : yX9_runRefused.cls ≠ "java/lang/invoke/MethodHandle" ∧ yX9_runRefused.cls ≠ "java/lang/invoke/VarHandle" ∧ (parseMethodDescriptor yX9_runRefused.desc).map (fun d => d.parameters.length) = some 2 := ⟨by decide +kernel, by decide +kernel, by decide +kernel⟩
def V_X9_runRefused (a1 : Int32) (a2 : Int32) (hv : HV) (post : Int32 → HV → Prop) : Prop := (V_X9_isPump a1 hv (fun r1 hv1 => ((r1 = 0 → post (-1001) hv1) ∧ (¬ (r1 = 0) → (V_X9_at a1 hv1 (fun r3 hv3 => (∃ m3 : Nat, r3 = nI m3 ∧ (m3 + 73 ≤ 370) ∧ (((hv3 15 0 (m3 + 5)) = a2 → post (-1003) hv3) ∧ (¬ ((hv3 15 0 (m3 + 5)) = a2) → post 0 hv3)))))))))
set_option maxHeartbeats 4000000 in
theorem c_X9_runRefused (l : Launch) (G : wG) (A : Nat → Prop) (a1 : Int32) (a2 : Int32) (hv : HV) (post : Int32 → HV → Prop) (h : V_X9_runRefused a1 a2 hv post) : wM l yX9_runRefused cX9_runRefused 3 ((Option.some FieldType.int)) 2 G A hv [.ref (ad G 9 0), .int a1, .int a2] (qI G A post) := by
  refine wM_of (by decide +kernel) (Nat.le_of_ble_eq_true rfl) ?_
  intro p e s m args below meth c C0 hr ls hl hW hS
  have hx := C0.1
  have hb := C0.2.1
  have hown := C0.2.2.2.1
  have hts := C0.2.2.2.2.1
  have hl : lv_has ls 3 [(0, .ref (ad G 9 0)), (1, .int a1), (2, .int a2)] := hl
  unfold V_X9_runRefused at h
  refine lv_aload_n hx hb dX9_runRefused_0 rfl (lv_at hl 0 rfl) ?_
  refine lv_iload_n hx hb dX9_runRefused_1 rfl (lv_at hl 1 rfl) ?_
  refine w_ci hS (w_runV (As := [.int a1]) C0 hW 9 0 (by decide) (by decide) rfl rfl (c_X9_isPump l G A a1 hv _ h) ⟨⟨w_846, w_61, w_849⟩, pl_X9_isPump, ⟨Nat.le_of_ble_eq_true rfl, Nat.le_of_ble_eq_true rfl⟩, ⟨Nat.le_refl _, Nat.le_refl _⟩⟩ ⟨w_848, w_11⟩ rfl hl.1 rfl (Nat.le_of_ble_eq_true rfl) dX9_runRefused_2) (fun r1 hv1 h H locs hW hS => ?_)
  refine lv_if_ne (tgt := 14) hx hb dX9_runRefused_5 (by decide) (fun c2 => ?_) (fun c2 => ?_)
  · have h := h.2 c2
    refine lv_aload_n hx hb dX9_runRefused_14 rfl (lv_at hl 0 rfl) ?_
    refine w_get (v := .ref (ad G 15 0)) C0 hW 9 0 (by decide) (by decide) rfl rfl in_X9 0 (by decide) w_762 rfl dX9_runRefused_15 ?_
    refine lv_iload_n hx hb dX9_runRefused_18 rfl (lv_at hl 1 rfl) ?_
    refine w_ci hS (w_runS (As := [.int a1]) C0 hW (c_X9_at l G A a1 hv1 _ h) ⟨⟨w_835, w_61, w_837⟩, pl_X9_at, ⟨Nat.le_of_ble_eq_true rfl, Nat.le_of_ble_eq_true rfl⟩, ⟨Nat.le_refl _, Nat.le_refl _⟩⟩ w_836 rfl hl.1 rfl (Nat.le_of_ble_eq_true rfl) dX9_runRefused_19) (fun r3 hv3 h H locs hW hS => ?_)
    obtain ⟨m3, em3, im3, h⟩ := h
    subst em3
    refine lv_iconst (v := 5) hx hb dX9_runRefused_22 (by decide) ?_
    refine lv_iadd hx hb dX9_runRefused_23 ?_
    refine w_top (y := nI (m3 + 5)) (nI_add m3 5) ?_
    refine w_ialdN C0 hW 15 0 (by decide) (by decide) (n := 370) rfl (j := (m3 + 5)) rfl (by omega) (by decide) dX9_runRefused_24 ?_
    refine lv_iload_n hx hb dX9_runRefused_25 rfl (lv_at hl 2 rfl) ?_
    refine lv_icmp_ne (tgt := 35) hx hb dX9_runRefused_26 (by decide) (fun c4 => ?_) (fun c4 => ?_)
    · have h := h.2 c4
      refine lv_iconst (v := 0) hx hb dX9_runRefused_35 (by decide) ?_
      exact w_iret C0 hr hW hS h dX9_runRefused_36
    · have h := h.1 c4
      refine lv_sipush (v := (-1003)) hx hb dX9_runRefused_29 (by decide) ?_
      refine lv_goto (tgt := 36) hx hb dX9_runRefused_32 (by decide) ?_
      exact w_iret C0 hr hW hS h dX9_runRefused_36
  · have h := h.1 c2
    refine lv_sipush (v := (-1001)) hx hb dX9_runRefused_8 (by decide) ?_
    refine lv_goto (tgt := 36) hx hb dX9_runRefused_11 (by decide) ?_
    exact w_iret C0 hr hW hS h dX9_runRefused_36

theorem pl_X9_startNow : yX9_startNow.cls ≠ "java/lang/invoke/MethodHandle" ∧ yX9_startNow.cls ≠ "java/lang/invoke/VarHandle" ∧ (parseMethodDescriptor yX9_startNow.desc).map (fun d => d.parameters.length) = some 1 := ⟨by decide +kernel, by decide +kernel, by decide +kernel⟩
def V_X9_startNow (a1 : Int32) (hv : HV) (post : Int32 → HV → Prop) : Prop := (V_X9_at a1 hv (fun r1 hv1 => (∃ m1 : Nat, r1 = nI m1 ∧ (m1 + 73 ≤ 370) ∧ (∀ hv2 : HV, hv2 = up hv1 15 0 (upd (hv1 15 0) (m1 + 5) 1) → (V_X9_at a1 hv2 (fun r3 hv3 => (∃ m3 : Nat, r3 = nI m3 ∧ (m3 + 73 ≤ 370) ∧ (∀ hv4 : HV, hv4 = up hv3 15 0 (upd (hv3 15 0) (m3 + 22) (hv3 15 0 2)) → (V_X9_running hv4 (fun r5 hv5 => post r5 hv5))))))))))
set_option maxHeartbeats 4000000 in
theorem c_X9_startNow (l : Launch) (G : wG) (A : Nat → Prop) (a1 : Int32) (hv : HV) (post : Int32 → HV → Prop) (h : V_X9_startNow a1 hv post) : wM l yX9_startNow cX9_startNow 2 ((Option.some FieldType.int)) 2 G A hv [.ref (ad G 9 0), .int a1] (qI G A post) := by
  refine wM_of (by decide +kernel) (Nat.le_of_ble_eq_true rfl) ?_
  intro p e s m args below meth c C0 hr ls hl hW hS
  have hx := C0.1
  have hb := C0.2.1
  have hown := C0.2.2.2.1
  have hts := C0.2.2.2.2.1
  have hl : lv_has ls 2 [(0, .ref (ad G 9 0)), (1, .int a1)] := hl
  unfold V_X9_startNow at h
  refine lv_aload_n hx hb dX9_startNow_0 rfl (lv_at hl 0 rfl) ?_
  refine w_get (v := .ref (ad G 15 0)) C0 hW 9 0 (by decide) (by decide) rfl rfl in_X9 0 (by decide) w_762 rfl dX9_startNow_1 ?_
  refine lv_iload_n hx hb dX9_startNow_4 rfl (lv_at hl 1 rfl) ?_
  refine w_ci hS (w_runS (As := [.int a1]) C0 hW (c_X9_at l G A a1 hv _ h) ⟨⟨w_835, w_61, w_837⟩, pl_X9_at, ⟨Nat.le_of_ble_eq_true rfl, Nat.le_of_ble_eq_true rfl⟩, ⟨Nat.le_refl _, Nat.le_refl _⟩⟩ w_836 rfl hl.1 rfl (Nat.le_of_ble_eq_true rfl) dX9_startNow_5) (fun r1 hv1 h H locs hW hS => ?_)
  obtain ⟨m1, em1, im1, h⟩ := h
  subst em1
  refine lv_iconst (v := 5) hx hb dX9_startNow_8 (by decide) ?_
  refine lv_iadd hx hb dX9_startNow_9 ?_
  refine w_top (y := nI (m1 + 5)) (nI_add m1 5) ?_
  refine lv_iconst (v := 1) hx hb dX9_startNow_10 (by decide) ?_
  refine w_iastN C0 hW hS 15 0 (by decide) (by decide) (n := 370) (fun _ => rfl) (j := (m1 + 5)) rfl (by omega) (by decide) dX9_startNow_11 (fun hv2 ehv2 H locs hW hS => ?_)
  have h := h hv2 ehv2
  refine lv_aload_n hx hb dX9_startNow_12 rfl (lv_at hl 0 rfl) ?_
  refine w_get (v := .ref (ad G 15 0)) C0 hW 9 0 (by decide) (by decide) rfl rfl in_X9 0 (by decide) w_762 rfl dX9_startNow_13 ?_
  refine lv_iload_n hx hb dX9_startNow_16 rfl (lv_at hl 1 rfl) ?_
  refine w_ci hS (w_runS (As := [.int a1]) C0 hW (c_X9_at l G A a1 hv2 _ h) ⟨⟨w_835, w_61, w_837⟩, pl_X9_at, ⟨Nat.le_of_ble_eq_true rfl, Nat.le_of_ble_eq_true rfl⟩, ⟨Nat.le_refl _, Nat.le_refl _⟩⟩ w_836 rfl hl.1 rfl (Nat.le_of_ble_eq_true rfl) dX9_startNow_17) (fun r3 hv3 h H locs hW hS => ?_)
  obtain ⟨m3, em3, im3, h⟩ := h
  subst em3
  refine lv_bipush (v := 22) hx hb dX9_startNow_20 (by decide) ?_
  refine lv_iadd hx hb dX9_startNow_22 ?_
  refine w_top (y := nI (m3 + 22)) (nI_add m3 22) ?_
  refine lv_aload_n hx hb dX9_startNow_23 rfl (lv_at hl 0 rfl) ?_
  refine w_get (v := .ref (ad G 15 0)) C0 hW 9 0 (by decide) (by decide) rfl rfl in_X9 0 (by decide) w_762 rfl dX9_startNow_24 ?_
  refine lv_iconst (v := 2) hx hb dX9_startNow_27 (by decide) ?_
  refine w_ialdN C0 hW 15 0 (by decide) (by decide) (n := 370) rfl (j := 2) rfl (by omega) (by decide) dX9_startNow_28 ?_
  refine w_iastN C0 hW hS 15 0 (by decide) (by decide) (n := 370) (fun _ => rfl) (j := (m3 + 22)) rfl (by omega) (by decide) dX9_startNow_29 (fun hv4 ehv4 H locs hW hS => ?_)
  have h := h hv4 ehv4
  refine lv_aload_n hx hb dX9_startNow_30 rfl (lv_at hl 0 rfl) ?_
  refine w_ci hS (w_runV (As := []) C0 hW 9 0 (by decide) (by decide) rfl rfl (c_X9_running l G A hv4 _ h) ⟨⟨w_882, w_61, w_885⟩, pl_X9_running, ⟨Nat.le_of_ble_eq_true rfl, Nat.le_of_ble_eq_true rfl⟩, ⟨Nat.le_refl _, Nat.le_refl _⟩⟩ ⟨w_884, w_17⟩ rfl hl.1 rfl (Nat.le_of_ble_eq_true rfl) dX9_startNow_31) (fun r5 hv5 h H locs hW hS => ?_)
  exact w_iret C0 hr hW hS h dX9_startNow_34

theorem pl_X9_start : yX9_start.cls ≠ "java/lang/invoke/MethodHandle" ∧ yX9_start.cls ≠ "java/lang/invoke/VarHandle" ∧ (parseMethodDescriptor yX9_start.desc).map (fun d => d.parameters.length) = some 1 := ⟨by decide +kernel, by decide +kernel, by decide +kernel⟩
def V_X9_start (a1 : Int32) (hv : HV) (post : Int32 → HV → Prop) : Prop := (V_X9_runRefused a1 1 hv (fun r1 hv1 => ((r1 = 0 → (V_X9_record hv1 (fun hv3 => (V_X9_startNow a1 hv3 (fun r4 hv4 => post r4 hv4))))) ∧ (¬ (r1 = 0) → post r1 hv1))))
set_option maxHeartbeats 4000000 in
theorem c_X9_start (l : Launch) (G : wG) (A : Nat → Prop) (a1 : Int32) (hv : HV) (post : Int32 → HV → Prop) (h : V_X9_start a1 hv post) : wM l yX9_start cX9_start 3 ((Option.some FieldType.int)) 3 G A hv [.ref (ad G 9 0), .int a1] (qI G A post) := by
  refine wM_of (by decide +kernel) (Nat.le_of_ble_eq_true rfl) ?_
  intro p e s m args below meth c C0 hr ls hl hW hS
  have hx := C0.1
  have hb := C0.2.1
  have hown := C0.2.2.2.1
  have hts := C0.2.2.2.2.1
  have hl : lv_has ls 3 [(0, .ref (ad G 9 0)), (1, .int a1)] := hl
  unfold V_X9_start at h
  refine lv_aload_n hx hb dX9_start_0 rfl (lv_at hl 0 rfl) ?_
  refine lv_iload_n hx hb dX9_start_1 rfl (lv_at hl 1 rfl) ?_
  refine lv_iconst (v := 1) hx hb dX9_start_2 (by decide) ?_
  refine w_ci hS (w_runV (As := [.int a1, .int 1]) C0 hW 9 0 (by decide) (by decide) rfl rfl (c_X9_runRefused l G A a1 1 hv _ h) ⟨⟨w_874, w_61, w_877⟩, pl_X9_runRefused, ⟨Nat.le_of_ble_eq_true rfl, Nat.le_of_ble_eq_true rfl⟩, ⟨Nat.le_refl _, Nat.le_refl _⟩⟩ ⟨w_876, w_15⟩ rfl hl.1 rfl (Nat.le_of_ble_eq_true rfl) dX9_start_3) (fun r1 hv1 h H locs hW hS => ?_)
  refine lv_istore_n (lv' := [(2, .int r1), (0, .ref (ad G 9 0)), (1, .int a1)]) hx hb dX9_start_6 rfl hl (by decide) rfl (fun ls hl => ?_)
  refine lv_iload_n hx hb dX9_start_7 rfl (lv_at hl 0 rfl) ?_
  refine lv_if_eq (tgt := 13) hx hb dX9_start_8 (by decide) (fun c2 => ?_) (fun c2 => ?_)
  · have h := h.1 c2
    refine lv_aload_n hx hb dX9_start_13 rfl (lv_at hl 1 rfl) ?_
    refine w_cv hS (w_runV (As := []) C0 hW 9 0 (by decide) (by decide) rfl rfl (c_X9_record l G A hv1 _ h) ⟨⟨w_831, w_61, w_834⟩, pl_X9_record, ⟨Nat.le_of_ble_eq_true rfl, Nat.le_of_ble_eq_true rfl⟩, ⟨Nat.le_refl _, Nat.le_refl _⟩⟩ ⟨w_833, w_9⟩ rfl hl.1 rfl (Nat.le_of_ble_eq_true rfl) dX9_start_14) (fun hv3 h H locs hW hS => ?_)
    refine lv_aload_n hx hb dX9_start_17 rfl (lv_at hl 1 rfl) ?_
    refine lv_iload_n hx hb dX9_start_18 rfl (lv_at hl 2 rfl) ?_
    refine w_ci hS (w_runV (As := [.int a1]) C0 hW 9 0 (by decide) (by decide) rfl rfl (c_X9_startNow l G A a1 hv3 _ h) ⟨⟨w_878, w_61, w_881⟩, pl_X9_startNow, ⟨Nat.le_of_ble_eq_true rfl, Nat.le_of_ble_eq_true rfl⟩, ⟨Nat.le_refl _, Nat.le_refl _⟩⟩ ⟨w_880, w_16⟩ rfl hl.1 rfl (Nat.le_of_ble_eq_true rfl) dX9_start_19) (fun r4 hv4 h H locs hW hS => ?_)
    exact w_iret C0 hr hW hS h dX9_start_22
  · have h := h.2 c2
    refine lv_iload_n hx hb dX9_start_11 rfl (lv_at hl 0 rfl) ?_
    exact w_iret C0 hr hW hS h dX9_start_12

theorem pl_X9_stopNow : yX9_stopNow.cls ≠ "java/lang/invoke/MethodHandle" ∧ yX9_stopNow.cls ≠ "java/lang/invoke/VarHandle" ∧ (parseMethodDescriptor yX9_stopNow.desc).map (fun d => d.parameters.length) = some 1 := ⟨by decide +kernel, by decide +kernel, by decide +kernel⟩
def V_X9_stopNow (a1 : Int32) (hv : HV) (post : Int32 → HV → Prop) : Prop := (V_X9_at a1 hv (fun r1 hv1 => (∃ m1 : Nat, r1 = nI m1 ∧ (m1 + 73 ≤ 370) ∧ (∀ hv2 : HV, hv2 = up hv1 15 0 (upd (hv1 15 0) (m1 + 5) 0) → (V_X9_at a1 hv2 (fun r3 hv3 => (∃ m3 : Nat, r3 = nI m3 ∧ (m3 + 73 ≤ 370) ∧ (V_X9_open m3 hv3 (fun hv4 => (V_X9_running hv4 (fun r5 hv5 => post r5 hv5)))))))))))
set_option maxHeartbeats 4000000 in
theorem c_X9_stopNow (l : Launch) (G : wG) (A : Nat → Prop) (a1 : Int32) (hv : HV) (post : Int32 → HV → Prop) (h : V_X9_stopNow a1 hv post) : wM l yX9_stopNow cX9_stopNow 2 ((Option.some FieldType.int)) 2 G A hv [.ref (ad G 9 0), .int a1] (qI G A post) := by
  refine wM_of (by decide +kernel) (Nat.le_of_ble_eq_true rfl) ?_
  intro p e s m args below meth c C0 hr ls hl hW hS
  have hx := C0.1
  have hb := C0.2.1
  have hown := C0.2.2.2.1
  have hts := C0.2.2.2.2.1
  have hl : lv_has ls 2 [(0, .ref (ad G 9 0)), (1, .int a1)] := hl
  unfold V_X9_stopNow at h
  refine lv_aload_n hx hb dX9_stopNow_0 rfl (lv_at hl 0 rfl) ?_
  refine w_get (v := .ref (ad G 15 0)) C0 hW 9 0 (by decide) (by decide) rfl rfl in_X9 0 (by decide) w_762 rfl dX9_stopNow_1 ?_
  refine lv_iload_n hx hb dX9_stopNow_4 rfl (lv_at hl 1 rfl) ?_
  refine w_ci hS (w_runS (As := [.int a1]) C0 hW (c_X9_at l G A a1 hv _ h) ⟨⟨w_835, w_61, w_837⟩, pl_X9_at, ⟨Nat.le_of_ble_eq_true rfl, Nat.le_of_ble_eq_true rfl⟩, ⟨Nat.le_refl _, Nat.le_refl _⟩⟩ w_836 rfl hl.1 rfl (Nat.le_of_ble_eq_true rfl) dX9_stopNow_5) (fun r1 hv1 h H locs hW hS => ?_)
  obtain ⟨m1, em1, im1, h⟩ := h
  subst em1
  refine lv_iconst (v := 5) hx hb dX9_stopNow_8 (by decide) ?_
  refine lv_iadd hx hb dX9_stopNow_9 ?_
  refine w_top (y := nI (m1 + 5)) (nI_add m1 5) ?_
  refine lv_iconst (v := 0) hx hb dX9_stopNow_10 (by decide) ?_
  refine w_iastN C0 hW hS 15 0 (by decide) (by decide) (n := 370) (fun _ => rfl) (j := (m1 + 5)) rfl (by omega) (by decide) dX9_stopNow_11 (fun hv2 ehv2 H locs hW hS => ?_)
  have h := h hv2 ehv2
  refine lv_aload_n hx hb dX9_stopNow_12 rfl (lv_at hl 0 rfl) ?_
  refine lv_iload_n hx hb dX9_stopNow_13 rfl (lv_at hl 1 rfl) ?_
  refine w_ci hS (w_runS (As := [.int a1]) C0 hW (c_X9_at l G A a1 hv2 _ h) ⟨⟨w_835, w_61, w_837⟩, pl_X9_at, ⟨Nat.le_of_ble_eq_true rfl, Nat.le_of_ble_eq_true rfl⟩, ⟨Nat.le_refl _, Nat.le_refl _⟩⟩ w_836 rfl hl.1 rfl (Nat.le_of_ble_eq_true rfl) dX9_stopNow_14) (fun r3 hv3 h H locs hW hS => ?_)
  obtain ⟨m3, em3, im3, h⟩ := h
  subst em3
  refine w_cv hS (w_runV (As := [.int (nI m3)]) C0 hW 9 0 (by decide) (by decide) rfl rfl (c_X9_open l G A m3 (by omega) hv3 _ h) ⟨⟨w_894, w_61, w_897⟩, pl_X9_open, ⟨Nat.le_of_ble_eq_true rfl, Nat.le_of_ble_eq_true rfl⟩, ⟨Nat.le_refl _, Nat.le_refl _⟩⟩ ⟨w_896, w_19⟩ rfl hl.1 rfl (Nat.le_of_ble_eq_true rfl) dX9_stopNow_17) (fun hv4 h H locs hW hS => ?_)
  refine lv_aload_n hx hb dX9_stopNow_20 rfl (lv_at hl 0 rfl) ?_
  refine w_ci hS (w_runV (As := []) C0 hW 9 0 (by decide) (by decide) rfl rfl (c_X9_running l G A hv4 _ h) ⟨⟨w_882, w_61, w_885⟩, pl_X9_running, ⟨Nat.le_of_ble_eq_true rfl, Nat.le_of_ble_eq_true rfl⟩, ⟨Nat.le_refl _, Nat.le_refl _⟩⟩ ⟨w_884, w_17⟩ rfl hl.1 rfl (Nat.le_of_ble_eq_true rfl) dX9_stopNow_21) (fun r5 hv5 h H locs hW hS => ?_)
  exact w_iret C0 hr hW hS h dX9_stopNow_24

theorem pl_X9_stop : yX9_stop.cls ≠ "java/lang/invoke/MethodHandle" ∧ yX9_stop.cls ≠ "java/lang/invoke/VarHandle" ∧ (parseMethodDescriptor yX9_stop.desc).map (fun d => d.parameters.length) = some 1 := ⟨by decide +kernel, by decide +kernel, by decide +kernel⟩
def V_X9_stop (a1 : Int32) (hv : HV) (post : Int32 → HV → Prop) : Prop := (V_X9_runRefused a1 0 hv (fun r1 hv1 => ((r1 = 0 → (V_X9_record hv1 (fun hv3 => (V_X9_stopNow a1 hv3 (fun r4 hv4 => post r4 hv4))))) ∧ (¬ (r1 = 0) → post r1 hv1))))
set_option maxHeartbeats 4000000 in
theorem c_X9_stop (l : Launch) (G : wG) (A : Nat → Prop) (a1 : Int32) (hv : HV) (post : Int32 → HV → Prop) (h : V_X9_stop a1 hv post) : wM l yX9_stop cX9_stop 3 ((Option.some FieldType.int)) 3 G A hv [.ref (ad G 9 0), .int a1] (qI G A post) := by
  refine wM_of (by decide +kernel) (Nat.le_of_ble_eq_true rfl) ?_
  intro p e s m args below meth c C0 hr ls hl hW hS
  have hx := C0.1
  have hb := C0.2.1
  have hown := C0.2.2.2.1
  have hts := C0.2.2.2.2.1
  have hl : lv_has ls 3 [(0, .ref (ad G 9 0)), (1, .int a1)] := hl
  unfold V_X9_stop at h
  refine lv_aload_n hx hb dX9_stop_0 rfl (lv_at hl 0 rfl) ?_
  refine lv_iload_n hx hb dX9_stop_1 rfl (lv_at hl 1 rfl) ?_
  refine lv_iconst (v := 0) hx hb dX9_stop_2 (by decide) ?_
  refine w_ci hS (w_runV (As := [.int a1, .int 0]) C0 hW 9 0 (by decide) (by decide) rfl rfl (c_X9_runRefused l G A a1 0 hv _ h) ⟨⟨w_874, w_61, w_877⟩, pl_X9_runRefused, ⟨Nat.le_of_ble_eq_true rfl, Nat.le_of_ble_eq_true rfl⟩, ⟨Nat.le_refl _, Nat.le_refl _⟩⟩ ⟨w_876, w_15⟩ rfl hl.1 rfl (Nat.le_of_ble_eq_true rfl) dX9_stop_3) (fun r1 hv1 h H locs hW hS => ?_)
  refine lv_istore_n (lv' := [(2, .int r1), (0, .ref (ad G 9 0)), (1, .int a1)]) hx hb dX9_stop_6 rfl hl (by decide) rfl (fun ls hl => ?_)
  refine lv_iload_n hx hb dX9_stop_7 rfl (lv_at hl 0 rfl) ?_
  refine lv_if_eq (tgt := 13) hx hb dX9_stop_8 (by decide) (fun c2 => ?_) (fun c2 => ?_)
  · have h := h.1 c2
    refine lv_aload_n hx hb dX9_stop_13 rfl (lv_at hl 1 rfl) ?_
    refine w_cv hS (w_runV (As := []) C0 hW 9 0 (by decide) (by decide) rfl rfl (c_X9_record l G A hv1 _ h) ⟨⟨w_831, w_61, w_834⟩, pl_X9_record, ⟨Nat.le_of_ble_eq_true rfl, Nat.le_of_ble_eq_true rfl⟩, ⟨Nat.le_refl _, Nat.le_refl _⟩⟩ ⟨w_833, w_9⟩ rfl hl.1 rfl (Nat.le_of_ble_eq_true rfl) dX9_stop_14) (fun hv3 h H locs hW hS => ?_)
    refine lv_aload_n hx hb dX9_stop_17 rfl (lv_at hl 1 rfl) ?_
    refine lv_iload_n hx hb dX9_stop_18 rfl (lv_at hl 2 rfl) ?_
    refine w_ci hS (w_runV (As := [.int a1]) C0 hW 9 0 (by decide) (by decide) rfl rfl (c_X9_stopNow l G A a1 hv3 _ h) ⟨⟨w_890, w_61, w_893⟩, pl_X9_stopNow, ⟨Nat.le_of_ble_eq_true rfl, Nat.le_of_ble_eq_true rfl⟩, ⟨Nat.le_refl _, Nat.le_refl _⟩⟩ ⟨w_892, w_18⟩ rfl hl.1 rfl (Nat.le_of_ble_eq_true rfl) dX9_stop_19) (fun r4 hv4 h H locs hW hS => ?_)
    exact w_iret C0 hr hW hS h dX9_stop_22
  · have h := h.2 c2
    refine lv_iload_n hx hb dX9_stop_11 rfl (lv_at hl 0 rfl) ?_
    exact w_iret C0 hr hW hS h dX9_stop_12

theorem pl_X9_tankRefused : yX9_tankRefused.cls ≠ "java/lang/invoke/MethodHandle" ∧ yX9_tankRefused.cls ≠ "java/lang/invoke/VarHandle" ∧ (parseMethodDescriptor yX9_tankRefused.desc).map (fun d => d.parameters.length) = some 1 := ⟨by decide +kernel, by decide +kernel, by decide +kernel⟩
def V_X9_tankRefused (a1 : Int32) (hv : HV) (post : Int32 → HV → Prop) : Prop := (V_X9_isPump a1 hv (fun r1 hv1 => ((r1 = 0 → post (-1001) hv1) ∧ (¬ (r1 = 0) → (V_X9_at a1 hv1 (fun r3 hv3 => (∃ m3 : Nat, r3 = nI m3 ∧ (m3 + 73 ≤ 370) ∧ (((hv3 15 0 (m3 + 15)) = 0 → post (-1003) hv3) ∧ (¬ ((hv3 15 0 (m3 + 15)) = 0) → post 0 hv3)))))))))
set_option maxHeartbeats 4000000 in
theorem c_X9_tankRefused (l : Launch) (G : wG) (A : Nat → Prop) (a1 : Int32) (hv : HV) (post : Int32 → HV → Prop) (h : V_X9_tankRefused a1 hv post) : wM l yX9_tankRefused cX9_tankRefused 2 ((Option.some FieldType.int)) 2 G A hv [.ref (ad G 9 0), .int a1] (qI G A post) := by
  refine wM_of (by decide +kernel) (Nat.le_of_ble_eq_true rfl) ?_
  intro p e s m args below meth c C0 hr ls hl hW hS
  have hx := C0.1
  have hb := C0.2.1
  have hown := C0.2.2.2.1
  have hts := C0.2.2.2.2.1
  have hl : lv_has ls 2 [(0, .ref (ad G 9 0)), (1, .int a1)] := hl
  unfold V_X9_tankRefused at h
  refine lv_aload_n hx hb dX9_tankRefused_0 rfl (lv_at hl 0 rfl) ?_
  refine lv_iload_n hx hb dX9_tankRefused_1 rfl (lv_at hl 1 rfl) ?_
  refine w_ci hS (w_runV (As := [.int a1]) C0 hW 9 0 (by decide) (by decide) rfl rfl (c_X9_isPump l G A a1 hv _ h) ⟨⟨w_846, w_61, w_849⟩, pl_X9_isPump, ⟨Nat.le_of_ble_eq_true rfl, Nat.le_of_ble_eq_true rfl⟩, ⟨Nat.le_refl _, Nat.le_refl _⟩⟩ ⟨w_848, w_11⟩ rfl hl.1 rfl (Nat.le_of_ble_eq_true rfl) dX9_tankRefused_2) (fun r1 hv1 h H locs hW hS => ?_)
  refine lv_if_ne (tgt := 14) hx hb dX9_tankRefused_5 (by decide) (fun c2 => ?_) (fun c2 => ?_)
  · have h := h.2 c2
    refine lv_aload_n hx hb dX9_tankRefused_14 rfl (lv_at hl 0 rfl) ?_
    refine w_get (v := .ref (ad G 15 0)) C0 hW 9 0 (by decide) (by decide) rfl rfl in_X9 0 (by decide) w_762 rfl dX9_tankRefused_15 ?_
    refine lv_iload_n hx hb dX9_tankRefused_18 rfl (lv_at hl 1 rfl) ?_
    refine w_ci hS (w_runS (As := [.int a1]) C0 hW (c_X9_at l G A a1 hv1 _ h) ⟨⟨w_835, w_61, w_837⟩, pl_X9_at, ⟨Nat.le_of_ble_eq_true rfl, Nat.le_of_ble_eq_true rfl⟩, ⟨Nat.le_refl _, Nat.le_refl _⟩⟩ w_836 rfl hl.1 rfl (Nat.le_of_ble_eq_true rfl) dX9_tankRefused_19) (fun r3 hv3 h H locs hW hS => ?_)
    obtain ⟨m3, em3, im3, h⟩ := h
    subst em3
    refine lv_bipush (v := 15) hx hb dX9_tankRefused_22 (by decide) ?_
    refine lv_iadd hx hb dX9_tankRefused_24 ?_
    refine w_top (y := nI (m3 + 15)) (nI_add m3 15) ?_
    refine w_ialdN C0 hW 15 0 (by decide) (by decide) (n := 370) rfl (j := (m3 + 15)) rfl (by omega) (by decide) dX9_tankRefused_25 ?_
    refine lv_if_ne (tgt := 35) hx hb dX9_tankRefused_26 (by decide) (fun c4 => ?_) (fun c4 => ?_)
    · have h := h.2 c4
      refine lv_iconst (v := 0) hx hb dX9_tankRefused_35 (by decide) ?_
      exact w_iret C0 hr hW hS h dX9_tankRefused_36
    · have h := h.1 c4
      refine lv_sipush (v := (-1003)) hx hb dX9_tankRefused_29 (by decide) ?_
      refine lv_goto (tgt := 36) hx hb dX9_tankRefused_32 (by decide) ?_
      exact w_iret C0 hr hW hS h dX9_tankRefused_36
  · have h := h.1 c2
    refine lv_sipush (v := (-1001)) hx hb dX9_tankRefused_8 (by decide) ?_
    refine lv_goto (tgt := 36) hx hb dX9_tankRefused_11 (by decide) ?_
    exact w_iret C0 hr hW hS h dX9_tankRefused_36

theorem pl_X9_tankNow : yX9_tankNow.cls ≠ "java/lang/invoke/MethodHandle" ∧ yX9_tankNow.cls ≠ "java/lang/invoke/VarHandle" ∧ (parseMethodDescriptor yX9_tankNow.desc).map (fun d => d.parameters.length) = some 1 := ⟨by decide +kernel, by decide +kernel, by decide +kernel⟩
def V_X9_tankNow (a1 : Int32) (hv : HV) (post : Int32 → HV → Prop) : Prop := (V_X9_at a1 hv (fun r1 hv1 => (∃ m1 : Nat, r1 = nI m1 ∧ (m1 + 73 ≤ 370) ∧ (∀ x2 : Int32, x2 = (hv1 15 0 (m1 + 15)) → (V_X9_at a1 hv1 (fun r3 hv3 => (∃ m3 : Nat, r3 = nI m3 ∧ (m3 + 73 ≤ 370) ∧ (∀ hv4 : HV, hv4 = up hv3 15 0 (upd (hv3 15 0) (m3 + 15) 0) → post x2 hv4))))))))
set_option maxHeartbeats 4000000 in
theorem c_X9_tankNow (l : Launch) (G : wG) (A : Nat → Prop) (a1 : Int32) (hv : HV) (post : Int32 → HV → Prop) (h : V_X9_tankNow a1 hv post) : wM l yX9_tankNow cX9_tankNow 3 ((Option.some FieldType.int)) 1 G A hv [.ref (ad G 9 0), .int a1] (qI G A post) := by
  refine wM_of (by decide +kernel) (Nat.le_of_ble_eq_true rfl) ?_
  intro p e s m args below meth c C0 hr ls hl hW hS
  have hx := C0.1
  have hb := C0.2.1
  have hown := C0.2.2.2.1
  have hts := C0.2.2.2.2.1
  have hl : lv_has ls 3 [(0, .ref (ad G 9 0)), (1, .int a1)] := hl
  unfold V_X9_tankNow at h
  refine lv_aload_n hx hb dX9_tankNow_0 rfl (lv_at hl 0 rfl) ?_
  refine w_get (v := .ref (ad G 15 0)) C0 hW 9 0 (by decide) (by decide) rfl rfl in_X9 0 (by decide) w_762 rfl dX9_tankNow_1 ?_
  refine lv_iload_n hx hb dX9_tankNow_4 rfl (lv_at hl 1 rfl) ?_
  refine w_ci hS (w_runS (As := [.int a1]) C0 hW (c_X9_at l G A a1 hv _ h) ⟨⟨w_835, w_61, w_837⟩, pl_X9_at, ⟨Nat.le_of_ble_eq_true rfl, Nat.le_of_ble_eq_true rfl⟩, ⟨Nat.le_refl _, Nat.le_refl _⟩⟩ w_836 rfl hl.1 rfl (Nat.le_of_ble_eq_true rfl) dX9_tankNow_5) (fun r1 hv1 h H locs hW hS => ?_)
  obtain ⟨m1, em1, im1, h⟩ := h
  subst em1
  refine lv_bipush (v := 15) hx hb dX9_tankNow_8 (by decide) ?_
  refine lv_iadd hx hb dX9_tankNow_10 ?_
  refine w_top (y := nI (m1 + 15)) (nI_add m1 15) ?_
  refine w_ialdN C0 hW 15 0 (by decide) (by decide) (n := 370) rfl (j := (m1 + 15)) rfl (by omega) (by decide) dX9_tankNow_11 ?_
  refine lv_topi (fun x2 ex2 => ?_)
  have h := h x2 ex2
  refine lv_istore_n (lv' := [(2, .int x2), (0, .ref (ad G 9 0)), (1, .int a1)]) hx hb dX9_tankNow_12 rfl hl (by decide) rfl (fun ls hl => ?_)
  refine lv_aload_n hx hb dX9_tankNow_13 rfl (lv_at hl 1 rfl) ?_
  refine w_get (v := .ref (ad G 15 0)) C0 hW 9 0 (by decide) (by decide) rfl rfl in_X9 0 (by decide) w_762 rfl dX9_tankNow_14 ?_
  refine lv_iload_n hx hb dX9_tankNow_17 rfl (lv_at hl 2 rfl) ?_
  refine w_ci hS (w_runS (As := [.int a1]) C0 hW (c_X9_at l G A a1 hv1 _ h) ⟨⟨w_835, w_61, w_837⟩, pl_X9_at, ⟨Nat.le_of_ble_eq_true rfl, Nat.le_of_ble_eq_true rfl⟩, ⟨Nat.le_refl _, Nat.le_refl _⟩⟩ w_836 rfl hl.1 rfl (Nat.le_of_ble_eq_true rfl) dX9_tankNow_18) (fun r3 hv3 h H locs hW hS => ?_)
  obtain ⟨m3, em3, im3, h⟩ := h
  subst em3
  refine lv_bipush (v := 15) hx hb dX9_tankNow_21 (by decide) ?_
  refine lv_iadd hx hb dX9_tankNow_23 ?_
  refine w_top (y := nI (m3 + 15)) (nI_add m3 15) ?_
  refine lv_iconst (v := 0) hx hb dX9_tankNow_24 (by decide) ?_
  refine w_iastN C0 hW hS 15 0 (by decide) (by decide) (n := 370) (fun _ => rfl) (j := (m3 + 15)) rfl (by omega) (by decide) dX9_tankNow_25 (fun hv4 ehv4 H locs hW hS => ?_)
  have h := h hv4 ehv4
  refine lv_iload_n hx hb dX9_tankNow_26 rfl (lv_at hl 0 rfl) ?_
  exact w_iret C0 hr hW hS h dX9_tankNow_27

theorem pl_X9_emptyTank : yX9_emptyTank.cls ≠ "java/lang/invoke/MethodHandle" ∧ yX9_emptyTank.cls ≠ "java/lang/invoke/VarHandle" ∧ (parseMethodDescriptor yX9_emptyTank.desc).map (fun d => d.parameters.length) = some 1 := ⟨by decide +kernel, by decide +kernel, by decide +kernel⟩
def V_X9_emptyTank (a1 : Int32) (hv : HV) (post : Int32 → HV → Prop) : Prop := (V_X9_tankRefused a1 hv (fun r1 hv1 => ((r1 = 0 → (V_X9_record hv1 (fun hv3 => (V_X9_tankNow a1 hv3 (fun r4 hv4 => post r4 hv4))))) ∧ (¬ (r1 = 0) → post r1 hv1))))
set_option maxHeartbeats 4000000 in
theorem c_X9_emptyTank (l : Launch) (G : wG) (A : Nat → Prop) (a1 : Int32) (hv : HV) (post : Int32 → HV → Prop) (h : V_X9_emptyTank a1 hv post) : wM l yX9_emptyTank cX9_emptyTank 3 ((Option.some FieldType.int)) 3 G A hv [.ref (ad G 9 0), .int a1] (qI G A post) := by
  refine wM_of (by decide +kernel) (Nat.le_of_ble_eq_true rfl) ?_
  intro p e s m args below meth c C0 hr ls hl hW hS
  have hx := C0.1
  have hb := C0.2.1
  have hown := C0.2.2.2.1
  have hts := C0.2.2.2.2.1
  have hl : lv_has ls 3 [(0, .ref (ad G 9 0)), (1, .int a1)] := hl
  unfold V_X9_emptyTank at h
  refine lv_aload_n hx hb dX9_emptyTank_0 rfl (lv_at hl 0 rfl) ?_
  refine lv_iload_n hx hb dX9_emptyTank_1 rfl (lv_at hl 1 rfl) ?_
  refine w_ci hS (w_runV (As := [.int a1]) C0 hW 9 0 (by decide) (by decide) rfl rfl (c_X9_tankRefused l G A a1 hv _ h) ⟨⟨w_902, w_61, w_905⟩, pl_X9_tankRefused, ⟨Nat.le_of_ble_eq_true rfl, Nat.le_of_ble_eq_true rfl⟩, ⟨Nat.le_refl _, Nat.le_refl _⟩⟩ ⟨w_904, w_20⟩ rfl hl.1 rfl (Nat.le_of_ble_eq_true rfl) dX9_emptyTank_2) (fun r1 hv1 h H locs hW hS => ?_)
  refine lv_istore_n (lv' := [(2, .int r1), (0, .ref (ad G 9 0)), (1, .int a1)]) hx hb dX9_emptyTank_5 rfl hl (by decide) rfl (fun ls hl => ?_)
  refine lv_iload_n hx hb dX9_emptyTank_6 rfl (lv_at hl 0 rfl) ?_
  refine lv_if_eq (tgt := 12) hx hb dX9_emptyTank_7 (by decide) (fun c2 => ?_) (fun c2 => ?_)
  · have h := h.1 c2
    refine lv_aload_n hx hb dX9_emptyTank_12 rfl (lv_at hl 1 rfl) ?_
    refine w_cv hS (w_runV (As := []) C0 hW 9 0 (by decide) (by decide) rfl rfl (c_X9_record l G A hv1 _ h) ⟨⟨w_831, w_61, w_834⟩, pl_X9_record, ⟨Nat.le_of_ble_eq_true rfl, Nat.le_of_ble_eq_true rfl⟩, ⟨Nat.le_refl _, Nat.le_refl _⟩⟩ ⟨w_833, w_9⟩ rfl hl.1 rfl (Nat.le_of_ble_eq_true rfl) dX9_emptyTank_13) (fun hv3 h H locs hW hS => ?_)
    refine lv_aload_n hx hb dX9_emptyTank_16 rfl (lv_at hl 1 rfl) ?_
    refine lv_iload_n hx hb dX9_emptyTank_17 rfl (lv_at hl 2 rfl) ?_
    refine w_ci hS (w_runV (As := [.int a1]) C0 hW 9 0 (by decide) (by decide) rfl rfl (c_X9_tankNow l G A a1 hv3 _ h) ⟨⟨w_906, w_61, w_909⟩, pl_X9_tankNow, ⟨Nat.le_of_ble_eq_true rfl, Nat.le_of_ble_eq_true rfl⟩, ⟨Nat.le_refl _, Nat.le_refl _⟩⟩ ⟨w_908, w_21⟩ rfl hl.1 rfl (Nat.le_of_ble_eq_true rfl) dX9_emptyTank_18) (fun r4 hv4 h H locs hW hS => ?_)
    exact w_iret C0 hr hW hS h dX9_emptyTank_21
  · have h := h.2 c2
    refine lv_iload_n hx hb dX9_emptyTank_10 rfl (lv_at hl 0 rfl) ?_
    exact w_iret C0 hr hW hS h dX9_emptyTank_11

theorem pl_X9_passRefused : yX9_passRefused.cls ≠ "java/lang/invoke/MethodHandle" ∧ yX9_passRefused.cls ≠ "java/lang/invoke/VarHandle" ∧ (parseMethodDescriptor yX9_passRefused.desc).map (fun d => d.parameters.length) = some 1 := ⟨by decide +kernel, by decide +kernel, by decide +kernel⟩
def V_X9_passRefused (a1 : Int32) (hv : HV) (post : Int32 → HV → Prop) : Prop := (V_X9_in a1 1 200 hv (fun r1 hv1 => ((r1 = 0 → post (-1002) hv1) ∧ (¬ (r1 = 0) → ((((hv1 15 0 2) + a1) ≤ 20000 → post 0 hv1) ∧ (¬ (((hv1 15 0 2) + a1) ≤ 20000) → post (-1003) hv1))))))
set_option maxHeartbeats 4000000 in
theorem c_X9_passRefused (l : Launch) (G : wG) (A : Nat → Prop) (a1 : Int32) (hv : HV) (post : Int32 → HV → Prop) (h : V_X9_passRefused a1 hv post) : wM l yX9_passRefused cX9_passRefused 2 ((Option.some FieldType.int)) 1 G A hv [.ref (ad G 9 0), .int a1] (qI G A post) := by
  refine wM_of (by decide +kernel) (Nat.le_of_ble_eq_true rfl) ?_
  intro p e s m args below meth c C0 hr ls hl hW hS
  have hx := C0.1
  have hb := C0.2.1
  have hown := C0.2.2.2.1
  have hts := C0.2.2.2.2.1
  have hl : lv_has ls 2 [(0, .ref (ad G 9 0)), (1, .int a1)] := hl
  unfold V_X9_passRefused at h
  refine lv_iload_n hx hb dX9_passRefused_0 rfl (lv_at hl 1 rfl) ?_
  refine lv_iconst (v := 1) hx hb dX9_passRefused_1 (by decide) ?_
  refine lv_sipush (v := 200) hx hb dX9_passRefused_2 (by decide) ?_
  refine w_ci hS (w_runS (As := [.int a1, .int 1, .int 200]) C0 hW (c_X9_in l G A a1 1 200 hv _ h) ⟨⟨w_828, w_61, w_830⟩, pl_X9_in, ⟨Nat.le_of_ble_eq_true rfl, Nat.le_of_ble_eq_true rfl⟩, ⟨Nat.le_refl _, Nat.le_refl _⟩⟩ w_829 rfl hl.1 rfl (Nat.le_of_ble_eq_true rfl) dX9_passRefused_5) (fun r1 hv1 h H locs hW hS => ?_)
  refine lv_if_ne (tgt := 17) hx hb dX9_passRefused_8 (by decide) (fun c2 => ?_) (fun c2 => ?_)
  · have h := h.2 c2
    refine lv_aload_n hx hb dX9_passRefused_17 rfl (lv_at hl 0 rfl) ?_
    refine w_get (v := .ref (ad G 15 0)) C0 hW 9 0 (by decide) (by decide) rfl rfl in_X9 0 (by decide) w_762 rfl dX9_passRefused_18 ?_
    refine lv_iconst (v := 2) hx hb dX9_passRefused_21 (by decide) ?_
    refine w_ialdN C0 hW 15 0 (by decide) (by decide) (n := 370) rfl (j := 2) rfl (by omega) (by decide) dX9_passRefused_22 ?_
    refine lv_iload_n hx hb dX9_passRefused_23 rfl (lv_at hl 1 rfl) ?_
    refine lv_iadd hx hb dX9_passRefused_24 ?_
    refine lv_sipush (v := 20000) hx hb dX9_passRefused_25 (by decide) ?_
    refine lv_icmp_le (tgt := 37) hx hb dX9_passRefused_28 (by decide) (fun c3 => ?_) (fun c3 => ?_)
    · have h := h.1 c3
      refine lv_iconst (v := 0) hx hb dX9_passRefused_37 (by decide) ?_
      exact w_iret C0 hr hW hS h dX9_passRefused_38
    · have h := h.2 c3
      refine lv_sipush (v := (-1003)) hx hb dX9_passRefused_31 (by decide) ?_
      refine lv_goto (tgt := 38) hx hb dX9_passRefused_34 (by decide) ?_
      exact w_iret C0 hr hW hS h dX9_passRefused_38
  · have h := h.1 c2
    refine lv_sipush (v := (-1002)) hx hb dX9_passRefused_11 (by decide) ?_
    refine lv_goto (tgt := 38) hx hb dX9_passRefused_14 (by decide) ?_
    exact w_iret C0 hr hW hS h dX9_passRefused_38

theorem pl_X9_pass : yX9_pass.cls ≠ "java/lang/invoke/MethodHandle" ∧ yX9_pass.cls ≠ "java/lang/invoke/VarHandle" ∧ (parseMethodDescriptor yX9_pass.desc).map (fun d => d.parameters.length) = some 1 := ⟨by decide +kernel, by decide +kernel, by decide +kernel⟩
def V_X9_pass (a1 : Int32) (hv : HV) (post : Int32 → HV → Prop) : Prop := (V_X9_passRefused a1 hv (fun r1 hv1 => ((r1 = 0 → (V_X9_record hv1 (fun hv3 => (V_X9_passNow a1 hv3 (fun r4 hv4 => post r4 hv4))))) ∧ (¬ (r1 = 0) → post r1 hv1))))
set_option maxHeartbeats 4000000 in
theorem c_X9_pass (l : Launch) (G : wG) (A : Nat → Prop) (a1 : Int32) (hv : HV) (post : Int32 → HV → Prop) (h : V_X9_pass a1 hv post) : wM l yX9_pass cX9_pass 3 ((Option.some FieldType.int)) 5 G A hv [.ref (ad G 9 0), .int a1] (qI G A post) := by
  refine wM_of (by decide +kernel) (Nat.le_of_ble_eq_true rfl) ?_
  intro p e s m args below meth c C0 hr ls hl hW hS
  have hx := C0.1
  have hb := C0.2.1
  have hown := C0.2.2.2.1
  have hts := C0.2.2.2.2.1
  have hl : lv_has ls 3 [(0, .ref (ad G 9 0)), (1, .int a1)] := hl
  unfold V_X9_pass at h
  refine lv_aload_n hx hb dX9_pass_0 rfl (lv_at hl 0 rfl) ?_
  refine lv_iload_n hx hb dX9_pass_1 rfl (lv_at hl 1 rfl) ?_
  refine w_ci hS (w_runV (As := [.int a1]) C0 hW 9 0 (by decide) (by decide) rfl rfl (c_X9_passRefused l G A a1 hv _ h) ⟨⟨w_914, w_61, w_917⟩, pl_X9_passRefused, ⟨Nat.le_of_ble_eq_true rfl, Nat.le_of_ble_eq_true rfl⟩, ⟨Nat.le_refl _, Nat.le_refl _⟩⟩ ⟨w_916, w_22⟩ rfl hl.1 rfl (Nat.le_of_ble_eq_true rfl) dX9_pass_2) (fun r1 hv1 h H locs hW hS => ?_)
  refine lv_istore_n (lv' := [(2, .int r1), (0, .ref (ad G 9 0)), (1, .int a1)]) hx hb dX9_pass_5 rfl hl (by decide) rfl (fun ls hl => ?_)
  refine lv_iload_n hx hb dX9_pass_6 rfl (lv_at hl 0 rfl) ?_
  refine lv_if_eq (tgt := 12) hx hb dX9_pass_7 (by decide) (fun c2 => ?_) (fun c2 => ?_)
  · have h := h.1 c2
    refine lv_aload_n hx hb dX9_pass_12 rfl (lv_at hl 1 rfl) ?_
    refine w_cv hS (w_runV (As := []) C0 hW 9 0 (by decide) (by decide) rfl rfl (c_X9_record l G A hv1 _ h) ⟨⟨w_831, w_61, w_834⟩, pl_X9_record, ⟨Nat.le_of_ble_eq_true rfl, Nat.le_of_ble_eq_true rfl⟩, ⟨Nat.le_refl _, Nat.le_refl _⟩⟩ ⟨w_833, w_9⟩ rfl hl.1 rfl (Nat.le_of_ble_eq_true rfl) dX9_pass_13) (fun hv3 h H locs hW hS => ?_)
    refine lv_aload_n hx hb dX9_pass_16 rfl (lv_at hl 1 rfl) ?_
    refine lv_iload_n hx hb dX9_pass_17 rfl (lv_at hl 2 rfl) ?_
    refine w_ci hS (w_runV (As := [.int a1]) C0 hW 9 0 (by decide) (by decide) rfl rfl (c_X9_passNow l G A a1 hv3 _ h) ⟨⟨w_918, w_61, w_921⟩, pl_X9_passNow, ⟨Nat.le_of_ble_eq_true rfl, Nat.le_of_ble_eq_true rfl⟩, ⟨Nat.le_refl _, Nat.le_refl _⟩⟩ ⟨w_920, w_23⟩ rfl hl.1 rfl (Nat.le_of_ble_eq_true rfl) dX9_pass_18) (fun r4 hv4 h H locs hW hS => ?_)
    exact w_iret C0 hr hW hS h dX9_pass_21
  · have h := h.2 c2
    refine lv_iload_n hx hb dX9_pass_10 rfl (lv_at hl 0 rfl) ?_
    exact w_iret C0 hr hW hS h dX9_pass_11

theorem pl_X9_type : yX9_type.cls ≠ "java/lang/invoke/MethodHandle" ∧ yX9_type.cls ≠ "java/lang/invoke/VarHandle" ∧ (parseMethodDescriptor yX9_type.desc).map (fun d => d.parameters.length) = some 1 := ⟨by decide +kernel, by decide +kernel, by decide +kernel⟩
def V_X9_type (a1 : Int32) (hv : HV) (post : Int32 → HV → Prop) : Prop := (V_X9_in a1 33 126 hv (fun r1 hv1 => ((r1 = 0 → post (-1002) hv1) ∧ (¬ (r1 = 0) → (((hv1 9 0 11) = 40 → post (-1004) hv1) ∧ (¬ ((hv1 9 0 11) = 40) → (vp_in (hv1 9 0 11) 40 ∧ ∀ hv4 : HV, hv4 = up hv1 20 0 (upd (hv1 20 0) (Int32.toNatClampNeg (hv1 9 0 11)) a1) → (∀ hv5 : HV, hv5 = up hv4 9 0 (upd (hv4 9 0) 11 ((hv4 9 0 11) + 1)) → post (hv5 9 0 11) hv5))))))))
set_option maxHeartbeats 4000000 in
theorem c_X9_type (l : Launch) (G : wG) (A : Nat → Prop) (a1 : Int32) (hv : HV) (post : Int32 → HV → Prop) (h : V_X9_type a1 hv post) : wM l yX9_type cX9_type 2 ((Option.some FieldType.int)) 1 G A hv [.ref (ad G 9 0), .int a1] (qI G A post) := by
  refine wM_of (by decide +kernel) (Nat.le_of_ble_eq_true rfl) ?_
  intro p e s m args below meth c C0 hr ls hl hW hS
  have hx := C0.1
  have hb := C0.2.1
  have hown := C0.2.2.2.1
  have hts := C0.2.2.2.2.1
  have hl : lv_has ls 2 [(0, .ref (ad G 9 0)), (1, .int a1)] := hl
  unfold V_X9_type at h
  refine lv_iload_n hx hb dX9_type_0 rfl (lv_at hl 1 rfl) ?_
  refine lv_bipush (v := 33) hx hb dX9_type_1 (by decide) ?_
  refine lv_bipush (v := 126) hx hb dX9_type_3 (by decide) ?_
  refine w_ci hS (w_runS (As := [.int a1, .int 33, .int 126]) C0 hW (c_X9_in l G A a1 33 126 hv _ h) ⟨⟨w_828, w_61, w_830⟩, pl_X9_in, ⟨Nat.le_of_ble_eq_true rfl, Nat.le_of_ble_eq_true rfl⟩, ⟨Nat.le_refl _, Nat.le_refl _⟩⟩ w_829 rfl hl.1 rfl (Nat.le_of_ble_eq_true rfl) dX9_type_5) (fun r1 hv1 h H locs hW hS => ?_)
  refine lv_if_ne (tgt := 15) hx hb dX9_type_8 (by decide) (fun c2 => ?_) (fun c2 => ?_)
  · have h := h.2 c2
    refine lv_aload_n hx hb dX9_type_15 rfl (lv_at hl 0 rfl) ?_
    refine w_get (v := .int (hv1 9 0 11)) C0 hW 9 0 (by decide) (by decide) rfl rfl in_X9 11 (by decide) w_773 rfl dX9_type_16 ?_
    refine lv_bipush (v := 40) hx hb dX9_type_19 (by decide) ?_
    refine lv_icmp_ne (tgt := 28) hx hb dX9_type_21 (by decide) (fun c3 => ?_) (fun c3 => ?_)
    · have h := h.2 c3
      refine lv_aload_n hx hb dX9_type_28 rfl (lv_at hl 0 rfl) ?_
      refine w_get (v := .ref (ad G 20 0)) C0 hW 9 0 (by decide) (by decide) rfl rfl in_X9 10 (by decide) w_772 rfl dX9_type_29 ?_
      refine lv_aload_n hx hb dX9_type_32 rfl (lv_at hl 0 rfl) ?_
      refine w_get (v := .int (hv1 9 0 11)) C0 hW 9 0 (by decide) (by decide) rfl rfl in_X9 11 (by decide) w_773 rfl dX9_type_33 ?_
      refine lv_iload_n hx hb dX9_type_36 rfl (lv_at hl 1 rfl) ?_
      obtain ⟨q4, h⟩ := h
      refine w_iast C0 hW hS 20 0 (by decide) (by decide) (n := 40) (fun _ => rfl) q4 dX9_type_37 (fun hv4 ehv4 H locs hW hS => ?_)
      have h := h hv4 ehv4
      refine lv_aload_n hx hb dX9_type_38 rfl (lv_at hl 0 rfl) ?_
      refine lv_dup hx hb dX9_type_39 rfl ?_
      refine w_get (v := .int (hv4 9 0 11)) C0 hW 9 0 (by decide) (by decide) rfl rfl in_X9 11 (by decide) w_773 rfl dX9_type_40 ?_
      refine lv_iconst (v := 1) hx hb dX9_type_43 (by decide) ?_
      refine lv_iadd hx hb dX9_type_44 ?_
      refine w_put (v := ((hv4 9 0 11) + 1)) C0 hW hS 9 0 (by decide) (by decide) rfl rfl in_X9 tyX9_ok nmX9 11 (by decide) w_773 rfl rfl rfl (Nat.le_of_ble_eq_true rfl) rfl dX9_type_45 (fun hv5 ehv5 H locs hW hS => ?_)
      have h := h hv5 ehv5
      refine lv_aload_n hx hb dX9_type_48 rfl (lv_at hl 0 rfl) ?_
      refine w_get (v := .int (hv5 9 0 11)) C0 hW 9 0 (by decide) (by decide) rfl rfl in_X9 11 (by decide) w_773 rfl dX9_type_49 ?_
      exact w_iret C0 hr hW hS h dX9_type_52
    · have h := h.1 c3
      refine lv_sipush (v := (-1004)) hx hb dX9_type_24 (by decide) ?_
      exact w_iret C0 hr hW hS h dX9_type_27
  · have h := h.1 c2
    refine lv_sipush (v := (-1002)) hx hb dX9_type_11 (by decide) ?_
    exact w_iret C0 hr hW hS h dX9_type_14

theorem pl_X9_clearText : yX9_clearText.cls ≠ "java/lang/invoke/MethodHandle" ∧ yX9_clearText.cls ≠ "java/lang/invoke/VarHandle" ∧ (parseMethodDescriptor yX9_clearText.desc).map (fun d => d.parameters.length) = some 0 := ⟨by decide +kernel, by decide +kernel, by decide +kernel⟩
def V_X9_clearText  (hv : HV) (post : Int32 → HV → Prop) : Prop := (∀ x1 : Int32, x1 = (hv 9 0 11) → (∀ hv2 : HV, hv2 = up hv 9 0 (upd (hv 9 0) 11 0) → post x1 hv2))
set_option maxHeartbeats 4000000 in
theorem c_X9_clearText (l : Launch) (G : wG) (A : Nat → Prop) (hv : HV) (post : Int32 → HV → Prop) (h : V_X9_clearText hv post) : wM l yX9_clearText cX9_clearText 2 ((Option.some FieldType.int)) 0 G A hv [.ref (ad G 9 0)] (qI G A post) := by
  refine wM_of (by decide +kernel) (Nat.le_of_ble_eq_true rfl) ?_
  intro p e s m args below meth c C0 hr ls hl hW hS
  have hx := C0.1
  have hb := C0.2.1
  have hown := C0.2.2.2.1
  have hts := C0.2.2.2.2.1
  have hl : lv_has ls 2 [(0, .ref (ad G 9 0))] := hl
  unfold V_X9_clearText at h
  refine lv_aload_n hx hb dX9_clearText_0 rfl (lv_at hl 0 rfl) ?_
  refine w_get (v := .int (hv 9 0 11)) C0 hW 9 0 (by decide) (by decide) rfl rfl in_X9 11 (by decide) w_773 rfl dX9_clearText_1 ?_
  refine lv_topi (fun x1 ex1 => ?_)
  have h := h x1 ex1
  refine lv_istore_n (lv' := [(1, .int x1), (0, .ref (ad G 9 0))]) hx hb dX9_clearText_4 rfl hl (by decide) rfl (fun ls hl => ?_)
  refine lv_aload_n hx hb dX9_clearText_5 rfl (lv_at hl 1 rfl) ?_
  refine lv_iconst (v := 0) hx hb dX9_clearText_6 (by decide) ?_
  refine w_put (v := 0) C0 hW hS 9 0 (by decide) (by decide) rfl rfl in_X9 tyX9_ok nmX9 11 (by decide) w_773 rfl rfl rfl (Nat.le_of_ble_eq_true rfl) rfl dX9_clearText_7 (fun hv2 ehv2 H locs hW hS => ?_)
  have h := h hv2 ehv2
  refine lv_iload_n hx hb dX9_clearText_10 rfl (lv_at hl 0 rfl) ?_
  exact w_iret C0 hr hW hS h dX9_clearText_11

theorem pl_X9_isDigit : yX9_isDigit.cls ≠ "java/lang/invoke/MethodHandle" ∧ yX9_isDigit.cls ≠ "java/lang/invoke/VarHandle" ∧ (parseMethodDescriptor yX9_isDigit.desc).map (fun d => d.parameters.length) = some 0 := ⟨by decide +kernel, by decide +kernel, by decide +kernel⟩
def V_X9_isDigit  (hv : HV) (post : Int32 → HV → Prop) : Prop := (((hv 9 0 11) ≤ (hv 9 0 13) → post 0 hv) ∧ (¬ ((hv 9 0 11) ≤ (hv 9 0 13)) → (vp_in (hv 9 0 13) 40 ∧ (V_X9_in (hv 20 0 (Int32.toNatClampNeg (hv 9 0 13))) 48 57 hv (fun r3 hv3 => ((r3 = 0 → post 0 hv3) ∧ (¬ (r3 = 0) → post 1 hv3)))))))
set_option maxHeartbeats 4000000 in
theorem c_X9_isDigit (l : Launch) (G : wG) (A : Nat → Prop) (hv : HV) (post : Int32 → HV → Prop) (h : V_X9_isDigit hv post) : wM l yX9_isDigit cX9_isDigit 1 ((Option.some FieldType.boolean)) 1 G A hv [.ref (ad G 9 0)] (qI G A post) := by
  refine wM_of (by decide +kernel) (Nat.le_of_ble_eq_true rfl) ?_
  intro p e s m args below meth c C0 hr ls hl hW hS
  have hx := C0.1
  have hb := C0.2.1
  have hown := C0.2.2.2.1
  have hts := C0.2.2.2.2.1
  have hl : lv_has ls 1 [(0, .ref (ad G 9 0))] := hl
  unfold V_X9_isDigit at h
  refine lv_aload_n hx hb dX9_isDigit_0 rfl (lv_at hl 0 rfl) ?_
  refine w_get (v := .int (hv 9 0 13)) C0 hW 9 0 (by decide) (by decide) rfl rfl in_X9 13 (by decide) w_775 rfl dX9_isDigit_1 ?_
  refine lv_aload_n hx hb dX9_isDigit_4 rfl (lv_at hl 0 rfl) ?_
  refine w_get (v := .int (hv 9 0 11)) C0 hW 9 0 (by decide) (by decide) rfl rfl in_X9 11 (by decide) w_773 rfl dX9_isDigit_5 ?_
  refine lv_icmp_ge (tgt := 34) hx hb dX9_isDigit_8 (by decide) (fun c1 => ?_) (fun c1 => ?_)
  · have h := h.1 c1
    refine lv_iconst (v := 0) hx hb dX9_isDigit_34 (by decide) ?_
    exact w_zret C0 hr rfl hW hS h dX9_isDigit_35
  · have h := h.2 c1
    refine lv_aload_n hx hb dX9_isDigit_11 rfl (lv_at hl 0 rfl) ?_
    refine w_get (v := .ref (ad G 20 0)) C0 hW 9 0 (by decide) (by decide) rfl rfl in_X9 10 (by decide) w_772 rfl dX9_isDigit_12 ?_
    refine lv_aload_n hx hb dX9_isDigit_15 rfl (lv_at hl 0 rfl) ?_
    refine w_get (v := .int (hv 9 0 13)) C0 hW 9 0 (by decide) (by decide) rfl rfl in_X9 13 (by decide) w_775 rfl dX9_isDigit_16 ?_
    obtain ⟨q2, h⟩ := h
    refine w_iald C0 hW 20 0 (by decide) (by decide) (n := 40) rfl q2 dX9_isDigit_19 ?_
    refine lv_bipush (v := 48) hx hb dX9_isDigit_20 (by decide) ?_
    refine lv_bipush (v := 57) hx hb dX9_isDigit_22 (by decide) ?_
    refine w_ci hS (w_runS (As := [.int (hv 20 0 (Int32.toNatClampNeg (hv 9 0 13))), .int 48, .int 57]) C0 hW (c_X9_in l G A (hv 20 0 (Int32.toNatClampNeg (hv 9 0 13))) 48 57 hv _ h) ⟨⟨w_828, w_61, w_830⟩, pl_X9_in, ⟨Nat.le_of_ble_eq_true rfl, Nat.le_of_ble_eq_true rfl⟩, ⟨Nat.le_refl _, Nat.le_refl _⟩⟩ w_829 rfl hl.1 rfl (Nat.le_of_ble_eq_true rfl) dX9_isDigit_24) (fun r3 hv3 h H locs hW hS => ?_)
    refine lv_if_eq (tgt := 34) hx hb dX9_isDigit_27 (by decide) (fun c4 => ?_) (fun c4 => ?_)
    · have h := h.1 c4
      refine lv_iconst (v := 0) hx hb dX9_isDigit_34 (by decide) ?_
      exact w_zret C0 hr rfl hW hS h dX9_isDigit_35
    · have h := h.2 c4
      refine lv_iconst (v := 1) hx hb dX9_isDigit_30 (by decide) ?_
      refine lv_goto (tgt := 35) hx hb dX9_isDigit_31 (by decide) ?_
      exact w_zret C0 hr rfl hW hS h dX9_isDigit_35

def V_X9_digit_46 (post : Int32 → HV → Prop) (s0 : Int32) (hv : HV) : Prop := (((hv 9 0 14) = 0 → (∀ hv6 : HV, hv6 = up hv 9 0 (upd (hv 9 0) 13 ((hv 9 0 13) + 1)) → post s0 hv6)) ∧ (¬ ((hv 9 0 14) = 0) → (∀ hv7 : HV, hv7 = up hv 9 0 (upd (hv 9 0) 13 ((hv 9 0 13) + 0)) → post s0 hv7)))
set_option maxHeartbeats 4000000 in
theorem k_X9_digit_46 {p : Program} {l : Launch} {e : Env} {s : State} {m : MethodId} {args : Array Value} {below : List Frame} {meth : Method} {c : Code} {G : wG} {A : Nat → Prop} (post : Int32 → HV → Prop) (C0 : cx p s m args meth c "RamStationModel" cX9_digit 2 G) (hr : meth.sig.returnType = (Option.some FieldType.int))   : ∀ (s0 : Int32) (hv : HV), V_X9_digit_46 post s0 hv → ∀ (H : Heap) (locs : List Loc) (ls : Array Slot), wd G A hv H → va_S A s.heap H locs → lv_has ls 2 [(0, .ref (ad G 9 0))] → W p l e (wrm 2) s m args below meth c H locs 0 0 (MQ below (qI G A post) args s 0 0 A) (F0 m 46 ls [.int s0]) := by
  have hx := C0.1
  have hb := C0.2.1
  have hown := C0.2.2.2.1
  have hts := C0.2.2.2.2.1
  intro s0 hv  h H locs ls hW hS hl
  unfold V_X9_digit_46 at h
  refine lv_istore_n (lv' := [(1, .int s0), (0, .ref (ad G 9 0))]) hx hb dX9_digit_46 rfl hl (by decide) rfl (fun ls hl => ?_)
  refine lv_aload_n hx hb dX9_digit_47 rfl (lv_at hl 1 rfl) ?_
  refine lv_dup hx hb dX9_digit_48 rfl ?_
  refine w_get (v := .int (hv 9 0 13)) C0 hW 9 0 (by decide) (by decide) rfl rfl in_X9 13 (by decide) w_775 rfl dX9_digit_49 ?_
  refine lv_aload_n hx hb dX9_digit_52 rfl (lv_at hl 1 rfl) ?_
  refine w_get (v := .int (hv 9 0 14)) C0 hW 9 0 (by decide) (by decide) rfl rfl in_X9 14 (by decide) w_776 rfl dX9_digit_53 ?_
  refine lv_if_eq (tgt := 63) hx hb dX9_digit_56 (by decide) (fun c5 => ?_) (fun c5 => ?_)
  · have h := h.1 c5
    refine lv_iconst (v := 1) hx hb dX9_digit_63 (by decide) ?_
    refine lv_iadd hx hb dX9_digit_64 ?_
    refine w_put (v := ((hv 9 0 13) + 1)) C0 hW hS 9 0 (by decide) (by decide) rfl rfl in_X9 tyX9_ok nmX9 13 (by decide) w_775 rfl rfl rfl (Nat.le_of_ble_eq_true rfl) rfl dX9_digit_65 (fun hv6 ehv6 H locs hW hS => ?_)
    have h := h hv6 ehv6
    refine lv_iload_n hx hb dX9_digit_68 rfl (lv_at hl 0 rfl) ?_
    exact w_iret C0 hr hW hS h dX9_digit_69
  · have h := h.2 c5
    refine lv_iconst (v := 0) hx hb dX9_digit_59 (by decide) ?_
    refine lv_goto (tgt := 64) hx hb dX9_digit_60 (by decide) ?_
    refine lv_iadd hx hb dX9_digit_64 ?_
    refine w_put (v := ((hv 9 0 13) + 0)) C0 hW hS 9 0 (by decide) (by decide) rfl rfl in_X9 tyX9_ok nmX9 13 (by decide) w_775 rfl rfl rfl (Nat.le_of_ble_eq_true rfl) rfl dX9_digit_65 (fun hv7 ehv7 H locs hW hS => ?_)
    have h := h hv7 ehv7
    refine lv_iload_n hx hb dX9_digit_68 rfl (lv_at hl 0 rfl) ?_
    exact w_iret C0 hr hW hS h dX9_digit_69
def V_X9_digit_23 (post : Int32 → HV → Prop)  (hv : HV) : Prop := (((hv 9 0 14) = 0 → (vp_in (hv 9 0 13) 40 ∧ (V_X9_digit_46 post ((hv 20 0 (Int32.toNatClampNeg (hv 9 0 13))) - 48) hv))) ∧ (¬ ((hv 9 0 14) = 0) → (V_X9_digit_46 post 0 hv)))
set_option maxHeartbeats 4000000 in
theorem k_X9_digit_23 {p : Program} {l : Launch} {e : Env} {s : State} {m : MethodId} {args : Array Value} {below : List Frame} {meth : Method} {c : Code} {G : wG} {A : Nat → Prop} (post : Int32 → HV → Prop) (C0 : cx p s m args meth c "RamStationModel" cX9_digit 2 G) (hr : meth.sig.returnType = (Option.some FieldType.int))   : ∀  (hv : HV), V_X9_digit_23 post  hv → ∀ (H : Heap) (locs : List Loc) (ls : Array Slot), wd G A hv H → va_S A s.heap H locs → lv_has ls 2 [(0, .ref (ad G 9 0))] → W p l e (wrm 2) s m args below meth c H locs 0 0 (MQ below (qI G A post) args s 0 0 A) (F0 m 23 ls []) := by
  have hx := C0.1
  have hb := C0.2.1
  have hown := C0.2.2.2.1
  have hts := C0.2.2.2.2.1
  intro  hv  h H locs ls hW hS hl
  unfold V_X9_digit_23 at h
  refine lv_aload_n hx hb dX9_digit_23 rfl (lv_at hl 0 rfl) ?_
  refine w_get (v := .int (hv 9 0 14)) C0 hW 9 0 (by decide) (by decide) rfl rfl in_X9 14 (by decide) w_776 rfl dX9_digit_24 ?_
  refine lv_if_eq (tgt := 34) hx hb dX9_digit_27 (by decide) (fun c3 => ?_) (fun c3 => ?_)
  · have h := h.1 c3
    refine lv_aload_n hx hb dX9_digit_34 rfl (lv_at hl 0 rfl) ?_
    refine w_get (v := .ref (ad G 20 0)) C0 hW 9 0 (by decide) (by decide) rfl rfl in_X9 10 (by decide) w_772 rfl dX9_digit_35 ?_
    refine lv_aload_n hx hb dX9_digit_38 rfl (lv_at hl 0 rfl) ?_
    refine w_get (v := .int (hv 9 0 13)) C0 hW 9 0 (by decide) (by decide) rfl rfl in_X9 13 (by decide) w_775 rfl dX9_digit_39 ?_
    obtain ⟨q4, h⟩ := h
    refine w_iald C0 hW 20 0 (by decide) (by decide) (n := 40) rfl q4 dX9_digit_42 ?_
    refine lv_bipush (v := 48) hx hb dX9_digit_43 (by decide) ?_
    refine lv_isub hx hb dX9_digit_45 ?_
    exact k_X9_digit_46 post C0 hr ((hv 20 0 (Int32.toNatClampNeg (hv 9 0 13))) - 48) hv h _ _ _ hW hS (lv_sub hl [0] rfl)
  · have h := h.2 c3
    refine lv_iconst (v := 0) hx hb dX9_digit_30 (by decide) ?_
    refine lv_goto (tgt := 46) hx hb dX9_digit_31 (by decide) ?_
    exact k_X9_digit_46 post C0 hr 0 hv h _ _ _ hW hS (lv_sub hl [0] rfl)
theorem pl_X9_digit : yX9_digit.cls ≠ "java/lang/invoke/MethodHandle" ∧ yX9_digit.cls ≠ "java/lang/invoke/VarHandle" ∧ (parseMethodDescriptor yX9_digit.desc).map (fun d => d.parameters.length) = some 0 := ⟨by decide +kernel, by decide +kernel, by decide +kernel⟩
def V_X9_digit  (hv : HV) (post : Int32 → HV → Prop) : Prop := (((hv 9 0 14) = 0 → (V_X9_isDigit hv (fun r8 hv8 => ((r8 = 0 → (∀ hv11 : HV, hv11 = up hv8 9 0 (upd (hv8 9 0) 14 1) → (V_X9_digit_23 post hv11))) ∧ (¬ (r8 = 0) → (∀ hv10 : HV, hv10 = up hv8 9 0 (upd (hv8 9 0) 14 0) → (V_X9_digit_23 post hv10))))))) ∧ (¬ ((hv 9 0 14) = 0) → (∀ hv2 : HV, hv2 = up hv 9 0 (upd (hv 9 0) 14 1) → (V_X9_digit_23 post hv2))))
set_option maxHeartbeats 4000000 in
theorem c_X9_digit (l : Launch) (G : wG) (A : Nat → Prop) (hv : HV) (post : Int32 → HV → Prop) (h : V_X9_digit hv post) : wM l yX9_digit cX9_digit 2 ((Option.some FieldType.int)) 2 G A hv [.ref (ad G 9 0)] (qI G A post) := by
  refine wM_of (by decide +kernel) (Nat.le_of_ble_eq_true rfl) ?_
  intro p e s m args below meth c C0 hr ls hl hW hS
  have hx := C0.1
  have hb := C0.2.1
  have hown := C0.2.2.2.1
  have hts := C0.2.2.2.2.1
  have hl : lv_has ls 2 [(0, .ref (ad G 9 0))] := hl
  unfold V_X9_digit at h
  refine lv_aload_n hx hb dX9_digit_0 rfl (lv_at hl 0 rfl) ?_
  refine lv_aload_n hx hb dX9_digit_1 rfl (lv_at hl 0 rfl) ?_
  refine w_get (v := .int (hv 9 0 14)) C0 hW 9 0 (by decide) (by decide) rfl rfl in_X9 14 (by decide) w_776 rfl dX9_digit_2 ?_
  refine lv_if_ne (tgt := 15) hx hb dX9_digit_5 (by decide) (fun c1 => ?_) (fun c1 => ?_)
  · have h := h.2 c1
    refine lv_iconst (v := 1) hx hb dX9_digit_15 (by decide) ?_
    refine lv_goto (tgt := 20) hx hb dX9_digit_16 (by decide) ?_
    refine w_put (v := 1) C0 hW hS 9 0 (by decide) (by decide) rfl rfl in_X9 tyX9_ok nmX9 14 (by decide) w_776 rfl rfl rfl (Nat.le_of_ble_eq_true rfl) rfl dX9_digit_20 (fun hv2 ehv2 H locs hW hS => ?_)
    have h := h hv2 ehv2
    exact k_X9_digit_23 post C0 hr hv2 h _ _ _ hW hS (lv_sub hl [0] rfl)
  · have h := h.1 c1
    refine lv_aload_n hx hb dX9_digit_8 rfl (lv_at hl 0 rfl) ?_
    refine w_ci hS (w_runV (As := []) C0 hW 9 0 (by decide) (by decide) rfl rfl (c_X9_isDigit l G A hv _ h) ⟨⟨w_991, w_61, w_994⟩, pl_X9_isDigit, ⟨Nat.le_of_ble_eq_true rfl, Nat.le_of_ble_eq_true rfl⟩, ⟨Nat.le_refl _, Nat.le_refl _⟩⟩ ⟨w_993, w_38⟩ rfl hl.1 rfl (Nat.le_of_ble_eq_true rfl) dX9_digit_9) (fun r8 hv8 h H locs hW hS => ?_)
    refine lv_if_ne (tgt := 19) hx hb dX9_digit_12 (by decide) (fun c9 => ?_) (fun c9 => ?_)
    · have h := h.2 c9
      refine lv_iconst (v := 0) hx hb dX9_digit_19 (by decide) ?_
      refine w_put (v := 0) C0 hW hS 9 0 (by decide) (by decide) rfl rfl in_X9 tyX9_ok nmX9 14 (by decide) w_776 rfl rfl rfl (Nat.le_of_ble_eq_true rfl) rfl dX9_digit_20 (fun hv10 ehv10 H locs hW hS => ?_)
      have h := h hv10 ehv10
      exact k_X9_digit_23 post C0 hr hv10 h _ _ _ hW hS (lv_sub hl [0] rfl)
    · have h := h.1 c9
      refine lv_iconst (v := 1) hx hb dX9_digit_15 (by decide) ?_
      refine lv_goto (tgt := 20) hx hb dX9_digit_16 (by decide) ?_
      refine w_put (v := 1) C0 hW hS 9 0 (by decide) (by decide) rfl rfl in_X9 tyX9_ok nmX9 14 (by decide) w_776 rfl rfl rfl (Nat.le_of_ble_eq_true rfl) rfl dX9_digit_20 (fun hv11 ehv11 H locs hW hS => ?_)
      have h := h hv11 ehv11
      exact k_X9_digit_23 post C0 hr hv11 h _ _ _ hW hS (lv_sub hl [0] rfl)

def V_X9_number_7 (post : Int32 → HV → Prop) : Nat → Int32 → Int32 → HV → Prop
  | 0, _, _, _ => False
  | n7 + 1, v1, v2, hv => ((3 ≤ v2 → post v1 hv) ∧ (¬ (3 ≤ v2) → (((hv 9 0 14) = 0 → (V_X9_isDigit hv (fun r4 hv4 => ((r4 = 0 → post v1 hv4) ∧ (¬ (r4 = 0) → (vp_in (hv4 9 0 13) 40 ∧ (∀ x7 : Int32, x7 = (((10 * v1) + (hv4 20 0 (Int32.toNatClampNeg (hv4 9 0 13)))) - 48) → (∀ hv8 : HV, hv8 = up hv4 9 0 (upd (hv4 9 0) 13 ((hv4 9 0 13) + 1)) → (∀ x9 : Int32, x9 = v2 + 1 → V_X9_number_7 post n7 x7 x9 hv8))))))))) ∧ (¬ ((hv 9 0 14) = 0) → post v1 hv))))
set_option maxHeartbeats 4000000 in
theorem k_X9_number_7 {p : Program} {l : Launch} {e : Env} {s : State} {m : MethodId} {args : Array Value} {below : List Frame} {meth : Method} {c : Code} {G : wG} {A : Nat → Prop} (post : Int32 → HV → Prop) (C0 : cx p s m args meth c "RamStationModel" cX9_number 3 G) (hr : meth.sig.returnType = (Option.some FieldType.int))   : ∀ (n : Nat) (v1 : Int32) (v2 : Int32) (hv : HV), V_X9_number_7 post n v1 v2 hv → ∀ (H : Heap) (locs : List Loc) (ls : Array Slot), wd G A hv H → va_S A s.heap H locs → lv_has ls 3 [(0, .ref (ad G 9 0)), (1, .int v1), (2, .int v2)] → W p l e (wrm 3) s m args below meth c H locs 0 0 (MQ below (qI G A post) args s 0 0 A) (F0 m 7 ls []) := by
  have hx := C0.1
  have hb := C0.2.1
  have hown := C0.2.2.2.1
  have hts := C0.2.2.2.2.1
  intro n
  induction n with
  | zero =>
    intro v1 v2 hv  h
    exact (h : False).elim
  | succ n ih =>
    intro v1 v2 hv  h H locs ls hW hS hl
    rw [V_X9_number_7] at h
    refine lv_iload_n hx hb dX9_number_7 rfl (lv_at hl 2 rfl) ?_
    refine lv_iconst (v := 3) hx hb dX9_number_8 (by decide) ?_
    refine lv_icmp_ge (tgt := 60) hx hb dX9_number_9 (by decide) (fun c2 => ?_) (fun c2 => ?_)
    · have h := h.1 c2
      refine lv_iload_n hx hb dX9_number_60 rfl (lv_at hl 1 rfl) ?_
      exact w_iret C0 hr hW hS h dX9_number_61
    · have h := h.2 c2
      refine lv_aload_n hx hb dX9_number_12 rfl (lv_at hl 0 rfl) ?_
      refine w_get (v := .int (hv 9 0 14)) C0 hW 9 0 (by decide) (by decide) rfl rfl in_X9 14 (by decide) w_776 rfl dX9_number_13 ?_
      refine lv_if_ne (tgt := 60) hx hb dX9_number_16 (by decide) (fun c3 => ?_) (fun c3 => ?_)
      · have h := h.2 c3
        refine lv_iload_n hx hb dX9_number_60 rfl (lv_at hl 1 rfl) ?_
        exact w_iret C0 hr hW hS h dX9_number_61
      · have h := h.1 c3
        refine lv_aload_n hx hb dX9_number_19 rfl (lv_at hl 0 rfl) ?_
        refine w_ci hS (w_runV (As := []) C0 hW 9 0 (by decide) (by decide) rfl rfl (c_X9_isDigit l G A hv _ h) ⟨⟨w_991, w_61, w_994⟩, pl_X9_isDigit, ⟨Nat.le_of_ble_eq_true rfl, Nat.le_of_ble_eq_true rfl⟩, ⟨Nat.le_refl _, Nat.le_refl _⟩⟩ ⟨w_993, w_38⟩ rfl hl.1 rfl (Nat.le_of_ble_eq_true rfl) dX9_number_20) (fun r4 hv4 h H locs hW hS => ?_)
        refine lv_if_eq (tgt := 60) hx hb dX9_number_23 (by decide) (fun c5 => ?_) (fun c5 => ?_)
        · have h := h.1 c5
          refine lv_iload_n hx hb dX9_number_60 rfl (lv_at hl 1 rfl) ?_
          exact w_iret C0 hr hW hS h dX9_number_61
        · have h := h.2 c5
          refine lv_bipush (v := 10) hx hb dX9_number_26 (by decide) ?_
          refine lv_iload_n hx hb dX9_number_28 rfl (lv_at hl 1 rfl) ?_
          refine lv_imul hx hb dX9_number_29 ?_
          refine lv_aload_n hx hb dX9_number_30 rfl (lv_at hl 0 rfl) ?_
          refine w_get (v := .ref (ad G 20 0)) C0 hW 9 0 (by decide) (by decide) rfl rfl in_X9 10 (by decide) w_772 rfl dX9_number_31 ?_
          refine lv_aload_n hx hb dX9_number_34 rfl (lv_at hl 0 rfl) ?_
          refine w_get (v := .int (hv4 9 0 13)) C0 hW 9 0 (by decide) (by decide) rfl rfl in_X9 13 (by decide) w_775 rfl dX9_number_35 ?_
          obtain ⟨q6, h⟩ := h
          refine w_iald C0 hW 20 0 (by decide) (by decide) (n := 40) rfl q6 dX9_number_38 ?_
          refine lv_iadd hx hb dX9_number_39 ?_
          refine lv_bipush (v := 48) hx hb dX9_number_40 (by decide) ?_
          refine lv_isub hx hb dX9_number_42 ?_
          refine lv_topi (fun x7 ex7 => ?_)
          have h := h x7 ex7
          refine lv_istore_n (lv' := [(1, .int x7), (0, .ref (ad G 9 0)), (2, .int v2)]) hx hb dX9_number_43 rfl hl (by decide) rfl (fun ls hl => ?_)
          refine lv_aload_n hx hb dX9_number_44 rfl (lv_at hl 1 rfl) ?_
          refine lv_dup hx hb dX9_number_45 rfl ?_
          refine w_get (v := .int (hv4 9 0 13)) C0 hW 9 0 (by decide) (by decide) rfl rfl in_X9 13 (by decide) w_775 rfl dX9_number_46 ?_
          refine lv_iconst (v := 1) hx hb dX9_number_49 (by decide) ?_
          refine lv_iadd hx hb dX9_number_50 ?_
          refine w_put (v := ((hv4 9 0 13) + 1)) C0 hW hS 9 0 (by decide) (by decide) rfl rfl in_X9 tyX9_ok nmX9 13 (by decide) w_775 rfl rfl rfl (Nat.le_of_ble_eq_true rfl) rfl dX9_number_51 (fun hv8 ehv8 H locs hW hS => ?_)
          have h := h hv8 ehv8
          obtain ⟨x9, ex9⟩ : ∃ y : Int32, y = v2 + 1 := ⟨_, rfl⟩
          have h := h x9 ex9
          refine lv_iinc (v := x9) (lv' := [(2, .int x9), (1, .int x7), (0, .ref (ad G 9 0))]) hx hb dX9_number_54 hl (k := 2) rfl (by rw [ex9]; rfl) (by decide) rfl (fun ls hl => ?_)
          refine lv_goto (tgt := 7) hx hb dX9_number_57 (by decide) ?_
          exact ih x7 x9 hv8 h _ _ _ hW hS (lv_sub hl [2, 1, 0] rfl)
theorem pl_X9_number : yX9_number.cls ≠ "java/lang/invoke/MethodHandle" ∧ yX9_number.cls ≠ "java/lang/invoke/VarHandle" ∧ (parseMethodDescriptor yX9_number.desc).map (fun d => d.parameters.length) = some 0 := ⟨by decide +kernel, by decide +kernel, by decide +kernel⟩
def V_X9_number  (hv : HV) (post : Int32 → HV → Prop) : Prop := (V_X9_digit hv (fun r1 hv1 => (∃ n7, V_X9_number_7 post n7 r1 1 hv1)))
set_option maxHeartbeats 4000000 in
theorem c_X9_number (l : Launch) (G : wG) (A : Nat → Prop) (hv : HV) (post : Int32 → HV → Prop) (h : V_X9_number hv post) : wM l yX9_number cX9_number 3 ((Option.some FieldType.int)) 3 G A hv [.ref (ad G 9 0)] (qI G A post) := by
  refine wM_of (by decide +kernel) (Nat.le_of_ble_eq_true rfl) ?_
  intro p e s m args below meth c C0 hr ls hl hW hS
  have hx := C0.1
  have hb := C0.2.1
  have hown := C0.2.2.2.1
  have hts := C0.2.2.2.2.1
  have hl : lv_has ls 3 [(0, .ref (ad G 9 0))] := hl
  unfold V_X9_number at h
  refine lv_aload_n hx hb dX9_number_0 rfl (lv_at hl 0 rfl) ?_
  refine w_ci hS (w_runV (As := []) C0 hW 9 0 (by decide) (by decide) rfl rfl (c_X9_digit l G A hv _ h) ⟨⟨w_987, w_61, w_990⟩, pl_X9_digit, ⟨Nat.le_of_ble_eq_true rfl, Nat.le_of_ble_eq_true rfl⟩, ⟨Nat.le_refl _, Nat.le_refl _⟩⟩ ⟨w_989, w_37⟩ rfl hl.1 rfl (Nat.le_of_ble_eq_true rfl) dX9_number_1) (fun r1 hv1 h H locs hW hS => ?_)
  refine lv_istore_n (lv' := [(1, .int r1), (0, .ref (ad G 9 0))]) hx hb dX9_number_4 rfl hl (by decide) rfl (fun ls hl => ?_)
  refine lv_iconst (v := 1) hx hb dX9_number_5 (by decide) ?_
  refine lv_istore_n (lv' := [(2, .int 1), (1, .int r1), (0, .ref (ad G 9 0))]) hx hb dX9_number_6 rfl hl (by decide) rfl (fun ls hl => ?_)
  obtain ⟨n10, h⟩ := h
  exact k_X9_number_7 post C0 hr n10 r1 1 hv1 h _ _ _ hW hS (lv_sub hl [2, 1, 0] rfl)

def V_X9_sign_40 (a1 : Int32) (post : HV → Prop)  (hv : HV) : Prop := (((hv 9 0 14) = 0 → (∀ hv4 : HV, hv4 = up hv 9 0 (upd (hv 9 0) 13 ((hv 9 0 13) + 1)) → post hv4)) ∧ (¬ ((hv 9 0 14) = 0) → (∀ hv5 : HV, hv5 = up hv 9 0 (upd (hv 9 0) 13 ((hv 9 0 13) + 0)) → post hv5)))
set_option maxHeartbeats 4000000 in
theorem k_X9_sign_40 {p : Program} {l : Launch} {e : Env} {s : State} {m : MethodId} {args : Array Value} {below : List Frame} {meth : Method} {c : Code} {G : wG} {A : Nat → Prop} (a1 : Int32) (post : HV → Prop) (C0 : cx p s m args meth c "RamStationModel" cX9_sign 2 G) (hr : meth.sig.returnType = (Option.none : Option FieldType))   : ∀  (hv : HV), V_X9_sign_40 a1 post  hv → ∀ (H : Heap) (locs : List Loc) (ls : Array Slot), wd G A hv H → va_S A s.heap H locs → lv_has ls 2 [(0, .ref (ad G 9 0))] → W p l e (wrm 0) s m args below meth c H locs 0 0 (MQ below (qV G A post) args s 0 0 A) (F0 m 40 ls []) := by
  have hx := C0.1
  have hb := C0.2.1
  have hown := C0.2.2.2.1
  have hts := C0.2.2.2.2.1
  intro  hv  h H locs ls hW hS hl
  unfold V_X9_sign_40 at h
  refine lv_aload_n hx hb dX9_sign_40 rfl (lv_at hl 0 rfl) ?_
  refine lv_dup hx hb dX9_sign_41 rfl ?_
  refine w_get (v := .int (hv 9 0 13)) C0 hW 9 0 (by decide) (by decide) rfl rfl in_X9 13 (by decide) w_775 rfl dX9_sign_42 ?_
  refine lv_aload_n hx hb dX9_sign_45 rfl (lv_at hl 0 rfl) ?_
  refine w_get (v := .int (hv 9 0 14)) C0 hW 9 0 (by decide) (by decide) rfl rfl in_X9 14 (by decide) w_776 rfl dX9_sign_46 ?_
  refine lv_if_eq (tgt := 56) hx hb dX9_sign_49 (by decide) (fun c3 => ?_) (fun c3 => ?_)
  · have h := h.1 c3
    refine lv_iconst (v := 1) hx hb dX9_sign_56 (by decide) ?_
    refine lv_iadd hx hb dX9_sign_57 ?_
    refine w_put (v := ((hv 9 0 13) + 1)) C0 hW hS 9 0 (by decide) (by decide) rfl rfl in_X9 tyX9_ok nmX9 13 (by decide) w_775 rfl rfl rfl (Nat.le_of_ble_eq_true rfl) rfl dX9_sign_58 (fun hv4 ehv4 H locs hW hS => ?_)
    have h := h hv4 ehv4
    exact w_vret C0 hr hW hS h dX9_sign_61
  · have h := h.2 c3
    refine lv_iconst (v := 0) hx hb dX9_sign_52 (by decide) ?_
    refine lv_goto (tgt := 57) hx hb dX9_sign_53 (by decide) ?_
    refine lv_iadd hx hb dX9_sign_57 ?_
    refine w_put (v := ((hv 9 0 13) + 0)) C0 hW hS 9 0 (by decide) (by decide) rfl rfl in_X9 tyX9_ok nmX9 13 (by decide) w_775 rfl rfl rfl (Nat.le_of_ble_eq_true rfl) rfl dX9_sign_58 (fun hv5 ehv5 H locs hW hS => ?_)
    have h := h hv5 ehv5
    exact w_vret C0 hr hW hS h dX9_sign_61
theorem pl_X9_sign : yX9_sign.cls ≠ "java/lang/invoke/MethodHandle" ∧ yX9_sign.cls ≠ "java/lang/invoke/VarHandle" ∧ (parseMethodDescriptor yX9_sign.desc).map (fun d => d.parameters.length) = some 1 := ⟨by decide +kernel, by decide +kernel, by decide +kernel⟩
def V_X9_sign (a1 : Int32) (hv : HV) (post : HV → Prop) : Prop := (((hv 9 0 14) = 0 → (((hv 9 0 13) = (hv 9 0 11) → (∀ hv7 : HV, hv7 = up hv 9 0 (upd (hv 9 0) 14 1) → (V_X9_sign_40 a1 post hv7))) ∧ (¬ ((hv 9 0 13) = (hv 9 0 11)) → (vp_in (hv 9 0 13) 40 ∧ (((hv 20 0 (Int32.toNatClampNeg (hv 9 0 13))) = a1 → (∀ hv10 : HV, hv10 = up hv 9 0 (upd (hv 9 0) 14 0) → (V_X9_sign_40 a1 post hv10))) ∧ (¬ ((hv 20 0 (Int32.toNatClampNeg (hv 9 0 13))) = a1) → (∀ hv11 : HV, hv11 = up hv 9 0 (upd (hv 9 0) 14 1) → (V_X9_sign_40 a1 post hv11)))))))) ∧ (¬ ((hv 9 0 14) = 0) → (∀ hv2 : HV, hv2 = up hv 9 0 (upd (hv 9 0) 14 1) → (V_X9_sign_40 a1 post hv2))))
set_option maxHeartbeats 4000000 in
theorem c_X9_sign (l : Launch) (G : wG) (A : Nat → Prop) (a1 : Int32) (hv : HV) (post : HV → Prop) (h : V_X9_sign a1 hv post) : wM l yX9_sign cX9_sign 2 ((Option.none : Option FieldType)) 0 G A hv [.ref (ad G 9 0), .int a1] (qV G A post) := by
  refine wM_of (by decide +kernel) (Nat.le_of_ble_eq_true rfl) ?_
  intro p e s m args below meth c C0 hr ls hl hW hS
  have hx := C0.1
  have hb := C0.2.1
  have hown := C0.2.2.2.1
  have hts := C0.2.2.2.2.1
  have hl : lv_has ls 2 [(0, .ref (ad G 9 0)), (1, .int a1)] := hl
  unfold V_X9_sign at h
  refine lv_aload_n hx hb dX9_sign_0 rfl (lv_at hl 0 rfl) ?_
  refine lv_aload_n hx hb dX9_sign_1 rfl (lv_at hl 0 rfl) ?_
  refine w_get (v := .int (hv 9 0 14)) C0 hW 9 0 (by decide) (by decide) rfl rfl in_X9 14 (by decide) w_776 rfl dX9_sign_2 ?_
  refine lv_if_ne (tgt := 32) hx hb dX9_sign_5 (by decide) (fun c1 => ?_) (fun c1 => ?_)
  · have h := h.2 c1
    refine lv_iconst (v := 1) hx hb dX9_sign_32 (by decide) ?_
    refine lv_goto (tgt := 37) hx hb dX9_sign_33 (by decide) ?_
    refine w_put (v := 1) C0 hW hS 9 0 (by decide) (by decide) rfl rfl in_X9 tyX9_ok nmX9 14 (by decide) w_776 rfl rfl rfl (Nat.le_of_ble_eq_true rfl) rfl dX9_sign_37 (fun hv2 ehv2 H locs hW hS => ?_)
    have h := h hv2 ehv2
    exact k_X9_sign_40 a1 post C0 hr hv2 h _ _ _ hW hS (lv_sub hl [0] rfl)
  · have h := h.1 c1
    refine lv_aload_n hx hb dX9_sign_8 rfl (lv_at hl 0 rfl) ?_
    refine w_get (v := .int (hv 9 0 13)) C0 hW 9 0 (by decide) (by decide) rfl rfl in_X9 13 (by decide) w_775 rfl dX9_sign_9 ?_
    refine lv_aload_n hx hb dX9_sign_12 rfl (lv_at hl 0 rfl) ?_
    refine w_get (v := .int (hv 9 0 11)) C0 hW 9 0 (by decide) (by decide) rfl rfl in_X9 11 (by decide) w_773 rfl dX9_sign_13 ?_
    refine lv_icmp_eq (tgt := 32) hx hb dX9_sign_16 (by decide) (fun c6 => ?_) (fun c6 => ?_)
    · have h := h.1 c6
      refine lv_iconst (v := 1) hx hb dX9_sign_32 (by decide) ?_
      refine lv_goto (tgt := 37) hx hb dX9_sign_33 (by decide) ?_
      refine w_put (v := 1) C0 hW hS 9 0 (by decide) (by decide) rfl rfl in_X9 tyX9_ok nmX9 14 (by decide) w_776 rfl rfl rfl (Nat.le_of_ble_eq_true rfl) rfl dX9_sign_37 (fun hv7 ehv7 H locs hW hS => ?_)
      have h := h hv7 ehv7
      exact k_X9_sign_40 a1 post C0 hr hv7 h _ _ _ hW hS (lv_sub hl [0] rfl)
    · have h := h.2 c6
      refine lv_aload_n hx hb dX9_sign_19 rfl (lv_at hl 0 rfl) ?_
      refine w_get (v := .ref (ad G 20 0)) C0 hW 9 0 (by decide) (by decide) rfl rfl in_X9 10 (by decide) w_772 rfl dX9_sign_20 ?_
      refine lv_aload_n hx hb dX9_sign_23 rfl (lv_at hl 0 rfl) ?_
      refine w_get (v := .int (hv 9 0 13)) C0 hW 9 0 (by decide) (by decide) rfl rfl in_X9 13 (by decide) w_775 rfl dX9_sign_24 ?_
      obtain ⟨q8, h⟩ := h
      refine w_iald C0 hW 20 0 (by decide) (by decide) (n := 40) rfl q8 dX9_sign_27 ?_
      refine lv_iload_n hx hb dX9_sign_28 rfl (lv_at hl 1 rfl) ?_
      refine lv_icmp_eq (tgt := 36) hx hb dX9_sign_29 (by decide) (fun c9 => ?_) (fun c9 => ?_)
      · have h := h.1 c9
        refine lv_iconst (v := 0) hx hb dX9_sign_36 (by decide) ?_
        refine w_put (v := 0) C0 hW hS 9 0 (by decide) (by decide) rfl rfl in_X9 tyX9_ok nmX9 14 (by decide) w_776 rfl rfl rfl (Nat.le_of_ble_eq_true rfl) rfl dX9_sign_37 (fun hv10 ehv10 H locs hW hS => ?_)
        have h := h hv10 ehv10
        exact k_X9_sign_40 a1 post C0 hr hv10 h _ _ _ hW hS (lv_sub hl [0] rfl)
      · have h := h.2 c9
        refine lv_iconst (v := 1) hx hb dX9_sign_32 (by decide) ?_
        refine lv_goto (tgt := 37) hx hb dX9_sign_33 (by decide) ?_
        refine w_put (v := 1) C0 hW hS 9 0 (by decide) (by decide) rfl rfl in_X9 tyX9_ok nmX9 14 (by decide) w_776 rfl rfl rfl (Nat.le_of_ble_eq_true rfl) rfl dX9_sign_37 (fun hv11 ehv11 H locs hW hS => ?_)
        have h := h hv11 ehv11
        exact k_X9_sign_40 a1 post C0 hr hv11 h _ _ _ hW hS (lv_sub hl [0] rfl)

def V_X9_readCommand_153 (post : HV → Prop)  (hv : HV) : Prop := (((hv 9 0 15) = 115 → (V_X9_number hv (fun r12 hv12 => (∀ hv13 : HV, hv13 = up hv12 9 0 (upd (hv12 9 0) 17 r12) → post hv13)))) ∧ (¬ ((hv 9 0 15) = 115) → (((hv 9 0 15) = 105 → (V_X9_number hv (fun r15 hv15 => (∀ hv16 : HV, hv16 = up hv15 9 0 (upd (hv15 9 0) 17 r15) → post hv16)))) ∧ (¬ ((hv 9 0 15) = 105) → (((hv 9 0 15) = 119 → (V_X9_number hv (fun r19 hv19 => (∀ hv20 : HV, hv20 = up hv19 9 0 (upd (hv19 9 0) 17 r19) → post hv20)))) ∧ (¬ ((hv 9 0 15) = 119) → (∀ hv18 : HV, hv18 = up hv 9 0 (upd (hv 9 0) 17 0) → post hv18)))))))
set_option maxHeartbeats 4000000 in
theorem k_X9_readCommand_153 {p : Program} {l : Launch} {e : Env} {s : State} {m : MethodId} {args : Array Value} {below : List Frame} {meth : Method} {c : Code} {G : wG} {A : Nat → Prop} (post : HV → Prop) (C0 : cx p s m args meth c "RamStationModel" cX9_readCommand 2 G) (hr : meth.sig.returnType = (Option.none : Option FieldType))   : ∀  (hv : HV), V_X9_readCommand_153 post  hv → ∀ (H : Heap) (locs : List Loc) (ls : Array Slot), wd G A hv H → va_S A s.heap H locs → lv_has ls 2 [(0, .ref (ad G 9 0))] → W p l e (wrm 4) s m args below meth c H locs 0 0 (MQ below (qV G A post) args s 0 0 A) (F0 m 153 ls []) := by
  have hx := C0.1
  have hb := C0.2.1
  have hown := C0.2.2.2.1
  have hts := C0.2.2.2.2.1
  intro  hv  h H locs ls hW hS hl
  unfold V_X9_readCommand_153 at h
  refine lv_aload_n hx hb dX9_readCommand_153 rfl (lv_at hl 0 rfl) ?_
  refine lv_aload_n hx hb dX9_readCommand_154 rfl (lv_at hl 0 rfl) ?_
  refine w_get (v := .int (hv 9 0 15)) C0 hW 9 0 (by decide) (by decide) rfl rfl in_X9 15 (by decide) w_777 rfl dX9_readCommand_155 ?_
  refine lv_bipush (v := 115) hx hb dX9_readCommand_158 (by decide) ?_
  refine lv_icmp_eq (tgt := 181) hx hb dX9_readCommand_160 (by decide) (fun c11 => ?_) (fun c11 => ?_)
  · have h := h.1 c11
    refine lv_aload_n hx hb dX9_readCommand_181 rfl (lv_at hl 0 rfl) ?_
    refine w_ci hS (w_runV (As := []) C0 hW 9 0 (by decide) (by decide) rfl rfl (c_X9_number l G A hv _ h) ⟨⟨w_999, w_61, w_1002⟩, pl_X9_number, ⟨Nat.le_of_ble_eq_true rfl, Nat.le_of_ble_eq_true rfl⟩, ⟨Nat.le_refl _, Nat.le_refl _⟩⟩ ⟨w_1001, w_40⟩ rfl hl.1 rfl (Nat.le_of_ble_eq_true rfl) dX9_readCommand_182) (fun r12 hv12 h H locs hW hS => ?_)
    refine lv_goto (tgt := 189) hx hb dX9_readCommand_185 (by decide) ?_
    refine w_put (v := r12) C0 hW hS 9 0 (by decide) (by decide) rfl rfl in_X9 tyX9_ok nmX9 17 (by decide) w_779 rfl rfl rfl (Nat.le_of_ble_eq_true rfl) rfl dX9_readCommand_189 (fun hv13 ehv13 H locs hW hS => ?_)
    have h := h hv13 ehv13
    exact w_vret C0 hr hW hS h dX9_readCommand_192
  · have h := h.2 c11
    refine lv_aload_n hx hb dX9_readCommand_163 rfl (lv_at hl 0 rfl) ?_
    refine w_get (v := .int (hv 9 0 15)) C0 hW 9 0 (by decide) (by decide) rfl rfl in_X9 15 (by decide) w_777 rfl dX9_readCommand_164 ?_
    refine lv_bipush (v := 105) hx hb dX9_readCommand_167 (by decide) ?_
    refine lv_icmp_eq (tgt := 181) hx hb dX9_readCommand_169 (by decide) (fun c14 => ?_) (fun c14 => ?_)
    · have h := h.1 c14
      refine lv_aload_n hx hb dX9_readCommand_181 rfl (lv_at hl 0 rfl) ?_
      refine w_ci hS (w_runV (As := []) C0 hW 9 0 (by decide) (by decide) rfl rfl (c_X9_number l G A hv _ h) ⟨⟨w_999, w_61, w_1002⟩, pl_X9_number, ⟨Nat.le_of_ble_eq_true rfl, Nat.le_of_ble_eq_true rfl⟩, ⟨Nat.le_refl _, Nat.le_refl _⟩⟩ ⟨w_1001, w_40⟩ rfl hl.1 rfl (Nat.le_of_ble_eq_true rfl) dX9_readCommand_182) (fun r15 hv15 h H locs hW hS => ?_)
      refine lv_goto (tgt := 189) hx hb dX9_readCommand_185 (by decide) ?_
      refine w_put (v := r15) C0 hW hS 9 0 (by decide) (by decide) rfl rfl in_X9 tyX9_ok nmX9 17 (by decide) w_779 rfl rfl rfl (Nat.le_of_ble_eq_true rfl) rfl dX9_readCommand_189 (fun hv16 ehv16 H locs hW hS => ?_)
      have h := h hv16 ehv16
      exact w_vret C0 hr hW hS h dX9_readCommand_192
    · have h := h.2 c14
      refine lv_aload_n hx hb dX9_readCommand_172 rfl (lv_at hl 0 rfl) ?_
      refine w_get (v := .int (hv 9 0 15)) C0 hW 9 0 (by decide) (by decide) rfl rfl in_X9 15 (by decide) w_777 rfl dX9_readCommand_173 ?_
      refine lv_bipush (v := 119) hx hb dX9_readCommand_176 (by decide) ?_
      refine lv_icmp_ne (tgt := 188) hx hb dX9_readCommand_178 (by decide) (fun c17 => ?_) (fun c17 => ?_)
      · have h := h.2 c17
        refine lv_iconst (v := 0) hx hb dX9_readCommand_188 (by decide) ?_
        refine w_put (v := 0) C0 hW hS 9 0 (by decide) (by decide) rfl rfl in_X9 tyX9_ok nmX9 17 (by decide) w_779 rfl rfl rfl (Nat.le_of_ble_eq_true rfl) rfl dX9_readCommand_189 (fun hv18 ehv18 H locs hW hS => ?_)
        have h := h hv18 ehv18
        exact w_vret C0 hr hW hS h dX9_readCommand_192
      · have h := h.1 c17
        refine lv_aload_n hx hb dX9_readCommand_181 rfl (lv_at hl 0 rfl) ?_
        refine w_ci hS (w_runV (As := []) C0 hW 9 0 (by decide) (by decide) rfl rfl (c_X9_number l G A hv _ h) ⟨⟨w_999, w_61, w_1002⟩, pl_X9_number, ⟨Nat.le_of_ble_eq_true rfl, Nat.le_of_ble_eq_true rfl⟩, ⟨Nat.le_refl _, Nat.le_refl _⟩⟩ ⟨w_1001, w_40⟩ rfl hl.1 rfl (Nat.le_of_ble_eq_true rfl) dX9_readCommand_182) (fun r19 hv19 h H locs hW hS => ?_)
        refine lv_goto (tgt := 189) hx hb dX9_readCommand_185 (by decide) ?_
        refine w_put (v := r19) C0 hW hS 9 0 (by decide) (by decide) rfl rfl in_X9 tyX9_ok nmX9 17 (by decide) w_779 rfl rfl rfl (Nat.le_of_ble_eq_true rfl) rfl dX9_readCommand_189 (fun hv20 ehv20 H locs hW hS => ?_)
        have h := h hv20 ehv20
        exact w_vret C0 hr hW hS h dX9_readCommand_192
def V_X9_readCommand_138 (post : HV → Prop)  (hv : HV) : Prop := (((hv 9 0 15) = 115 → (V_X9_sign 61 hv (fun hv21 => (V_X9_readCommand_153 post hv21)))) ∧ (¬ ((hv 9 0 15) = 115) → (V_X9_readCommand_153 post hv)))
set_option maxHeartbeats 4000000 in
theorem k_X9_readCommand_138 {p : Program} {l : Launch} {e : Env} {s : State} {m : MethodId} {args : Array Value} {below : List Frame} {meth : Method} {c : Code} {G : wG} {A : Nat → Prop} (post : HV → Prop) (C0 : cx p s m args meth c "RamStationModel" cX9_readCommand 2 G) (hr : meth.sig.returnType = (Option.none : Option FieldType))   : ∀  (hv : HV), V_X9_readCommand_138 post  hv → ∀ (H : Heap) (locs : List Loc) (ls : Array Slot), wd G A hv H → va_S A s.heap H locs → lv_has ls 2 [(0, .ref (ad G 9 0))] → W p l e (wrm 4) s m args below meth c H locs 0 0 (MQ below (qV G A post) args s 0 0 A) (F0 m 138 ls []) := by
  have hx := C0.1
  have hb := C0.2.1
  have hown := C0.2.2.2.1
  have hts := C0.2.2.2.2.1
  intro  hv  h H locs ls hW hS hl
  unfold V_X9_readCommand_138 at h
  refine lv_aload_n hx hb dX9_readCommand_138 rfl (lv_at hl 0 rfl) ?_
  refine w_get (v := .int (hv 9 0 15)) C0 hW 9 0 (by decide) (by decide) rfl rfl in_X9 15 (by decide) w_777 rfl dX9_readCommand_139 ?_
  refine lv_bipush (v := 115) hx hb dX9_readCommand_142 (by decide) ?_
  refine lv_icmp_ne (tgt := 153) hx hb dX9_readCommand_144 (by decide) (fun c10 => ?_) (fun c10 => ?_)
  · have h := h.2 c10
    exact k_X9_readCommand_153 post C0 hr hv h _ _ _ hW hS (lv_sub hl [0] rfl)
  · have h := h.1 c10
    refine lv_aload_n hx hb dX9_readCommand_147 rfl (lv_at hl 0 rfl) ?_
    refine lv_bipush (v := 61) hx hb dX9_readCommand_148 (by decide) ?_
    refine w_cv hS (w_runV (As := [.int 61]) C0 hW 9 0 (by decide) (by decide) rfl rfl (c_X9_sign l G A 61 hv _ h) ⟨⟨w_995, w_61, w_998⟩, pl_X9_sign, ⟨Nat.le_of_ble_eq_true rfl, Nat.le_of_ble_eq_true rfl⟩, ⟨Nat.le_refl _, Nat.le_refl _⟩⟩ ⟨w_997, w_39⟩ rfl hl.1 rfl (Nat.le_of_ble_eq_true rfl) dX9_readCommand_150) (fun hv21 h H locs hW hS => ?_)
    exact k_X9_readCommand_153 post C0 hr hv21 h _ _ _ hW hS (lv_sub hl [0] rfl)
def V_X9_readCommand_122 (post : HV → Prop) (v1 : Int32) (hv : HV) : Prop := ((v1 = 0 → (∀ hv9 : HV, hv9 = up hv 9 0 (upd (hv 9 0) 16 0) → (V_X9_readCommand_138 post hv9))) ∧ (¬ (v1 = 0) → (V_X9_digit hv (fun r22 hv22 => (∀ hv23 : HV, hv23 = up hv22 9 0 (upd (hv22 9 0) 16 r22) → (V_X9_readCommand_138 post hv23))))))
set_option maxHeartbeats 4000000 in
theorem k_X9_readCommand_122 {p : Program} {l : Launch} {e : Env} {s : State} {m : MethodId} {args : Array Value} {below : List Frame} {meth : Method} {c : Code} {G : wG} {A : Nat → Prop} (post : HV → Prop) (C0 : cx p s m args meth c "RamStationModel" cX9_readCommand 2 G) (hr : meth.sig.returnType = (Option.none : Option FieldType))   : ∀ (v1 : Int32) (hv : HV), V_X9_readCommand_122 post v1 hv → ∀ (H : Heap) (locs : List Loc) (ls : Array Slot), wd G A hv H → va_S A s.heap H locs → lv_has ls 2 [(0, .ref (ad G 9 0)), (1, .int v1)] → W p l e (wrm 4) s m args below meth c H locs 0 0 (MQ below (qV G A post) args s 0 0 A) (F0 m 122 ls []) := by
  have hx := C0.1
  have hb := C0.2.1
  have hown := C0.2.2.2.1
  have hts := C0.2.2.2.2.1
  intro v1 hv  h H locs ls hW hS hl
  unfold V_X9_readCommand_122 at h
  refine lv_aload_n hx hb dX9_readCommand_122 rfl (lv_at hl 0 rfl) ?_
  refine lv_iload_n hx hb dX9_readCommand_123 rfl (lv_at hl 1 rfl) ?_
  refine lv_if_eq (tgt := 134) hx hb dX9_readCommand_124 (by decide) (fun c8 => ?_) (fun c8 => ?_)
  · have h := h.1 c8
    refine lv_iconst (v := 0) hx hb dX9_readCommand_134 (by decide) ?_
    refine w_put (v := 0) C0 hW hS 9 0 (by decide) (by decide) rfl rfl in_X9 tyX9_ok nmX9 16 (by decide) w_778 rfl rfl rfl (Nat.le_of_ble_eq_true rfl) rfl dX9_readCommand_135 (fun hv9 ehv9 H locs hW hS => ?_)
    have h := h hv9 ehv9
    exact k_X9_readCommand_138 post C0 hr hv9 h _ _ _ hW hS (lv_sub hl [0] rfl)
  · have h := h.2 c8
    refine lv_aload_n hx hb dX9_readCommand_127 rfl (lv_at hl 0 rfl) ?_
    refine w_ci hS (w_runV (As := []) C0 hW 9 0 (by decide) (by decide) rfl rfl (c_X9_digit l G A hv _ h) ⟨⟨w_987, w_61, w_990⟩, pl_X9_digit, ⟨Nat.le_of_ble_eq_true rfl, Nat.le_of_ble_eq_true rfl⟩, ⟨Nat.le_refl _, Nat.le_refl _⟩⟩ ⟨w_989, w_37⟩ rfl hl.1 rfl (Nat.le_of_ble_eq_true rfl) dX9_readCommand_128) (fun r22 hv22 h H locs hW hS => ?_)
    refine lv_goto (tgt := 135) hx hb dX9_readCommand_131 (by decide) ?_
    refine w_put (v := r22) C0 hW hS 9 0 (by decide) (by decide) rfl rfl in_X9 tyX9_ok nmX9 16 (by decide) w_778 rfl rfl rfl (Nat.le_of_ble_eq_true rfl) rfl dX9_readCommand_135 (fun hv23 ehv23 H locs hW hS => ?_)
    have h := h hv23 ehv23
    exact k_X9_readCommand_138 post C0 hr hv23 h _ _ _ hW hS (lv_sub hl [0] rfl)
def V_X9_readCommand_101 (post : HV → Prop) (v1 : Int32) (hv : HV) : Prop := (((hv 9 0 14) = 0 → (∀ hv7 : HV, hv7 = up hv 9 0 (upd (hv 9 0) 13 ((hv 9 0 13) + 1)) → (V_X9_readCommand_122 post v1 hv7))) ∧ (¬ ((hv 9 0 14) = 0) → (∀ hv24 : HV, hv24 = up hv 9 0 (upd (hv 9 0) 13 ((hv 9 0 13) + 0)) → (V_X9_readCommand_122 post v1 hv24))))
set_option maxHeartbeats 4000000 in
theorem k_X9_readCommand_101 {p : Program} {l : Launch} {e : Env} {s : State} {m : MethodId} {args : Array Value} {below : List Frame} {meth : Method} {c : Code} {G : wG} {A : Nat → Prop} (post : HV → Prop) (C0 : cx p s m args meth c "RamStationModel" cX9_readCommand 2 G) (hr : meth.sig.returnType = (Option.none : Option FieldType))   : ∀ (v1 : Int32) (hv : HV), V_X9_readCommand_101 post v1 hv → ∀ (H : Heap) (locs : List Loc) (ls : Array Slot), wd G A hv H → va_S A s.heap H locs → lv_has ls 2 [(0, .ref (ad G 9 0)), (1, .int v1)] → W p l e (wrm 4) s m args below meth c H locs 0 0 (MQ below (qV G A post) args s 0 0 A) (F0 m 101 ls []) := by
  have hx := C0.1
  have hb := C0.2.1
  have hown := C0.2.2.2.1
  have hts := C0.2.2.2.2.1
  intro v1 hv  h H locs ls hW hS hl
  unfold V_X9_readCommand_101 at h
  refine lv_aload_n hx hb dX9_readCommand_101 rfl (lv_at hl 0 rfl) ?_
  refine lv_dup hx hb dX9_readCommand_102 rfl ?_
  refine w_get (v := .int (hv 9 0 13)) C0 hW 9 0 (by decide) (by decide) rfl rfl in_X9 13 (by decide) w_775 rfl dX9_readCommand_103 ?_
  refine lv_aload_n hx hb dX9_readCommand_106 rfl (lv_at hl 0 rfl) ?_
  refine w_get (v := .int (hv 9 0 14)) C0 hW 9 0 (by decide) (by decide) rfl rfl in_X9 14 (by decide) w_776 rfl dX9_readCommand_107 ?_
  refine lv_if_eq (tgt := 117) hx hb dX9_readCommand_110 (by decide) (fun c6 => ?_) (fun c6 => ?_)
  · have h := h.1 c6
    refine lv_iconst (v := 1) hx hb dX9_readCommand_117 (by decide) ?_
    refine lv_iadd hx hb dX9_readCommand_118 ?_
    refine w_put (v := ((hv 9 0 13) + 1)) C0 hW hS 9 0 (by decide) (by decide) rfl rfl in_X9 tyX9_ok nmX9 13 (by decide) w_775 rfl rfl rfl (Nat.le_of_ble_eq_true rfl) rfl dX9_readCommand_119 (fun hv7 ehv7 H locs hW hS => ?_)
    have h := h hv7 ehv7
    exact k_X9_readCommand_122 post C0 hr v1 hv7 h _ _ _ hW hS (lv_sub hl [0, 1] rfl)
  · have h := h.2 c6
    refine lv_iconst (v := 0) hx hb dX9_readCommand_113 (by decide) ?_
    refine lv_goto (tgt := 118) hx hb dX9_readCommand_114 (by decide) ?_
    refine lv_iadd hx hb dX9_readCommand_118 ?_
    refine w_put (v := ((hv 9 0 13) + 0)) C0 hW hS 9 0 (by decide) (by decide) rfl rfl in_X9 tyX9_ok nmX9 13 (by decide) w_775 rfl rfl rfl (Nat.le_of_ble_eq_true rfl) rfl dX9_readCommand_119 (fun hv24 ehv24 H locs hW hS => ?_)
    have h := h hv24 ehv24
    exact k_X9_readCommand_122 post C0 hr v1 hv24 h _ _ _ hW hS (lv_sub hl [0, 1] rfl)
def V_X9_readCommand_70 (post : HV → Prop) (v1 : Int32) (hv : HV) : Prop := ((v1 = 0 → (((hv 9 0 15) = 105 → (∀ hv26 : HV, hv26 = up hv 9 0 (upd (hv 9 0) 14 0) → (V_X9_readCommand_101 post v1 hv26))) ∧ (¬ ((hv 9 0 15) = 105) → (((hv 9 0 15) = 119 → (∀ hv28 : HV, hv28 = up hv 9 0 (upd (hv 9 0) 14 0) → (V_X9_readCommand_101 post v1 hv28))) ∧ (¬ ((hv 9 0 15) = 119) → (∀ hv29 : HV, hv29 = up hv 9 0 (upd (hv 9 0) 14 1) → (V_X9_readCommand_101 post v1 hv29))))))) ∧ (¬ (v1 = 0) → (∀ hv5 : HV, hv5 = up hv 9 0 (upd (hv 9 0) 14 0) → (V_X9_readCommand_101 post v1 hv5))))
set_option maxHeartbeats 4000000 in
theorem k_X9_readCommand_70 {p : Program} {l : Launch} {e : Env} {s : State} {m : MethodId} {args : Array Value} {below : List Frame} {meth : Method} {c : Code} {G : wG} {A : Nat → Prop} (post : HV → Prop) (C0 : cx p s m args meth c "RamStationModel" cX9_readCommand 2 G) (hr : meth.sig.returnType = (Option.none : Option FieldType))   : ∀ (v1 : Int32) (hv : HV), V_X9_readCommand_70 post v1 hv → ∀ (H : Heap) (locs : List Loc) (ls : Array Slot), wd G A hv H → va_S A s.heap H locs → lv_has ls 2 [(0, .ref (ad G 9 0)), (1, .int v1)] → W p l e (wrm 4) s m args below meth c H locs 0 0 (MQ below (qV G A post) args s 0 0 A) (F0 m 70 ls []) := by
  have hx := C0.1
  have hb := C0.2.1
  have hown := C0.2.2.2.1
  have hts := C0.2.2.2.2.1
  intro v1 hv  h H locs ls hW hS hl
  unfold V_X9_readCommand_70 at h
  refine lv_aload_n hx hb dX9_readCommand_70 rfl (lv_at hl 0 rfl) ?_
  refine lv_iload_n hx hb dX9_readCommand_71 rfl (lv_at hl 1 rfl) ?_
  refine lv_if_ne (tgt := 97) hx hb dX9_readCommand_72 (by decide) (fun c4 => ?_) (fun c4 => ?_)
  · have h := h.2 c4
    refine lv_iconst (v := 0) hx hb dX9_readCommand_97 (by decide) ?_
    refine w_put (v := 0) C0 hW hS 9 0 (by decide) (by decide) rfl rfl in_X9 tyX9_ok nmX9 14 (by decide) w_776 rfl rfl rfl (Nat.le_of_ble_eq_true rfl) rfl dX9_readCommand_98 (fun hv5 ehv5 H locs hW hS => ?_)
    have h := h hv5 ehv5
    exact k_X9_readCommand_101 post C0 hr v1 hv5 h _ _ _ hW hS (lv_sub hl [0, 1] rfl)
  · have h := h.1 c4
    refine lv_aload_n hx hb dX9_readCommand_75 rfl (lv_at hl 0 rfl) ?_
    refine w_get (v := .int (hv 9 0 15)) C0 hW 9 0 (by decide) (by decide) rfl rfl in_X9 15 (by decide) w_777 rfl dX9_readCommand_76 ?_
    refine lv_bipush (v := 105) hx hb dX9_readCommand_79 (by decide) ?_
    refine lv_icmp_eq (tgt := 97) hx hb dX9_readCommand_81 (by decide) (fun c25 => ?_) (fun c25 => ?_)
    · have h := h.1 c25
      refine lv_iconst (v := 0) hx hb dX9_readCommand_97 (by decide) ?_
      refine w_put (v := 0) C0 hW hS 9 0 (by decide) (by decide) rfl rfl in_X9 tyX9_ok nmX9 14 (by decide) w_776 rfl rfl rfl (Nat.le_of_ble_eq_true rfl) rfl dX9_readCommand_98 (fun hv26 ehv26 H locs hW hS => ?_)
      have h := h hv26 ehv26
      exact k_X9_readCommand_101 post C0 hr v1 hv26 h _ _ _ hW hS (lv_sub hl [0, 1] rfl)
    · have h := h.2 c25
      refine lv_aload_n hx hb dX9_readCommand_84 rfl (lv_at hl 0 rfl) ?_
      refine w_get (v := .int (hv 9 0 15)) C0 hW 9 0 (by decide) (by decide) rfl rfl in_X9 15 (by decide) w_777 rfl dX9_readCommand_85 ?_
      refine lv_bipush (v := 119) hx hb dX9_readCommand_88 (by decide) ?_
      refine lv_icmp_eq (tgt := 97) hx hb dX9_readCommand_90 (by decide) (fun c27 => ?_) (fun c27 => ?_)
      · have h := h.1 c27
        refine lv_iconst (v := 0) hx hb dX9_readCommand_97 (by decide) ?_
        refine w_put (v := 0) C0 hW hS 9 0 (by decide) (by decide) rfl rfl in_X9 tyX9_ok nmX9 14 (by decide) w_776 rfl rfl rfl (Nat.le_of_ble_eq_true rfl) rfl dX9_readCommand_98 (fun hv28 ehv28 H locs hW hS => ?_)
        have h := h hv28 ehv28
        exact k_X9_readCommand_101 post C0 hr v1 hv28 h _ _ _ hW hS (lv_sub hl [0, 1] rfl)
      · have h := h.2 c27
        refine lv_iconst (v := 1) hx hb dX9_readCommand_93 (by decide) ?_
        refine lv_goto (tgt := 98) hx hb dX9_readCommand_94 (by decide) ?_
        refine w_put (v := 1) C0 hW hS 9 0 (by decide) (by decide) rfl rfl in_X9 tyX9_ok nmX9 14 (by decide) w_776 rfl rfl rfl (Nat.le_of_ble_eq_true rfl) rfl dX9_readCommand_98 (fun hv29 ehv29 H locs hW hS => ?_)
        have h := h hv29 ehv29
        exact k_X9_readCommand_101 post C0 hr v1 hv29 h _ _ _ hW hS (lv_sub hl [0, 1] rfl)
def V_X9_readCommand_28 (post : HV → Prop)  (hv : HV) : Prop := (((hv 9 0 15) = 114 → (V_X9_readCommand_70 post 1 hv)) ∧ (¬ ((hv 9 0 15) = 114) → (((hv 9 0 15) = 104 → (V_X9_readCommand_70 post 1 hv)) ∧ (¬ ((hv 9 0 15) = 104) → (((hv 9 0 15) = 101 → (V_X9_readCommand_70 post 1 hv)) ∧ (¬ ((hv 9 0 15) = 101) → (((hv 9 0 15) = 115 → (V_X9_readCommand_70 post 1 hv)) ∧ (¬ ((hv 9 0 15) = 115) → (V_X9_readCommand_70 post 0 hv)))))))))
set_option maxHeartbeats 4000000 in
theorem k_X9_readCommand_28 {p : Program} {l : Launch} {e : Env} {s : State} {m : MethodId} {args : Array Value} {below : List Frame} {meth : Method} {c : Code} {G : wG} {A : Nat → Prop} (post : HV → Prop) (C0 : cx p s m args meth c "RamStationModel" cX9_readCommand 2 G) (hr : meth.sig.returnType = (Option.none : Option FieldType))   : ∀  (hv : HV), V_X9_readCommand_28 post  hv → ∀ (H : Heap) (locs : List Loc) (ls : Array Slot), wd G A hv H → va_S A s.heap H locs → lv_has ls 2 [(0, .ref (ad G 9 0))] → W p l e (wrm 4) s m args below meth c H locs 0 0 (MQ below (qV G A post) args s 0 0 A) (F0 m 28 ls []) := by
  have hx := C0.1
  have hb := C0.2.1
  have hown := C0.2.2.2.1
  have hts := C0.2.2.2.2.1
  intro  hv  h H locs ls hW hS hl
  unfold V_X9_readCommand_28 at h
  refine lv_aload_n hx hb dX9_readCommand_28 rfl (lv_at hl 0 rfl) ?_
  refine w_get (v := .int (hv 9 0 15)) C0 hW 9 0 (by decide) (by decide) rfl rfl in_X9 15 (by decide) w_777 rfl dX9_readCommand_29 ?_
  refine lv_bipush (v := 114) hx hb dX9_readCommand_32 (by decide) ?_
  refine lv_icmp_eq (tgt := 64) hx hb dX9_readCommand_34 (by decide) (fun c3 => ?_) (fun c3 => ?_)
  · have h := h.1 c3
    refine lv_iconst (v := 1) hx hb dX9_readCommand_64 (by decide) ?_
    refine lv_goto (tgt := 69) hx hb dX9_readCommand_65 (by decide) ?_
    refine lv_istore_n (lv' := [(1, .int 1), (0, .ref (ad G 9 0))]) hx hb dX9_readCommand_69 rfl hl (by decide) rfl (fun ls hl => ?_)
    exact k_X9_readCommand_70 post C0 hr 1 hv h _ _ _ hW hS (lv_sub hl [1, 0] rfl)
  · have h := h.2 c3
    refine lv_aload_n hx hb dX9_readCommand_37 rfl (lv_at hl 0 rfl) ?_
    refine w_get (v := .int (hv 9 0 15)) C0 hW 9 0 (by decide) (by decide) rfl rfl in_X9 15 (by decide) w_777 rfl dX9_readCommand_38 ?_
    refine lv_bipush (v := 104) hx hb dX9_readCommand_41 (by decide) ?_
    refine lv_icmp_eq (tgt := 64) hx hb dX9_readCommand_43 (by decide) (fun c30 => ?_) (fun c30 => ?_)
    · have h := h.1 c30
      refine lv_iconst (v := 1) hx hb dX9_readCommand_64 (by decide) ?_
      refine lv_goto (tgt := 69) hx hb dX9_readCommand_65 (by decide) ?_
      refine lv_istore_n (lv' := [(1, .int 1), (0, .ref (ad G 9 0))]) hx hb dX9_readCommand_69 rfl hl (by decide) rfl (fun ls hl => ?_)
      exact k_X9_readCommand_70 post C0 hr 1 hv h _ _ _ hW hS (lv_sub hl [1, 0] rfl)
    · have h := h.2 c30
      refine lv_aload_n hx hb dX9_readCommand_46 rfl (lv_at hl 0 rfl) ?_
      refine w_get (v := .int (hv 9 0 15)) C0 hW 9 0 (by decide) (by decide) rfl rfl in_X9 15 (by decide) w_777 rfl dX9_readCommand_47 ?_
      refine lv_bipush (v := 101) hx hb dX9_readCommand_50 (by decide) ?_
      refine lv_icmp_eq (tgt := 64) hx hb dX9_readCommand_52 (by decide) (fun c31 => ?_) (fun c31 => ?_)
      · have h := h.1 c31
        refine lv_iconst (v := 1) hx hb dX9_readCommand_64 (by decide) ?_
        refine lv_goto (tgt := 69) hx hb dX9_readCommand_65 (by decide) ?_
        refine lv_istore_n (lv' := [(1, .int 1), (0, .ref (ad G 9 0))]) hx hb dX9_readCommand_69 rfl hl (by decide) rfl (fun ls hl => ?_)
        exact k_X9_readCommand_70 post C0 hr 1 hv h _ _ _ hW hS (lv_sub hl [1, 0] rfl)
      · have h := h.2 c31
        refine lv_aload_n hx hb dX9_readCommand_55 rfl (lv_at hl 0 rfl) ?_
        refine w_get (v := .int (hv 9 0 15)) C0 hW 9 0 (by decide) (by decide) rfl rfl in_X9 15 (by decide) w_777 rfl dX9_readCommand_56 ?_
        refine lv_bipush (v := 115) hx hb dX9_readCommand_59 (by decide) ?_
        refine lv_icmp_ne (tgt := 68) hx hb dX9_readCommand_61 (by decide) (fun c32 => ?_) (fun c32 => ?_)
        · have h := h.2 c32
          refine lv_iconst (v := 0) hx hb dX9_readCommand_68 (by decide) ?_
          refine lv_istore_n (lv' := [(1, .int 0), (0, .ref (ad G 9 0))]) hx hb dX9_readCommand_69 rfl hl (by decide) rfl (fun ls hl => ?_)
          exact k_X9_readCommand_70 post C0 hr 0 hv h _ _ _ hW hS (lv_sub hl [1, 0] rfl)
        · have h := h.1 c32
          refine lv_iconst (v := 1) hx hb dX9_readCommand_64 (by decide) ?_
          refine lv_goto (tgt := 69) hx hb dX9_readCommand_65 (by decide) ?_
          refine lv_istore_n (lv' := [(1, .int 1), (0, .ref (ad G 9 0))]) hx hb dX9_readCommand_69 rfl hl (by decide) rfl (fun ls hl => ?_)
          exact k_X9_readCommand_70 post C0 hr 1 hv h _ _ _ hW hS (lv_sub hl [1, 0] rfl)
theorem pl_X9_readCommand : yX9_readCommand.cls ≠ "java/lang/invoke/MethodHandle" ∧ yX9_readCommand.cls ≠ "java/lang/invoke/VarHandle" ∧ (parseMethodDescriptor yX9_readCommand.desc).map (fun d => d.parameters.length) = some 0 := ⟨by decide +kernel, by decide +kernel, by decide +kernel⟩
def V_X9_readCommand  (hv : HV) (post : HV → Prop) : Prop := (((hv 9 0 11) ≤ (hv 9 0 13) → (∀ hv2 : HV, hv2 = up hv 9 0 (upd (hv 9 0) 15 0) → (V_X9_readCommand_28 post hv2))) ∧ (¬ ((hv 9 0 11) ≤ (hv 9 0 13)) → (vp_in (hv 9 0 13) 40 ∧ (∀ hv34 : HV, hv34 = up hv 9 0 (upd (hv 9 0) 15 (hv 20 0 (Int32.toNatClampNeg (hv 9 0 13)))) → (V_X9_readCommand_28 post hv34)))))
set_option maxHeartbeats 4000000 in
theorem c_X9_readCommand (l : Launch) (G : wG) (A : Nat → Prop) (hv : HV) (post : HV → Prop) (h : V_X9_readCommand hv post) : wM l yX9_readCommand cX9_readCommand 2 ((Option.none : Option FieldType)) 4 G A hv [.ref (ad G 9 0)] (qV G A post) := by
  refine wM_of (by decide +kernel) (Nat.le_of_ble_eq_true rfl) ?_
  intro p e s m args below meth c C0 hr ls hl hW hS
  have hx := C0.1
  have hb := C0.2.1
  have hown := C0.2.2.2.1
  have hts := C0.2.2.2.2.1
  have hl : lv_has ls 2 [(0, .ref (ad G 9 0))] := hl
  unfold V_X9_readCommand at h
  refine lv_aload_n hx hb dX9_readCommand_0 rfl (lv_at hl 0 rfl) ?_
  refine lv_aload_n hx hb dX9_readCommand_1 rfl (lv_at hl 0 rfl) ?_
  refine w_get (v := .int (hv 9 0 13)) C0 hW 9 0 (by decide) (by decide) rfl rfl in_X9 13 (by decide) w_775 rfl dX9_readCommand_2 ?_
  refine lv_aload_n hx hb dX9_readCommand_5 rfl (lv_at hl 0 rfl) ?_
  refine w_get (v := .int (hv 9 0 11)) C0 hW 9 0 (by decide) (by decide) rfl rfl in_X9 11 (by decide) w_773 rfl dX9_readCommand_6 ?_
  refine lv_icmp_ge (tgt := 24) hx hb dX9_readCommand_9 (by decide) (fun c1 => ?_) (fun c1 => ?_)
  · have h := h.1 c1
    refine lv_iconst (v := 0) hx hb dX9_readCommand_24 (by decide) ?_
    refine w_put (v := 0) C0 hW hS 9 0 (by decide) (by decide) rfl rfl in_X9 tyX9_ok nmX9 15 (by decide) w_777 rfl rfl rfl (Nat.le_of_ble_eq_true rfl) rfl dX9_readCommand_25 (fun hv2 ehv2 H locs hW hS => ?_)
    have h := h hv2 ehv2
    exact k_X9_readCommand_28 post C0 hr hv2 h _ _ _ hW hS (lv_sub hl [0] rfl)
  · have h := h.2 c1
    refine lv_aload_n hx hb dX9_readCommand_12 rfl (lv_at hl 0 rfl) ?_
    refine w_get (v := .ref (ad G 20 0)) C0 hW 9 0 (by decide) (by decide) rfl rfl in_X9 10 (by decide) w_772 rfl dX9_readCommand_13 ?_
    refine lv_aload_n hx hb dX9_readCommand_16 rfl (lv_at hl 0 rfl) ?_
    refine w_get (v := .int (hv 9 0 13)) C0 hW 9 0 (by decide) (by decide) rfl rfl in_X9 13 (by decide) w_775 rfl dX9_readCommand_17 ?_
    obtain ⟨q33, h⟩ := h
    refine w_iald C0 hW 20 0 (by decide) (by decide) (n := 40) rfl q33 dX9_readCommand_20 ?_
    refine lv_goto (tgt := 25) hx hb dX9_readCommand_21 (by decide) ?_
    refine w_put (v := (hv 20 0 (Int32.toNatClampNeg (hv 9 0 13)))) C0 hW hS 9 0 (by decide) (by decide) rfl rfl in_X9 tyX9_ok nmX9 15 (by decide) w_777 rfl rfl rfl (Nat.le_of_ble_eq_true rfl) rfl dX9_readCommand_25 (fun hv34 ehv34 H locs hW hS => ?_)
    have h := h hv34 ehv34
    exact k_X9_readCommand_28 post C0 hr hv34 h _ _ _ hW hS (lv_sub hl [0] rfl)

def V_X9_check_14 (post : Int32 → HV → Prop) (k_52 : HV → Prop) : Nat → HV → Prop
  | 0, _ => False
  | n14 + 1, hv => (((hv 9 0 14) = 0 → (((hv 9 0 11) ≤ (hv 9 0 13) → k_52 hv) ∧ (¬ ((hv 9 0 11) ≤ (hv 9 0 13)) → (V_X9_sign 59 hv (fun hv6 => (((hv6 9 0 14) = 0 → (V_X9_readCommand hv6 (fun hv8 => V_X9_check_14 post k_52 n14 hv8))) ∧ (¬ ((hv6 9 0 14) = 0) → V_X9_check_14 post k_52 n14 hv6))))))) ∧ (¬ ((hv 9 0 14) = 0) → k_52 hv))
set_option maxHeartbeats 4000000 in
theorem k_X9_check_14 {p : Program} {l : Launch} {e : Env} {s : State} {m : MethodId} {args : Array Value} {below : List Frame} {meth : Method} {c : Code} {G : wG} {A : Nat → Prop} (post : Int32 → HV → Prop) (k_52 : HV → Prop) (C0 : cx p s m args meth c "RamStationModel" cX9_check 1 G) (hr : meth.sig.returnType = (Option.some FieldType.int))  (hk_52 : ∀  (hv : HV),  k_52  hv → ∀ (H : Heap) (locs : List Loc) (ls : Array Slot), wd G A hv H → va_S A s.heap H locs → lv_has ls 1 [(0, .ref (ad G 9 0))] → W p l e (wrm 5) s m args below meth c H locs 0 0 (MQ below (qI G A post) args s 0 0 A) (F0 m 52 ls [])) : ∀ (n : Nat)  (hv : HV), V_X9_check_14 post k_52 n  hv → ∀ (H : Heap) (locs : List Loc) (ls : Array Slot), wd G A hv H → va_S A s.heap H locs → lv_has ls 1 [(0, .ref (ad G 9 0))] → W p l e (wrm 5) s m args below meth c H locs 0 0 (MQ below (qI G A post) args s 0 0 A) (F0 m 14 ls []) := by
  have hx := C0.1
  have hb := C0.2.1
  have hown := C0.2.2.2.1
  have hts := C0.2.2.2.2.1
  intro n
  induction n with
  | zero =>
    intro  hv  h
    exact (h : False).elim
  | succ n ih =>
    intro  hv  h H locs ls hW hS hl
    rw [V_X9_check_14] at h
    refine lv_aload_n hx hb dX9_check_14 rfl (lv_at hl 0 rfl) ?_
    refine w_get (v := .int (hv 9 0 14)) C0 hW 9 0 (by decide) (by decide) rfl rfl in_X9 14 (by decide) w_776 rfl dX9_check_15 ?_
    refine lv_if_ne (tgt := 52) hx hb dX9_check_18 (by decide) (fun c4 => ?_) (fun c4 => ?_)
    · have h := h.2 c4
      exact hk_52 hv h _ _ _ hW hS (lv_sub hl [0] rfl)
    · have h := h.1 c4
      refine lv_aload_n hx hb dX9_check_21 rfl (lv_at hl 0 rfl) ?_
      refine w_get (v := .int (hv 9 0 13)) C0 hW 9 0 (by decide) (by decide) rfl rfl in_X9 13 (by decide) w_775 rfl dX9_check_22 ?_
      refine lv_aload_n hx hb dX9_check_25 rfl (lv_at hl 0 rfl) ?_
      refine w_get (v := .int (hv 9 0 11)) C0 hW 9 0 (by decide) (by decide) rfl rfl in_X9 11 (by decide) w_773 rfl dX9_check_26 ?_
      refine lv_icmp_ge (tgt := 52) hx hb dX9_check_29 (by decide) (fun c5 => ?_) (fun c5 => ?_)
      · have h := h.1 c5
        exact hk_52 hv h _ _ _ hW hS (lv_sub hl [0] rfl)
      · have h := h.2 c5
        refine lv_aload_n hx hb dX9_check_32 rfl (lv_at hl 0 rfl) ?_
        refine lv_bipush (v := 59) hx hb dX9_check_33 (by decide) ?_
        refine w_cv hS (w_runV (As := [.int 59]) C0 hW 9 0 (by decide) (by decide) rfl rfl (c_X9_sign l G A 59 hv _ h) ⟨⟨w_995, w_61, w_998⟩, pl_X9_sign, ⟨Nat.le_of_ble_eq_true rfl, Nat.le_of_ble_eq_true rfl⟩, ⟨Nat.le_refl _, Nat.le_refl _⟩⟩ ⟨w_997, w_39⟩ rfl hl.1 rfl (Nat.le_of_ble_eq_true rfl) dX9_check_35) (fun hv6 h H locs hW hS => ?_)
        refine lv_aload_n hx hb dX9_check_38 rfl (lv_at hl 0 rfl) ?_
        refine w_get (v := .int (hv6 9 0 14)) C0 hW 9 0 (by decide) (by decide) rfl rfl in_X9 14 (by decide) w_776 rfl dX9_check_39 ?_
        refine lv_if_ne (tgt := 14) hx hb dX9_check_42 (by decide) (fun c7 => ?_) (fun c7 => ?_)
        · have h := h.2 c7
          exact ih hv6 h _ _ _ hW hS (lv_sub hl [0] rfl)
        · have h := h.1 c7
          refine lv_aload_n hx hb dX9_check_45 rfl (lv_at hl 0 rfl) ?_
          refine w_cv hS (w_runV (As := []) C0 hW 9 0 (by decide) (by decide) rfl rfl (c_X9_readCommand l G A hv6 _ h) ⟨⟨w_983, w_61, w_986⟩, pl_X9_readCommand, ⟨Nat.le_of_ble_eq_true rfl, Nat.le_of_ble_eq_true rfl⟩, ⟨Nat.le_refl _, Nat.le_refl _⟩⟩ ⟨w_985, w_36⟩ rfl hl.1 rfl (Nat.le_of_ble_eq_true rfl) dX9_check_46) (fun hv8 h H locs hW hS => ?_)
          refine lv_goto (tgt := 14) hx hb dX9_check_49 (by decide) ?_
          exact ih hv8 h _ _ _ hW hS (lv_sub hl [0] rfl)
theorem pl_X9_check : yX9_check.cls ≠ "java/lang/invoke/MethodHandle" ∧ yX9_check.cls ≠ "java/lang/invoke/VarHandle" ∧ (parseMethodDescriptor yX9_check.desc).map (fun d => d.parameters.length) = some 0 := ⟨by decide +kernel, by decide +kernel, by decide +kernel⟩
def V_X9_check  (hv : HV) (post : Int32 → HV → Prop) : Prop := (∀ hv1 : HV, hv1 = up hv 9 0 (upd (hv 9 0) 13 0) → (∀ hv2 : HV, hv2 = up hv1 9 0 (upd (hv1 9 0) 14 0) → (V_X9_readCommand hv2 (fun hv3 => (∃ n14, V_X9_check_14 post (fun hv9 => (((hv9 9 0 14) = 0 → post (-1005) hv9) ∧ (¬ ((hv9 9 0 14) = 0) → post (hv9 9 0 13) hv9))) n14 hv3)))))
set_option maxHeartbeats 4000000 in
theorem c_X9_check (l : Launch) (G : wG) (A : Nat → Prop) (hv : HV) (post : Int32 → HV → Prop) (h : V_X9_check hv post) : wM l yX9_check cX9_check 1 ((Option.some FieldType.int)) 5 G A hv [.ref (ad G 9 0)] (qI G A post) := by
  refine wM_of (by decide +kernel) (Nat.le_of_ble_eq_true rfl) ?_
  intro p e s m args below meth c C0 hr ls hl hW hS
  have hx := C0.1
  have hb := C0.2.1
  have hown := C0.2.2.2.1
  have hts := C0.2.2.2.2.1
  have hl : lv_has ls 1 [(0, .ref (ad G 9 0))] := hl
  unfold V_X9_check at h
  refine lv_aload_n hx hb dX9_check_0 rfl (lv_at hl 0 rfl) ?_
  refine lv_iconst (v := 0) hx hb dX9_check_1 (by decide) ?_
  refine w_put (v := 0) C0 hW hS 9 0 (by decide) (by decide) rfl rfl in_X9 tyX9_ok nmX9 13 (by decide) w_775 rfl rfl rfl (Nat.le_of_ble_eq_true rfl) rfl dX9_check_2 (fun hv1 ehv1 H locs hW hS => ?_)
  have h := h hv1 ehv1
  refine lv_aload_n hx hb dX9_check_5 rfl (lv_at hl 0 rfl) ?_
  refine lv_iconst (v := 0) hx hb dX9_check_6 (by decide) ?_
  refine w_put (v := 0) C0 hW hS 9 0 (by decide) (by decide) rfl rfl in_X9 tyX9_ok nmX9 14 (by decide) w_776 rfl rfl rfl (Nat.le_of_ble_eq_true rfl) rfl dX9_check_7 (fun hv2 ehv2 H locs hW hS => ?_)
  have h := h hv2 ehv2
  refine lv_aload_n hx hb dX9_check_10 rfl (lv_at hl 0 rfl) ?_
  refine w_cv hS (w_runV (As := []) C0 hW 9 0 (by decide) (by decide) rfl rfl (c_X9_readCommand l G A hv2 _ h) ⟨⟨w_983, w_61, w_986⟩, pl_X9_readCommand, ⟨Nat.le_of_ble_eq_true rfl, Nat.le_of_ble_eq_true rfl⟩, ⟨Nat.le_refl _, Nat.le_refl _⟩⟩ ⟨w_985, w_36⟩ rfl hl.1 rfl (Nat.le_of_ble_eq_true rfl) dX9_check_11) (fun hv3 h H locs hW hS => ?_)
  obtain ⟨n11, h⟩ := h
  refine k_X9_check_14 post _ C0 hr (fun hv9 h H locs ls hW hS hl => ?_) n11 hv3 h _ _ _ hW hS (lv_sub hl [0] rfl)
  refine lv_aload_n hx hb dX9_check_52 rfl (lv_at hl 0 rfl) ?_
  refine w_get (v := .int (hv9 9 0 14)) C0 hW 9 0 (by decide) (by decide) rfl rfl in_X9 14 (by decide) w_776 rfl dX9_check_53 ?_
  refine lv_if_eq (tgt := 66) hx hb dX9_check_56 (by decide) (fun c10 => ?_) (fun c10 => ?_)
  · have h := h.1 c10
    refine lv_sipush (v := (-1005)) hx hb dX9_check_66 (by decide) ?_
    exact w_iret C0 hr hW hS h dX9_check_69
  · have h := h.2 c10
    refine lv_aload_n hx hb dX9_check_59 rfl (lv_at hl 0 rfl) ?_
    refine w_get (v := .int (hv9 9 0 13)) C0 hW 9 0 (by decide) (by decide) rfl rfl in_X9 13 (by decide) w_775 rfl dX9_check_60 ?_
    refine lv_goto (tgt := 69) hx hb dX9_check_63 (by decide) ?_
    exact w_iret C0 hr hW hS h dX9_check_69

theorem pl_X9_syntaxError : yX9_syntaxError.cls ≠ "java/lang/invoke/MethodHandle" ∧ yX9_syntaxError.cls ≠ "java/lang/invoke/VarHandle" ∧ (parseMethodDescriptor yX9_syntaxError.desc).map (fun d => d.parameters.length) = some 0 := ⟨by decide +kernel, by decide +kernel, by decide +kernel⟩
def V_X9_syntaxError  (hv : HV) (post : Int32 → HV → Prop) : Prop := (V_X9_check hv (fun r1 hv1 => post r1 hv1))
set_option maxHeartbeats 4000000 in
theorem c_X9_syntaxError (l : Launch) (G : wG) (A : Nat → Prop) (hv : HV) (post : Int32 → HV → Prop) (h : V_X9_syntaxError hv post) : wM l yX9_syntaxError cX9_syntaxError 1 ((Option.some FieldType.int)) 6 G A hv [.ref (ad G 9 0)] (qI G A post) := by
  refine wM_of (by decide +kernel) (Nat.le_of_ble_eq_true rfl) ?_
  intro p e s m args below meth c C0 hr ls hl hW hS
  have hx := C0.1
  have hb := C0.2.1
  have hown := C0.2.2.2.1
  have hts := C0.2.2.2.2.1
  have hl : lv_has ls 1 [(0, .ref (ad G 9 0))] := hl
  unfold V_X9_syntaxError at h
  refine lv_aload_n hx hb dX9_syntaxError_0 rfl (lv_at hl 0 rfl) ?_
  refine w_ci hS (w_runV (As := []) C0 hW 9 0 (by decide) (by decide) rfl rfl (c_X9_check l G A hv _ h) ⟨⟨w_979, w_61, w_982⟩, pl_X9_check, ⟨Nat.le_of_ble_eq_true rfl, Nat.le_of_ble_eq_true rfl⟩, ⟨Nat.le_refl _, Nat.le_refl _⟩⟩ ⟨w_981, w_35⟩ rfl hl.1 rfl (Nat.le_of_ble_eq_true rfl) dX9_syntaxError_1) (fun r1 hv1 h H locs hW hS => ?_)
  exact w_iret C0 hr hW hS h dX9_syntaxError_4

def V_X9_perform_279 (post : Int32 → HV → Prop) (s0 : Int32) (hv : HV) : Prop := ((0 ≤ s0 → post 0 hv) ∧ (¬ (0 ≤ s0) → post s0 hv))
set_option maxHeartbeats 4000000 in
theorem k_X9_perform_279 {p : Program} {l : Launch} {e : Env} {s : State} {m : MethodId} {args : Array Value} {below : List Frame} {meth : Method} {c : Code} {G : wG} {A : Nat → Prop} (post : Int32 → HV → Prop) (C0 : cx p s m args meth c "RamStationModel" cX9_perform 4 G) (hr : meth.sig.returnType = (Option.some FieldType.int))   : ∀ (s0 : Int32) (hv : HV), V_X9_perform_279 post s0 hv → ∀ (H : Heap) (locs : List Loc) (ls : Array Slot), wd G A hv H → va_S A s.heap H locs → lv_has ls 4 [] → W p l e (wrm 5) s m args below meth c H locs 0 0 (MQ below (qI G A post) args s 0 0 A) (F0 m 279 ls [.int s0]) := by
  have hx := C0.1
  have hb := C0.2.1
  have hown := C0.2.2.2.1
  have hts := C0.2.2.2.2.1
  intro s0 hv  h H locs ls hW hS hl
  unfold V_X9_perform_279 at h
  refine lv_istore_n (lv' := [(3, .int s0)]) hx hb dX9_perform_279 rfl hl (by decide) rfl (fun ls hl => ?_)
  refine lv_iload_n hx hb dX9_perform_280 rfl (lv_at hl 0 rfl) ?_
  refine lv_if_ge (tgt := 288) hx hb dX9_perform_281 (by decide) (fun c16 => ?_) (fun c16 => ?_)
  · have h := h.1 c16
    refine lv_iconst (v := 0) hx hb dX9_perform_288 (by decide) ?_
    exact w_iret C0 hr hW hS h dX9_perform_289
  · have h := h.2 c16
    refine lv_iload_n hx hb dX9_perform_284 rfl (lv_at hl 0 rfl) ?_
    refine lv_goto (tgt := 289) hx hb dX9_perform_285 (by decide) ?_
    exact w_iret C0 hr hW hS h dX9_perform_289
def V_X9_perform_159 (post : Int32 → HV → Prop) (v1 : Int32) (s0 : Int32) (hv : HV) : Prop := ((s0 = 0 → (((hv 9 0 15) = 114 → (V_X9_startNow (hv 9 0 16) hv (fun r21 hv21 => (V_X9_perform_279 post r21 hv21)))) ∧ (¬ ((hv 9 0 15) = 114) → (((hv 9 0 15) = 104 → (V_X9_stopNow (hv 9 0 16) hv (fun r20 hv20 => (V_X9_perform_279 post r20 hv20)))) ∧ (¬ ((hv 9 0 15) = 104) → (((hv 9 0 15) = 101 → (V_X9_tankNow (hv 9 0 16) hv (fun r19 hv19 => (V_X9_perform_279 post r19 hv19)))) ∧ (¬ ((hv 9 0 15) = 101) → (((hv 9 0 15) = 115 → (V_X9_valveNow (hv 9 0 16) v1 (hv 9 0 17) hv (fun r18 hv18 => (V_X9_perform_279 post r18 hv18)))) ∧ (¬ ((hv 9 0 15) = 115) → (((hv 9 0 15) = 105 → (V_X9_inflowNow (hv 9 0 17) hv (fun r17 hv17 => (V_X9_perform_279 post r17 hv17)))) ∧ (¬ ((hv 9 0 15) = 105) → (V_X9_passNow (hv 9 0 17) hv (fun r15 hv15 => (V_X9_perform_279 post r15 hv15)))))))))))))) ∧ (¬ (s0 = 0) → post s0 hv))
set_option maxHeartbeats 4000000 in
theorem k_X9_perform_159 {p : Program} {l : Launch} {e : Env} {s : State} {m : MethodId} {args : Array Value} {below : List Frame} {meth : Method} {c : Code} {G : wG} {A : Nat → Prop} (post : Int32 → HV → Prop) (C0 : cx p s m args meth c "RamStationModel" cX9_perform 4 G) (hr : meth.sig.returnType = (Option.some FieldType.int))   : ∀ (v1 : Int32) (s0 : Int32) (hv : HV), V_X9_perform_159 post v1 s0 hv → ∀ (H : Heap) (locs : List Loc) (ls : Array Slot), wd G A hv H → va_S A s.heap H locs → lv_has ls 4 [(0, .ref (ad G 9 0)), (1, .int v1)] → W p l e (wrm 5) s m args below meth c H locs 0 0 (MQ below (qI G A post) args s 0 0 A) (F0 m 159 ls [.int s0]) := by
  have hx := C0.1
  have hb := C0.2.1
  have hown := C0.2.2.2.1
  have hts := C0.2.2.2.2.1
  intro v1 s0 hv  h H locs ls hW hS hl
  unfold V_X9_perform_159 at h
  refine lv_istore_n (lv' := [(2, .int s0), (0, .ref (ad G 9 0)), (1, .int v1)]) hx hb dX9_perform_159 rfl hl (by decide) rfl (fun ls hl => ?_)
  refine lv_iload_n hx hb dX9_perform_160 rfl (lv_at hl 0 rfl) ?_
  refine lv_if_eq (tgt := 166) hx hb dX9_perform_161 (by decide) (fun c9 => ?_) (fun c9 => ?_)
  · have h := h.1 c9
    refine lv_aload_n hx hb dX9_perform_166 rfl (lv_at hl 1 rfl) ?_
    refine w_get (v := .int (hv 9 0 15)) C0 hW 9 0 (by decide) (by decide) rfl rfl in_X9 15 (by decide) w_777 rfl dX9_perform_167 ?_
    refine lv_bipush (v := 114) hx hb dX9_perform_170 (by decide) ?_
    refine lv_icmp_ne (tgt := 186) hx hb dX9_perform_172 (by decide) (fun c10 => ?_) (fun c10 => ?_)
    · have h := h.2 c10
      refine lv_aload_n hx hb dX9_perform_186 rfl (lv_at hl 1 rfl) ?_
      refine w_get (v := .int (hv 9 0 15)) C0 hW 9 0 (by decide) (by decide) rfl rfl in_X9 15 (by decide) w_777 rfl dX9_perform_187 ?_
      refine lv_bipush (v := 104) hx hb dX9_perform_190 (by decide) ?_
      refine lv_icmp_ne (tgt := 206) hx hb dX9_perform_192 (by decide) (fun c11 => ?_) (fun c11 => ?_)
      · have h := h.2 c11
        refine lv_aload_n hx hb dX9_perform_206 rfl (lv_at hl 1 rfl) ?_
        refine w_get (v := .int (hv 9 0 15)) C0 hW 9 0 (by decide) (by decide) rfl rfl in_X9 15 (by decide) w_777 rfl dX9_perform_207 ?_
        refine lv_bipush (v := 101) hx hb dX9_perform_210 (by decide) ?_
        refine lv_icmp_ne (tgt := 226) hx hb dX9_perform_212 (by decide) (fun c12 => ?_) (fun c12 => ?_)
        · have h := h.2 c12
          refine lv_aload_n hx hb dX9_perform_226 rfl (lv_at hl 1 rfl) ?_
          refine w_get (v := .int (hv 9 0 15)) C0 hW 9 0 (by decide) (by decide) rfl rfl in_X9 15 (by decide) w_777 rfl dX9_perform_227 ?_
          refine lv_bipush (v := 115) hx hb dX9_perform_230 (by decide) ?_
          refine lv_icmp_ne (tgt := 251) hx hb dX9_perform_232 (by decide) (fun c13 => ?_) (fun c13 => ?_)
          · have h := h.2 c13
            refine lv_aload_n hx hb dX9_perform_251 rfl (lv_at hl 1 rfl) ?_
            refine w_get (v := .int (hv 9 0 15)) C0 hW 9 0 (by decide) (by decide) rfl rfl in_X9 15 (by decide) w_777 rfl dX9_perform_252 ?_
            refine lv_bipush (v := 105) hx hb dX9_perform_255 (by decide) ?_
            refine lv_icmp_ne (tgt := 271) hx hb dX9_perform_257 (by decide) (fun c14 => ?_) (fun c14 => ?_)
            · have h := h.2 c14
              refine lv_aload_n hx hb dX9_perform_271 rfl (lv_at hl 1 rfl) ?_
              refine lv_aload_n hx hb dX9_perform_272 rfl (lv_at hl 1 rfl) ?_
              refine w_get (v := .int (hv 9 0 17)) C0 hW 9 0 (by decide) (by decide) rfl rfl in_X9 17 (by decide) w_779 rfl dX9_perform_273 ?_
              refine w_ci hS (w_runV (As := [.int (hv 9 0 17)]) C0 hW 9 0 (by decide) (by decide) rfl rfl (c_X9_passNow l G A (hv 9 0 17) hv _ h) ⟨⟨w_918, w_61, w_921⟩, pl_X9_passNow, ⟨Nat.le_of_ble_eq_true rfl, Nat.le_of_ble_eq_true rfl⟩, ⟨Nat.le_refl _, Nat.le_refl _⟩⟩ ⟨w_920, w_23⟩ rfl hl.1 rfl (Nat.le_of_ble_eq_true rfl) dX9_perform_276) (fun r15 hv15 h H locs hW hS => ?_)
              exact k_X9_perform_279 post C0 hr r15 hv15 h _ _ _ hW hS (lv_sub hl [] rfl)
            · have h := h.1 c14
              refine lv_aload_n hx hb dX9_perform_260 rfl (lv_at hl 1 rfl) ?_
              refine lv_aload_n hx hb dX9_perform_261 rfl (lv_at hl 1 rfl) ?_
              refine w_get (v := .int (hv 9 0 17)) C0 hW 9 0 (by decide) (by decide) rfl rfl in_X9 17 (by decide) w_779 rfl dX9_perform_262 ?_
              refine w_ci hS (w_runV (As := [.int (hv 9 0 17)]) C0 hW 9 0 (by decide) (by decide) rfl rfl (c_X9_inflowNow l G A (hv 9 0 17) hv _ h) ⟨⟨w_866, w_61, w_869⟩, pl_X9_inflowNow, ⟨Nat.le_of_ble_eq_true rfl, Nat.le_of_ble_eq_true rfl⟩, ⟨Nat.le_refl _, Nat.le_refl _⟩⟩ ⟨w_868, w_14⟩ rfl hl.1 rfl (Nat.le_of_ble_eq_true rfl) dX9_perform_265) (fun r17 hv17 h H locs hW hS => ?_)
              refine lv_goto (tgt := 279) hx hb dX9_perform_268 (by decide) ?_
              exact k_X9_perform_279 post C0 hr r17 hv17 h _ _ _ hW hS (lv_sub hl [] rfl)
          · have h := h.1 c13
            refine lv_aload_n hx hb dX9_perform_235 rfl (lv_at hl 1 rfl) ?_
            refine lv_aload_n hx hb dX9_perform_236 rfl (lv_at hl 1 rfl) ?_
            refine w_get (v := .int (hv 9 0 16)) C0 hW 9 0 (by decide) (by decide) rfl rfl in_X9 16 (by decide) w_778 rfl dX9_perform_237 ?_
            refine lv_iload_n hx hb dX9_perform_240 rfl (lv_at hl 2 rfl) ?_
            refine lv_aload_n hx hb dX9_perform_241 rfl (lv_at hl 1 rfl) ?_
            refine w_get (v := .int (hv 9 0 17)) C0 hW 9 0 (by decide) (by decide) rfl rfl in_X9 17 (by decide) w_779 rfl dX9_perform_242 ?_
            refine w_ci hS (w_runV (As := [.int (hv 9 0 16), .int v1, .int (hv 9 0 17)]) C0 hW 9 0 (by decide) (by decide) rfl rfl (c_X9_valveNow l G A (hv 9 0 16) v1 (hv 9 0 17) hv _ h) ⟨⟨w_850, w_61, w_853⟩, pl_X9_valveNow, ⟨Nat.le_of_ble_eq_true rfl, Nat.le_of_ble_eq_true rfl⟩, ⟨Nat.le_refl _, Nat.le_refl _⟩⟩ ⟨w_852, w_12⟩ rfl hl.1 rfl (Nat.le_of_ble_eq_true rfl) dX9_perform_245) (fun r18 hv18 h H locs hW hS => ?_)
            refine lv_goto (tgt := 279) hx hb dX9_perform_248 (by decide) ?_
            exact k_X9_perform_279 post C0 hr r18 hv18 h _ _ _ hW hS (lv_sub hl [] rfl)
        · have h := h.1 c12
          refine lv_aload_n hx hb dX9_perform_215 rfl (lv_at hl 1 rfl) ?_
          refine lv_aload_n hx hb dX9_perform_216 rfl (lv_at hl 1 rfl) ?_
          refine w_get (v := .int (hv 9 0 16)) C0 hW 9 0 (by decide) (by decide) rfl rfl in_X9 16 (by decide) w_778 rfl dX9_perform_217 ?_
          refine w_ci hS (w_runV (As := [.int (hv 9 0 16)]) C0 hW 9 0 (by decide) (by decide) rfl rfl (c_X9_tankNow l G A (hv 9 0 16) hv _ h) ⟨⟨w_906, w_61, w_909⟩, pl_X9_tankNow, ⟨Nat.le_of_ble_eq_true rfl, Nat.le_of_ble_eq_true rfl⟩, ⟨Nat.le_refl _, Nat.le_refl _⟩⟩ ⟨w_908, w_21⟩ rfl hl.1 rfl (Nat.le_of_ble_eq_true rfl) dX9_perform_220) (fun r19 hv19 h H locs hW hS => ?_)
          refine lv_goto (tgt := 279) hx hb dX9_perform_223 (by decide) ?_
          exact k_X9_perform_279 post C0 hr r19 hv19 h _ _ _ hW hS (lv_sub hl [] rfl)
      · have h := h.1 c11
        refine lv_aload_n hx hb dX9_perform_195 rfl (lv_at hl 1 rfl) ?_
        refine lv_aload_n hx hb dX9_perform_196 rfl (lv_at hl 1 rfl) ?_
        refine w_get (v := .int (hv 9 0 16)) C0 hW 9 0 (by decide) (by decide) rfl rfl in_X9 16 (by decide) w_778 rfl dX9_perform_197 ?_
        refine w_ci hS (w_runV (As := [.int (hv 9 0 16)]) C0 hW 9 0 (by decide) (by decide) rfl rfl (c_X9_stopNow l G A (hv 9 0 16) hv _ h) ⟨⟨w_890, w_61, w_893⟩, pl_X9_stopNow, ⟨Nat.le_of_ble_eq_true rfl, Nat.le_of_ble_eq_true rfl⟩, ⟨Nat.le_refl _, Nat.le_refl _⟩⟩ ⟨w_892, w_18⟩ rfl hl.1 rfl (Nat.le_of_ble_eq_true rfl) dX9_perform_200) (fun r20 hv20 h H locs hW hS => ?_)
        refine lv_goto (tgt := 279) hx hb dX9_perform_203 (by decide) ?_
        exact k_X9_perform_279 post C0 hr r20 hv20 h _ _ _ hW hS (lv_sub hl [] rfl)
    · have h := h.1 c10
      refine lv_aload_n hx hb dX9_perform_175 rfl (lv_at hl 1 rfl) ?_
      refine lv_aload_n hx hb dX9_perform_176 rfl (lv_at hl 1 rfl) ?_
      refine w_get (v := .int (hv 9 0 16)) C0 hW 9 0 (by decide) (by decide) rfl rfl in_X9 16 (by decide) w_778 rfl dX9_perform_177 ?_
      refine w_ci hS (w_runV (As := [.int (hv 9 0 16)]) C0 hW 9 0 (by decide) (by decide) rfl rfl (c_X9_startNow l G A (hv 9 0 16) hv _ h) ⟨⟨w_878, w_61, w_881⟩, pl_X9_startNow, ⟨Nat.le_of_ble_eq_true rfl, Nat.le_of_ble_eq_true rfl⟩, ⟨Nat.le_refl _, Nat.le_refl _⟩⟩ ⟨w_880, w_16⟩ rfl hl.1 rfl (Nat.le_of_ble_eq_true rfl) dX9_perform_180) (fun r21 hv21 h H locs hW hS => ?_)
      refine lv_goto (tgt := 279) hx hb dX9_perform_183 (by decide) ?_
      exact k_X9_perform_279 post C0 hr r21 hv21 h _ _ _ hW hS (lv_sub hl [] rfl)
  · have h := h.2 c9
    refine lv_iload_n hx hb dX9_perform_164 rfl (lv_at hl 0 rfl) ?_
    exact w_iret C0 hr hW hS h dX9_perform_165
def V_X9_perform_30 (post : Int32 → HV → Prop) (s0 : Int32) (hv : HV) : Prop := (((hv 9 0 15) = 114 → (V_X9_runRefused (hv 9 0 16) 1 hv (fun r27 hv27 => (V_X9_perform_159 post s0 r27 hv27)))) ∧ (¬ ((hv 9 0 15) = 114) → (((hv 9 0 15) = 104 → (V_X9_runRefused (hv 9 0 16) 0 hv (fun r26 hv26 => (V_X9_perform_159 post s0 r26 hv26)))) ∧ (¬ ((hv 9 0 15) = 104) → (((hv 9 0 15) = 101 → (V_X9_tankRefused (hv 9 0 16) hv (fun r25 hv25 => (V_X9_perform_159 post s0 r25 hv25)))) ∧ (¬ ((hv 9 0 15) = 101) → (((hv 9 0 15) = 115 → (V_X9_valveRefused (hv 9 0 16) s0 (hv 9 0 17) hv (fun r24 hv24 => (V_X9_perform_159 post s0 r24 hv24)))) ∧ (¬ ((hv 9 0 15) = 115) → (((hv 9 0 15) = 105 → (V_X9_in (hv 9 0 17) 0 500 hv (fun r22 hv22 => ((r22 = 0 → (V_X9_perform_159 post s0 (-1002) hv22)) ∧ (¬ (r22 = 0) → (V_X9_perform_159 post s0 0 hv22)))))) ∧ (¬ ((hv 9 0 15) = 105) → (V_X9_passRefused (hv 9 0 17) hv (fun r8 hv8 => (V_X9_perform_159 post s0 r8 hv8)))))))))))))
set_option maxHeartbeats 4000000 in
theorem k_X9_perform_30 {p : Program} {l : Launch} {e : Env} {s : State} {m : MethodId} {args : Array Value} {below : List Frame} {meth : Method} {c : Code} {G : wG} {A : Nat → Prop} (post : Int32 → HV → Prop) (C0 : cx p s m args meth c "RamStationModel" cX9_perform 4 G) (hr : meth.sig.returnType = (Option.some FieldType.int))   : ∀ (s0 : Int32) (hv : HV), V_X9_perform_30 post s0 hv → ∀ (H : Heap) (locs : List Loc) (ls : Array Slot), wd G A hv H → va_S A s.heap H locs → lv_has ls 4 [(0, .ref (ad G 9 0))] → W p l e (wrm 5) s m args below meth c H locs 0 0 (MQ below (qI G A post) args s 0 0 A) (F0 m 30 ls [.int s0]) := by
  have hx := C0.1
  have hb := C0.2.1
  have hown := C0.2.2.2.1
  have hts := C0.2.2.2.2.1
  intro s0 hv  h H locs ls hW hS hl
  unfold V_X9_perform_30 at h
  refine lv_istore_n (lv' := [(1, .int s0), (0, .ref (ad G 9 0))]) hx hb dX9_perform_30 rfl hl (by decide) rfl (fun ls hl => ?_)
  refine lv_aload_n hx hb dX9_perform_31 rfl (lv_at hl 1 rfl) ?_
  refine w_get (v := .int (hv 9 0 15)) C0 hW 9 0 (by decide) (by decide) rfl rfl in_X9 15 (by decide) w_777 rfl dX9_perform_32 ?_
  refine lv_bipush (v := 114) hx hb dX9_perform_35 (by decide) ?_
  refine lv_icmp_ne (tgt := 52) hx hb dX9_perform_37 (by decide) (fun c3 => ?_) (fun c3 => ?_)
  · have h := h.2 c3
    refine lv_aload_n hx hb dX9_perform_52 rfl (lv_at hl 1 rfl) ?_
    refine w_get (v := .int (hv 9 0 15)) C0 hW 9 0 (by decide) (by decide) rfl rfl in_X9 15 (by decide) w_777 rfl dX9_perform_53 ?_
    refine lv_bipush (v := 104) hx hb dX9_perform_56 (by decide) ?_
    refine lv_icmp_ne (tgt := 73) hx hb dX9_perform_58 (by decide) (fun c4 => ?_) (fun c4 => ?_)
    · have h := h.2 c4
      refine lv_aload_n hx hb dX9_perform_73 rfl (lv_at hl 1 rfl) ?_
      refine w_get (v := .int (hv 9 0 15)) C0 hW 9 0 (by decide) (by decide) rfl rfl in_X9 15 (by decide) w_777 rfl dX9_perform_74 ?_
      refine lv_bipush (v := 101) hx hb dX9_perform_77 (by decide) ?_
      refine lv_icmp_ne (tgt := 93) hx hb dX9_perform_79 (by decide) (fun c5 => ?_) (fun c5 => ?_)
      · have h := h.2 c5
        refine lv_aload_n hx hb dX9_perform_93 rfl (lv_at hl 1 rfl) ?_
        refine w_get (v := .int (hv 9 0 15)) C0 hW 9 0 (by decide) (by decide) rfl rfl in_X9 15 (by decide) w_777 rfl dX9_perform_94 ?_
        refine lv_bipush (v := 115) hx hb dX9_perform_97 (by decide) ?_
        refine lv_icmp_ne (tgt := 118) hx hb dX9_perform_99 (by decide) (fun c6 => ?_) (fun c6 => ?_)
        · have h := h.2 c6
          refine lv_aload_n hx hb dX9_perform_118 rfl (lv_at hl 1 rfl) ?_
          refine w_get (v := .int (hv 9 0 15)) C0 hW 9 0 (by decide) (by decide) rfl rfl in_X9 15 (by decide) w_777 rfl dX9_perform_119 ?_
          refine lv_bipush (v := 105) hx hb dX9_perform_122 (by decide) ?_
          refine lv_icmp_ne (tgt := 151) hx hb dX9_perform_124 (by decide) (fun c7 => ?_) (fun c7 => ?_)
          · have h := h.2 c7
            refine lv_aload_n hx hb dX9_perform_151 rfl (lv_at hl 1 rfl) ?_
            refine lv_aload_n hx hb dX9_perform_152 rfl (lv_at hl 1 rfl) ?_
            refine w_get (v := .int (hv 9 0 17)) C0 hW 9 0 (by decide) (by decide) rfl rfl in_X9 17 (by decide) w_779 rfl dX9_perform_153 ?_
            refine w_ci hS (w_runV (As := [.int (hv 9 0 17)]) C0 hW 9 0 (by decide) (by decide) rfl rfl (c_X9_passRefused l G A (hv 9 0 17) hv _ h) ⟨⟨w_914, w_61, w_917⟩, pl_X9_passRefused, ⟨Nat.le_of_ble_eq_true rfl, Nat.le_of_ble_eq_true rfl⟩, ⟨Nat.le_refl _, Nat.le_refl _⟩⟩ ⟨w_916, w_22⟩ rfl hl.1 rfl (Nat.le_of_ble_eq_true rfl) dX9_perform_156) (fun r8 hv8 h H locs hW hS => ?_)
            exact k_X9_perform_159 post C0 hr s0 r8 hv8 h _ _ _ hW hS (lv_sub hl [1, 0] rfl)
          · have h := h.1 c7
            refine lv_aload_n hx hb dX9_perform_127 rfl (lv_at hl 1 rfl) ?_
            refine w_get (v := .int (hv 9 0 17)) C0 hW 9 0 (by decide) (by decide) rfl rfl in_X9 17 (by decide) w_779 rfl dX9_perform_128 ?_
            refine lv_iconst (v := 0) hx hb dX9_perform_131 (by decide) ?_
            refine lv_sipush (v := 500) hx hb dX9_perform_132 (by decide) ?_
            refine w_ci hS (w_runS (As := [.int (hv 9 0 17), .int 0, .int 500]) C0 hW (c_X9_in l G A (hv 9 0 17) 0 500 hv _ h) ⟨⟨w_828, w_61, w_830⟩, pl_X9_in, ⟨Nat.le_of_ble_eq_true rfl, Nat.le_of_ble_eq_true rfl⟩, ⟨Nat.le_refl _, Nat.le_refl _⟩⟩ w_829 rfl hl.1 rfl (Nat.le_of_ble_eq_true rfl) dX9_perform_135) (fun r22 hv22 h H locs hW hS => ?_)
            refine lv_if_eq (tgt := 145) hx hb dX9_perform_138 (by decide) (fun c23 => ?_) (fun c23 => ?_)
            · have h := h.1 c23
              refine lv_sipush (v := (-1002)) hx hb dX9_perform_145 (by decide) ?_
              refine lv_goto (tgt := 159) hx hb dX9_perform_148 (by decide) ?_
              exact k_X9_perform_159 post C0 hr s0 (-1002) hv22 h _ _ _ hW hS (lv_sub hl [1, 0] rfl)
            · have h := h.2 c23
              refine lv_iconst (v := 0) hx hb dX9_perform_141 (by decide) ?_
              refine lv_goto (tgt := 159) hx hb dX9_perform_142 (by decide) ?_
              exact k_X9_perform_159 post C0 hr s0 0 hv22 h _ _ _ hW hS (lv_sub hl [1, 0] rfl)
        · have h := h.1 c6
          refine lv_aload_n hx hb dX9_perform_102 rfl (lv_at hl 1 rfl) ?_
          refine lv_aload_n hx hb dX9_perform_103 rfl (lv_at hl 1 rfl) ?_
          refine w_get (v := .int (hv 9 0 16)) C0 hW 9 0 (by decide) (by decide) rfl rfl in_X9 16 (by decide) w_778 rfl dX9_perform_104 ?_
          refine lv_iload_n hx hb dX9_perform_107 rfl (lv_at hl 0 rfl) ?_
          refine lv_aload_n hx hb dX9_perform_108 rfl (lv_at hl 1 rfl) ?_
          refine w_get (v := .int (hv 9 0 17)) C0 hW 9 0 (by decide) (by decide) rfl rfl in_X9 17 (by decide) w_779 rfl dX9_perform_109 ?_
          refine w_ci hS (w_runV (As := [.int (hv 9 0 16), .int s0, .int (hv 9 0 17)]) C0 hW 9 0 (by decide) (by decide) rfl rfl (c_X9_valveRefused l G A (hv 9 0 16) s0 (hv 9 0 17) hv _ h) ⟨⟨w_842, w_61, w_845⟩, pl_X9_valveRefused, ⟨Nat.le_of_ble_eq_true rfl, Nat.le_of_ble_eq_true rfl⟩, ⟨Nat.le_refl _, Nat.le_refl _⟩⟩ ⟨w_844, w_10⟩ rfl hl.1 rfl (Nat.le_of_ble_eq_true rfl) dX9_perform_112) (fun r24 hv24 h H locs hW hS => ?_)
          refine lv_goto (tgt := 159) hx hb dX9_perform_115 (by decide) ?_
          exact k_X9_perform_159 post C0 hr s0 r24 hv24 h _ _ _ hW hS (lv_sub hl [1, 0] rfl)
      · have h := h.1 c5
        refine lv_aload_n hx hb dX9_perform_82 rfl (lv_at hl 1 rfl) ?_
        refine lv_aload_n hx hb dX9_perform_83 rfl (lv_at hl 1 rfl) ?_
        refine w_get (v := .int (hv 9 0 16)) C0 hW 9 0 (by decide) (by decide) rfl rfl in_X9 16 (by decide) w_778 rfl dX9_perform_84 ?_
        refine w_ci hS (w_runV (As := [.int (hv 9 0 16)]) C0 hW 9 0 (by decide) (by decide) rfl rfl (c_X9_tankRefused l G A (hv 9 0 16) hv _ h) ⟨⟨w_902, w_61, w_905⟩, pl_X9_tankRefused, ⟨Nat.le_of_ble_eq_true rfl, Nat.le_of_ble_eq_true rfl⟩, ⟨Nat.le_refl _, Nat.le_refl _⟩⟩ ⟨w_904, w_20⟩ rfl hl.1 rfl (Nat.le_of_ble_eq_true rfl) dX9_perform_87) (fun r25 hv25 h H locs hW hS => ?_)
        refine lv_goto (tgt := 159) hx hb dX9_perform_90 (by decide) ?_
        exact k_X9_perform_159 post C0 hr s0 r25 hv25 h _ _ _ hW hS (lv_sub hl [1, 0] rfl)
    · have h := h.1 c4
      refine lv_aload_n hx hb dX9_perform_61 rfl (lv_at hl 1 rfl) ?_
      refine lv_aload_n hx hb dX9_perform_62 rfl (lv_at hl 1 rfl) ?_
      refine w_get (v := .int (hv 9 0 16)) C0 hW 9 0 (by decide) (by decide) rfl rfl in_X9 16 (by decide) w_778 rfl dX9_perform_63 ?_
      refine lv_iconst (v := 0) hx hb dX9_perform_66 (by decide) ?_
      refine w_ci hS (w_runV (As := [.int (hv 9 0 16), .int 0]) C0 hW 9 0 (by decide) (by decide) rfl rfl (c_X9_runRefused l G A (hv 9 0 16) 0 hv _ h) ⟨⟨w_874, w_61, w_877⟩, pl_X9_runRefused, ⟨Nat.le_of_ble_eq_true rfl, Nat.le_of_ble_eq_true rfl⟩, ⟨Nat.le_refl _, Nat.le_refl _⟩⟩ ⟨w_876, w_15⟩ rfl hl.1 rfl (Nat.le_of_ble_eq_true rfl) dX9_perform_67) (fun r26 hv26 h H locs hW hS => ?_)
      refine lv_goto (tgt := 159) hx hb dX9_perform_70 (by decide) ?_
      exact k_X9_perform_159 post C0 hr s0 r26 hv26 h _ _ _ hW hS (lv_sub hl [1, 0] rfl)
  · have h := h.1 c3
    refine lv_aload_n hx hb dX9_perform_40 rfl (lv_at hl 1 rfl) ?_
    refine lv_aload_n hx hb dX9_perform_41 rfl (lv_at hl 1 rfl) ?_
    refine w_get (v := .int (hv 9 0 16)) C0 hW 9 0 (by decide) (by decide) rfl rfl in_X9 16 (by decide) w_778 rfl dX9_perform_42 ?_
    refine lv_iconst (v := 1) hx hb dX9_perform_45 (by decide) ?_
    refine w_ci hS (w_runV (As := [.int (hv 9 0 16), .int 1]) C0 hW 9 0 (by decide) (by decide) rfl rfl (c_X9_runRefused l G A (hv 9 0 16) 1 hv _ h) ⟨⟨w_874, w_61, w_877⟩, pl_X9_runRefused, ⟨Nat.le_of_ble_eq_true rfl, Nat.le_of_ble_eq_true rfl⟩, ⟨Nat.le_refl _, Nat.le_refl _⟩⟩ ⟨w_876, w_15⟩ rfl hl.1 rfl (Nat.le_of_ble_eq_true rfl) dX9_perform_46) (fun r27 hv27 h H locs hW hS => ?_)
    refine lv_goto (tgt := 159) hx hb dX9_perform_49 (by decide) ?_
    exact k_X9_perform_159 post C0 hr s0 r27 hv27 h _ _ _ hW hS (lv_sub hl [1, 0] rfl)
theorem pl_X9_perform : yX9_perform.cls ≠ "java/lang/invoke/MethodHandle" ∧ yX9_perform.cls ≠ "java/lang/invoke/VarHandle" ∧ (parseMethodDescriptor yX9_perform.desc).map (fun d => d.parameters.length) = some 0 := ⟨by decide +kernel, by decide +kernel, by decide +kernel⟩
def V_X9_perform  (hv : HV) (post : Int32 → HV → Prop) : Prop := (V_X9_isPump (hv 9 0 16) hv (fun r1 hv1 => ((r1 = 0 → (V_X9_perform_30 post 0 hv1)) ∧ (¬ (r1 = 0) → (V_X9_at (hv1 9 0 16) hv1 (fun r28 hv28 => (∃ m28 : Nat, r28 = nI m28 ∧ (m28 + 73 ≤ 370) ∧ (V_X9_perform_30 post (hv28 15 0 (m28 + 9)) hv28))))))))
set_option maxHeartbeats 4000000 in
theorem c_X9_perform (l : Launch) (G : wG) (A : Nat → Prop) (hv : HV) (post : Int32 → HV → Prop) (h : V_X9_perform hv post) : wM l yX9_perform cX9_perform 4 ((Option.some FieldType.int)) 5 G A hv [.ref (ad G 9 0)] (qI G A post) := by
  refine wM_of (by decide +kernel) (Nat.le_of_ble_eq_true rfl) ?_
  intro p e s m args below meth c C0 hr ls hl hW hS
  have hx := C0.1
  have hb := C0.2.1
  have hown := C0.2.2.2.1
  have hts := C0.2.2.2.2.1
  have hl : lv_has ls 4 [(0, .ref (ad G 9 0))] := hl
  unfold V_X9_perform at h
  refine lv_aload_n hx hb dX9_perform_0 rfl (lv_at hl 0 rfl) ?_
  refine lv_aload_n hx hb dX9_perform_1 rfl (lv_at hl 0 rfl) ?_
  refine w_get (v := .int (hv 9 0 16)) C0 hW 9 0 (by decide) (by decide) rfl rfl in_X9 16 (by decide) w_778 rfl dX9_perform_2 ?_
  refine w_ci hS (w_runV (As := [.int (hv 9 0 16)]) C0 hW 9 0 (by decide) (by decide) rfl rfl (c_X9_isPump l G A (hv 9 0 16) hv _ h) ⟨⟨w_846, w_61, w_849⟩, pl_X9_isPump, ⟨Nat.le_of_ble_eq_true rfl, Nat.le_of_ble_eq_true rfl⟩, ⟨Nat.le_refl _, Nat.le_refl _⟩⟩ ⟨w_848, w_11⟩ rfl hl.1 rfl (Nat.le_of_ble_eq_true rfl) dX9_perform_5) (fun r1 hv1 h H locs hW hS => ?_)
  refine lv_if_eq (tgt := 29) hx hb dX9_perform_8 (by decide) (fun c2 => ?_) (fun c2 => ?_)
  · have h := h.1 c2
    refine lv_iconst (v := 0) hx hb dX9_perform_29 (by decide) ?_
    exact k_X9_perform_30 post C0 hr 0 hv1 h _ _ _ hW hS (lv_sub hl [0] rfl)
  · have h := h.2 c2
    refine lv_aload_n hx hb dX9_perform_11 rfl (lv_at hl 0 rfl) ?_
    refine w_get (v := .ref (ad G 15 0)) C0 hW 9 0 (by decide) (by decide) rfl rfl in_X9 0 (by decide) w_762 rfl dX9_perform_12 ?_
    refine lv_aload_n hx hb dX9_perform_15 rfl (lv_at hl 0 rfl) ?_
    refine w_get (v := .int (hv1 9 0 16)) C0 hW 9 0 (by decide) (by decide) rfl rfl in_X9 16 (by decide) w_778 rfl dX9_perform_16 ?_
    refine w_ci hS (w_runS (As := [.int (hv1 9 0 16)]) C0 hW (c_X9_at l G A (hv1 9 0 16) hv1 _ h) ⟨⟨w_835, w_61, w_837⟩, pl_X9_at, ⟨Nat.le_of_ble_eq_true rfl, Nat.le_of_ble_eq_true rfl⟩, ⟨Nat.le_refl _, Nat.le_refl _⟩⟩ w_836 rfl hl.1 rfl (Nat.le_of_ble_eq_true rfl) dX9_perform_19) (fun r28 hv28 h H locs hW hS => ?_)
    obtain ⟨m28, em28, im28, h⟩ := h
    subst em28
    refine lv_bipush (v := 9) hx hb dX9_perform_22 (by decide) ?_
    refine lv_iadd hx hb dX9_perform_24 ?_
    refine w_top (y := nI (m28 + 9)) (nI_add m28 9) ?_
    refine w_ialdN C0 hW 15 0 (by decide) (by decide) (n := 370) rfl (j := (m28 + 9)) rfl (by omega) (by decide) dX9_perform_25 ?_
    refine lv_goto (tgt := 30) hx hb dX9_perform_26 (by decide) ?_
    exact k_X9_perform_30 post C0 hr (hv28 15 0 (m28 + 9)) hv28 h _ _ _ hW hS (lv_sub hl [0] rfl)

def V_X9_execute_34 (post : Int32 → HV → Prop) : Nat → Int32 → HV → Prop
  | 0, _, _ => False
  | n34 + 1, v2, hv => (((hv 9 0 11) ≤ (hv 9 0 13) → post v2 hv) ∧ (¬ ((hv 9 0 11) ≤ (hv 9 0 13)) → ((v2 ≤ 0 → (V_X9_readCommand hv (fun hv8 => (V_X9_perform hv8 (fun r9 hv9 => (∀ hv10 : HV, hv10 = up hv9 9 0 (upd (hv9 9 0) 12 r9) → (((hv10 9 0 12) = 0 → (∀ x12 : Int32, x12 = v2 + 1 → V_X9_execute_34 post n34 x12 hv10)) ∧ (¬ ((hv10 9 0 12) = 0) → post v2 hv10)))))))) ∧ (¬ (v2 ≤ 0) → (V_X9_sign 59 hv (fun hv13 => (V_X9_readCommand hv13 (fun hv14 => (V_X9_perform hv14 (fun r15 hv15 => (∀ hv16 : HV, hv16 = up hv15 9 0 (upd (hv15 9 0) 12 r15) → (((hv16 9 0 12) = 0 → (∀ x18 : Int32, x18 = v2 + 1 → V_X9_execute_34 post n34 x18 hv16)) ∧ (¬ ((hv16 9 0 12) = 0) → post v2 hv16)))))))))))))
set_option maxHeartbeats 4000000 in
theorem k_X9_execute_34 {p : Program} {l : Launch} {e : Env} {s : State} {m : MethodId} {args : Array Value} {below : List Frame} {meth : Method} {c : Code} {G : wG} {A : Nat → Prop} (post : Int32 → HV → Prop) (C0 : cx p s m args meth c "RamStationModel" cX9_execute 3 G) (hr : meth.sig.returnType = (Option.some FieldType.int))   : ∀ (n : Nat) (v2 : Int32) (hv : HV), V_X9_execute_34 post n v2 hv → ∀ (H : Heap) (locs : List Loc) (ls : Array Slot), wd G A hv H → va_S A s.heap H locs → lv_has ls 3 [(0, .ref (ad G 9 0)), (2, .int v2)] → W p l e (wrm 6) s m args below meth c H locs 0 0 (MQ below (qI G A post) args s 0 0 A) (F0 m 34 ls []) := by
  have hx := C0.1
  have hb := C0.2.1
  have hown := C0.2.2.2.1
  have hts := C0.2.2.2.2.1
  intro n
  induction n with
  | zero =>
    intro v2 hv  h
    exact (h : False).elim
  | succ n ih =>
    intro v2 hv  h H locs ls hW hS hl
    rw [V_X9_execute_34] at h
    refine lv_aload_n hx hb dX9_execute_34 rfl (lv_at hl 0 rfl) ?_
    refine w_get (v := .int (hv 9 0 13)) C0 hW 9 0 (by decide) (by decide) rfl rfl in_X9 13 (by decide) w_775 rfl dX9_execute_35 ?_
    refine lv_aload_n hx hb dX9_execute_38 rfl (lv_at hl 0 rfl) ?_
    refine w_get (v := .int (hv 9 0 11)) C0 hW 9 0 (by decide) (by decide) rfl rfl in_X9 11 (by decide) w_773 rfl dX9_execute_39 ?_
    refine lv_icmp_ge (tgt := 82) hx hb dX9_execute_42 (by decide) (fun c6 => ?_) (fun c6 => ?_)
    · have h := h.1 c6
      refine lv_iload_n hx hb dX9_execute_82 rfl (lv_at hl 1 rfl) ?_
      exact w_iret C0 hr hW hS h dX9_execute_83
    · have h := h.2 c6
      refine lv_iload_n hx hb dX9_execute_45 rfl (lv_at hl 1 rfl) ?_
      refine lv_if_le (tgt := 55) hx hb dX9_execute_46 (by decide) (fun c7 => ?_) (fun c7 => ?_)
      · have h := h.1 c7
        refine lv_aload_n hx hb dX9_execute_55 rfl (lv_at hl 0 rfl) ?_
        refine w_cv hS (w_runV (As := []) C0 hW 9 0 (by decide) (by decide) rfl rfl (c_X9_readCommand l G A hv _ h) ⟨⟨w_983, w_61, w_986⟩, pl_X9_readCommand, ⟨Nat.le_of_ble_eq_true rfl, Nat.le_of_ble_eq_true rfl⟩, ⟨Nat.le_refl _, Nat.le_refl _⟩⟩ ⟨w_985, w_36⟩ rfl hl.1 rfl (Nat.le_of_ble_eq_true rfl) dX9_execute_56) (fun hv8 h H locs hW hS => ?_)
        refine lv_aload_n hx hb dX9_execute_59 rfl (lv_at hl 0 rfl) ?_
        refine lv_aload_n hx hb dX9_execute_60 rfl (lv_at hl 0 rfl) ?_
        refine w_ci hS (w_runV (As := []) C0 hW 9 0 (by decide) (by decide) rfl rfl (c_X9_perform l G A hv8 _ h) ⟨⟨w_1007, w_61, w_1010⟩, pl_X9_perform, ⟨Nat.le_of_ble_eq_true rfl, Nat.le_of_ble_eq_true rfl⟩, ⟨Nat.le_refl _, Nat.le_refl _⟩⟩ ⟨w_1009, w_41⟩ rfl hl.1 rfl (Nat.le_of_ble_eq_true rfl) dX9_execute_61) (fun r9 hv9 h H locs hW hS => ?_)
        refine w_put (v := r9) C0 hW hS 9 0 (by decide) (by decide) rfl rfl in_X9 tyX9_ok nmX9 12 (by decide) w_774 rfl rfl rfl (Nat.le_of_ble_eq_true rfl) rfl dX9_execute_64 (fun hv10 ehv10 H locs hW hS => ?_)
        have h := h hv10 ehv10
        refine lv_aload_n hx hb dX9_execute_67 rfl (lv_at hl 0 rfl) ?_
        refine w_get (v := .int (hv10 9 0 12)) C0 hW 9 0 (by decide) (by decide) rfl rfl in_X9 12 (by decide) w_774 rfl dX9_execute_68 ?_
        refine lv_if_eq (tgt := 76) hx hb dX9_execute_71 (by decide) (fun c11 => ?_) (fun c11 => ?_)
        · have h := h.1 c11
          obtain ⟨x12, ex12⟩ : ∃ y : Int32, y = v2 + 1 := ⟨_, rfl⟩
          have h := h x12 ex12
          refine lv_iinc (v := x12) (lv' := [(2, .int x12), (0, .ref (ad G 9 0))]) hx hb dX9_execute_76 hl (k := 1) rfl (by rw [ex12]; rfl) (by decide) rfl (fun ls hl => ?_)
          refine lv_goto (tgt := 34) hx hb dX9_execute_79 (by decide) ?_
          exact ih x12 hv10 h _ _ _ hW hS (lv_sub hl [1, 0] rfl)
        · have h := h.2 c11
          refine lv_iload_n hx hb dX9_execute_74 rfl (lv_at hl 1 rfl) ?_
          exact w_iret C0 hr hW hS h dX9_execute_75
      · have h := h.2 c7
        refine lv_aload_n hx hb dX9_execute_49 rfl (lv_at hl 0 rfl) ?_
        refine lv_bipush (v := 59) hx hb dX9_execute_50 (by decide) ?_
        refine w_cv hS (w_runV (As := [.int 59]) C0 hW 9 0 (by decide) (by decide) rfl rfl (c_X9_sign l G A 59 hv _ h) ⟨⟨w_995, w_61, w_998⟩, pl_X9_sign, ⟨Nat.le_of_ble_eq_true rfl, Nat.le_of_ble_eq_true rfl⟩, ⟨Nat.le_refl _, Nat.le_refl _⟩⟩ ⟨w_997, w_39⟩ rfl hl.1 rfl (Nat.le_of_ble_eq_true rfl) dX9_execute_52) (fun hv13 h H locs hW hS => ?_)
        refine lv_aload_n hx hb dX9_execute_55 rfl (lv_at hl 0 rfl) ?_
        refine w_cv hS (w_runV (As := []) C0 hW 9 0 (by decide) (by decide) rfl rfl (c_X9_readCommand l G A hv13 _ h) ⟨⟨w_983, w_61, w_986⟩, pl_X9_readCommand, ⟨Nat.le_of_ble_eq_true rfl, Nat.le_of_ble_eq_true rfl⟩, ⟨Nat.le_refl _, Nat.le_refl _⟩⟩ ⟨w_985, w_36⟩ rfl hl.1 rfl (Nat.le_of_ble_eq_true rfl) dX9_execute_56) (fun hv14 h H locs hW hS => ?_)
        refine lv_aload_n hx hb dX9_execute_59 rfl (lv_at hl 0 rfl) ?_
        refine lv_aload_n hx hb dX9_execute_60 rfl (lv_at hl 0 rfl) ?_
        refine w_ci hS (w_runV (As := []) C0 hW 9 0 (by decide) (by decide) rfl rfl (c_X9_perform l G A hv14 _ h) ⟨⟨w_1007, w_61, w_1010⟩, pl_X9_perform, ⟨Nat.le_of_ble_eq_true rfl, Nat.le_of_ble_eq_true rfl⟩, ⟨Nat.le_refl _, Nat.le_refl _⟩⟩ ⟨w_1009, w_41⟩ rfl hl.1 rfl (Nat.le_of_ble_eq_true rfl) dX9_execute_61) (fun r15 hv15 h H locs hW hS => ?_)
        refine w_put (v := r15) C0 hW hS 9 0 (by decide) (by decide) rfl rfl in_X9 tyX9_ok nmX9 12 (by decide) w_774 rfl rfl rfl (Nat.le_of_ble_eq_true rfl) rfl dX9_execute_64 (fun hv16 ehv16 H locs hW hS => ?_)
        have h := h hv16 ehv16
        refine lv_aload_n hx hb dX9_execute_67 rfl (lv_at hl 0 rfl) ?_
        refine w_get (v := .int (hv16 9 0 12)) C0 hW 9 0 (by decide) (by decide) rfl rfl in_X9 12 (by decide) w_774 rfl dX9_execute_68 ?_
        refine lv_if_eq (tgt := 76) hx hb dX9_execute_71 (by decide) (fun c17 => ?_) (fun c17 => ?_)
        · have h := h.1 c17
          obtain ⟨x18, ex18⟩ : ∃ y : Int32, y = v2 + 1 := ⟨_, rfl⟩
          have h := h x18 ex18
          refine lv_iinc (v := x18) (lv' := [(2, .int x18), (0, .ref (ad G 9 0))]) hx hb dX9_execute_76 hl (k := 1) rfl (by rw [ex18]; rfl) (by decide) rfl (fun ls hl => ?_)
          refine lv_goto (tgt := 34) hx hb dX9_execute_79 (by decide) ?_
          exact ih x18 hv16 h _ _ _ hW hS (lv_sub hl [1, 0] rfl)
        · have h := h.2 c17
          refine lv_iload_n hx hb dX9_execute_74 rfl (lv_at hl 1 rfl) ?_
          exact w_iret C0 hr hW hS h dX9_execute_75
theorem pl_X9_execute : yX9_execute.cls ≠ "java/lang/invoke/MethodHandle" ∧ yX9_execute.cls ≠ "java/lang/invoke/VarHandle" ∧ (parseMethodDescriptor yX9_execute.desc).map (fun d => d.parameters.length) = some 0 := ⟨by decide +kernel, by decide +kernel, by decide +kernel⟩
def V_X9_execute  (hv : HV) (post : Int32 → HV → Prop) : Prop := (V_X9_check hv (fun r1 hv1 => ((r1 = (-1005) → (V_X9_record hv1 (fun hv3 => (∀ hv4 : HV, hv4 = up hv3 9 0 (upd (hv3 9 0) 13 0) → (∀ hv5 : HV, hv5 = up hv4 9 0 (upd (hv4 9 0) 12 0) → (∃ n34, V_X9_execute_34 post n34 0 hv5)))))) ∧ (¬ (r1 = (-1005)) → post ((-2000) - r1) hv1))))
set_option maxHeartbeats 4000000 in
theorem c_X9_execute (l : Launch) (G : wG) (A : Nat → Prop) (hv : HV) (post : Int32 → HV → Prop) (h : V_X9_execute hv post) : wM l yX9_execute cX9_execute 3 ((Option.some FieldType.int)) 6 G A hv [.ref (ad G 9 0)] (qI G A post) := by
  refine wM_of (by decide +kernel) (Nat.le_of_ble_eq_true rfl) ?_
  intro p e s m args below meth c C0 hr ls hl hW hS
  have hx := C0.1
  have hb := C0.2.1
  have hown := C0.2.2.2.1
  have hts := C0.2.2.2.2.1
  have hl : lv_has ls 3 [(0, .ref (ad G 9 0))] := hl
  unfold V_X9_execute at h
  refine lv_aload_n hx hb dX9_execute_0 rfl (lv_at hl 0 rfl) ?_
  refine w_ci hS (w_runV (As := []) C0 hW 9 0 (by decide) (by decide) rfl rfl (c_X9_check l G A hv _ h) ⟨⟨w_979, w_61, w_982⟩, pl_X9_check, ⟨Nat.le_of_ble_eq_true rfl, Nat.le_of_ble_eq_true rfl⟩, ⟨Nat.le_refl _, Nat.le_refl _⟩⟩ ⟨w_981, w_35⟩ rfl hl.1 rfl (Nat.le_of_ble_eq_true rfl) dX9_execute_1) (fun r1 hv1 h H locs hW hS => ?_)
  refine lv_istore_n (lv' := [(1, .int r1), (0, .ref (ad G 9 0))]) hx hb dX9_execute_4 rfl hl (by decide) rfl (fun ls hl => ?_)
  refine lv_iload_n hx hb dX9_execute_5 rfl (lv_at hl 0 rfl) ?_
  refine lv_sipush (v := (-1005)) hx hb dX9_execute_6 (by decide) ?_
  refine lv_icmp_eq (tgt := 18) hx hb dX9_execute_9 (by decide) (fun c2 => ?_) (fun c2 => ?_)
  · have h := h.1 c2
    refine lv_aload_n hx hb dX9_execute_18 rfl (lv_at hl 1 rfl) ?_
    refine w_cv hS (w_runV (As := []) C0 hW 9 0 (by decide) (by decide) rfl rfl (c_X9_record l G A hv1 _ h) ⟨⟨w_831, w_61, w_834⟩, pl_X9_record, ⟨Nat.le_of_ble_eq_true rfl, Nat.le_of_ble_eq_true rfl⟩, ⟨Nat.le_refl _, Nat.le_refl _⟩⟩ ⟨w_833, w_9⟩ rfl hl.1 rfl (Nat.le_of_ble_eq_true rfl) dX9_execute_19) (fun hv3 h H locs hW hS => ?_)
    refine lv_aload_n hx hb dX9_execute_22 rfl (lv_at hl 1 rfl) ?_
    refine lv_iconst (v := 0) hx hb dX9_execute_23 (by decide) ?_
    refine w_put (v := 0) C0 hW hS 9 0 (by decide) (by decide) rfl rfl in_X9 tyX9_ok nmX9 13 (by decide) w_775 rfl rfl rfl (Nat.le_of_ble_eq_true rfl) rfl dX9_execute_24 (fun hv4 ehv4 H locs hW hS => ?_)
    have h := h hv4 ehv4
    refine lv_aload_n hx hb dX9_execute_27 rfl (lv_at hl 1 rfl) ?_
    refine lv_iconst (v := 0) hx hb dX9_execute_28 (by decide) ?_
    refine w_put (v := 0) C0 hW hS 9 0 (by decide) (by decide) rfl rfl in_X9 tyX9_ok nmX9 12 (by decide) w_774 rfl rfl rfl (Nat.le_of_ble_eq_true rfl) rfl dX9_execute_29 (fun hv5 ehv5 H locs hW hS => ?_)
    have h := h hv5 ehv5
    refine lv_iconst (v := 0) hx hb dX9_execute_32 (by decide) ?_
    refine lv_istore_n (lv' := [(2, .int 0), (1, .int r1), (0, .ref (ad G 9 0))]) hx hb dX9_execute_33 rfl hl (by decide) rfl (fun ls hl => ?_)
    obtain ⟨n19, h⟩ := h
    exact k_X9_execute_34 post C0 hr n19 0 hv5 h _ _ _ hW hS (lv_sub hl [2, 0] rfl)
  · have h := h.2 c2
    refine lv_sipush (v := (-2000)) hx hb dX9_execute_12 (by decide) ?_
    refine lv_iload_n hx hb dX9_execute_15 rfl (lv_at hl 0 rfl) ?_
    refine lv_isub hx hb dX9_execute_16 ?_
    exact w_iret C0 hr hW hS h dX9_execute_17

theorem pl_X9_failure : yX9_failure.cls ≠ "java/lang/invoke/MethodHandle" ∧ yX9_failure.cls ≠ "java/lang/invoke/VarHandle" ∧ (parseMethodDescriptor yX9_failure.desc).map (fun d => d.parameters.length) = some 0 := ⟨by decide +kernel, by decide +kernel, by decide +kernel⟩
def V_X9_failure  (hv : HV) (post : Int32 → HV → Prop) : Prop := post (hv 9 0 12) hv
set_option maxHeartbeats 4000000 in
theorem c_X9_failure (l : Launch) (G : wG) (A : Nat → Prop) (hv : HV) (post : Int32 → HV → Prop) (h : V_X9_failure hv post) : wM l yX9_failure cX9_failure 1 ((Option.some FieldType.int)) 0 G A hv [.ref (ad G 9 0)] (qI G A post) := by
  refine wM_of (by decide +kernel) (Nat.le_of_ble_eq_true rfl) ?_
  intro p e s m args below meth c C0 hr ls hl hW hS
  have hx := C0.1
  have hb := C0.2.1
  have hown := C0.2.2.2.1
  have hts := C0.2.2.2.2.1
  have hl : lv_has ls 1 [(0, .ref (ad G 9 0))] := hl
  unfold V_X9_failure at h
  refine lv_aload_n hx hb dX9_failure_0 rfl (lv_at hl 0 rfl) ?_
  refine w_get (v := .int (hv 9 0 12)) C0 hW 9 0 (by decide) (by decide) rfl rfl in_X9 12 (by decide) w_774 rfl dX9_failure_1 ?_
  exact w_iret C0 hr hW hS h dX9_failure_4

theorem pl_X9_time : yX9_time.cls ≠ "java/lang/invoke/MethodHandle" ∧ yX9_time.cls ≠ "java/lang/invoke/VarHandle" ∧ (parseMethodDescriptor yX9_time.desc).map (fun d => d.parameters.length) = some 0 := ⟨by decide +kernel, by decide +kernel, by decide +kernel⟩
def V_X9_time  (hv : HV) (post : Int32 → HV → Prop) : Prop := post (hv 15 0 2) hv
set_option maxHeartbeats 4000000 in
theorem c_X9_time (l : Launch) (G : wG) (A : Nat → Prop) (hv : HV) (post : Int32 → HV → Prop) (h : V_X9_time hv post) : wM l yX9_time cX9_time 1 ((Option.some FieldType.int)) 0 G A hv [.ref (ad G 9 0)] (qI G A post) := by
  refine wM_of (by decide +kernel) (Nat.le_of_ble_eq_true rfl) ?_
  intro p e s m args below meth c C0 hr ls hl hW hS
  have hx := C0.1
  have hb := C0.2.1
  have hown := C0.2.2.2.1
  have hts := C0.2.2.2.2.1
  have hl : lv_has ls 1 [(0, .ref (ad G 9 0))] := hl
  unfold V_X9_time at h
  refine lv_aload_n hx hb dX9_time_0 rfl (lv_at hl 0 rfl) ?_
  refine w_get (v := .ref (ad G 15 0)) C0 hW 9 0 (by decide) (by decide) rfl rfl in_X9 0 (by decide) w_762 rfl dX9_time_1 ?_
  refine lv_iconst (v := 2) hx hb dX9_time_4 (by decide) ?_
  refine w_ialdN C0 hW 15 0 (by decide) (by decide) (n := 370) rfl (j := 2) rfl (by omega) (by decide) dX9_time_5 ?_
  exact w_iret C0 hr hW hS h dX9_time_6

theorem pl_X9_basin : yX9_basin.cls ≠ "java/lang/invoke/MethodHandle" ∧ yX9_basin.cls ≠ "java/lang/invoke/VarHandle" ∧ (parseMethodDescriptor yX9_basin.desc).map (fun d => d.parameters.length) = some 0 := ⟨by decide +kernel, by decide +kernel, by decide +kernel⟩
def V_X9_basin  (hv : HV) (post : Int32 → HV → Prop) : Prop := post (hv 15 0 0) hv
set_option maxHeartbeats 4000000 in
theorem c_X9_basin (l : Launch) (G : wG) (A : Nat → Prop) (hv : HV) (post : Int32 → HV → Prop) (h : V_X9_basin hv post) : wM l yX9_basin cX9_basin 1 ((Option.some FieldType.int)) 0 G A hv [.ref (ad G 9 0)] (qI G A post) := by
  refine wM_of (by decide +kernel) (Nat.le_of_ble_eq_true rfl) ?_
  intro p e s m args below meth c C0 hr ls hl hW hS
  have hx := C0.1
  have hb := C0.2.1
  have hown := C0.2.2.2.1
  have hts := C0.2.2.2.2.1
  have hl : lv_has ls 1 [(0, .ref (ad G 9 0))] := hl
  unfold V_X9_basin at h
  refine lv_aload_n hx hb dX9_basin_0 rfl (lv_at hl 0 rfl) ?_
  refine w_get (v := .ref (ad G 15 0)) C0 hW 9 0 (by decide) (by decide) rfl rfl in_X9 0 (by decide) w_762 rfl dX9_basin_1 ?_
  refine lv_iconst (v := 0) hx hb dX9_basin_4 (by decide) ?_
  refine w_ialdN C0 hW 15 0 (by decide) (by decide) (n := 370) rfl (j := 0) rfl (by omega) (by decide) dX9_basin_5 ?_
  exact w_iret C0 hr hW hS h dX9_basin_6

theorem pl_X9_spilled : yX9_spilled.cls ≠ "java/lang/invoke/MethodHandle" ∧ yX9_spilled.cls ≠ "java/lang/invoke/VarHandle" ∧ (parseMethodDescriptor yX9_spilled.desc).map (fun d => d.parameters.length) = some 0 := ⟨by decide +kernel, by decide +kernel, by decide +kernel⟩
def V_X9_spilled  (hv : HV) (post : Int32 → HV → Prop) : Prop := post (hv 15 0 3) hv
set_option maxHeartbeats 4000000 in
theorem c_X9_spilled (l : Launch) (G : wG) (A : Nat → Prop) (hv : HV) (post : Int32 → HV → Prop) (h : V_X9_spilled hv post) : wM l yX9_spilled cX9_spilled 1 ((Option.some FieldType.int)) 0 G A hv [.ref (ad G 9 0)] (qI G A post) := by
  refine wM_of (by decide +kernel) (Nat.le_of_ble_eq_true rfl) ?_
  intro p e s m args below meth c C0 hr ls hl hW hS
  have hx := C0.1
  have hb := C0.2.1
  have hown := C0.2.2.2.1
  have hts := C0.2.2.2.2.1
  have hl : lv_has ls 1 [(0, .ref (ad G 9 0))] := hl
  unfold V_X9_spilled at h
  refine lv_aload_n hx hb dX9_spilled_0 rfl (lv_at hl 0 rfl) ?_
  refine w_get (v := .ref (ad G 15 0)) C0 hW 9 0 (by decide) (by decide) rfl rfl in_X9 0 (by decide) w_762 rfl dX9_spilled_1 ?_
  refine lv_iconst (v := 3) hx hb dX9_spilled_4 (by decide) ?_
  refine w_ialdN C0 hW 15 0 (by decide) (by decide) (n := 370) rfl (j := 3) rfl (by omega) (by decide) dX9_spilled_5 ?_
  exact w_iret C0 hr hW hS h dX9_spilled_6

theorem pl_X9_pumps : yX9_pumps.cls ≠ "java/lang/invoke/MethodHandle" ∧ yX9_pumps.cls ≠ "java/lang/invoke/VarHandle" ∧ (parseMethodDescriptor yX9_pumps.desc).map (fun d => d.parameters.length) = some 0 := ⟨by decide +kernel, by decide +kernel, by decide +kernel⟩
def V_X9_pumps  (hv : HV) (post : Int32 → HV → Prop) : Prop := post (hv 15 0 4) hv
set_option maxHeartbeats 4000000 in
theorem c_X9_pumps (l : Launch) (G : wG) (A : Nat → Prop) (hv : HV) (post : Int32 → HV → Prop) (h : V_X9_pumps hv post) : wM l yX9_pumps cX9_pumps 1 ((Option.some FieldType.int)) 0 G A hv [.ref (ad G 9 0)] (qI G A post) := by
  refine wM_of (by decide +kernel) (Nat.le_of_ble_eq_true rfl) ?_
  intro p e s m args below meth c C0 hr ls hl hW hS
  have hx := C0.1
  have hb := C0.2.1
  have hown := C0.2.2.2.1
  have hts := C0.2.2.2.2.1
  have hl : lv_has ls 1 [(0, .ref (ad G 9 0))] := hl
  unfold V_X9_pumps at h
  refine lv_aload_n hx hb dX9_pumps_0 rfl (lv_at hl 0 rfl) ?_
  refine w_get (v := .ref (ad G 15 0)) C0 hW 9 0 (by decide) (by decide) rfl rfl in_X9 0 (by decide) w_762 rfl dX9_pumps_1 ?_
  refine lv_iconst (v := 4) hx hb dX9_pumps_4 (by decide) ?_
  refine w_ialdN C0 hW 15 0 (by decide) (by decide) (n := 370) rfl (j := 4) rfl (by omega) (by decide) dX9_pumps_5 ?_
  exact w_iret C0 hr hW hS h dX9_pumps_6

theorem pl_X9_incidents : yX9_incidents.cls ≠ "java/lang/invoke/MethodHandle" ∧ yX9_incidents.cls ≠ "java/lang/invoke/VarHandle" ∧ (parseMethodDescriptor yX9_incidents.desc).map (fun d => d.parameters.length) = some 0 := ⟨by decide +kernel, by decide +kernel, by decide +kernel⟩
def V_X9_incidents  (hv : HV) (post : Int32 → HV → Prop) : Prop := post (hv 9 0 6) hv
set_option maxHeartbeats 4000000 in
theorem c_X9_incidents (l : Launch) (G : wG) (A : Nat → Prop) (hv : HV) (post : Int32 → HV → Prop) (h : V_X9_incidents hv post) : wM l yX9_incidents cX9_incidents 1 ((Option.some FieldType.int)) 0 G A hv [.ref (ad G 9 0)] (qI G A post) := by
  refine wM_of (by decide +kernel) (Nat.le_of_ble_eq_true rfl) ?_
  intro p e s m args below meth c C0 hr ls hl hW hS
  have hx := C0.1
  have hb := C0.2.1
  have hown := C0.2.2.2.1
  have hts := C0.2.2.2.2.1
  have hl : lv_has ls 1 [(0, .ref (ad G 9 0))] := hl
  unfold V_X9_incidents at h
  refine lv_aload_n hx hb dX9_incidents_0 rfl (lv_at hl 0 rfl) ?_
  refine w_get (v := .int (hv 9 0 6)) C0 hW 9 0 (by decide) (by decide) rfl rfl in_X9 6 (by decide) w_768 rfl dX9_incidents_1 ?_
  exact w_iret C0 hr hW hS h dX9_incidents_4

theorem pl_X9_incidentKind : yX9_incidentKind.cls ≠ "java/lang/invoke/MethodHandle" ∧ yX9_incidentKind.cls ≠ "java/lang/invoke/VarHandle" ∧ (parseMethodDescriptor yX9_incidentKind.desc).map (fun d => d.parameters.length) = some 1 := ⟨by decide +kernel, by decide +kernel, by decide +kernel⟩
def V_X9_incidentKind (a1 : Int32) (hv : HV) (post : Int32 → HV → Prop) : Prop := (V_X9_place a1 hv (fun r1 hv1 => ((0 ≤ r1 → (vp_in r1 20 ∧ post (hv1 17 0 (Int32.toNatClampNeg r1)) hv1)) ∧ (¬ (0 ≤ r1) → post r1 hv1))))
set_option maxHeartbeats 4000000 in
theorem c_X9_incidentKind (l : Launch) (G : wG) (A : Nat → Prop) (a1 : Int32) (hv : HV) (post : Int32 → HV → Prop) (h : V_X9_incidentKind a1 hv post) : wM l yX9_incidentKind cX9_incidentKind 3 ((Option.some FieldType.int)) 1 G A hv [.ref (ad G 9 0), .int a1] (qI G A post) := by
  refine wM_of (by decide +kernel) (Nat.le_of_ble_eq_true rfl) ?_
  intro p e s m args below meth c C0 hr ls hl hW hS
  have hx := C0.1
  have hb := C0.2.1
  have hown := C0.2.2.2.1
  have hts := C0.2.2.2.2.1
  have hl : lv_has ls 3 [(0, .ref (ad G 9 0)), (1, .int a1)] := hl
  unfold V_X9_incidentKind at h
  refine lv_aload_n hx hb dX9_incidentKind_0 rfl (lv_at hl 0 rfl) ?_
  refine lv_iload_n hx hb dX9_incidentKind_1 rfl (lv_at hl 1 rfl) ?_
  refine w_ci hS (w_runV (As := [.int a1]) C0 hW 9 0 (by decide) (by decide) rfl rfl (c_X9_place l G A a1 hv _ h) ⟨⟨w_1039, w_61, w_1042⟩, pl_X9_place, ⟨Nat.le_of_ble_eq_true rfl, Nat.le_of_ble_eq_true rfl⟩, ⟨Nat.le_refl _, Nat.le_refl _⟩⟩ ⟨w_1041, w_42⟩ rfl hl.1 rfl (Nat.le_of_ble_eq_true rfl) dX9_incidentKind_2) (fun r1 hv1 h H locs hW hS => ?_)
  refine lv_istore_n (lv' := [(2, .int r1), (0, .ref (ad G 9 0)), (1, .int a1)]) hx hb dX9_incidentKind_5 rfl hl (by decide) rfl (fun ls hl => ?_)
  refine lv_iload_n hx hb dX9_incidentKind_6 rfl (lv_at hl 0 rfl) ?_
  refine lv_if_ge (tgt := 14) hx hb dX9_incidentKind_7 (by decide) (fun c2 => ?_) (fun c2 => ?_)
  · have h := h.1 c2
    refine lv_aload_n hx hb dX9_incidentKind_14 rfl (lv_at hl 1 rfl) ?_
    refine w_get (v := .ref (ad G 17 0)) C0 hW 9 0 (by decide) (by decide) rfl rfl in_X9 3 (by decide) w_765 rfl dX9_incidentKind_15 ?_
    refine lv_iload_n hx hb dX9_incidentKind_18 rfl (lv_at hl 0 rfl) ?_
    obtain ⟨q3, h⟩ := h
    refine w_iald C0 hW 17 0 (by decide) (by decide) (n := 20) rfl q3 dX9_incidentKind_19 ?_
    exact w_iret C0 hr hW hS h dX9_incidentKind_20
  · have h := h.2 c2
    refine lv_iload_n hx hb dX9_incidentKind_10 rfl (lv_at hl 0 rfl) ?_
    refine lv_goto (tgt := 20) hx hb dX9_incidentKind_11 (by decide) ?_
    exact w_iret C0 hr hW hS h dX9_incidentKind_20

theorem pl_X9_incidentPump : yX9_incidentPump.cls ≠ "java/lang/invoke/MethodHandle" ∧ yX9_incidentPump.cls ≠ "java/lang/invoke/VarHandle" ∧ (parseMethodDescriptor yX9_incidentPump.desc).map (fun d => d.parameters.length) = some 1 := ⟨by decide +kernel, by decide +kernel, by decide +kernel⟩
def V_X9_incidentPump (a1 : Int32) (hv : HV) (post : Int32 → HV → Prop) : Prop := (V_X9_place a1 hv (fun r1 hv1 => ((0 ≤ r1 → (vp_in r1 20 ∧ post (hv1 18 0 (Int32.toNatClampNeg r1)) hv1)) ∧ (¬ (0 ≤ r1) → post r1 hv1))))
set_option maxHeartbeats 4000000 in
theorem c_X9_incidentPump (l : Launch) (G : wG) (A : Nat → Prop) (a1 : Int32) (hv : HV) (post : Int32 → HV → Prop) (h : V_X9_incidentPump a1 hv post) : wM l yX9_incidentPump cX9_incidentPump 3 ((Option.some FieldType.int)) 1 G A hv [.ref (ad G 9 0), .int a1] (qI G A post) := by
  refine wM_of (by decide +kernel) (Nat.le_of_ble_eq_true rfl) ?_
  intro p e s m args below meth c C0 hr ls hl hW hS
  have hx := C0.1
  have hb := C0.2.1
  have hown := C0.2.2.2.1
  have hts := C0.2.2.2.2.1
  have hl : lv_has ls 3 [(0, .ref (ad G 9 0)), (1, .int a1)] := hl
  unfold V_X9_incidentPump at h
  refine lv_aload_n hx hb dX9_incidentPump_0 rfl (lv_at hl 0 rfl) ?_
  refine lv_iload_n hx hb dX9_incidentPump_1 rfl (lv_at hl 1 rfl) ?_
  refine w_ci hS (w_runV (As := [.int a1]) C0 hW 9 0 (by decide) (by decide) rfl rfl (c_X9_place l G A a1 hv _ h) ⟨⟨w_1039, w_61, w_1042⟩, pl_X9_place, ⟨Nat.le_of_ble_eq_true rfl, Nat.le_of_ble_eq_true rfl⟩, ⟨Nat.le_refl _, Nat.le_refl _⟩⟩ ⟨w_1041, w_42⟩ rfl hl.1 rfl (Nat.le_of_ble_eq_true rfl) dX9_incidentPump_2) (fun r1 hv1 h H locs hW hS => ?_)
  refine lv_istore_n (lv' := [(2, .int r1), (0, .ref (ad G 9 0)), (1, .int a1)]) hx hb dX9_incidentPump_5 rfl hl (by decide) rfl (fun ls hl => ?_)
  refine lv_iload_n hx hb dX9_incidentPump_6 rfl (lv_at hl 0 rfl) ?_
  refine lv_if_ge (tgt := 14) hx hb dX9_incidentPump_7 (by decide) (fun c2 => ?_) (fun c2 => ?_)
  · have h := h.1 c2
    refine lv_aload_n hx hb dX9_incidentPump_14 rfl (lv_at hl 1 rfl) ?_
    refine w_get (v := .ref (ad G 18 0)) C0 hW 9 0 (by decide) (by decide) rfl rfl in_X9 4 (by decide) w_766 rfl dX9_incidentPump_15 ?_
    refine lv_iload_n hx hb dX9_incidentPump_18 rfl (lv_at hl 0 rfl) ?_
    obtain ⟨q3, h⟩ := h
    refine w_iald C0 hW 18 0 (by decide) (by decide) (n := 20) rfl q3 dX9_incidentPump_19 ?_
    exact w_iret C0 hr hW hS h dX9_incidentPump_20
  · have h := h.2 c2
    refine lv_iload_n hx hb dX9_incidentPump_10 rfl (lv_at hl 0 rfl) ?_
    refine lv_goto (tgt := 20) hx hb dX9_incidentPump_11 (by decide) ?_
    exact w_iret C0 hr hW hS h dX9_incidentPump_20

theorem pl_X9_incidentTime : yX9_incidentTime.cls ≠ "java/lang/invoke/MethodHandle" ∧ yX9_incidentTime.cls ≠ "java/lang/invoke/VarHandle" ∧ (parseMethodDescriptor yX9_incidentTime.desc).map (fun d => d.parameters.length) = some 1 := ⟨by decide +kernel, by decide +kernel, by decide +kernel⟩
def V_X9_incidentTime (a1 : Int32) (hv : HV) (post : Int32 → HV → Prop) : Prop := (V_X9_place a1 hv (fun r1 hv1 => ((0 ≤ r1 → (vp_in r1 20 ∧ post (hv1 19 0 (Int32.toNatClampNeg r1)) hv1)) ∧ (¬ (0 ≤ r1) → post r1 hv1))))
set_option maxHeartbeats 4000000 in
theorem c_X9_incidentTime (l : Launch) (G : wG) (A : Nat → Prop) (a1 : Int32) (hv : HV) (post : Int32 → HV → Prop) (h : V_X9_incidentTime a1 hv post) : wM l yX9_incidentTime cX9_incidentTime 3 ((Option.some FieldType.int)) 1 G A hv [.ref (ad G 9 0), .int a1] (qI G A post) := by
  refine wM_of (by decide +kernel) (Nat.le_of_ble_eq_true rfl) ?_
  intro p e s m args below meth c C0 hr ls hl hW hS
  have hx := C0.1
  have hb := C0.2.1
  have hown := C0.2.2.2.1
  have hts := C0.2.2.2.2.1
  have hl : lv_has ls 3 [(0, .ref (ad G 9 0)), (1, .int a1)] := hl
  unfold V_X9_incidentTime at h
  refine lv_aload_n hx hb dX9_incidentTime_0 rfl (lv_at hl 0 rfl) ?_
  refine lv_iload_n hx hb dX9_incidentTime_1 rfl (lv_at hl 1 rfl) ?_
  refine w_ci hS (w_runV (As := [.int a1]) C0 hW 9 0 (by decide) (by decide) rfl rfl (c_X9_place l G A a1 hv _ h) ⟨⟨w_1039, w_61, w_1042⟩, pl_X9_place, ⟨Nat.le_of_ble_eq_true rfl, Nat.le_of_ble_eq_true rfl⟩, ⟨Nat.le_refl _, Nat.le_refl _⟩⟩ ⟨w_1041, w_42⟩ rfl hl.1 rfl (Nat.le_of_ble_eq_true rfl) dX9_incidentTime_2) (fun r1 hv1 h H locs hW hS => ?_)
  refine lv_istore_n (lv' := [(2, .int r1), (0, .ref (ad G 9 0)), (1, .int a1)]) hx hb dX9_incidentTime_5 rfl hl (by decide) rfl (fun ls hl => ?_)
  refine lv_iload_n hx hb dX9_incidentTime_6 rfl (lv_at hl 0 rfl) ?_
  refine lv_if_ge (tgt := 14) hx hb dX9_incidentTime_7 (by decide) (fun c2 => ?_) (fun c2 => ?_)
  · have h := h.1 c2
    refine lv_aload_n hx hb dX9_incidentTime_14 rfl (lv_at hl 1 rfl) ?_
    refine w_get (v := .ref (ad G 19 0)) C0 hW 9 0 (by decide) (by decide) rfl rfl in_X9 5 (by decide) w_767 rfl dX9_incidentTime_15 ?_
    refine lv_iload_n hx hb dX9_incidentTime_18 rfl (lv_at hl 0 rfl) ?_
    obtain ⟨q3, h⟩ := h
    refine w_iald C0 hW 19 0 (by decide) (by decide) (n := 20) rfl q3 dX9_incidentTime_19 ?_
    exact w_iret C0 hr hW hS h dX9_incidentTime_20
  · have h := h.2 c2
    refine lv_iload_n hx hb dX9_incidentTime_10 rfl (lv_at hl 0 rfl) ?_
    refine lv_goto (tgt := 20) hx hb dX9_incidentTime_11 (by decide) ?_
    exact w_iret C0 hr hW hS h dX9_incidentTime_20

theorem pl_X9_told : yX9_told.cls ≠ "java/lang/invoke/MethodHandle" ∧ yX9_told.cls ≠ "java/lang/invoke/VarHandle" ∧ (parseMethodDescriptor yX9_told.desc).map (fun d => d.parameters.length) = some 2 := ⟨by decide +kernel, by decide +kernel, by decide +kernel⟩
def V_X9_told (a1 : Int32) (n2 : Nat) (hv : HV) (post : Int32 → HV → Prop) : Prop := (V_X9_isPump a1 hv (fun r1 hv1 => ((r1 = 0 → post (-1001) hv1) ∧ (¬ (r1 = 0) → (V_X9_at a1 hv1 (fun r3 hv3 => (∃ m3 : Nat, r3 = nI m3 ∧ (m3 + 73 ≤ 370) ∧ post (hv3 15 0 (m3 + n2)) hv3)))))))
set_option maxHeartbeats 4000000 in
theorem c_X9_told (l : Launch) (G : wG) (A : Nat → Prop) (a1 : Int32) (n2 : Nat) (hn2 : n2 < 73) (hv : HV) (post : Int32 → HV → Prop) (h : V_X9_told a1 n2 hv post) : wM l yX9_told cX9_told 3 ((Option.some FieldType.int)) 2 G A hv [.ref (ad G 9 0), .int a1, .int (nI n2)] (qI G A post) := by
  refine wM_of (by decide +kernel) (Nat.le_of_ble_eq_true rfl) ?_
  intro p e s m args below meth c C0 hr ls hl hW hS
  have hx := C0.1
  have hb := C0.2.1
  have hown := C0.2.2.2.1
  have hts := C0.2.2.2.2.1
  have hl : lv_has ls 3 [(0, .ref (ad G 9 0)), (1, .int a1), (2, .int (nI n2))] := hl
  unfold V_X9_told at h
  refine lv_aload_n hx hb dX9_told_0 rfl (lv_at hl 0 rfl) ?_
  refine lv_iload_n hx hb dX9_told_1 rfl (lv_at hl 1 rfl) ?_
  refine w_ci hS (w_runV (As := [.int a1]) C0 hW 9 0 (by decide) (by decide) rfl rfl (c_X9_isPump l G A a1 hv _ h) ⟨⟨w_846, w_61, w_849⟩, pl_X9_isPump, ⟨Nat.le_of_ble_eq_true rfl, Nat.le_of_ble_eq_true rfl⟩, ⟨Nat.le_refl _, Nat.le_refl _⟩⟩ ⟨w_848, w_11⟩ rfl hl.1 rfl (Nat.le_of_ble_eq_true rfl) dX9_told_2) (fun r1 hv1 h H locs hW hS => ?_)
  refine lv_if_eq (tgt := 22) hx hb dX9_told_5 (by decide) (fun c2 => ?_) (fun c2 => ?_)
  · have h := h.1 c2
    refine lv_sipush (v := (-1001)) hx hb dX9_told_22 (by decide) ?_
    exact w_iret C0 hr hW hS h dX9_told_25
  · have h := h.2 c2
    refine lv_aload_n hx hb dX9_told_8 rfl (lv_at hl 0 rfl) ?_
    refine w_get (v := .ref (ad G 15 0)) C0 hW 9 0 (by decide) (by decide) rfl rfl in_X9 0 (by decide) w_762 rfl dX9_told_9 ?_
    refine lv_iload_n hx hb dX9_told_12 rfl (lv_at hl 1 rfl) ?_
    refine w_ci hS (w_runS (As := [.int a1]) C0 hW (c_X9_at l G A a1 hv1 _ h) ⟨⟨w_835, w_61, w_837⟩, pl_X9_at, ⟨Nat.le_of_ble_eq_true rfl, Nat.le_of_ble_eq_true rfl⟩, ⟨Nat.le_refl _, Nat.le_refl _⟩⟩ w_836 rfl hl.1 rfl (Nat.le_of_ble_eq_true rfl) dX9_told_13) (fun r3 hv3 h H locs hW hS => ?_)
    obtain ⟨m3, em3, im3, h⟩ := h
    subst em3
    refine lv_iload_n hx hb dX9_told_16 rfl (lv_at hl 2 rfl) ?_
    refine lv_iadd hx hb dX9_told_17 ?_
    refine w_top (y := nI (m3 + n2)) (nI_add m3 n2) ?_
    refine w_ialdN C0 hW 15 0 (by decide) (by decide) (n := 370) rfl (j := (m3 + n2)) rfl (by omega) (by decide) dX9_told_18 ?_
    refine lv_goto (tgt := 25) hx hb dX9_told_19 (by decide) ?_
    exact w_iret C0 hr hW hS h dX9_told_25

theorem pl_X9_phase : yX9_phase.cls ≠ "java/lang/invoke/MethodHandle" ∧ yX9_phase.cls ≠ "java/lang/invoke/VarHandle" ∧ (parseMethodDescriptor yX9_phase.desc).map (fun d => d.parameters.length) = some 1 := ⟨by decide +kernel, by decide +kernel, by decide +kernel⟩
def V_X9_phase (a1 : Int32) (hv : HV) (post : Int32 → HV → Prop) : Prop := (V_X9_isPump a1 hv (fun r1 hv1 => ((r1 = 0 → post (-1001) hv1) ∧ (¬ (r1 = 0) → (V_X9_at a1 hv1 (fun r3 hv3 => (∃ m3 : Nat, r3 = nI m3 ∧ (m3 + 73 ≤ 370) ∧ (((hv3 15 0 (m3 + 5)) = 0 → post 0 hv3) ∧ (¬ ((hv3 15 0 (m3 + 5)) = 0) → (V_X9_at a1 hv3 (fun r5 hv5 => (∃ m5 : Nat, r5 = nI m5 ∧ (m5 + 73 ≤ 370) ∧ post (1 + (hv5 15 0 (m5 + 7))) hv5))))))))))))
set_option maxHeartbeats 4000000 in
theorem c_X9_phase (l : Launch) (G : wG) (A : Nat → Prop) (a1 : Int32) (hv : HV) (post : Int32 → HV → Prop) (h : V_X9_phase a1 hv post) : wM l yX9_phase cX9_phase 2 ((Option.some FieldType.int)) 2 G A hv [.ref (ad G 9 0), .int a1] (qI G A post) := by
  refine wM_of (by decide +kernel) (Nat.le_of_ble_eq_true rfl) ?_
  intro p e s m args below meth c C0 hr ls hl hW hS
  have hx := C0.1
  have hb := C0.2.1
  have hown := C0.2.2.2.1
  have hts := C0.2.2.2.2.1
  have hl : lv_has ls 2 [(0, .ref (ad G 9 0)), (1, .int a1)] := hl
  unfold V_X9_phase at h
  refine lv_aload_n hx hb dX9_phase_0 rfl (lv_at hl 0 rfl) ?_
  refine lv_iload_n hx hb dX9_phase_1 rfl (lv_at hl 1 rfl) ?_
  refine w_ci hS (w_runV (As := [.int a1]) C0 hW 9 0 (by decide) (by decide) rfl rfl (c_X9_isPump l G A a1 hv _ h) ⟨⟨w_846, w_61, w_849⟩, pl_X9_isPump, ⟨Nat.le_of_ble_eq_true rfl, Nat.le_of_ble_eq_true rfl⟩, ⟨Nat.le_refl _, Nat.le_refl _⟩⟩ ⟨w_848, w_11⟩ rfl hl.1 rfl (Nat.le_of_ble_eq_true rfl) dX9_phase_2) (fun r1 hv1 h H locs hW hS => ?_)
  refine lv_if_ne (tgt := 12) hx hb dX9_phase_5 (by decide) (fun c2 => ?_) (fun c2 => ?_)
  · have h := h.2 c2
    refine lv_aload_n hx hb dX9_phase_12 rfl (lv_at hl 0 rfl) ?_
    refine w_get (v := .ref (ad G 15 0)) C0 hW 9 0 (by decide) (by decide) rfl rfl in_X9 0 (by decide) w_762 rfl dX9_phase_13 ?_
    refine lv_iload_n hx hb dX9_phase_16 rfl (lv_at hl 1 rfl) ?_
    refine w_ci hS (w_runS (As := [.int a1]) C0 hW (c_X9_at l G A a1 hv1 _ h) ⟨⟨w_835, w_61, w_837⟩, pl_X9_at, ⟨Nat.le_of_ble_eq_true rfl, Nat.le_of_ble_eq_true rfl⟩, ⟨Nat.le_refl _, Nat.le_refl _⟩⟩ w_836 rfl hl.1 rfl (Nat.le_of_ble_eq_true rfl) dX9_phase_17) (fun r3 hv3 h H locs hW hS => ?_)
    obtain ⟨m3, em3, im3, h⟩ := h
    subst em3
    refine lv_iconst (v := 5) hx hb dX9_phase_20 (by decide) ?_
    refine lv_iadd hx hb dX9_phase_21 ?_
    refine w_top (y := nI (m3 + 5)) (nI_add m3 5) ?_
    refine w_ialdN C0 hW 15 0 (by decide) (by decide) (n := 370) rfl (j := (m3 + 5)) rfl (by omega) (by decide) dX9_phase_22 ?_
    refine lv_if_ne (tgt := 30) hx hb dX9_phase_23 (by decide) (fun c4 => ?_) (fun c4 => ?_)
    · have h := h.2 c4
      refine lv_iconst (v := 1) hx hb dX9_phase_30 (by decide) ?_
      refine lv_aload_n hx hb dX9_phase_31 rfl (lv_at hl 0 rfl) ?_
      refine w_get (v := .ref (ad G 15 0)) C0 hW 9 0 (by decide) (by decide) rfl rfl in_X9 0 (by decide) w_762 rfl dX9_phase_32 ?_
      refine lv_iload_n hx hb dX9_phase_35 rfl (lv_at hl 1 rfl) ?_
      refine w_ci hS (w_runS (As := [.int a1]) C0 hW (c_X9_at l G A a1 hv3 _ h) ⟨⟨w_835, w_61, w_837⟩, pl_X9_at, ⟨Nat.le_of_ble_eq_true rfl, Nat.le_of_ble_eq_true rfl⟩, ⟨Nat.le_refl _, Nat.le_refl _⟩⟩ w_836 rfl hl.1 rfl (Nat.le_of_ble_eq_true rfl) dX9_phase_36) (fun r5 hv5 h H locs hW hS => ?_)
      obtain ⟨m5, em5, im5, h⟩ := h
      subst em5
      refine lv_bipush (v := 7) hx hb dX9_phase_39 (by decide) ?_
      refine lv_iadd hx hb dX9_phase_41 ?_
      refine w_top (y := nI (m5 + 7)) (nI_add m5 7) ?_
      refine w_ialdN C0 hW 15 0 (by decide) (by decide) (n := 370) rfl (j := (m5 + 7)) rfl (by omega) (by decide) dX9_phase_42 ?_
      refine lv_iadd hx hb dX9_phase_43 ?_
      exact w_iret C0 hr hW hS h dX9_phase_44
    · have h := h.1 c4
      refine lv_iconst (v := 0) hx hb dX9_phase_26 (by decide) ?_
      refine lv_goto (tgt := 44) hx hb dX9_phase_27 (by decide) ?_
      exact w_iret C0 hr hW hS h dX9_phase_44
  · have h := h.1 c2
    refine lv_sipush (v := (-1001)) hx hb dX9_phase_8 (by decide) ?_
    exact w_iret C0 hr hW hS h dX9_phase_11

theorem pl_X9_speed : yX9_speed.cls ≠ "java/lang/invoke/MethodHandle" ∧ yX9_speed.cls ≠ "java/lang/invoke/VarHandle" ∧ (parseMethodDescriptor yX9_speed.desc).map (fun d => d.parameters.length) = some 1 := ⟨by decide +kernel, by decide +kernel, by decide +kernel⟩
def V_X9_speed (a1 : Int32) (hv : HV) (post : Int32 → HV → Prop) : Prop := (V_X9_told a1 6 hv (fun r1 hv1 => post r1 hv1))
set_option maxHeartbeats 4000000 in
theorem c_X9_speed (l : Launch) (G : wG) (A : Nat → Prop) (a1 : Int32) (hv : HV) (post : Int32 → HV → Prop) (h : V_X9_speed a1 hv post) : wM l yX9_speed cX9_speed 2 ((Option.some FieldType.int)) 3 G A hv [.ref (ad G 9 0), .int a1] (qI G A post) := by
  refine wM_of (by decide +kernel) (Nat.le_of_ble_eq_true rfl) ?_
  intro p e s m args below meth c C0 hr ls hl hW hS
  have hx := C0.1
  have hb := C0.2.1
  have hown := C0.2.2.2.1
  have hts := C0.2.2.2.2.1
  have hl : lv_has ls 2 [(0, .ref (ad G 9 0)), (1, .int a1)] := hl
  unfold V_X9_speed at h
  refine lv_aload_n hx hb dX9_speed_0 rfl (lv_at hl 0 rfl) ?_
  refine lv_iload_n hx hb dX9_speed_1 rfl (lv_at hl 1 rfl) ?_
  refine lv_bipush (v := 6) hx hb dX9_speed_2 (by decide) ?_
  refine w_ci hS (w_runV (As := [.int a1, .int 6]) C0 hW 9 0 (by decide) (by decide) rfl rfl (c_X9_told l G A a1 6 (by omega) hv _ h) ⟨⟨w_1059, w_61, w_1062⟩, pl_X9_told, ⟨Nat.le_of_ble_eq_true rfl, Nat.le_of_ble_eq_true rfl⟩, ⟨Nat.le_refl _, Nat.le_refl _⟩⟩ ⟨w_1061, w_43⟩ rfl hl.1 rfl (Nat.le_of_ble_eq_true rfl) dX9_speed_4) (fun r1 hv1 h H locs hW hS => ?_)
  exact w_iret C0 hr hW hS h dX9_speed_7

theorem pl_X9_openTicks : yX9_openTicks.cls ≠ "java/lang/invoke/MethodHandle" ∧ yX9_openTicks.cls ≠ "java/lang/invoke/VarHandle" ∧ (parseMethodDescriptor yX9_openTicks.desc).map (fun d => d.parameters.length) = some 1 := ⟨by decide +kernel, by decide +kernel, by decide +kernel⟩
def V_X9_openTicks (a1 : Int32) (hv : HV) (post : Int32 → HV → Prop) : Prop := (V_X9_told a1 8 hv (fun r1 hv1 => post r1 hv1))
set_option maxHeartbeats 4000000 in
theorem c_X9_openTicks (l : Launch) (G : wG) (A : Nat → Prop) (a1 : Int32) (hv : HV) (post : Int32 → HV → Prop) (h : V_X9_openTicks a1 hv post) : wM l yX9_openTicks cX9_openTicks 2 ((Option.some FieldType.int)) 3 G A hv [.ref (ad G 9 0), .int a1] (qI G A post) := by
  refine wM_of (by decide +kernel) (Nat.le_of_ble_eq_true rfl) ?_
  intro p e s m args below meth c C0 hr ls hl hW hS
  have hx := C0.1
  have hb := C0.2.1
  have hown := C0.2.2.2.1
  have hts := C0.2.2.2.2.1
  have hl : lv_has ls 2 [(0, .ref (ad G 9 0)), (1, .int a1)] := hl
  unfold V_X9_openTicks at h
  refine lv_aload_n hx hb dX9_openTicks_0 rfl (lv_at hl 0 rfl) ?_
  refine lv_iload_n hx hb dX9_openTicks_1 rfl (lv_at hl 1 rfl) ?_
  refine lv_bipush (v := 8) hx hb dX9_openTicks_2 (by decide) ?_
  refine w_ci hS (w_runV (As := [.int a1, .int 8]) C0 hW 9 0 (by decide) (by decide) rfl rfl (c_X9_told l G A a1 8 (by omega) hv _ h) ⟨⟨w_1059, w_61, w_1062⟩, pl_X9_told, ⟨Nat.le_of_ble_eq_true rfl, Nat.le_of_ble_eq_true rfl⟩, ⟨Nat.le_refl _, Nat.le_refl _⟩⟩ ⟨w_1061, w_43⟩ rfl hl.1 rfl (Nat.le_of_ble_eq_true rfl) dX9_openTicks_4) (fun r1 hv1 h H locs hW hS => ?_)
  exact w_iret C0 hr hW hS h dX9_openTicks_7

theorem pl_X9_chamberWater : yX9_chamberWater.cls ≠ "java/lang/invoke/MethodHandle" ∧ yX9_chamberWater.cls ≠ "java/lang/invoke/VarHandle" ∧ (parseMethodDescriptor yX9_chamberWater.desc).map (fun d => d.parameters.length) = some 1 := ⟨by decide +kernel, by decide +kernel, by decide +kernel⟩
def V_X9_chamberWater (a1 : Int32) (hv : HV) (post : Int32 → HV → Prop) : Prop := (V_X9_told a1 13 hv (fun r1 hv1 => post r1 hv1))
set_option maxHeartbeats 4000000 in
theorem c_X9_chamberWater (l : Launch) (G : wG) (A : Nat → Prop) (a1 : Int32) (hv : HV) (post : Int32 → HV → Prop) (h : V_X9_chamberWater a1 hv post) : wM l yX9_chamberWater cX9_chamberWater 2 ((Option.some FieldType.int)) 3 G A hv [.ref (ad G 9 0), .int a1] (qI G A post) := by
  refine wM_of (by decide +kernel) (Nat.le_of_ble_eq_true rfl) ?_
  intro p e s m args below meth c C0 hr ls hl hW hS
  have hx := C0.1
  have hb := C0.2.1
  have hown := C0.2.2.2.1
  have hts := C0.2.2.2.2.1
  have hl : lv_has ls 2 [(0, .ref (ad G 9 0)), (1, .int a1)] := hl
  unfold V_X9_chamberWater at h
  refine lv_aload_n hx hb dX9_chamberWater_0 rfl (lv_at hl 0 rfl) ?_
  refine lv_iload_n hx hb dX9_chamberWater_1 rfl (lv_at hl 1 rfl) ?_
  refine lv_bipush (v := 13) hx hb dX9_chamberWater_2 (by decide) ?_
  refine w_ci hS (w_runV (As := [.int a1, .int 13]) C0 hW 9 0 (by decide) (by decide) rfl rfl (c_X9_told l G A a1 13 (by omega) hv _ h) ⟨⟨w_1059, w_61, w_1062⟩, pl_X9_told, ⟨Nat.le_of_ble_eq_true rfl, Nat.le_of_ble_eq_true rfl⟩, ⟨Nat.le_refl _, Nat.le_refl _⟩⟩ ⟨w_1061, w_43⟩ rfl hl.1 rfl (Nat.le_of_ble_eq_true rfl) dX9_chamberWater_4) (fun r1 hv1 h H locs hW hS => ?_)
  exact w_iret C0 hr hW hS h dX9_chamberWater_7

theorem pl_X9_air : yX9_air.cls ≠ "java/lang/invoke/MethodHandle" ∧ yX9_air.cls ≠ "java/lang/invoke/VarHandle" ∧ (parseMethodDescriptor yX9_air.desc).map (fun d => d.parameters.length) = some 1 := ⟨by decide +kernel, by decide +kernel, by decide +kernel⟩
def V_X9_air (a1 : Int32) (hv : HV) (post : Int32 → HV → Prop) : Prop := (V_X9_told a1 14 hv (fun r1 hv1 => post r1 hv1))
set_option maxHeartbeats 4000000 in
theorem c_X9_air (l : Launch) (G : wG) (A : Nat → Prop) (a1 : Int32) (hv : HV) (post : Int32 → HV → Prop) (h : V_X9_air a1 hv post) : wM l yX9_air cX9_air 2 ((Option.some FieldType.int)) 3 G A hv [.ref (ad G 9 0), .int a1] (qI G A post) := by
  refine wM_of (by decide +kernel) (Nat.le_of_ble_eq_true rfl) ?_
  intro p e s m args below meth c C0 hr ls hl hW hS
  have hx := C0.1
  have hb := C0.2.1
  have hown := C0.2.2.2.1
  have hts := C0.2.2.2.2.1
  have hl : lv_has ls 2 [(0, .ref (ad G 9 0)), (1, .int a1)] := hl
  unfold V_X9_air at h
  refine lv_aload_n hx hb dX9_air_0 rfl (lv_at hl 0 rfl) ?_
  refine lv_iload_n hx hb dX9_air_1 rfl (lv_at hl 1 rfl) ?_
  refine lv_bipush (v := 14) hx hb dX9_air_2 (by decide) ?_
  refine w_ci hS (w_runV (As := [.int a1, .int 14]) C0 hW 9 0 (by decide) (by decide) rfl rfl (c_X9_told l G A a1 14 (by omega) hv _ h) ⟨⟨w_1059, w_61, w_1062⟩, pl_X9_told, ⟨Nat.le_of_ble_eq_true rfl, Nat.le_of_ble_eq_true rfl⟩, ⟨Nat.le_refl _, Nat.le_refl _⟩⟩ ⟨w_1061, w_43⟩ rfl hl.1 rfl (Nat.le_of_ble_eq_true rfl) dX9_air_4) (fun r1 hv1 h H locs hW hS => ?_)
  exact w_iret C0 hr hW hS h dX9_air_7

theorem pl_X9_chamberHead : yX9_chamberHead.cls ≠ "java/lang/invoke/MethodHandle" ∧ yX9_chamberHead.cls ≠ "java/lang/invoke/VarHandle" ∧ (parseMethodDescriptor yX9_chamberHead.desc).map (fun d => d.parameters.length) = some 1 := ⟨by decide +kernel, by decide +kernel, by decide +kernel⟩
def V_X9_chamberHead (a1 : Int32) (hv : HV) (post : Int32 → HV → Prop) : Prop := (V_X9_isPump a1 hv (fun r1 hv1 => ((r1 = 0 → post (-1001) hv1) ∧ (¬ (r1 = 0) → (V_X9_at a1 hv1 (fun r3 hv3 => (∃ m3 : Nat, r3 = nI m3 ∧ (m3 + 73 ≤ 370) ∧ (V_X9_head m3 hv3 (fun r4 hv4 => post r4 hv4)))))))))
set_option maxHeartbeats 4000000 in
theorem c_X9_chamberHead (l : Launch) (G : wG) (A : Nat → Prop) (a1 : Int32) (hv : HV) (post : Int32 → HV → Prop) (h : V_X9_chamberHead a1 hv post) : wM l yX9_chamberHead cX9_chamberHead 2 ((Option.some FieldType.int)) 2 G A hv [.ref (ad G 9 0), .int a1] (qI G A post) := by
  refine wM_of (by decide +kernel) (Nat.le_of_ble_eq_true rfl) ?_
  intro p e s m args below meth c C0 hr ls hl hW hS
  have hx := C0.1
  have hb := C0.2.1
  have hown := C0.2.2.2.1
  have hts := C0.2.2.2.2.1
  have hl : lv_has ls 2 [(0, .ref (ad G 9 0)), (1, .int a1)] := hl
  unfold V_X9_chamberHead at h
  refine lv_aload_n hx hb dX9_chamberHead_0 rfl (lv_at hl 0 rfl) ?_
  refine lv_iload_n hx hb dX9_chamberHead_1 rfl (lv_at hl 1 rfl) ?_
  refine w_ci hS (w_runV (As := [.int a1]) C0 hW 9 0 (by decide) (by decide) rfl rfl (c_X9_isPump l G A a1 hv _ h) ⟨⟨w_846, w_61, w_849⟩, pl_X9_isPump, ⟨Nat.le_of_ble_eq_true rfl, Nat.le_of_ble_eq_true rfl⟩, ⟨Nat.le_refl _, Nat.le_refl _⟩⟩ ⟨w_848, w_11⟩ rfl hl.1 rfl (Nat.le_of_ble_eq_true rfl) dX9_chamberHead_2) (fun r1 hv1 h H locs hW hS => ?_)
  refine lv_if_eq (tgt := 19) hx hb dX9_chamberHead_5 (by decide) (fun c2 => ?_) (fun c2 => ?_)
  · have h := h.1 c2
    refine lv_sipush (v := (-1001)) hx hb dX9_chamberHead_19 (by decide) ?_
    exact w_iret C0 hr hW hS h dX9_chamberHead_22
  · have h := h.2 c2
    refine lv_aload_n hx hb dX9_chamberHead_8 rfl (lv_at hl 0 rfl) ?_
    refine lv_iload_n hx hb dX9_chamberHead_9 rfl (lv_at hl 1 rfl) ?_
    refine w_ci hS (w_runS (As := [.int a1]) C0 hW (c_X9_at l G A a1 hv1 _ h) ⟨⟨w_835, w_61, w_837⟩, pl_X9_at, ⟨Nat.le_of_ble_eq_true rfl, Nat.le_of_ble_eq_true rfl⟩, ⟨Nat.le_refl _, Nat.le_refl _⟩⟩ w_836 rfl hl.1 rfl (Nat.le_of_ble_eq_true rfl) dX9_chamberHead_10) (fun r3 hv3 h H locs hW hS => ?_)
    obtain ⟨m3, em3, im3, h⟩ := h
    subst em3
    refine w_ci hS (w_runV (As := [.int (nI m3)]) C0 hW 9 0 (by decide) (by decide) rfl rfl (c_X9_head l G A m3 (by omega) hv3 _ h) ⟨⟨w_955, w_61, w_958⟩, pl_X9_head, ⟨Nat.le_of_ble_eq_true rfl, Nat.le_of_ble_eq_true rfl⟩, ⟨Nat.le_refl _, Nat.le_refl _⟩⟩ ⟨w_957, w_32⟩ rfl hl.1 rfl (Nat.le_of_ble_eq_true rfl) dX9_chamberHead_13) (fun r4 hv4 h H locs hW hS => ?_)
    refine lv_goto (tgt := 22) hx hb dX9_chamberHead_16 (by decide) ?_
    exact w_iret C0 hr hW hS h dX9_chamberHead_22

theorem pl_X9_beats : yX9_beats.cls ≠ "java/lang/invoke/MethodHandle" ∧ yX9_beats.cls ≠ "java/lang/invoke/VarHandle" ∧ (parseMethodDescriptor yX9_beats.desc).map (fun d => d.parameters.length) = some 1 := ⟨by decide +kernel, by decide +kernel, by decide +kernel⟩
def V_X9_beats (a1 : Int32) (hv : HV) (post : Int32 → HV → Prop) : Prop := (V_X9_told a1 16 hv (fun r1 hv1 => post r1 hv1))
set_option maxHeartbeats 4000000 in
theorem c_X9_beats (l : Launch) (G : wG) (A : Nat → Prop) (a1 : Int32) (hv : HV) (post : Int32 → HV → Prop) (h : V_X9_beats a1 hv post) : wM l yX9_beats cX9_beats 2 ((Option.some FieldType.int)) 3 G A hv [.ref (ad G 9 0), .int a1] (qI G A post) := by
  refine wM_of (by decide +kernel) (Nat.le_of_ble_eq_true rfl) ?_
  intro p e s m args below meth c C0 hr ls hl hW hS
  have hx := C0.1
  have hb := C0.2.1
  have hown := C0.2.2.2.1
  have hts := C0.2.2.2.2.1
  have hl : lv_has ls 2 [(0, .ref (ad G 9 0)), (1, .int a1)] := hl
  unfold V_X9_beats at h
  refine lv_aload_n hx hb dX9_beats_0 rfl (lv_at hl 0 rfl) ?_
  refine lv_iload_n hx hb dX9_beats_1 rfl (lv_at hl 1 rfl) ?_
  refine lv_bipush (v := 16) hx hb dX9_beats_2 (by decide) ?_
  refine w_ci hS (w_runV (As := [.int a1, .int 16]) C0 hW 9 0 (by decide) (by decide) rfl rfl (c_X9_told l G A a1 16 (by omega) hv _ h) ⟨⟨w_1059, w_61, w_1062⟩, pl_X9_told, ⟨Nat.le_of_ble_eq_true rfl, Nat.le_of_ble_eq_true rfl⟩, ⟨Nat.le_refl _, Nat.le_refl _⟩⟩ ⟨w_1061, w_43⟩ rfl hl.1 rfl (Nat.le_of_ble_eq_true rfl) dX9_beats_4) (fun r1 hv1 h H locs hW hS => ?_)
  exact w_iret C0 hr hW hS h dX9_beats_7

theorem pl_X9_wasted : yX9_wasted.cls ≠ "java/lang/invoke/MethodHandle" ∧ yX9_wasted.cls ≠ "java/lang/invoke/VarHandle" ∧ (parseMethodDescriptor yX9_wasted.desc).map (fun d => d.parameters.length) = some 1 := ⟨by decide +kernel, by decide +kernel, by decide +kernel⟩
def V_X9_wasted (a1 : Int32) (hv : HV) (post : Int32 → HV → Prop) : Prop := (V_X9_told a1 17 hv (fun r1 hv1 => post r1 hv1))
set_option maxHeartbeats 4000000 in
theorem c_X9_wasted (l : Launch) (G : wG) (A : Nat → Prop) (a1 : Int32) (hv : HV) (post : Int32 → HV → Prop) (h : V_X9_wasted a1 hv post) : wM l yX9_wasted cX9_wasted 2 ((Option.some FieldType.int)) 3 G A hv [.ref (ad G 9 0), .int a1] (qI G A post) := by
  refine wM_of (by decide +kernel) (Nat.le_of_ble_eq_true rfl) ?_
  intro p e s m args below meth c C0 hr ls hl hW hS
  have hx := C0.1
  have hb := C0.2.1
  have hown := C0.2.2.2.1
  have hts := C0.2.2.2.2.1
  have hl : lv_has ls 2 [(0, .ref (ad G 9 0)), (1, .int a1)] := hl
  unfold V_X9_wasted at h
  refine lv_aload_n hx hb dX9_wasted_0 rfl (lv_at hl 0 rfl) ?_
  refine lv_iload_n hx hb dX9_wasted_1 rfl (lv_at hl 1 rfl) ?_
  refine lv_bipush (v := 17) hx hb dX9_wasted_2 (by decide) ?_
  refine w_ci hS (w_runV (As := [.int a1, .int 17]) C0 hW 9 0 (by decide) (by decide) rfl rfl (c_X9_told l G A a1 17 (by omega) hv _ h) ⟨⟨w_1059, w_61, w_1062⟩, pl_X9_told, ⟨Nat.le_of_ble_eq_true rfl, Nat.le_of_ble_eq_true rfl⟩, ⟨Nat.le_refl _, Nat.le_refl _⟩⟩ ⟨w_1061, w_43⟩ rfl hl.1 rfl (Nat.le_of_ble_eq_true rfl) dX9_wasted_4) (fun r1 hv1 h H locs hW hS => ?_)
  exact w_iret C0 hr hW hS h dX9_wasted_7

theorem pl_X9_relieved : yX9_relieved.cls ≠ "java/lang/invoke/MethodHandle" ∧ yX9_relieved.cls ≠ "java/lang/invoke/VarHandle" ∧ (parseMethodDescriptor yX9_relieved.desc).map (fun d => d.parameters.length) = some 1 := ⟨by decide +kernel, by decide +kernel, by decide +kernel⟩
def V_X9_relieved (a1 : Int32) (hv : HV) (post : Int32 → HV → Prop) : Prop := (V_X9_told a1 18 hv (fun r1 hv1 => post r1 hv1))
set_option maxHeartbeats 4000000 in
theorem c_X9_relieved (l : Launch) (G : wG) (A : Nat → Prop) (a1 : Int32) (hv : HV) (post : Int32 → HV → Prop) (h : V_X9_relieved a1 hv post) : wM l yX9_relieved cX9_relieved 2 ((Option.some FieldType.int)) 3 G A hv [.ref (ad G 9 0), .int a1] (qI G A post) := by
  refine wM_of (by decide +kernel) (Nat.le_of_ble_eq_true rfl) ?_
  intro p e s m args below meth c C0 hr ls hl hW hS
  have hx := C0.1
  have hb := C0.2.1
  have hown := C0.2.2.2.1
  have hts := C0.2.2.2.2.1
  have hl : lv_has ls 2 [(0, .ref (ad G 9 0)), (1, .int a1)] := hl
  unfold V_X9_relieved at h
  refine lv_aload_n hx hb dX9_relieved_0 rfl (lv_at hl 0 rfl) ?_
  refine lv_iload_n hx hb dX9_relieved_1 rfl (lv_at hl 1 rfl) ?_
  refine lv_bipush (v := 18) hx hb dX9_relieved_2 (by decide) ?_
  refine w_ci hS (w_runV (As := [.int a1, .int 18]) C0 hW 9 0 (by decide) (by decide) rfl rfl (c_X9_told l G A a1 18 (by omega) hv _ h) ⟨⟨w_1059, w_61, w_1062⟩, pl_X9_told, ⟨Nat.le_of_ble_eq_true rfl, Nat.le_of_ble_eq_true rfl⟩, ⟨Nat.le_refl _, Nat.le_refl _⟩⟩ ⟨w_1061, w_43⟩ rfl hl.1 rfl (Nat.le_of_ble_eq_true rfl) dX9_relieved_4) (fun r1 hv1 h H locs hW hS => ?_)
  exact w_iret C0 hr hW hS h dX9_relieved_7

theorem pl_X9_lifted : yX9_lifted.cls ≠ "java/lang/invoke/MethodHandle" ∧ yX9_lifted.cls ≠ "java/lang/invoke/VarHandle" ∧ (parseMethodDescriptor yX9_lifted.desc).map (fun d => d.parameters.length) = some 1 := ⟨by decide +kernel, by decide +kernel, by decide +kernel⟩
def V_X9_lifted (a1 : Int32) (hv : HV) (post : Int32 → HV → Prop) : Prop := (V_X9_told a1 19 hv (fun r1 hv1 => post r1 hv1))
set_option maxHeartbeats 4000000 in
theorem c_X9_lifted (l : Launch) (G : wG) (A : Nat → Prop) (a1 : Int32) (hv : HV) (post : Int32 → HV → Prop) (h : V_X9_lifted a1 hv post) : wM l yX9_lifted cX9_lifted 2 ((Option.some FieldType.int)) 3 G A hv [.ref (ad G 9 0), .int a1] (qI G A post) := by
  refine wM_of (by decide +kernel) (Nat.le_of_ble_eq_true rfl) ?_
  intro p e s m args below meth c C0 hr ls hl hW hS
  have hx := C0.1
  have hb := C0.2.1
  have hown := C0.2.2.2.1
  have hts := C0.2.2.2.2.1
  have hl : lv_has ls 2 [(0, .ref (ad G 9 0)), (1, .int a1)] := hl
  unfold V_X9_lifted at h
  refine lv_aload_n hx hb dX9_lifted_0 rfl (lv_at hl 0 rfl) ?_
  refine lv_iload_n hx hb dX9_lifted_1 rfl (lv_at hl 1 rfl) ?_
  refine lv_bipush (v := 19) hx hb dX9_lifted_2 (by decide) ?_
  refine w_ci hS (w_runV (As := [.int a1, .int 19]) C0 hW 9 0 (by decide) (by decide) rfl rfl (c_X9_told l G A a1 19 (by omega) hv _ h) ⟨⟨w_1059, w_61, w_1062⟩, pl_X9_told, ⟨Nat.le_of_ble_eq_true rfl, Nat.le_of_ble_eq_true rfl⟩, ⟨Nat.le_refl _, Nat.le_refl _⟩⟩ ⟨w_1061, w_43⟩ rfl hl.1 rfl (Nat.le_of_ble_eq_true rfl) dX9_lifted_4) (fun r1 hv1 h H locs hW hS => ?_)
  exact w_iret C0 hr hW hS h dX9_lifted_7

theorem pl_X9_overflowed : yX9_overflowed.cls ≠ "java/lang/invoke/MethodHandle" ∧ yX9_overflowed.cls ≠ "java/lang/invoke/VarHandle" ∧ (parseMethodDescriptor yX9_overflowed.desc).map (fun d => d.parameters.length) = some 1 := ⟨by decide +kernel, by decide +kernel, by decide +kernel⟩
def V_X9_overflowed (a1 : Int32) (hv : HV) (post : Int32 → HV → Prop) : Prop := (V_X9_told a1 20 hv (fun r1 hv1 => post r1 hv1))
set_option maxHeartbeats 4000000 in
theorem c_X9_overflowed (l : Launch) (G : wG) (A : Nat → Prop) (a1 : Int32) (hv : HV) (post : Int32 → HV → Prop) (h : V_X9_overflowed a1 hv post) : wM l yX9_overflowed cX9_overflowed 2 ((Option.some FieldType.int)) 3 G A hv [.ref (ad G 9 0), .int a1] (qI G A post) := by
  refine wM_of (by decide +kernel) (Nat.le_of_ble_eq_true rfl) ?_
  intro p e s m args below meth c C0 hr ls hl hW hS
  have hx := C0.1
  have hb := C0.2.1
  have hown := C0.2.2.2.1
  have hts := C0.2.2.2.2.1
  have hl : lv_has ls 2 [(0, .ref (ad G 9 0)), (1, .int a1)] := hl
  unfold V_X9_overflowed at h
  refine lv_aload_n hx hb dX9_overflowed_0 rfl (lv_at hl 0 rfl) ?_
  refine lv_iload_n hx hb dX9_overflowed_1 rfl (lv_at hl 1 rfl) ?_
  refine lv_bipush (v := 20) hx hb dX9_overflowed_2 (by decide) ?_
  refine w_ci hS (w_runV (As := [.int a1, .int 20]) C0 hW 9 0 (by decide) (by decide) rfl rfl (c_X9_told l G A a1 20 (by omega) hv _ h) ⟨⟨w_1059, w_61, w_1062⟩, pl_X9_told, ⟨Nat.le_of_ble_eq_true rfl, Nat.le_of_ble_eq_true rfl⟩, ⟨Nat.le_refl _, Nat.le_refl _⟩⟩ ⟨w_1061, w_43⟩ rfl hl.1 rfl (Nat.le_of_ble_eq_true rfl) dX9_overflowed_4) (fun r1 hv1 h H locs hW hS => ?_)
  exact w_iret C0 hr hW hS h dX9_overflowed_7

theorem pl_X9_starved : yX9_starved.cls ≠ "java/lang/invoke/MethodHandle" ∧ yX9_starved.cls ≠ "java/lang/invoke/VarHandle" ∧ (parseMethodDescriptor yX9_starved.desc).map (fun d => d.parameters.length) = some 1 := ⟨by decide +kernel, by decide +kernel, by decide +kernel⟩
def V_X9_starved (a1 : Int32) (hv : HV) (post : Int32 → HV → Prop) : Prop := (V_X9_told a1 21 hv (fun r1 hv1 => post r1 hv1))
set_option maxHeartbeats 4000000 in
theorem c_X9_starved (l : Launch) (G : wG) (A : Nat → Prop) (a1 : Int32) (hv : HV) (post : Int32 → HV → Prop) (h : V_X9_starved a1 hv post) : wM l yX9_starved cX9_starved 2 ((Option.some FieldType.int)) 3 G A hv [.ref (ad G 9 0), .int a1] (qI G A post) := by
  refine wM_of (by decide +kernel) (Nat.le_of_ble_eq_true rfl) ?_
  intro p e s m args below meth c C0 hr ls hl hW hS
  have hx := C0.1
  have hb := C0.2.1
  have hown := C0.2.2.2.1
  have hts := C0.2.2.2.2.1
  have hl : lv_has ls 2 [(0, .ref (ad G 9 0)), (1, .int a1)] := hl
  unfold V_X9_starved at h
  refine lv_aload_n hx hb dX9_starved_0 rfl (lv_at hl 0 rfl) ?_
  refine lv_iload_n hx hb dX9_starved_1 rfl (lv_at hl 1 rfl) ?_
  refine lv_bipush (v := 21) hx hb dX9_starved_2 (by decide) ?_
  refine w_ci hS (w_runV (As := [.int a1, .int 21]) C0 hW 9 0 (by decide) (by decide) rfl rfl (c_X9_told l G A a1 21 (by omega) hv _ h) ⟨⟨w_1059, w_61, w_1062⟩, pl_X9_told, ⟨Nat.le_of_ble_eq_true rfl, Nat.le_of_ble_eq_true rfl⟩, ⟨Nat.le_refl _, Nat.le_refl _⟩⟩ ⟨w_1061, w_43⟩ rfl hl.1 rfl (Nat.le_of_ble_eq_true rfl) dX9_starved_4) (fun r1 hv1 h H locs hW hS => ?_)
  exact w_iret C0 hr hW hS h dX9_starved_7

theorem pl_X9_tank : yX9_tank.cls ≠ "java/lang/invoke/MethodHandle" ∧ yX9_tank.cls ≠ "java/lang/invoke/VarHandle" ∧ (parseMethodDescriptor yX9_tank.desc).map (fun d => d.parameters.length) = some 1 := ⟨by decide +kernel, by decide +kernel, by decide +kernel⟩
def V_X9_tank (a1 : Int32) (hv : HV) (post : Int32 → HV → Prop) : Prop := (V_X9_told a1 15 hv (fun r1 hv1 => post r1 hv1))
set_option maxHeartbeats 4000000 in
theorem c_X9_tank (l : Launch) (G : wG) (A : Nat → Prop) (a1 : Int32) (hv : HV) (post : Int32 → HV → Prop) (h : V_X9_tank a1 hv post) : wM l yX9_tank cX9_tank 2 ((Option.some FieldType.int)) 3 G A hv [.ref (ad G 9 0), .int a1] (qI G A post) := by
  refine wM_of (by decide +kernel) (Nat.le_of_ble_eq_true rfl) ?_
  intro p e s m args below meth c C0 hr ls hl hW hS
  have hx := C0.1
  have hb := C0.2.1
  have hown := C0.2.2.2.1
  have hts := C0.2.2.2.2.1
  have hl : lv_has ls 2 [(0, .ref (ad G 9 0)), (1, .int a1)] := hl
  unfold V_X9_tank at h
  refine lv_aload_n hx hb dX9_tank_0 rfl (lv_at hl 0 rfl) ?_
  refine lv_iload_n hx hb dX9_tank_1 rfl (lv_at hl 1 rfl) ?_
  refine lv_bipush (v := 15) hx hb dX9_tank_2 (by decide) ?_
  refine w_ci hS (w_runV (As := [.int a1, .int 15]) C0 hW 9 0 (by decide) (by decide) rfl rfl (c_X9_told l G A a1 15 (by omega) hv _ h) ⟨⟨w_1059, w_61, w_1062⟩, pl_X9_told, ⟨Nat.le_of_ble_eq_true rfl, Nat.le_of_ble_eq_true rfl⟩, ⟨Nat.le_refl _, Nat.le_refl _⟩⟩ ⟨w_1061, w_43⟩ rfl hl.1 rfl (Nat.le_of_ble_eq_true rfl) dX9_tank_4) (fun r1 hv1 h H locs hW hS => ?_)
  exact w_iret C0 hr hW hS h dX9_tank_7

theorem pl_X9_kept : yX9_kept.cls ≠ "java/lang/invoke/MethodHandle" ∧ yX9_kept.cls ≠ "java/lang/invoke/VarHandle" ∧ (parseMethodDescriptor yX9_kept.desc).map (fun d => d.parameters.length) = some 4 := ⟨by decide +kernel, by decide +kernel, by decide +kernel⟩
def V_X9_kept (a1 : Int32) (a2 : Int32) (n3 : Nat) (n4 : Nat) (hv : HV) (post : Int32 → HV → Prop) : Prop := (V_X9_isPump a1 hv (fun r1 hv1 => ((r1 = 0 → post (-1001) hv1) ∧ (¬ (r1 = 0) → ((0 ≤ a2 → (V_X9_at a1 hv1 (fun r4 hv4 => (∃ m4 : Nat, r4 = nI m4 ∧ (m4 + 73 ≤ 370) ∧ (((hv4 15 0 (m4 + n3)) ≤ a2 → post (-1005) hv4) ∧ (¬ ((hv4 15 0 (m4 + n3)) ≤ a2) → (V_X9_at a1 hv4 (fun r6 hv6 => (∃ m6 : Nat, r6 = nI m6 ∧ (m6 + 73 ≤ 370) ∧ (vp_in ((nI (m6 + n4)) + a2) 370 ∧ post (hv6 15 0 (Int32.toNatClampNeg ((nI (m6 + n4)) + a2))) hv6)))))))))) ∧ (¬ (0 ≤ a2) → post (-1002) hv1))))))
set_option maxHeartbeats 4000000 in
theorem c_X9_kept (l : Launch) (G : wG) (A : Nat → Prop) (a1 : Int32) (a2 : Int32) (n3 : Nat) (n4 : Nat) (hn3 : n3 < 73) (hn4 : n4 < 73) (hv : HV) (post : Int32 → HV → Prop) (h : V_X9_kept a1 a2 n3 n4 hv post) : wM l yX9_kept cX9_kept 5 ((Option.some FieldType.int)) 2 G A hv [.ref (ad G 9 0), .int a1, .int a2, .int (nI n3), .int (nI n4)] (qI G A post) := by
  refine wM_of (by decide +kernel) (Nat.le_of_ble_eq_true rfl) ?_
  intro p e s m args below meth c C0 hr ls hl hW hS
  have hx := C0.1
  have hb := C0.2.1
  have hown := C0.2.2.2.1
  have hts := C0.2.2.2.2.1
  have hl : lv_has ls 5 [(0, .ref (ad G 9 0)), (1, .int a1), (2, .int a2), (3, .int (nI n3)), (4, .int (nI n4))] := hl
  unfold V_X9_kept at h
  refine lv_aload_n hx hb dX9_kept_0 rfl (lv_at hl 0 rfl) ?_
  refine lv_iload_n hx hb dX9_kept_1 rfl (lv_at hl 1 rfl) ?_
  refine w_ci hS (w_runV (As := [.int a1]) C0 hW 9 0 (by decide) (by decide) rfl rfl (c_X9_isPump l G A a1 hv _ h) ⟨⟨w_846, w_61, w_849⟩, pl_X9_isPump, ⟨Nat.le_of_ble_eq_true rfl, Nat.le_of_ble_eq_true rfl⟩, ⟨Nat.le_refl _, Nat.le_refl _⟩⟩ ⟨w_848, w_11⟩ rfl hl.1 rfl (Nat.le_of_ble_eq_true rfl) dX9_kept_2) (fun r1 hv1 h H locs hW hS => ?_)
  refine lv_if_ne (tgt := 12) hx hb dX9_kept_5 (by decide) (fun c2 => ?_) (fun c2 => ?_)
  · have h := h.2 c2
    refine lv_iload_n hx hb dX9_kept_12 rfl (lv_at hl 2 rfl) ?_
    refine lv_if_ge (tgt := 20) hx hb dX9_kept_13 (by decide) (fun c3 => ?_) (fun c3 => ?_)
    · have h := h.1 c3
      refine lv_iload_n hx hb dX9_kept_20 rfl (lv_at hl 2 rfl) ?_
      refine lv_aload_n hx hb dX9_kept_21 rfl (lv_at hl 0 rfl) ?_
      refine w_get (v := .ref (ad G 15 0)) C0 hW 9 0 (by decide) (by decide) rfl rfl in_X9 0 (by decide) w_762 rfl dX9_kept_22 ?_
      refine lv_iload_n hx hb dX9_kept_25 rfl (lv_at hl 1 rfl) ?_
      refine w_ci hS (w_runS (As := [.int a1]) C0 hW (c_X9_at l G A a1 hv1 _ h) ⟨⟨w_835, w_61, w_837⟩, pl_X9_at, ⟨Nat.le_of_ble_eq_true rfl, Nat.le_of_ble_eq_true rfl⟩, ⟨Nat.le_refl _, Nat.le_refl _⟩⟩ w_836 rfl hl.1 rfl (Nat.le_of_ble_eq_true rfl) dX9_kept_26) (fun r4 hv4 h H locs hW hS => ?_)
      obtain ⟨m4, em4, im4, h⟩ := h
      subst em4
      refine lv_iload_n hx hb dX9_kept_29 rfl (lv_at hl 3 rfl) ?_
      refine lv_iadd hx hb dX9_kept_30 ?_
      refine w_top (y := nI (m4 + n3)) (nI_add m4 n3) ?_
      refine w_ialdN C0 hW 15 0 (by decide) (by decide) (n := 370) rfl (j := (m4 + n3)) rfl (by omega) (by decide) dX9_kept_31 ?_
      refine lv_icmp_ge (tgt := 52) hx hb dX9_kept_32 (by decide) (fun c5 => ?_) (fun c5 => ?_)
      · have h := h.1 c5
        refine lv_sipush (v := (-1005)) hx hb dX9_kept_52 (by decide) ?_
        exact w_iret C0 hr hW hS h dX9_kept_55
      · have h := h.2 c5
        refine lv_aload_n hx hb dX9_kept_35 rfl (lv_at hl 0 rfl) ?_
        refine w_get (v := .ref (ad G 15 0)) C0 hW 9 0 (by decide) (by decide) rfl rfl in_X9 0 (by decide) w_762 rfl dX9_kept_36 ?_
        refine lv_iload_n hx hb dX9_kept_39 rfl (lv_at hl 1 rfl) ?_
        refine w_ci hS (w_runS (As := [.int a1]) C0 hW (c_X9_at l G A a1 hv4 _ h) ⟨⟨w_835, w_61, w_837⟩, pl_X9_at, ⟨Nat.le_of_ble_eq_true rfl, Nat.le_of_ble_eq_true rfl⟩, ⟨Nat.le_refl _, Nat.le_refl _⟩⟩ w_836 rfl hl.1 rfl (Nat.le_of_ble_eq_true rfl) dX9_kept_40) (fun r6 hv6 h H locs hW hS => ?_)
        obtain ⟨m6, em6, im6, h⟩ := h
        subst em6
        refine lv_iload hx hb dX9_kept_43 (lv_at hl 4 rfl) ?_
        refine lv_iadd hx hb dX9_kept_45 ?_
        refine w_top (y := nI (m6 + n4)) (nI_add m6 n4) ?_
        refine lv_iload_n hx hb dX9_kept_46 rfl (lv_at hl 2 rfl) ?_
        refine lv_iadd hx hb dX9_kept_47 ?_
        obtain ⟨q7, h⟩ := h
        refine w_iald C0 hW 15 0 (by decide) (by decide) (n := 370) rfl q7 dX9_kept_48 ?_
        refine lv_goto (tgt := 55) hx hb dX9_kept_49 (by decide) ?_
        exact w_iret C0 hr hW hS h dX9_kept_55
    · have h := h.2 c3
      refine lv_sipush (v := (-1002)) hx hb dX9_kept_16 (by decide) ?_
      exact w_iret C0 hr hW hS h dX9_kept_19
  · have h := h.1 c2
    refine lv_sipush (v := (-1001)) hx hb dX9_kept_8 (by decide) ?_
    exact w_iret C0 hr hW hS h dX9_kept_11

theorem pl_X9_interval : yX9_interval.cls ≠ "java/lang/invoke/MethodHandle" ∧ yX9_interval.cls ≠ "java/lang/invoke/VarHandle" ∧ (parseMethodDescriptor yX9_interval.desc).map (fun d => d.parameters.length) = some 2 := ⟨by decide +kernel, by decide +kernel, by decide +kernel⟩
def V_X9_interval (a1 : Int32) (a2 : Int32) (hv : HV) (post : Int32 → HV → Prop) : Prop := (V_X9_kept a1 a2 23 24 hv (fun r1 hv1 => post r1 hv1))
set_option maxHeartbeats 4000000 in
theorem c_X9_interval (l : Launch) (G : wG) (A : Nat → Prop) (a1 : Int32) (a2 : Int32) (hv : HV) (post : Int32 → HV → Prop) (h : V_X9_interval a1 a2 hv post) : wM l yX9_interval cX9_interval 3 ((Option.some FieldType.int)) 3 G A hv [.ref (ad G 9 0), .int a1, .int a2] (qI G A post) := by
  refine wM_of (by decide +kernel) (Nat.le_of_ble_eq_true rfl) ?_
  intro p e s m args below meth c C0 hr ls hl hW hS
  have hx := C0.1
  have hb := C0.2.1
  have hown := C0.2.2.2.1
  have hts := C0.2.2.2.2.1
  have hl : lv_has ls 3 [(0, .ref (ad G 9 0)), (1, .int a1), (2, .int a2)] := hl
  unfold V_X9_interval at h
  refine lv_aload_n hx hb dX9_interval_0 rfl (lv_at hl 0 rfl) ?_
  refine lv_iload_n hx hb dX9_interval_1 rfl (lv_at hl 1 rfl) ?_
  refine lv_iload_n hx hb dX9_interval_2 rfl (lv_at hl 2 rfl) ?_
  refine lv_bipush (v := 23) hx hb dX9_interval_3 (by decide) ?_
  refine lv_bipush (v := 24) hx hb dX9_interval_5 (by decide) ?_
  refine w_ci hS (w_runV (As := [.int a1, .int a2, .int 23, .int 24]) C0 hW 9 0 (by decide) (by decide) rfl rfl (c_X9_kept l G A a1 a2 23 24 (by omega) (by omega) hv _ h) ⟨⟨w_1111, w_61, w_1114⟩, pl_X9_kept, ⟨Nat.le_of_ble_eq_true rfl, Nat.le_of_ble_eq_true rfl⟩, ⟨Nat.le_refl _, Nat.le_refl _⟩⟩ ⟨w_1113, w_44⟩ rfl hl.1 rfl (Nat.le_of_ble_eq_true rfl) dX9_interval_7) (fun r1 hv1 h H locs hW hS => ?_)
  exact w_iret C0 hr hW hS h dX9_interval_10

theorem pl_X9_trace : yX9_trace.cls ≠ "java/lang/invoke/MethodHandle" ∧ yX9_trace.cls ≠ "java/lang/invoke/VarHandle" ∧ (parseMethodDescriptor yX9_trace.desc).map (fun d => d.parameters.length) = some 2 := ⟨by decide +kernel, by decide +kernel, by decide +kernel⟩
def V_X9_trace (a1 : Int32) (a2 : Int32) (hv : HV) (post : Int32 → HV → Prop) : Prop := (V_X9_kept a1 a2 40 41 hv (fun r1 hv1 => post r1 hv1))
set_option maxHeartbeats 4000000 in
theorem c_X9_trace (l : Launch) (G : wG) (A : Nat → Prop) (a1 : Int32) (a2 : Int32) (hv : HV) (post : Int32 → HV → Prop) (h : V_X9_trace a1 a2 hv post) : wM l yX9_trace cX9_trace 3 ((Option.some FieldType.int)) 3 G A hv [.ref (ad G 9 0), .int a1, .int a2] (qI G A post) := by
  refine wM_of (by decide +kernel) (Nat.le_of_ble_eq_true rfl) ?_
  intro p e s m args below meth c C0 hr ls hl hW hS
  have hx := C0.1
  have hb := C0.2.1
  have hown := C0.2.2.2.1
  have hts := C0.2.2.2.2.1
  have hl : lv_has ls 3 [(0, .ref (ad G 9 0)), (1, .int a1), (2, .int a2)] := hl
  unfold V_X9_trace at h
  refine lv_aload_n hx hb dX9_trace_0 rfl (lv_at hl 0 rfl) ?_
  refine lv_iload_n hx hb dX9_trace_1 rfl (lv_at hl 1 rfl) ?_
  refine lv_iload_n hx hb dX9_trace_2 rfl (lv_at hl 2 rfl) ?_
  refine lv_bipush (v := 40) hx hb dX9_trace_3 (by decide) ?_
  refine lv_bipush (v := 41) hx hb dX9_trace_5 (by decide) ?_
  refine w_ci hS (w_runV (As := [.int a1, .int a2, .int 40, .int 41]) C0 hW 9 0 (by decide) (by decide) rfl rfl (c_X9_kept l G A a1 a2 40 41 (by omega) (by omega) hv _ h) ⟨⟨w_1111, w_61, w_1114⟩, pl_X9_kept, ⟨Nat.le_of_ble_eq_true rfl, Nat.le_of_ble_eq_true rfl⟩, ⟨Nat.le_refl _, Nat.le_refl _⟩⟩ ⟨w_1113, w_44⟩ rfl hl.1 rfl (Nat.le_of_ble_eq_true rfl) dX9_trace_7) (fun r1 hv1 h H locs hW hS => ?_)
  exact w_iret C0 hr hW hS h dX9_trace_10

theorem pl_X9_efficiencyOf : yX9_efficiencyOf.cls ≠ "java/lang/invoke/MethodHandle" ∧ yX9_efficiencyOf.cls ≠ "java/lang/invoke/VarHandle" ∧ (parseMethodDescriptor yX9_efficiencyOf.desc).map (fun d => d.parameters.length) = some 1 := ⟨by decide +kernel, by decide +kernel, by decide +kernel⟩
def V_X9_efficiencyOf (n1 : Nat) (hv : HV) (post : Int32 → HV → Prop) : Prop := (∀ x1 : Int64, x1 = (((Int32.toInt64 (hv 15 0 (n1 + 17))) + (Int32.toInt64 (hv 15 0 (n1 + 18)))) + (Int32.toInt64 (hv 15 0 (n1 + 19)))) → (((lg_cmp x1 0) = 0 → post (-1005) hv) ∧ (¬ ((lg_cmp x1 0) = 0) → (¬ (x1 * (Int32.toInt64 (hv 15 0 (n1 + 0)))) = 0 ∧ post (Int64.toInt32 (((1000 * (Int32.toInt64 (hv 15 0 (n1 + 19)))) * (Int32.toInt64 (hv 15 0 (n1 + 4)))) / (x1 * (Int32.toInt64 (hv 15 0 (n1 + 0)))))) hv))))
set_option maxHeartbeats 4000000 in
theorem c_X9_efficiencyOf (l : Launch) (G : wG) (A : Nat → Prop) (n1 : Nat) (hn1 : n1 + 73 ≤ 370) (hv : HV) (post : Int32 → HV → Prop) (h : V_X9_efficiencyOf n1 hv post) : wM l yX9_efficiencyOf cX9_efficiencyOf 4 ((Option.some FieldType.int)) 0 G A hv [.ref (ad G 9 0), .int (nI n1)] (qI G A post) := by
  refine wM_of (by decide +kernel) (Nat.le_of_ble_eq_true rfl) ?_
  intro p e s m args below meth c C0 hr ls hl hW hS
  have hx := C0.1
  have hb := C0.2.1
  have hown := C0.2.2.2.1
  have hts := C0.2.2.2.2.1
  have hl : lv_has ls 4 [(0, .ref (ad G 9 0)), (1, .int (nI n1))] := hl
  unfold V_X9_efficiencyOf at h
  refine lv_aload_n hx hb dX9_efficiencyOf_0 rfl (lv_at hl 0 rfl) ?_
  refine w_get (v := .ref (ad G 15 0)) C0 hW 9 0 (by decide) (by decide) rfl rfl in_X9 0 (by decide) w_762 rfl dX9_efficiencyOf_1 ?_
  refine lv_iload_n hx hb dX9_efficiencyOf_4 rfl (lv_at hl 1 rfl) ?_
  refine lv_bipush (v := 17) hx hb dX9_efficiencyOf_5 (by decide) ?_
  refine lv_iadd hx hb dX9_efficiencyOf_7 ?_
  refine w_top (y := nI (n1 + 17)) (nI_add n1 17) ?_
  refine w_ialdN C0 hW 15 0 (by decide) (by decide) (n := 370) rfl (j := (n1 + 17)) rfl (by omega) (by decide) dX9_efficiencyOf_8 ?_
  refine lv_i2l hx hb dX9_efficiencyOf_9 rfl ?_
  refine lv_aload_n hx hb dX9_efficiencyOf_10 rfl (lv_at hl 0 rfl) ?_
  refine w_get (v := .ref (ad G 15 0)) C0 hW 9 0 (by decide) (by decide) rfl rfl in_X9 0 (by decide) w_762 rfl dX9_efficiencyOf_11 ?_
  refine lv_iload_n hx hb dX9_efficiencyOf_14 rfl (lv_at hl 1 rfl) ?_
  refine lv_bipush (v := 18) hx hb dX9_efficiencyOf_15 (by decide) ?_
  refine lv_iadd hx hb dX9_efficiencyOf_17 ?_
  refine w_top (y := nI (n1 + 18)) (nI_add n1 18) ?_
  refine w_ialdN C0 hW 15 0 (by decide) (by decide) (n := 370) rfl (j := (n1 + 18)) rfl (by omega) (by decide) dX9_efficiencyOf_18 ?_
  refine lv_i2l hx hb dX9_efficiencyOf_19 rfl ?_
  refine lv_ladd hx hb dX9_efficiencyOf_20 ?_
  refine lv_aload_n hx hb dX9_efficiencyOf_21 rfl (lv_at hl 0 rfl) ?_
  refine w_get (v := .ref (ad G 15 0)) C0 hW 9 0 (by decide) (by decide) rfl rfl in_X9 0 (by decide) w_762 rfl dX9_efficiencyOf_22 ?_
  refine lv_iload_n hx hb dX9_efficiencyOf_25 rfl (lv_at hl 1 rfl) ?_
  refine lv_bipush (v := 19) hx hb dX9_efficiencyOf_26 (by decide) ?_
  refine lv_iadd hx hb dX9_efficiencyOf_28 ?_
  refine w_top (y := nI (n1 + 19)) (nI_add n1 19) ?_
  refine w_ialdN C0 hW 15 0 (by decide) (by decide) (n := 370) rfl (j := (n1 + 19)) rfl (by omega) (by decide) dX9_efficiencyOf_29 ?_
  refine lv_i2l hx hb dX9_efficiencyOf_30 rfl ?_
  refine lv_ladd hx hb dX9_efficiencyOf_31 ?_
  refine lv_topl (fun x1 ex1 => ?_)
  have h := h x1 ex1
  refine lv_lstore_n (lv' := [(2, .long x1), (0, .ref (ad G 9 0)), (1, .int (nI n1))]) hx hb dX9_efficiencyOf_32 rfl hl (by decide) rfl (fun ls hl => ?_)
  refine lv_lload_n hx hb dX9_efficiencyOf_33 rfl (lv_at hl 0 rfl) ?_
  refine lv_lconst (v := 0) hx hb dX9_efficiencyOf_34 (by decide) ?_
  refine W.lcmp hx hb dX9_efficiencyOf_35 ?_
  refine lv_if_ne (tgt := 45) hx hb dX9_efficiencyOf_36 (by decide) (fun c2 => ?_) (fun c2 => ?_)
  · have h := h.2 c2
    refine lv_ldc2 (v := 1000) hx hb hown (hts _ w_1127) dX9_efficiencyOf_45 ?_
    refine lv_aload_n hx hb dX9_efficiencyOf_48 rfl (lv_at hl 1 rfl) ?_
    refine w_get (v := .ref (ad G 15 0)) C0 hW 9 0 (by decide) (by decide) rfl rfl in_X9 0 (by decide) w_762 rfl dX9_efficiencyOf_49 ?_
    refine lv_iload_n hx hb dX9_efficiencyOf_52 rfl (lv_at hl 2 rfl) ?_
    refine lv_bipush (v := 19) hx hb dX9_efficiencyOf_53 (by decide) ?_
    refine lv_iadd hx hb dX9_efficiencyOf_55 ?_
    refine w_top (y := nI (n1 + 19)) (nI_add n1 19) ?_
    refine w_ialdN C0 hW 15 0 (by decide) (by decide) (n := 370) rfl (j := (n1 + 19)) rfl (by omega) (by decide) dX9_efficiencyOf_56 ?_
    refine lv_i2l hx hb dX9_efficiencyOf_57 rfl ?_
    refine lv_lmul hx hb dX9_efficiencyOf_58 ?_
    refine lv_aload_n hx hb dX9_efficiencyOf_59 rfl (lv_at hl 1 rfl) ?_
    refine w_get (v := .ref (ad G 15 0)) C0 hW 9 0 (by decide) (by decide) rfl rfl in_X9 0 (by decide) w_762 rfl dX9_efficiencyOf_60 ?_
    refine lv_iload_n hx hb dX9_efficiencyOf_63 rfl (lv_at hl 2 rfl) ?_
    refine lv_iconst (v := 4) hx hb dX9_efficiencyOf_64 (by decide) ?_
    refine lv_iadd hx hb dX9_efficiencyOf_65 ?_
    refine w_top (y := nI (n1 + 4)) (nI_add n1 4) ?_
    refine w_ialdN C0 hW 15 0 (by decide) (by decide) (n := 370) rfl (j := (n1 + 4)) rfl (by omega) (by decide) dX9_efficiencyOf_66 ?_
    refine lv_i2l hx hb dX9_efficiencyOf_67 rfl ?_
    refine lv_lmul hx hb dX9_efficiencyOf_68 ?_
    refine lv_lload_n hx hb dX9_efficiencyOf_69 rfl (lv_at hl 0 rfl) ?_
    refine lv_aload_n hx hb dX9_efficiencyOf_70 rfl (lv_at hl 1 rfl) ?_
    refine w_get (v := .ref (ad G 15 0)) C0 hW 9 0 (by decide) (by decide) rfl rfl in_X9 0 (by decide) w_762 rfl dX9_efficiencyOf_71 ?_
    refine lv_iload_n hx hb dX9_efficiencyOf_74 rfl (lv_at hl 2 rfl) ?_
    refine lv_iconst (v := 0) hx hb dX9_efficiencyOf_75 (by decide) ?_
    refine lv_iadd hx hb dX9_efficiencyOf_76 ?_
    refine w_top (y := nI (n1 + 0)) (nI_add n1 0) ?_
    refine w_ialdN C0 hW 15 0 (by decide) (by decide) (n := 370) rfl (j := (n1 + 0)) rfl (by omega) (by decide) dX9_efficiencyOf_77 ?_
    refine lv_i2l hx hb dX9_efficiencyOf_78 rfl ?_
    refine lv_lmul hx hb dX9_efficiencyOf_79 ?_
    obtain ⟨q3, h⟩ := h
    refine lv_ldiv hx hb dX9_efficiencyOf_80 q3 ?_
    refine lv_l2i hx hb dX9_efficiencyOf_81 rfl ?_
    exact w_iret C0 hr hW hS h dX9_efficiencyOf_82
  · have h := h.1 c2
    refine lv_sipush (v := (-1005)) hx hb dX9_efficiencyOf_39 (by decide) ?_
    refine lv_goto (tgt := 82) hx hb dX9_efficiencyOf_42 (by decide) ?_
    exact w_iret C0 hr hW hS h dX9_efficiencyOf_82

theorem pl_X9_efficiency : yX9_efficiency.cls ≠ "java/lang/invoke/MethodHandle" ∧ yX9_efficiency.cls ≠ "java/lang/invoke/VarHandle" ∧ (parseMethodDescriptor yX9_efficiency.desc).map (fun d => d.parameters.length) = some 1 := ⟨by decide +kernel, by decide +kernel, by decide +kernel⟩
def V_X9_efficiency (a1 : Int32) (hv : HV) (post : Int32 → HV → Prop) : Prop := (V_X9_isPump a1 hv (fun r1 hv1 => ((r1 = 0 → post (-1001) hv1) ∧ (¬ (r1 = 0) → (V_X9_at a1 hv1 (fun r3 hv3 => (∃ m3 : Nat, r3 = nI m3 ∧ (m3 + 73 ≤ 370) ∧ (V_X9_efficiencyOf m3 hv3 (fun r4 hv4 => post r4 hv4)))))))))
set_option maxHeartbeats 4000000 in
theorem c_X9_efficiency (l : Launch) (G : wG) (A : Nat → Prop) (a1 : Int32) (hv : HV) (post : Int32 → HV → Prop) (h : V_X9_efficiency a1 hv post) : wM l yX9_efficiency cX9_efficiency 2 ((Option.some FieldType.int)) 2 G A hv [.ref (ad G 9 0), .int a1] (qI G A post) := by
  refine wM_of (by decide +kernel) (Nat.le_of_ble_eq_true rfl) ?_
  intro p e s m args below meth c C0 hr ls hl hW hS
  have hx := C0.1
  have hb := C0.2.1
  have hown := C0.2.2.2.1
  have hts := C0.2.2.2.2.1
  have hl : lv_has ls 2 [(0, .ref (ad G 9 0)), (1, .int a1)] := hl
  unfold V_X9_efficiency at h
  refine lv_aload_n hx hb dX9_efficiency_0 rfl (lv_at hl 0 rfl) ?_
  refine lv_iload_n hx hb dX9_efficiency_1 rfl (lv_at hl 1 rfl) ?_
  refine w_ci hS (w_runV (As := [.int a1]) C0 hW 9 0 (by decide) (by decide) rfl rfl (c_X9_isPump l G A a1 hv _ h) ⟨⟨w_846, w_61, w_849⟩, pl_X9_isPump, ⟨Nat.le_of_ble_eq_true rfl, Nat.le_of_ble_eq_true rfl⟩, ⟨Nat.le_refl _, Nat.le_refl _⟩⟩ ⟨w_848, w_11⟩ rfl hl.1 rfl (Nat.le_of_ble_eq_true rfl) dX9_efficiency_2) (fun r1 hv1 h H locs hW hS => ?_)
  refine lv_if_eq (tgt := 19) hx hb dX9_efficiency_5 (by decide) (fun c2 => ?_) (fun c2 => ?_)
  · have h := h.1 c2
    refine lv_sipush (v := (-1001)) hx hb dX9_efficiency_19 (by decide) ?_
    exact w_iret C0 hr hW hS h dX9_efficiency_22
  · have h := h.2 c2
    refine lv_aload_n hx hb dX9_efficiency_8 rfl (lv_at hl 0 rfl) ?_
    refine lv_iload_n hx hb dX9_efficiency_9 rfl (lv_at hl 1 rfl) ?_
    refine w_ci hS (w_runS (As := [.int a1]) C0 hW (c_X9_at l G A a1 hv1 _ h) ⟨⟨w_835, w_61, w_837⟩, pl_X9_at, ⟨Nat.le_of_ble_eq_true rfl, Nat.le_of_ble_eq_true rfl⟩, ⟨Nat.le_refl _, Nat.le_refl _⟩⟩ w_836 rfl hl.1 rfl (Nat.le_of_ble_eq_true rfl) dX9_efficiency_10) (fun r3 hv3 h H locs hW hS => ?_)
    obtain ⟨m3, em3, im3, h⟩ := h
    subst em3
    refine w_ci hS (w_runV (As := [.int (nI m3)]) C0 hW 9 0 (by decide) (by decide) rfl rfl (c_X9_efficiencyOf l G A m3 (by omega) hv3 _ h) ⟨⟨w_1123, w_61, w_1126⟩, pl_X9_efficiencyOf, ⟨Nat.le_of_ble_eq_true rfl, Nat.le_of_ble_eq_true rfl⟩, ⟨Nat.le_refl _, Nat.le_refl _⟩⟩ ⟨w_1125, w_45⟩ rfl hl.1 rfl (Nat.le_of_ble_eq_true rfl) dX9_efficiency_13) (fun r4 hv4 h H locs hW hS => ?_)
    refine lv_goto (tgt := 22) hx hb dX9_efficiency_16 (by decide) ?_
    exact w_iret C0 hr hW hS h dX9_efficiency_22

def V_X9_bestPump_10 (post : Int32 → HV → Prop) : Nat → Int32 → Int32 → Int32 → HV → Prop
  | 0, _, _, _, _ => False
  | n10 + 1, v1, v2, v3, hv => (((hv 15 0 4) ≤ v3 → post v1 hv) ∧ (¬ ((hv 15 0 4) ≤ v3) → (V_X9_at v3 hv (fun r2 hv2 => (∃ m2 : Nat, r2 = nI m2 ∧ (m2 + 73 ≤ 370) ∧ (V_X9_efficiencyOf m2 hv2 (fun r3 hv3 => ((r3 ≤ v2 → ((r3 ≤ v2 → (∀ x6 : Int32, x6 = v3 + 1 → V_X9_bestPump_10 post n10 v1 v2 x6 hv3)) ∧ (¬ (r3 ≤ v2) → (∀ x7 : Int32, x7 = v3 + 1 → V_X9_bestPump_10 post n10 v1 r3 x7 hv3)))) ∧ (¬ (r3 ≤ v2) → ((r3 ≤ v2 → (∀ x9 : Int32, x9 = v3 + 1 → V_X9_bestPump_10 post n10 v3 v2 x9 hv3)) ∧ (¬ (r3 ≤ v2) → (∀ x10 : Int32, x10 = v3 + 1 → V_X9_bestPump_10 post n10 v3 r3 x10 hv3))))))))))))
set_option maxHeartbeats 4000000 in
theorem k_X9_bestPump_10 {p : Program} {l : Launch} {e : Env} {s : State} {m : MethodId} {args : Array Value} {below : List Frame} {meth : Method} {c : Code} {G : wG} {A : Nat → Prop} (post : Int32 → HV → Prop) (C0 : cx p s m args meth c "RamStationModel" cX9_bestPump 5 G) (hr : meth.sig.returnType = (Option.some FieldType.int))   : ∀ (n : Nat) (v1 : Int32) (v2 : Int32) (v3 : Int32) (hv : HV), V_X9_bestPump_10 post n v1 v2 v3 hv → ∀ (H : Heap) (locs : List Loc) (ls : Array Slot), wd G A hv H → va_S A s.heap H locs → lv_has ls 5 [(0, .ref (ad G 9 0)), (1, .int v1), (2, .int v2), (3, .int v3)] → W p l e (wrm 1) s m args below meth c H locs 0 0 (MQ below (qI G A post) args s 0 0 A) (F0 m 10 ls []) := by
  have hx := C0.1
  have hb := C0.2.1
  have hown := C0.2.2.2.1
  have hts := C0.2.2.2.2.1
  intro n
  induction n with
  | zero =>
    intro v1 v2 v3 hv  h
    exact (h : False).elim
  | succ n ih =>
    intro v1 v2 v3 hv  h H locs ls hW hS hl
    rw [V_X9_bestPump_10] at h
    refine lv_iload_n hx hb dX9_bestPump_10 rfl (lv_at hl 3 rfl) ?_
    refine lv_aload_n hx hb dX9_bestPump_11 rfl (lv_at hl 0 rfl) ?_
    refine w_get (v := .ref (ad G 15 0)) C0 hW 9 0 (by decide) (by decide) rfl rfl in_X9 0 (by decide) w_762 rfl dX9_bestPump_12 ?_
    refine lv_iconst (v := 4) hx hb dX9_bestPump_15 (by decide) ?_
    refine w_ialdN C0 hW 15 0 (by decide) (by decide) (n := 370) rfl (j := 4) rfl (by omega) (by decide) dX9_bestPump_16 ?_
    refine lv_icmp_ge (tgt := 61) hx hb dX9_bestPump_17 (by decide) (fun c1 => ?_) (fun c1 => ?_)
    · have h := h.1 c1
      refine lv_iload_n hx hb dX9_bestPump_61 rfl (lv_at hl 1 rfl) ?_
      exact w_iret C0 hr hW hS h dX9_bestPump_62
    · have h := h.2 c1
      refine lv_aload_n hx hb dX9_bestPump_20 rfl (lv_at hl 0 rfl) ?_
      refine lv_iload_n hx hb dX9_bestPump_21 rfl (lv_at hl 3 rfl) ?_
      refine w_ci hS (w_runS (As := [.int v3]) C0 hW (c_X9_at l G A v3 hv _ h) ⟨⟨w_835, w_61, w_837⟩, pl_X9_at, ⟨Nat.le_of_ble_eq_true rfl, Nat.le_of_ble_eq_true rfl⟩, ⟨Nat.le_refl _, Nat.le_refl _⟩⟩ w_836 rfl hl.1 rfl (Nat.le_of_ble_eq_true rfl) dX9_bestPump_22) (fun r2 hv2 h H locs hW hS => ?_)
      obtain ⟨m2, em2, im2, h⟩ := h
      subst em2
      refine w_ci hS (w_runV (As := [.int (nI m2)]) C0 hW 9 0 (by decide) (by decide) rfl rfl (c_X9_efficiencyOf l G A m2 (by omega) hv2 _ h) ⟨⟨w_1123, w_61, w_1126⟩, pl_X9_efficiencyOf, ⟨Nat.le_of_ble_eq_true rfl, Nat.le_of_ble_eq_true rfl⟩, ⟨Nat.le_refl _, Nat.le_refl _⟩⟩ ⟨w_1125, w_45⟩ rfl hl.1 rfl (Nat.le_of_ble_eq_true rfl) dX9_bestPump_25) (fun r3 hv3 h H locs hW hS => ?_)
      refine lv_istore (lv' := [(4, .int r3), (0, .ref (ad G 9 0)), (1, .int v1), (2, .int v2), (3, .int v3)]) hx hb dX9_bestPump_28 hl (by decide) rfl (fun ls hl => ?_)
      refine lv_iload hx hb dX9_bestPump_30 (lv_at hl 0 rfl) ?_
      refine lv_iload_n hx hb dX9_bestPump_32 rfl (lv_at hl 3 rfl) ?_
      refine lv_icmp_le (tgt := 40) hx hb dX9_bestPump_33 (by decide) (fun c4 => ?_) (fun c4 => ?_)
      · have h := h.1 c4
        refine lv_iload_n hx hb dX9_bestPump_40 rfl (lv_at hl 2 rfl) ?_
        refine lv_istore_n (lv' := [(1, .int v1), (4, .int r3), (0, .ref (ad G 9 0)), (2, .int v2), (3, .int v3)]) hx hb dX9_bestPump_41 rfl hl (by decide) rfl (fun ls hl => ?_)
        refine lv_iload hx hb dX9_bestPump_42 (lv_at hl 1 rfl) ?_
        refine lv_iload_n hx hb dX9_bestPump_44 rfl (lv_at hl 3 rfl) ?_
        refine lv_icmp_le (tgt := 53) hx hb dX9_bestPump_45 (by decide) (fun c5 => ?_) (fun c5 => ?_)
        · have h := h.1 c5
          refine lv_iload_n hx hb dX9_bestPump_53 rfl (lv_at hl 3 rfl) ?_
          refine lv_istore_n (lv' := [(2, .int v2), (1, .int v1), (4, .int r3), (0, .ref (ad G 9 0)), (3, .int v3)]) hx hb dX9_bestPump_54 rfl hl (by decide) rfl (fun ls hl => ?_)
          obtain ⟨x6, ex6⟩ : ∃ y : Int32, y = v3 + 1 := ⟨_, rfl⟩
          have h := h x6 ex6
          refine lv_iinc (v := x6) (lv' := [(3, .int x6), (2, .int v2), (1, .int v1), (4, .int r3), (0, .ref (ad G 9 0))]) hx hb dX9_bestPump_55 hl (k := 4) rfl (by rw [ex6]; rfl) (by decide) rfl (fun ls hl => ?_)
          refine lv_goto (tgt := 10) hx hb dX9_bestPump_58 (by decide) ?_
          exact ih v1 v2 x6 hv3 h _ _ _ hW hS (lv_sub hl [4, 2, 1, 0] rfl)
        · have h := h.2 c5
          refine lv_iload hx hb dX9_bestPump_48 (lv_at hl 1 rfl) ?_
          refine lv_goto (tgt := 54) hx hb dX9_bestPump_50 (by decide) ?_
          refine lv_istore_n (lv' := [(2, .int r3), (1, .int v1), (4, .int r3), (0, .ref (ad G 9 0)), (3, .int v3)]) hx hb dX9_bestPump_54 rfl hl (by decide) rfl (fun ls hl => ?_)
          obtain ⟨x7, ex7⟩ : ∃ y : Int32, y = v3 + 1 := ⟨_, rfl⟩
          have h := h x7 ex7
          refine lv_iinc (v := x7) (lv' := [(3, .int x7), (2, .int r3), (1, .int v1), (4, .int r3), (0, .ref (ad G 9 0))]) hx hb dX9_bestPump_55 hl (k := 4) rfl (by rw [ex7]; rfl) (by decide) rfl (fun ls hl => ?_)
          refine lv_goto (tgt := 10) hx hb dX9_bestPump_58 (by decide) ?_
          exact ih v1 r3 x7 hv3 h _ _ _ hW hS (lv_sub hl [4, 2, 1, 0] rfl)
      · have h := h.2 c4
        refine lv_iload_n hx hb dX9_bestPump_36 rfl (lv_at hl 4 rfl) ?_
        refine lv_goto (tgt := 41) hx hb dX9_bestPump_37 (by decide) ?_
        refine lv_istore_n (lv' := [(1, .int v3), (4, .int r3), (0, .ref (ad G 9 0)), (2, .int v2), (3, .int v3)]) hx hb dX9_bestPump_41 rfl hl (by decide) rfl (fun ls hl => ?_)
        refine lv_iload hx hb dX9_bestPump_42 (lv_at hl 1 rfl) ?_
        refine lv_iload_n hx hb dX9_bestPump_44 rfl (lv_at hl 3 rfl) ?_
        refine lv_icmp_le (tgt := 53) hx hb dX9_bestPump_45 (by decide) (fun c8 => ?_) (fun c8 => ?_)
        · have h := h.1 c8
          refine lv_iload_n hx hb dX9_bestPump_53 rfl (lv_at hl 3 rfl) ?_
          refine lv_istore_n (lv' := [(2, .int v2), (1, .int v3), (4, .int r3), (0, .ref (ad G 9 0)), (3, .int v3)]) hx hb dX9_bestPump_54 rfl hl (by decide) rfl (fun ls hl => ?_)
          obtain ⟨x9, ex9⟩ : ∃ y : Int32, y = v3 + 1 := ⟨_, rfl⟩
          have h := h x9 ex9
          refine lv_iinc (v := x9) (lv' := [(3, .int x9), (2, .int v2), (1, .int v3), (4, .int r3), (0, .ref (ad G 9 0))]) hx hb dX9_bestPump_55 hl (k := 4) rfl (by rw [ex9]; rfl) (by decide) rfl (fun ls hl => ?_)
          refine lv_goto (tgt := 10) hx hb dX9_bestPump_58 (by decide) ?_
          exact ih v3 v2 x9 hv3 h _ _ _ hW hS (lv_sub hl [4, 2, 1, 0] rfl)
        · have h := h.2 c8
          refine lv_iload hx hb dX9_bestPump_48 (lv_at hl 1 rfl) ?_
          refine lv_goto (tgt := 54) hx hb dX9_bestPump_50 (by decide) ?_
          refine lv_istore_n (lv' := [(2, .int r3), (1, .int v3), (4, .int r3), (0, .ref (ad G 9 0)), (3, .int v3)]) hx hb dX9_bestPump_54 rfl hl (by decide) rfl (fun ls hl => ?_)
          obtain ⟨x10, ex10⟩ : ∃ y : Int32, y = v3 + 1 := ⟨_, rfl⟩
          have h := h x10 ex10
          refine lv_iinc (v := x10) (lv' := [(3, .int x10), (2, .int r3), (1, .int v3), (4, .int r3), (0, .ref (ad G 9 0))]) hx hb dX9_bestPump_55 hl (k := 4) rfl (by rw [ex10]; rfl) (by decide) rfl (fun ls hl => ?_)
          refine lv_goto (tgt := 10) hx hb dX9_bestPump_58 (by decide) ?_
          exact ih v3 r3 x10 hv3 h _ _ _ hW hS (lv_sub hl [4, 2, 1, 0] rfl)
theorem pl_X9_bestPump : yX9_bestPump.cls ≠ "java/lang/invoke/MethodHandle" ∧ yX9_bestPump.cls ≠ "java/lang/invoke/VarHandle" ∧ (parseMethodDescriptor yX9_bestPump.desc).map (fun d => d.parameters.length) = some 0 := ⟨by decide +kernel, by decide +kernel, by decide +kernel⟩
def V_X9_bestPump  (hv : HV) (post : Int32 → HV → Prop) : Prop := (∃ n10, V_X9_bestPump_10 post n10 (-1005) (-1005) 0 hv)
set_option maxHeartbeats 4000000 in
theorem c_X9_bestPump (l : Launch) (G : wG) (A : Nat → Prop) (hv : HV) (post : Int32 → HV → Prop) (h : V_X9_bestPump hv post) : wM l yX9_bestPump cX9_bestPump 5 ((Option.some FieldType.int)) 1 G A hv [.ref (ad G 9 0)] (qI G A post) := by
  refine wM_of (by decide +kernel) (Nat.le_of_ble_eq_true rfl) ?_
  intro p e s m args below meth c C0 hr ls hl hW hS
  have hx := C0.1
  have hb := C0.2.1
  have hown := C0.2.2.2.1
  have hts := C0.2.2.2.2.1
  have hl : lv_has ls 5 [(0, .ref (ad G 9 0))] := hl
  unfold V_X9_bestPump at h
  refine lv_sipush (v := (-1005)) hx hb dX9_bestPump_0 (by decide) ?_
  refine lv_istore_n (lv' := [(1, .int (-1005)), (0, .ref (ad G 9 0))]) hx hb dX9_bestPump_3 rfl hl (by decide) rfl (fun ls hl => ?_)
  refine lv_sipush (v := (-1005)) hx hb dX9_bestPump_4 (by decide) ?_
  refine lv_istore_n (lv' := [(2, .int (-1005)), (1, .int (-1005)), (0, .ref (ad G 9 0))]) hx hb dX9_bestPump_7 rfl hl (by decide) rfl (fun ls hl => ?_)
  refine lv_iconst (v := 0) hx hb dX9_bestPump_8 (by decide) ?_
  refine lv_istore_n (lv' := [(3, .int 0), (2, .int (-1005)), (1, .int (-1005)), (0, .ref (ad G 9 0))]) hx hb dX9_bestPump_9 rfl hl (by decide) rfl (fun ls hl => ?_)
  obtain ⟨n11, h⟩ := h
  exact k_X9_bestPump_10 post C0 hr n11 (-1005) (-1005) 0 hv h _ _ _ hW hS (lv_sub hl [3, 2, 1, 0] rfl)

def V_X9_beginTrial_2 (a1 : Int32) (a2 : Int32) (post : HV → Prop) (k_35 : HV → Prop) : Nat → Nat → HV → Prop
  | 0, _, _ => False
  | n2 + 1, v3, hv => ((73 ≤ v3 → k_35 hv) ∧ (¬ (73 ≤ v3) → (V_X9_at a1 hv (fun r2 hv2 => (∃ m2 : Nat, r2 = nI m2 ∧ (m2 + 73 ≤ 370) ∧ (∀ hv3 : HV, hv3 = up hv2 15 0 (upd (hv2 15 0) (297 + v3) (hv2 15 0 (m2 + v3))) → V_X9_beginTrial_2 a1 a2 post k_35 n2 (v3 + 1) hv3))))))
set_option maxHeartbeats 4000000 in
theorem k_X9_beginTrial_2 {p : Program} {l : Launch} {e : Env} {s : State} {m : MethodId} {args : Array Value} {below : List Frame} {meth : Method} {c : Code} {G : wG} {A : Nat → Prop} (a1 : Int32) (a2 : Int32) (post : HV → Prop) (k_35 : HV → Prop) (C0 : cx p s m args meth c "RamStationModel" cX9_beginTrial 4 G) (hr : meth.sig.returnType = (Option.none : Option FieldType))  (hk_35 : ∀  (hv : HV),  k_35  hv → ∀ (H : Heap) (locs : List Loc) (ls : Array Slot), wd G A hv H → va_S A s.heap H locs → lv_has ls 4 [(0, .ref (ad G 9 0)), (2, .int a2)] → W p l e (wrm 1) s m args below meth c H locs 0 0 (MQ below (qV G A post) args s 0 0 A) (F0 m 35 ls [])) : ∀ (n : Nat) (v3 : Nat) (hv : HV), v3 ≤ 73 → V_X9_beginTrial_2 a1 a2 post k_35 n v3 hv → ∀ (H : Heap) (locs : List Loc) (ls : Array Slot), wd G A hv H → va_S A s.heap H locs → lv_has ls 4 [(0, .ref (ad G 9 0)), (1, .int a1), (2, .int a2), (3, .int (nI v3))] → W p l e (wrm 1) s m args below meth c H locs 0 0 (MQ below (qV G A post) args s 0 0 A) (F0 m 2 ls []) := by
  have hx := C0.1
  have hb := C0.2.1
  have hown := C0.2.2.2.1
  have hts := C0.2.2.2.2.1
  intro n
  induction n with
  | zero =>
    intro v3 hv j0 h
    exact (h : False).elim
  | succ n ih =>
    intro v3 hv j0 h H locs ls hW hS hl
    rw [V_X9_beginTrial_2] at h
    refine lv_iload_n hx hb dX9_beginTrial_2 rfl (lv_at hl 3 rfl) ?_
    refine lv_bipush (v := 73) hx hb dX9_beginTrial_3 (by decide) ?_
    refine lv_icmp_ge (tgt := 35) hx hb dX9_beginTrial_5 (by decide) (fun c1 => ?_) (fun c1 => ?_)
    · have c1 : 73 ≤ v3 := (nI_leI (a := 73) (b := v3) (by omega) (by omega)).mp c1
      have h := h.1 c1
      exact hk_35 hv h _ _ _ hW hS (lv_sub hl [0, 2] rfl)
    · have c1 : ¬ (73 ≤ v3) := fun z => c1 ((nI_leI (a := 73) (b := v3) (by omega) (by omega)).mpr z)
      have h := h.2 c1
      refine lv_aload_n hx hb dX9_beginTrial_8 rfl (lv_at hl 0 rfl) ?_
      refine w_get (v := .ref (ad G 15 0)) C0 hW 9 0 (by decide) (by decide) rfl rfl in_X9 0 (by decide) w_762 rfl dX9_beginTrial_9 ?_
      refine lv_sipush (v := 297) hx hb dX9_beginTrial_12 (by decide) ?_
      refine lv_iload_n hx hb dX9_beginTrial_15 rfl (lv_at hl 3 rfl) ?_
      refine lv_iadd hx hb dX9_beginTrial_16 ?_
      refine w_top (y := nI (297 + v3)) (nI_add 297 v3) ?_
      refine lv_aload_n hx hb dX9_beginTrial_17 rfl (lv_at hl 0 rfl) ?_
      refine w_get (v := .ref (ad G 15 0)) C0 hW 9 0 (by decide) (by decide) rfl rfl in_X9 0 (by decide) w_762 rfl dX9_beginTrial_18 ?_
      refine lv_iload_n hx hb dX9_beginTrial_21 rfl (lv_at hl 1 rfl) ?_
      refine w_ci hS (w_runS (As := [.int a1]) C0 hW (c_X9_at l G A a1 hv _ h) ⟨⟨w_835, w_61, w_837⟩, pl_X9_at, ⟨Nat.le_of_ble_eq_true rfl, Nat.le_of_ble_eq_true rfl⟩, ⟨Nat.le_refl _, Nat.le_refl _⟩⟩ w_836 rfl hl.1 rfl (Nat.le_of_ble_eq_true rfl) dX9_beginTrial_22) (fun r2 hv2 h H locs hW hS => ?_)
      obtain ⟨m2, em2, im2, h⟩ := h
      subst em2
      refine lv_iload_n hx hb dX9_beginTrial_25 rfl (lv_at hl 3 rfl) ?_
      refine lv_iadd hx hb dX9_beginTrial_26 ?_
      refine w_top (y := nI (m2 + v3)) (nI_add m2 v3) ?_
      refine w_ialdN C0 hW 15 0 (by decide) (by decide) (n := 370) rfl (j := (m2 + v3)) rfl (by omega) (by decide) dX9_beginTrial_27 ?_
      refine w_iastN C0 hW hS 15 0 (by decide) (by decide) (n := 370) (fun _ => rfl) (j := (297 + v3)) rfl (by omega) (by decide) dX9_beginTrial_28 (fun hv3 ehv3 H locs hW hS => ?_)
      have h := h hv3 ehv3
      refine lv_iinc (v := (nI (v3 + 1))) (lv' := [(3, .int (nI (v3 + 1))), (0, .ref (ad G 9 0)), (1, .int a1), (2, .int a2)]) hx hb dX9_beginTrial_29 hl (k := 3) rfl (nI_add v3 1) (by decide) rfl (fun ls hl => ?_)
      refine lv_goto (tgt := 2) hx hb dX9_beginTrial_32 (by decide) ?_
      exact ih (v3 + 1) hv3 (by omega) h _ _ _ hW hS (lv_sub hl [1, 2, 3, 0] rfl)
theorem pl_X9_beginTrial : yX9_beginTrial.cls ≠ "java/lang/invoke/MethodHandle" ∧ yX9_beginTrial.cls ≠ "java/lang/invoke/VarHandle" ∧ (parseMethodDescriptor yX9_beginTrial.desc).map (fun d => d.parameters.length) = some 2 := ⟨by decide +kernel, by decide +kernel, by decide +kernel⟩
def V_X9_beginTrial (a1 : Int32) (a2 : Int32) (hv : HV) (post : HV → Prop) : Prop := (∃ n2, V_X9_beginTrial_2 a1 a2 post (fun hv4 => ((a2 = 0 → (∀ hv6 : HV, hv6 = up hv4 9 0 (upd (hv4 9 0) 8 0) → (∀ hv7 : HV, hv7 = up hv6 9 0 (upd (hv6 9 0) 9 0) → post hv7))) ∧ (¬ (a2 = 0) → (V_X9_open 297 hv4 (fun hv8 => (∀ hv9 : HV, hv9 = up hv8 9 0 (upd (hv8 9 0) 8 0) → (∀ hv10 : HV, hv10 = up hv9 9 0 (upd (hv9 9 0) 9 0) → post hv10))))))) n2 0 hv)
set_option maxHeartbeats 4000000 in
theorem c_X9_beginTrial (l : Launch) (G : wG) (A : Nat → Prop) (a1 : Int32) (a2 : Int32) (hv : HV) (post : HV → Prop) (h : V_X9_beginTrial a1 a2 hv post) : wM l yX9_beginTrial cX9_beginTrial 4 ((Option.none : Option FieldType)) 1 G A hv [.ref (ad G 9 0), .int a1, .int a2] (qV G A post) := by
  refine wM_of (by decide +kernel) (Nat.le_of_ble_eq_true rfl) ?_
  intro p e s m args below meth c C0 hr ls hl hW hS
  have hx := C0.1
  have hb := C0.2.1
  have hown := C0.2.2.2.1
  have hts := C0.2.2.2.2.1
  have hl : lv_has ls 4 [(0, .ref (ad G 9 0)), (1, .int a1), (2, .int a2)] := hl
  unfold V_X9_beginTrial at h
  refine lv_iconst (v := 0) hx hb dX9_beginTrial_0 (by decide) ?_
  refine lv_istore_n (lv' := [(3, .int 0), (0, .ref (ad G 9 0)), (1, .int a1), (2, .int a2)]) hx hb dX9_beginTrial_1 rfl hl (by decide) rfl (fun ls hl => ?_)
  obtain ⟨n11, h⟩ := h
  refine k_X9_beginTrial_2 a1 a2 post _ C0 hr (fun hv4 h H locs ls hW hS hl => ?_) n11 0 hv (by omega) h _ _ _ hW hS (lv_sub hl [1, 2, 3, 0] rfl)
  refine lv_iload_n hx hb dX9_beginTrial_35 rfl (lv_at hl 1 rfl) ?_
  refine lv_if_eq (tgt := 46) hx hb dX9_beginTrial_36 (by decide) (fun c5 => ?_) (fun c5 => ?_)
  · have h := h.1 c5
    refine lv_aload_n hx hb dX9_beginTrial_46 rfl (lv_at hl 0 rfl) ?_
    refine lv_iconst (v := 0) hx hb dX9_beginTrial_47 (by decide) ?_
    refine w_put (v := 0) C0 hW hS 9 0 (by decide) (by decide) rfl rfl in_X9 tyX9_ok nmX9 8 (by decide) w_770 rfl rfl rfl (Nat.le_of_ble_eq_true rfl) rfl dX9_beginTrial_48 (fun hv6 ehv6 H locs hW hS => ?_)
    have h := h hv6 ehv6
    refine lv_aload_n hx hb dX9_beginTrial_51 rfl (lv_at hl 0 rfl) ?_
    refine lv_iconst (v := 0) hx hb dX9_beginTrial_52 (by decide) ?_
    refine w_put (v := 0) C0 hW hS 9 0 (by decide) (by decide) rfl rfl in_X9 tyX9_ok nmX9 9 (by decide) w_771 rfl rfl rfl (Nat.le_of_ble_eq_true rfl) rfl dX9_beginTrial_53 (fun hv7 ehv7 H locs hW hS => ?_)
    have h := h hv7 ehv7
    exact w_vret C0 hr hW hS h dX9_beginTrial_56
  · have h := h.2 c5
    refine lv_aload_n hx hb dX9_beginTrial_39 rfl (lv_at hl 0 rfl) ?_
    refine lv_sipush (v := 297) hx hb dX9_beginTrial_40 (by decide) ?_
    refine w_cv hS (w_runV (As := [.int 297]) C0 hW 9 0 (by decide) (by decide) rfl rfl (c_X9_open l G A 297 (by omega) hv4 _ h) ⟨⟨w_894, w_61, w_897⟩, pl_X9_open, ⟨Nat.le_of_ble_eq_true rfl, Nat.le_of_ble_eq_true rfl⟩, ⟨Nat.le_refl _, Nat.le_refl _⟩⟩ ⟨w_896, w_19⟩ rfl hl.1 rfl (Nat.le_of_ble_eq_true rfl) dX9_beginTrial_43) (fun hv8 h H locs hW hS => ?_)
    refine lv_aload_n hx hb dX9_beginTrial_46 rfl (lv_at hl 0 rfl) ?_
    refine lv_iconst (v := 0) hx hb dX9_beginTrial_47 (by decide) ?_
    refine w_put (v := 0) C0 hW hS 9 0 (by decide) (by decide) rfl rfl in_X9 tyX9_ok nmX9 8 (by decide) w_770 rfl rfl rfl (Nat.le_of_ble_eq_true rfl) rfl dX9_beginTrial_48 (fun hv9 ehv9 H locs hW hS => ?_)
    have h := h hv9 ehv9
    refine lv_aload_n hx hb dX9_beginTrial_51 rfl (lv_at hl 0 rfl) ?_
    refine lv_iconst (v := 0) hx hb dX9_beginTrial_52 (by decide) ?_
    refine w_put (v := 0) C0 hW hS 9 0 (by decide) (by decide) rfl rfl in_X9 tyX9_ok nmX9 9 (by decide) w_771 rfl rfl rfl (Nat.le_of_ble_eq_true rfl) rfl dX9_beginTrial_53 (fun hv10 ehv10 H locs hW hS => ?_)
    have h := h hv10 ehv10
    exact w_vret C0 hr hW hS h dX9_beginTrial_56

def V_X9_goOn_2 (a1 : Int32) (post : HV → Prop) : Nat → Int32 → HV → Prop
  | 0, _, _ => False
  | n2 + 1, v2, hv => ((a1 ≤ v2 → post hv) ∧ (¬ (a1 ≤ v2) → (V_X9_tick 297 (-1005) hv (fun hv2 => (∀ x3 : Int32, x3 = v2 + 1 → V_X9_goOn_2 a1 post n2 x3 hv2)))))
set_option maxHeartbeats 4000000 in
theorem k_X9_goOn_2 {p : Program} {l : Launch} {e : Env} {s : State} {m : MethodId} {args : Array Value} {below : List Frame} {meth : Method} {c : Code} {G : wG} {A : Nat → Prop} (a1 : Int32) (post : HV → Prop) (C0 : cx p s m args meth c "RamStationModel" cX9_goOn 3 G) (hr : meth.sig.returnType = (Option.none : Option FieldType))   : ∀ (n : Nat) (v2 : Int32) (hv : HV), V_X9_goOn_2 a1 post n v2 hv → ∀ (H : Heap) (locs : List Loc) (ls : Array Slot), wd G A hv H → va_S A s.heap H locs → lv_has ls 3 [(0, .ref (ad G 9 0)), (1, .int a1), (2, .int v2)] → W p l e (wrm 4) s m args below meth c H locs 0 0 (MQ below (qV G A post) args s 0 0 A) (F0 m 2 ls []) := by
  have hx := C0.1
  have hb := C0.2.1
  have hown := C0.2.2.2.1
  have hts := C0.2.2.2.2.1
  intro n
  induction n with
  | zero =>
    intro v2 hv  h
    exact (h : False).elim
  | succ n ih =>
    intro v2 hv  h H locs ls hW hS hl
    rw [V_X9_goOn_2] at h
    refine lv_iload_n hx hb dX9_goOn_2 rfl (lv_at hl 2 rfl) ?_
    refine lv_iload_n hx hb dX9_goOn_3 rfl (lv_at hl 1 rfl) ?_
    refine lv_icmp_ge (tgt := 23) hx hb dX9_goOn_4 (by decide) (fun c1 => ?_) (fun c1 => ?_)
    · have h := h.1 c1
      exact w_vret C0 hr hW hS h dX9_goOn_23
    · have h := h.2 c1
      refine lv_aload_n hx hb dX9_goOn_7 rfl (lv_at hl 0 rfl) ?_
      refine lv_sipush (v := 297) hx hb dX9_goOn_8 (by decide) ?_
      refine lv_sipush (v := (-1005)) hx hb dX9_goOn_11 (by decide) ?_
      refine w_cv hS (w_runV (As := [.int 297, .int (-1005)]) C0 hW 9 0 (by decide) (by decide) rfl rfl (c_X9_tick l G A 297 (-1005) (by omega) hv _ h) ⟨⟨w_922, w_61, w_925⟩, pl_X9_tick, ⟨Nat.le_of_ble_eq_true rfl, Nat.le_of_ble_eq_true rfl⟩, ⟨Nat.le_refl _, Nat.le_refl _⟩⟩ ⟨w_924, w_24⟩ rfl hl.1 rfl (Nat.le_of_ble_eq_true rfl) dX9_goOn_14) (fun hv2 h H locs hW hS => ?_)
      obtain ⟨x3, ex3⟩ : ∃ y : Int32, y = v2 + 1 := ⟨_, rfl⟩
      have h := h x3 ex3
      refine lv_iinc (v := x3) (lv' := [(2, .int x3), (0, .ref (ad G 9 0)), (1, .int a1)]) hx hb dX9_goOn_17 hl (k := 2) rfl (by rw [ex3]; rfl) (by decide) rfl (fun ls hl => ?_)
      refine lv_goto (tgt := 2) hx hb dX9_goOn_20 (by decide) ?_
      exact ih x3 hv2 h _ _ _ hW hS (lv_sub hl [1, 2, 0] rfl)
theorem pl_X9_goOn : yX9_goOn.cls ≠ "java/lang/invoke/MethodHandle" ∧ yX9_goOn.cls ≠ "java/lang/invoke/VarHandle" ∧ (parseMethodDescriptor yX9_goOn.desc).map (fun d => d.parameters.length) = some 1 := ⟨by decide +kernel, by decide +kernel, by decide +kernel⟩
def V_X9_goOn (a1 : Int32) (hv : HV) (post : HV → Prop) : Prop := (∃ n2, V_X9_goOn_2 a1 post n2 0 hv)
set_option maxHeartbeats 4000000 in
theorem c_X9_goOn (l : Launch) (G : wG) (A : Nat → Prop) (a1 : Int32) (hv : HV) (post : HV → Prop) (h : V_X9_goOn a1 hv post) : wM l yX9_goOn cX9_goOn 3 ((Option.none : Option FieldType)) 4 G A hv [.ref (ad G 9 0), .int a1] (qV G A post) := by
  refine wM_of (by decide +kernel) (Nat.le_of_ble_eq_true rfl) ?_
  intro p e s m args below meth c C0 hr ls hl hW hS
  have hx := C0.1
  have hb := C0.2.1
  have hown := C0.2.2.2.1
  have hts := C0.2.2.2.2.1
  have hl : lv_has ls 3 [(0, .ref (ad G 9 0)), (1, .int a1)] := hl
  unfold V_X9_goOn at h
  refine lv_iconst (v := 0) hx hb dX9_goOn_0 (by decide) ?_
  refine lv_istore_n (lv' := [(2, .int 0), (0, .ref (ad G 9 0)), (1, .int a1)]) hx hb dX9_goOn_1 rfl hl (by decide) rfl (fun ls hl => ?_)
  obtain ⟨n4, h⟩ := h
  exact k_X9_goOn_2 a1 post C0 hr n4 0 hv h _ _ _ hW hS (lv_sub hl [1, 2, 0] rfl)

def V_X9_ticksToSlam_25 (a1 : Int32) (post : Int32 → HV → Prop) : Nat → Int32 → HV → Prop
  | 0, _, _ => False
  | n25 + 1, v2, hv => ((2000 < v2 → post (-1005) hv) ∧ (¬ (2000 < v2) → (V_X9_tick 297 (-1005) hv (fun hv6 => (((hv6 9 0 7) = 0 → (∀ x8 : Int32, x8 = v2 + 1 → V_X9_ticksToSlam_25 a1 post n25 x8 hv6)) ∧ (¬ ((hv6 9 0 7) = 0) → post v2 hv6))))))
set_option maxHeartbeats 4000000 in
theorem k_X9_ticksToSlam_25 {p : Program} {l : Launch} {e : Env} {s : State} {m : MethodId} {args : Array Value} {below : List Frame} {meth : Method} {c : Code} {G : wG} {A : Nat → Prop} (a1 : Int32) (post : Int32 → HV → Prop) (C0 : cx p s m args meth c "RamStationModel" cX9_ticksToSlam 3 G) (hr : meth.sig.returnType = (Option.some FieldType.int))   : ∀ (n : Nat) (v2 : Int32) (hv : HV), V_X9_ticksToSlam_25 a1 post n v2 hv → ∀ (H : Heap) (locs : List Loc) (ls : Array Slot), wd G A hv H → va_S A s.heap H locs → lv_has ls 3 [(0, .ref (ad G 9 0)), (2, .int v2)] → W p l e (wrm 4) s m args below meth c H locs 0 0 (MQ below (qI G A post) args s 0 0 A) (F0 m 25 ls []) := by
  have hx := C0.1
  have hb := C0.2.1
  have hown := C0.2.2.2.1
  have hts := C0.2.2.2.2.1
  intro n
  induction n with
  | zero =>
    intro v2 hv  h
    exact (h : False).elim
  | succ n ih =>
    intro v2 hv  h H locs ls hW hS hl
    rw [V_X9_ticksToSlam_25] at h
    refine lv_iload_n hx hb dX9_ticksToSlam_25 rfl (lv_at hl 1 rfl) ?_
    refine lv_sipush (v := 2000) hx hb dX9_ticksToSlam_26 (by decide) ?_
    refine lv_icmp_gt (tgt := 57) hx hb dX9_ticksToSlam_29 (by decide) (fun c5 => ?_) (fun c5 => ?_)
    · have h := h.1 c5
      refine lv_sipush (v := (-1005)) hx hb dX9_ticksToSlam_57 (by decide) ?_
      exact w_iret C0 hr hW hS h dX9_ticksToSlam_60
    · have h := h.2 c5
      refine lv_aload_n hx hb dX9_ticksToSlam_32 rfl (lv_at hl 0 rfl) ?_
      refine lv_sipush (v := 297) hx hb dX9_ticksToSlam_33 (by decide) ?_
      refine lv_sipush (v := (-1005)) hx hb dX9_ticksToSlam_36 (by decide) ?_
      refine w_cv hS (w_runV (As := [.int 297, .int (-1005)]) C0 hW 9 0 (by decide) (by decide) rfl rfl (c_X9_tick l G A 297 (-1005) (by omega) hv _ h) ⟨⟨w_922, w_61, w_925⟩, pl_X9_tick, ⟨Nat.le_of_ble_eq_true rfl, Nat.le_of_ble_eq_true rfl⟩, ⟨Nat.le_refl _, Nat.le_refl _⟩⟩ ⟨w_924, w_24⟩ rfl hl.1 rfl (Nat.le_of_ble_eq_true rfl) dX9_ticksToSlam_39) (fun hv6 h H locs hW hS => ?_)
      refine lv_aload_n hx hb dX9_ticksToSlam_42 rfl (lv_at hl 0 rfl) ?_
      refine w_get (v := .int (hv6 9 0 7)) C0 hW 9 0 (by decide) (by decide) rfl rfl in_X9 7 (by decide) w_769 rfl dX9_ticksToSlam_43 ?_
      refine lv_if_eq (tgt := 51) hx hb dX9_ticksToSlam_46 (by decide) (fun c7 => ?_) (fun c7 => ?_)
      · have h := h.1 c7
        obtain ⟨x8, ex8⟩ : ∃ y : Int32, y = v2 + 1 := ⟨_, rfl⟩
        have h := h x8 ex8
        refine lv_iinc (v := x8) (lv' := [(2, .int x8), (0, .ref (ad G 9 0))]) hx hb dX9_ticksToSlam_51 hl (k := 1) rfl (by rw [ex8]; rfl) (by decide) rfl (fun ls hl => ?_)
        refine lv_goto (tgt := 25) hx hb dX9_ticksToSlam_54 (by decide) ?_
        exact ih x8 hv6 h _ _ _ hW hS (lv_sub hl [1, 0] rfl)
      · have h := h.2 c7
        refine lv_iload_n hx hb dX9_ticksToSlam_49 rfl (lv_at hl 1 rfl) ?_
        exact w_iret C0 hr hW hS h dX9_ticksToSlam_50
theorem pl_X9_ticksToSlam : yX9_ticksToSlam.cls ≠ "java/lang/invoke/MethodHandle" ∧ yX9_ticksToSlam.cls ≠ "java/lang/invoke/VarHandle" ∧ (parseMethodDescriptor yX9_ticksToSlam.desc).map (fun d => d.parameters.length) = some 1 := ⟨by decide +kernel, by decide +kernel, by decide +kernel⟩
def V_X9_ticksToSlam (a1 : Int32) (hv : HV) (post : Int32 → HV → Prop) : Prop := (V_X9_isPump a1 hv (fun r1 hv1 => ((r1 = 0 → post (-1001) hv1) ∧ (¬ (r1 = 0) → (V_X9_beginTrial a1 0 hv1 (fun hv3 => (∀ hv4 : HV, hv4 = up hv3 9 0 (upd (hv3 9 0) 7 0) → (∃ n25, V_X9_ticksToSlam_25 a1 post n25 1 hv4))))))))
set_option maxHeartbeats 4000000 in
theorem c_X9_ticksToSlam (l : Launch) (G : wG) (A : Nat → Prop) (a1 : Int32) (hv : HV) (post : Int32 → HV → Prop) (h : V_X9_ticksToSlam a1 hv post) : wM l yX9_ticksToSlam cX9_ticksToSlam 3 ((Option.some FieldType.int)) 4 G A hv [.ref (ad G 9 0), .int a1] (qI G A post) := by
  refine wM_of (by decide +kernel) (Nat.le_of_ble_eq_true rfl) ?_
  intro p e s m args below meth c C0 hr ls hl hW hS
  have hx := C0.1
  have hb := C0.2.1
  have hown := C0.2.2.2.1
  have hts := C0.2.2.2.2.1
  have hl : lv_has ls 3 [(0, .ref (ad G 9 0)), (1, .int a1)] := hl
  unfold V_X9_ticksToSlam at h
  refine lv_aload_n hx hb dX9_ticksToSlam_0 rfl (lv_at hl 0 rfl) ?_
  refine lv_iload_n hx hb dX9_ticksToSlam_1 rfl (lv_at hl 1 rfl) ?_
  refine w_ci hS (w_runV (As := [.int a1]) C0 hW 9 0 (by decide) (by decide) rfl rfl (c_X9_isPump l G A a1 hv _ h) ⟨⟨w_846, w_61, w_849⟩, pl_X9_isPump, ⟨Nat.le_of_ble_eq_true rfl, Nat.le_of_ble_eq_true rfl⟩, ⟨Nat.le_refl _, Nat.le_refl _⟩⟩ ⟨w_848, w_11⟩ rfl hl.1 rfl (Nat.le_of_ble_eq_true rfl) dX9_ticksToSlam_2) (fun r1 hv1 h H locs hW hS => ?_)
  refine lv_if_ne (tgt := 12) hx hb dX9_ticksToSlam_5 (by decide) (fun c2 => ?_) (fun c2 => ?_)
  · have h := h.2 c2
    refine lv_aload_n hx hb dX9_ticksToSlam_12 rfl (lv_at hl 0 rfl) ?_
    refine lv_iload_n hx hb dX9_ticksToSlam_13 rfl (lv_at hl 1 rfl) ?_
    refine lv_iconst (v := 0) hx hb dX9_ticksToSlam_14 (by decide) ?_
    refine w_cv hS (w_runV (As := [.int a1, .int 0]) C0 hW 9 0 (by decide) (by decide) rfl rfl (c_X9_beginTrial l G A a1 0 hv1 _ h) ⟨⟨w_1136, w_61, w_1139⟩, pl_X9_beginTrial, ⟨Nat.le_of_ble_eq_true rfl, Nat.le_of_ble_eq_true rfl⟩, ⟨Nat.le_refl _, Nat.le_refl _⟩⟩ ⟨w_1138, w_46⟩ rfl hl.1 rfl (Nat.le_of_ble_eq_true rfl) dX9_ticksToSlam_15) (fun hv3 h H locs hW hS => ?_)
    refine lv_aload_n hx hb dX9_ticksToSlam_18 rfl (lv_at hl 0 rfl) ?_
    refine lv_iconst (v := 0) hx hb dX9_ticksToSlam_19 (by decide) ?_
    refine w_put (v := 0) C0 hW hS 9 0 (by decide) (by decide) rfl rfl in_X9 tyX9_ok nmX9 7 (by decide) w_769 rfl rfl rfl (Nat.le_of_ble_eq_true rfl) rfl dX9_ticksToSlam_20 (fun hv4 ehv4 H locs hW hS => ?_)
    have h := h hv4 ehv4
    refine lv_iconst (v := 1) hx hb dX9_ticksToSlam_23 (by decide) ?_
    refine lv_istore_n (lv' := [(2, .int 1), (0, .ref (ad G 9 0)), (1, .int a1)]) hx hb dX9_ticksToSlam_24 rfl hl (by decide) rfl (fun ls hl => ?_)
    obtain ⟨n9, h⟩ := h
    exact k_X9_ticksToSlam_25 a1 post C0 hr n9 1 hv4 h _ _ _ hW hS (lv_sub hl [1, 0] rfl)
  · have h := h.1 c2
    refine lv_sipush (v := (-1001)) hx hb dX9_ticksToSlam_8 (by decide) ?_
    exact w_iret C0 hr hW hS h dX9_ticksToSlam_11

theorem pl_X9_trialRefused : yX9_trialRefused.cls ≠ "java/lang/invoke/MethodHandle" ∧ yX9_trialRefused.cls ≠ "java/lang/invoke/VarHandle" ∧ (parseMethodDescriptor yX9_trialRefused.desc).map (fun d => d.parameters.length) = some 3 := ⟨by decide +kernel, by decide +kernel, by decide +kernel⟩
def V_X9_trialRefused (a1 : Int32) (a2 : Int32) (a3 : Int32) (hv : HV) (post : Int32 → HV → Prop) : Prop := (V_X9_isPump a1 hv (fun r1 hv1 => ((r1 = 0 → post (-1001) hv1) ∧ (¬ (r1 = 0) → (V_X9_in a2 1 a3 hv1 (fun r3 hv3 => ((r3 = 0 → post (-1002) hv3) ∧ (¬ (r3 = 0) → post 0 hv3))))))))
set_option maxHeartbeats 4000000 in
theorem c_X9_trialRefused (l : Launch) (G : wG) (A : Nat → Prop) (a1 : Int32) (a2 : Int32) (a3 : Int32) (hv : HV) (post : Int32 → HV → Prop) (h : V_X9_trialRefused a1 a2 a3 hv post) : wM l yX9_trialRefused cX9_trialRefused 4 ((Option.some FieldType.int)) 2 G A hv [.ref (ad G 9 0), .int a1, .int a2, .int a3] (qI G A post) := by
  refine wM_of (by decide +kernel) (Nat.le_of_ble_eq_true rfl) ?_
  intro p e s m args below meth c C0 hr ls hl hW hS
  have hx := C0.1
  have hb := C0.2.1
  have hown := C0.2.2.2.1
  have hts := C0.2.2.2.2.1
  have hl : lv_has ls 4 [(0, .ref (ad G 9 0)), (1, .int a1), (2, .int a2), (3, .int a3)] := hl
  unfold V_X9_trialRefused at h
  refine lv_aload_n hx hb dX9_trialRefused_0 rfl (lv_at hl 0 rfl) ?_
  refine lv_iload_n hx hb dX9_trialRefused_1 rfl (lv_at hl 1 rfl) ?_
  refine w_ci hS (w_runV (As := [.int a1]) C0 hW 9 0 (by decide) (by decide) rfl rfl (c_X9_isPump l G A a1 hv _ h) ⟨⟨w_846, w_61, w_849⟩, pl_X9_isPump, ⟨Nat.le_of_ble_eq_true rfl, Nat.le_of_ble_eq_true rfl⟩, ⟨Nat.le_refl _, Nat.le_refl _⟩⟩ ⟨w_848, w_11⟩ rfl hl.1 rfl (Nat.le_of_ble_eq_true rfl) dX9_trialRefused_2) (fun r1 hv1 h H locs hW hS => ?_)
  refine lv_if_ne (tgt := 14) hx hb dX9_trialRefused_5 (by decide) (fun c2 => ?_) (fun c2 => ?_)
  · have h := h.2 c2
    refine lv_iload_n hx hb dX9_trialRefused_14 rfl (lv_at hl 2 rfl) ?_
    refine lv_iconst (v := 1) hx hb dX9_trialRefused_15 (by decide) ?_
    refine lv_iload_n hx hb dX9_trialRefused_16 rfl (lv_at hl 3 rfl) ?_
    refine w_ci hS (w_runS (As := [.int a2, .int 1, .int a3]) C0 hW (c_X9_in l G A a2 1 a3 hv1 _ h) ⟨⟨w_828, w_61, w_830⟩, pl_X9_in, ⟨Nat.le_of_ble_eq_true rfl, Nat.le_of_ble_eq_true rfl⟩, ⟨Nat.le_refl _, Nat.le_refl _⟩⟩ w_829 rfl hl.1 rfl (Nat.le_of_ble_eq_true rfl) dX9_trialRefused_17) (fun r3 hv3 h H locs hW hS => ?_)
    refine lv_if_ne (tgt := 29) hx hb dX9_trialRefused_20 (by decide) (fun c4 => ?_) (fun c4 => ?_)
    · have h := h.2 c4
      refine lv_iconst (v := 0) hx hb dX9_trialRefused_29 (by decide) ?_
      exact w_iret C0 hr hW hS h dX9_trialRefused_30
    · have h := h.1 c4
      refine lv_sipush (v := (-1002)) hx hb dX9_trialRefused_23 (by decide) ?_
      refine lv_goto (tgt := 30) hx hb dX9_trialRefused_26 (by decide) ?_
      exact w_iret C0 hr hW hS h dX9_trialRefused_30
  · have h := h.1 c2
    refine lv_sipush (v := (-1001)) hx hb dX9_trialRefused_8 (by decide) ?_
    refine lv_goto (tgt := 30) hx hb dX9_trialRefused_11 (by decide) ?_
    exact w_iret C0 hr hW hS h dX9_trialRefused_30

theorem pl_X9_deliveredIn : yX9_deliveredIn.cls ≠ "java/lang/invoke/MethodHandle" ∧ yX9_deliveredIn.cls ≠ "java/lang/invoke/VarHandle" ∧ (parseMethodDescriptor yX9_deliveredIn.desc).map (fun d => d.parameters.length) = some 2 := ⟨by decide +kernel, by decide +kernel, by decide +kernel⟩
def V_X9_deliveredIn (a1 : Int32) (a2 : Int32) (hv : HV) (post : Int32 → HV → Prop) : Prop := (V_X9_trialRefused a1 a2 500 hv (fun r1 hv1 => ((r1 = 0 → (V_X9_beginTrial a1 0 hv1 (fun hv3 => (V_X9_goOn a2 hv3 (fun hv4 => post (hv4 9 0 9) hv4))))) ∧ (¬ (r1 = 0) → post r1 hv1))))
set_option maxHeartbeats 4000000 in
theorem c_X9_deliveredIn (l : Launch) (G : wG) (A : Nat → Prop) (a1 : Int32) (a2 : Int32) (hv : HV) (post : Int32 → HV → Prop) (h : V_X9_deliveredIn a1 a2 hv post) : wM l yX9_deliveredIn cX9_deliveredIn 4 ((Option.some FieldType.int)) 5 G A hv [.ref (ad G 9 0), .int a1, .int a2] (qI G A post) := by
  refine wM_of (by decide +kernel) (Nat.le_of_ble_eq_true rfl) ?_
  intro p e s m args below meth c C0 hr ls hl hW hS
  have hx := C0.1
  have hb := C0.2.1
  have hown := C0.2.2.2.1
  have hts := C0.2.2.2.2.1
  have hl : lv_has ls 4 [(0, .ref (ad G 9 0)), (1, .int a1), (2, .int a2)] := hl
  unfold V_X9_deliveredIn at h
  refine lv_aload_n hx hb dX9_deliveredIn_0 rfl (lv_at hl 0 rfl) ?_
  refine lv_iload_n hx hb dX9_deliveredIn_1 rfl (lv_at hl 1 rfl) ?_
  refine lv_iload_n hx hb dX9_deliveredIn_2 rfl (lv_at hl 2 rfl) ?_
  refine lv_sipush (v := 500) hx hb dX9_deliveredIn_3 (by decide) ?_
  refine w_ci hS (w_runV (As := [.int a1, .int a2, .int 500]) C0 hW 9 0 (by decide) (by decide) rfl rfl (c_X9_trialRefused l G A a1 a2 500 hv _ h) ⟨⟨w_1144, w_61, w_1147⟩, pl_X9_trialRefused, ⟨Nat.le_of_ble_eq_true rfl, Nat.le_of_ble_eq_true rfl⟩, ⟨Nat.le_refl _, Nat.le_refl _⟩⟩ ⟨w_1146, w_47⟩ rfl hl.1 rfl (Nat.le_of_ble_eq_true rfl) dX9_deliveredIn_6) (fun r1 hv1 h H locs hW hS => ?_)
  refine lv_istore_n (lv' := [(3, .int r1), (0, .ref (ad G 9 0)), (1, .int a1), (2, .int a2)]) hx hb dX9_deliveredIn_9 rfl hl (by decide) rfl (fun ls hl => ?_)
  refine lv_iload_n hx hb dX9_deliveredIn_10 rfl (lv_at hl 0 rfl) ?_
  refine lv_if_eq (tgt := 16) hx hb dX9_deliveredIn_11 (by decide) (fun c2 => ?_) (fun c2 => ?_)
  · have h := h.1 c2
    refine lv_aload_n hx hb dX9_deliveredIn_16 rfl (lv_at hl 1 rfl) ?_
    refine lv_iload_n hx hb dX9_deliveredIn_17 rfl (lv_at hl 2 rfl) ?_
    refine lv_iconst (v := 0) hx hb dX9_deliveredIn_18 (by decide) ?_
    refine w_cv hS (w_runV (As := [.int a1, .int 0]) C0 hW 9 0 (by decide) (by decide) rfl rfl (c_X9_beginTrial l G A a1 0 hv1 _ h) ⟨⟨w_1136, w_61, w_1139⟩, pl_X9_beginTrial, ⟨Nat.le_of_ble_eq_true rfl, Nat.le_of_ble_eq_true rfl⟩, ⟨Nat.le_refl _, Nat.le_refl _⟩⟩ ⟨w_1138, w_46⟩ rfl hl.1 rfl (Nat.le_of_ble_eq_true rfl) dX9_deliveredIn_19) (fun hv3 h H locs hW hS => ?_)
    refine lv_aload_n hx hb dX9_deliveredIn_22 rfl (lv_at hl 1 rfl) ?_
    refine lv_iload_n hx hb dX9_deliveredIn_23 rfl (lv_at hl 3 rfl) ?_
    refine w_cv hS (w_runV (As := [.int a2]) C0 hW 9 0 (by decide) (by decide) rfl rfl (c_X9_goOn l G A a2 hv3 _ h) ⟨⟨w_1148, w_61, w_1151⟩, pl_X9_goOn, ⟨Nat.le_of_ble_eq_true rfl, Nat.le_of_ble_eq_true rfl⟩, ⟨Nat.le_refl _, Nat.le_refl _⟩⟩ ⟨w_1150, w_48⟩ rfl hl.1 rfl (Nat.le_of_ble_eq_true rfl) dX9_deliveredIn_24) (fun hv4 h H locs hW hS => ?_)
    refine lv_aload_n hx hb dX9_deliveredIn_27 rfl (lv_at hl 1 rfl) ?_
    refine w_get (v := .int (hv4 9 0 9)) C0 hW 9 0 (by decide) (by decide) rfl rfl in_X9 9 (by decide) w_771 rfl dX9_deliveredIn_28 ?_
    exact w_iret C0 hr hW hS h dX9_deliveredIn_31
  · have h := h.2 c2
    refine lv_iload_n hx hb dX9_deliveredIn_14 rfl (lv_at hl 0 rfl) ?_
    exact w_iret C0 hr hW hS h dX9_deliveredIn_15

theorem pl_X9_drawnIn : yX9_drawnIn.cls ≠ "java/lang/invoke/MethodHandle" ∧ yX9_drawnIn.cls ≠ "java/lang/invoke/VarHandle" ∧ (parseMethodDescriptor yX9_drawnIn.desc).map (fun d => d.parameters.length) = some 2 := ⟨by decide +kernel, by decide +kernel, by decide +kernel⟩
def V_X9_drawnIn (a1 : Int32) (a2 : Int32) (hv : HV) (post : Int32 → HV → Prop) : Prop := (V_X9_trialRefused a1 a2 500 hv (fun r1 hv1 => ((r1 = 0 → (V_X9_beginTrial a1 0 hv1 (fun hv3 => (V_X9_goOn a2 hv3 (fun hv4 => post (hv4 9 0 8) hv4))))) ∧ (¬ (r1 = 0) → post r1 hv1))))
set_option maxHeartbeats 4000000 in
theorem c_X9_drawnIn (l : Launch) (G : wG) (A : Nat → Prop) (a1 : Int32) (a2 : Int32) (hv : HV) (post : Int32 → HV → Prop) (h : V_X9_drawnIn a1 a2 hv post) : wM l yX9_drawnIn cX9_drawnIn 4 ((Option.some FieldType.int)) 5 G A hv [.ref (ad G 9 0), .int a1, .int a2] (qI G A post) := by
  refine wM_of (by decide +kernel) (Nat.le_of_ble_eq_true rfl) ?_
  intro p e s m args below meth c C0 hr ls hl hW hS
  have hx := C0.1
  have hb := C0.2.1
  have hown := C0.2.2.2.1
  have hts := C0.2.2.2.2.1
  have hl : lv_has ls 4 [(0, .ref (ad G 9 0)), (1, .int a1), (2, .int a2)] := hl
  unfold V_X9_drawnIn at h
  refine lv_aload_n hx hb dX9_drawnIn_0 rfl (lv_at hl 0 rfl) ?_
  refine lv_iload_n hx hb dX9_drawnIn_1 rfl (lv_at hl 1 rfl) ?_
  refine lv_iload_n hx hb dX9_drawnIn_2 rfl (lv_at hl 2 rfl) ?_
  refine lv_sipush (v := 500) hx hb dX9_drawnIn_3 (by decide) ?_
  refine w_ci hS (w_runV (As := [.int a1, .int a2, .int 500]) C0 hW 9 0 (by decide) (by decide) rfl rfl (c_X9_trialRefused l G A a1 a2 500 hv _ h) ⟨⟨w_1144, w_61, w_1147⟩, pl_X9_trialRefused, ⟨Nat.le_of_ble_eq_true rfl, Nat.le_of_ble_eq_true rfl⟩, ⟨Nat.le_refl _, Nat.le_refl _⟩⟩ ⟨w_1146, w_47⟩ rfl hl.1 rfl (Nat.le_of_ble_eq_true rfl) dX9_drawnIn_6) (fun r1 hv1 h H locs hW hS => ?_)
  refine lv_istore_n (lv' := [(3, .int r1), (0, .ref (ad G 9 0)), (1, .int a1), (2, .int a2)]) hx hb dX9_drawnIn_9 rfl hl (by decide) rfl (fun ls hl => ?_)
  refine lv_iload_n hx hb dX9_drawnIn_10 rfl (lv_at hl 0 rfl) ?_
  refine lv_if_eq (tgt := 16) hx hb dX9_drawnIn_11 (by decide) (fun c2 => ?_) (fun c2 => ?_)
  · have h := h.1 c2
    refine lv_aload_n hx hb dX9_drawnIn_16 rfl (lv_at hl 1 rfl) ?_
    refine lv_iload_n hx hb dX9_drawnIn_17 rfl (lv_at hl 2 rfl) ?_
    refine lv_iconst (v := 0) hx hb dX9_drawnIn_18 (by decide) ?_
    refine w_cv hS (w_runV (As := [.int a1, .int 0]) C0 hW 9 0 (by decide) (by decide) rfl rfl (c_X9_beginTrial l G A a1 0 hv1 _ h) ⟨⟨w_1136, w_61, w_1139⟩, pl_X9_beginTrial, ⟨Nat.le_of_ble_eq_true rfl, Nat.le_of_ble_eq_true rfl⟩, ⟨Nat.le_refl _, Nat.le_refl _⟩⟩ ⟨w_1138, w_46⟩ rfl hl.1 rfl (Nat.le_of_ble_eq_true rfl) dX9_drawnIn_19) (fun hv3 h H locs hW hS => ?_)
    refine lv_aload_n hx hb dX9_drawnIn_22 rfl (lv_at hl 1 rfl) ?_
    refine lv_iload_n hx hb dX9_drawnIn_23 rfl (lv_at hl 3 rfl) ?_
    refine w_cv hS (w_runV (As := [.int a2]) C0 hW 9 0 (by decide) (by decide) rfl rfl (c_X9_goOn l G A a2 hv3 _ h) ⟨⟨w_1148, w_61, w_1151⟩, pl_X9_goOn, ⟨Nat.le_of_ble_eq_true rfl, Nat.le_of_ble_eq_true rfl⟩, ⟨Nat.le_refl _, Nat.le_refl _⟩⟩ ⟨w_1150, w_48⟩ rfl hl.1 rfl (Nat.le_of_ble_eq_true rfl) dX9_drawnIn_24) (fun hv4 h H locs hW hS => ?_)
    refine lv_aload_n hx hb dX9_drawnIn_27 rfl (lv_at hl 1 rfl) ?_
    refine w_get (v := .int (hv4 9 0 8)) C0 hW 9 0 (by decide) (by decide) rfl rfl in_X9 8 (by decide) w_770 rfl dX9_drawnIn_28 ?_
    exact w_iret C0 hr hW hS h dX9_drawnIn_31
  · have h := h.2 c2
    refine lv_iload_n hx hb dX9_drawnIn_14 rfl (lv_at hl 0 rfl) ?_
    exact w_iret C0 hr hW hS h dX9_drawnIn_15

def V_X9_period_54 (a1 : Int32) (f2 : Int32) (f3 : Int32) (post : Int32 → HV → Prop) (k_138 : HV → Prop) : Nat → Int32 → HV → Prop
  | 0, _, _ => False
  | n54 + 1, v4, hv => (((4 * f2) ≤ v4 → k_138 hv) ∧ (¬ ((4 * f2) ≤ v4) → (vp_in (v4 + 1) 8000 ∧ (((hv 21 0 (Int32.toNatClampNeg (v4 + 1))) = (hv 15 0 303) → (vp_in (v4 + 2) 8000 ∧ (((hv 21 0 (Int32.toNatClampNeg (v4 + 2))) = (hv 15 0 310) → (vp_in (v4 + 3) 8000 ∧ (((hv 21 0 (Int32.toNatClampNeg (v4 + 3))) = (hv 15 0 311) → (vp_in v4 8000 ∧ post (f3 - (hv 21 0 (Int32.toNatClampNeg v4))) hv)) ∧ (¬ ((hv 21 0 (Int32.toNatClampNeg (v4 + 3))) = (hv 15 0 311)) → (∀ x18 : Int32, x18 = v4 + 4 → V_X9_period_54 a1 f2 f3 post k_138 n54 x18 hv))))) ∧ (¬ ((hv 21 0 (Int32.toNatClampNeg (v4 + 2))) = (hv 15 0 310)) → (∀ x15 : Int32, x15 = v4 + 4 → V_X9_period_54 a1 f2 f3 post k_138 n54 x15 hv))))) ∧ (¬ ((hv 21 0 (Int32.toNatClampNeg (v4 + 1))) = (hv 15 0 303)) → (∀ x12 : Int32, x12 = v4 + 4 → V_X9_period_54 a1 f2 f3 post k_138 n54 x12 hv))))))
set_option maxHeartbeats 4000000 in
theorem k_X9_period_54 {p : Program} {l : Launch} {e : Env} {s : State} {m : MethodId} {args : Array Value} {below : List Frame} {meth : Method} {c : Code} {G : wG} {A : Nat → Prop} (a1 : Int32) (f2 : Int32) (f3 : Int32) (post : Int32 → HV → Prop) (k_138 : HV → Prop) (C0 : cx p s m args meth c "RamStationModel" cX9_period 5 G) (hr : meth.sig.returnType = (Option.some FieldType.int))  (hk_138 : ∀  (hv : HV),  k_138  hv → ∀ (H : Heap) (locs : List Loc) (ls : Array Slot), wd G A hv H → va_S A s.heap H locs → lv_has ls 5 [(0, .ref (ad G 9 0)), (2, .int f2), (3, .int f3)] → W p l e (wrm 4) s m args below meth c H locs 0 0 (MQ below (qI G A post) args s 0 0 A) (F0 m 138 ls [])) : ∀ (n : Nat) (v4 : Int32) (hv : HV), V_X9_period_54 a1 f2 f3 post k_138 n v4 hv → ∀ (H : Heap) (locs : List Loc) (ls : Array Slot), wd G A hv H → va_S A s.heap H locs → lv_has ls 5 [(0, .ref (ad G 9 0)), (2, .int f2), (3, .int f3), (4, .int v4)] → W p l e (wrm 4) s m args below meth c H locs 0 0 (MQ below (qI G A post) args s 0 0 A) (F0 m 54 ls []) := by
  have hx := C0.1
  have hb := C0.2.1
  have hown := C0.2.2.2.1
  have hts := C0.2.2.2.2.1
  intro n
  induction n with
  | zero =>
    intro v4 hv  h
    exact (h : False).elim
  | succ n ih =>
    intro v4 hv  h H locs ls hW hS hl
    rw [V_X9_period_54] at h
    refine lv_iload hx hb dX9_period_54 (lv_at hl 3 rfl) ?_
    refine lv_iconst (v := 4) hx hb dX9_period_56 (by decide) ?_
    refine lv_iload_n hx hb dX9_period_57 rfl (lv_at hl 1 rfl) ?_
    refine lv_imul hx hb dX9_period_58 ?_
    refine lv_icmp_ge (tgt := 138) hx hb dX9_period_59 (by decide) (fun c9 => ?_) (fun c9 => ?_)
    · have h := h.1 c9
      exact hk_138 hv h _ _ _ hW hS (lv_sub hl [0, 1, 2] rfl)
    · have h := h.2 c9
      refine lv_aload_n hx hb dX9_period_62 rfl (lv_at hl 0 rfl) ?_
      refine w_get (v := .ref (ad G 21 0)) C0 hW 9 0 (by decide) (by decide) rfl rfl in_X9 18 (by decide) w_780 rfl dX9_period_63 ?_
      refine lv_iload hx hb dX9_period_66 (lv_at hl 3 rfl) ?_
      refine lv_iconst (v := 1) hx hb dX9_period_68 (by decide) ?_
      refine lv_iadd hx hb dX9_period_69 ?_
      obtain ⟨q10, h⟩ := h
      refine w_iald C0 hW 21 0 (by decide) (by decide) (n := 8000) rfl q10 dX9_period_70 ?_
      refine lv_aload_n hx hb dX9_period_71 rfl (lv_at hl 0 rfl) ?_
      refine w_get (v := .ref (ad G 15 0)) C0 hW 9 0 (by decide) (by decide) rfl rfl in_X9 0 (by decide) w_762 rfl dX9_period_72 ?_
      refine lv_sipush (v := 303) hx hb dX9_period_75 (by decide) ?_
      refine w_ialdN C0 hW 15 0 (by decide) (by decide) (n := 370) rfl (j := 303) rfl (by omega) (by decide) dX9_period_78 ?_
      refine lv_icmp_ne (tgt := 132) hx hb dX9_period_79 (by decide) (fun c11 => ?_) (fun c11 => ?_)
      · have h := h.2 c11
        obtain ⟨x12, ex12⟩ : ∃ y : Int32, y = v4 + 4 := ⟨_, rfl⟩
        have h := h x12 ex12
        refine lv_iinc (v := x12) (lv' := [(4, .int x12), (0, .ref (ad G 9 0)), (2, .int f2), (3, .int f3)]) hx hb dX9_period_132 hl (k := 3) rfl (by rw [ex12]; rfl) (by decide) rfl (fun ls hl => ?_)
        refine lv_goto (tgt := 54) hx hb dX9_period_135 (by decide) ?_
        exact ih x12 hv h _ _ _ hW hS (lv_sub hl [1, 2, 3, 0] rfl)
      · have h := h.1 c11
        refine lv_aload_n hx hb dX9_period_82 rfl (lv_at hl 0 rfl) ?_
        refine w_get (v := .ref (ad G 21 0)) C0 hW 9 0 (by decide) (by decide) rfl rfl in_X9 18 (by decide) w_780 rfl dX9_period_83 ?_
        refine lv_iload hx hb dX9_period_86 (lv_at hl 3 rfl) ?_
        refine lv_iconst (v := 2) hx hb dX9_period_88 (by decide) ?_
        refine lv_iadd hx hb dX9_period_89 ?_
        obtain ⟨q13, h⟩ := h
        refine w_iald C0 hW 21 0 (by decide) (by decide) (n := 8000) rfl q13 dX9_period_90 ?_
        refine lv_aload_n hx hb dX9_period_91 rfl (lv_at hl 0 rfl) ?_
        refine w_get (v := .ref (ad G 15 0)) C0 hW 9 0 (by decide) (by decide) rfl rfl in_X9 0 (by decide) w_762 rfl dX9_period_92 ?_
        refine lv_sipush (v := 310) hx hb dX9_period_95 (by decide) ?_
        refine w_ialdN C0 hW 15 0 (by decide) (by decide) (n := 370) rfl (j := 310) rfl (by omega) (by decide) dX9_period_98 ?_
        refine lv_icmp_ne (tgt := 132) hx hb dX9_period_99 (by decide) (fun c14 => ?_) (fun c14 => ?_)
        · have h := h.2 c14
          obtain ⟨x15, ex15⟩ : ∃ y : Int32, y = v4 + 4 := ⟨_, rfl⟩
          have h := h x15 ex15
          refine lv_iinc (v := x15) (lv' := [(4, .int x15), (0, .ref (ad G 9 0)), (2, .int f2), (3, .int f3)]) hx hb dX9_period_132 hl (k := 3) rfl (by rw [ex15]; rfl) (by decide) rfl (fun ls hl => ?_)
          refine lv_goto (tgt := 54) hx hb dX9_period_135 (by decide) ?_
          exact ih x15 hv h _ _ _ hW hS (lv_sub hl [1, 2, 3, 0] rfl)
        · have h := h.1 c14
          refine lv_aload_n hx hb dX9_period_102 rfl (lv_at hl 0 rfl) ?_
          refine w_get (v := .ref (ad G 21 0)) C0 hW 9 0 (by decide) (by decide) rfl rfl in_X9 18 (by decide) w_780 rfl dX9_period_103 ?_
          refine lv_iload hx hb dX9_period_106 (lv_at hl 3 rfl) ?_
          refine lv_iconst (v := 3) hx hb dX9_period_108 (by decide) ?_
          refine lv_iadd hx hb dX9_period_109 ?_
          obtain ⟨q16, h⟩ := h
          refine w_iald C0 hW 21 0 (by decide) (by decide) (n := 8000) rfl q16 dX9_period_110 ?_
          refine lv_aload_n hx hb dX9_period_111 rfl (lv_at hl 0 rfl) ?_
          refine w_get (v := .ref (ad G 15 0)) C0 hW 9 0 (by decide) (by decide) rfl rfl in_X9 0 (by decide) w_762 rfl dX9_period_112 ?_
          refine lv_sipush (v := 311) hx hb dX9_period_115 (by decide) ?_
          refine w_ialdN C0 hW 15 0 (by decide) (by decide) (n := 370) rfl (j := 311) rfl (by omega) (by decide) dX9_period_118 ?_
          refine lv_icmp_ne (tgt := 132) hx hb dX9_period_119 (by decide) (fun c17 => ?_) (fun c17 => ?_)
          · have h := h.2 c17
            obtain ⟨x18, ex18⟩ : ∃ y : Int32, y = v4 + 4 := ⟨_, rfl⟩
            have h := h x18 ex18
            refine lv_iinc (v := x18) (lv' := [(4, .int x18), (0, .ref (ad G 9 0)), (2, .int f2), (3, .int f3)]) hx hb dX9_period_132 hl (k := 3) rfl (by rw [ex18]; rfl) (by decide) rfl (fun ls hl => ?_)
            refine lv_goto (tgt := 54) hx hb dX9_period_135 (by decide) ?_
            exact ih x18 hv h _ _ _ hW hS (lv_sub hl [1, 2, 3, 0] rfl)
          · have h := h.1 c17
            refine lv_iload_n hx hb dX9_period_122 rfl (lv_at hl 2 rfl) ?_
            refine lv_aload_n hx hb dX9_period_123 rfl (lv_at hl 0 rfl) ?_
            refine w_get (v := .ref (ad G 21 0)) C0 hW 9 0 (by decide) (by decide) rfl rfl in_X9 18 (by decide) w_780 rfl dX9_period_124 ?_
            refine lv_iload hx hb dX9_period_127 (lv_at hl 3 rfl) ?_
            obtain ⟨q19, h⟩ := h
            refine w_iald C0 hW 21 0 (by decide) (by decide) (n := 8000) rfl q19 dX9_period_129 ?_
            refine lv_isub hx hb dX9_period_130 ?_
            exact w_iret C0 hr hW hS h dX9_period_131
def V_X9_period_22 (a1 : Int32) (post : Int32 → HV → Prop) : Nat → Int32 → Int32 → HV → Prop
  | 0, _, _, _ => False
  | n22 + 1, v2, v3, hv => ((2000 < v3 → post (-1005) hv) ∧ (¬ (2000 < v3) → (∀ hv5 : HV, hv5 = up hv 9 0 (upd (hv 9 0) 7 0) → (V_X9_tick 297 (-1005) hv5 (fun hv6 => (((hv6 9 0 7) = 0 → (∀ x8 : Int32, x8 = v3 + 1 → V_X9_period_22 a1 post n22 v2 x8 hv6)) ∧ (¬ ((hv6 9 0 7) = 0) → (∃ n54, V_X9_period_54 a1 v2 v3 post (fun hv20 => (vp_in (4 * v2) 8000 ∧ ∀ hv21 : HV, hv21 = up hv20 21 0 (upd (hv20 21 0) (Int32.toNatClampNeg (4 * v2)) v3) → (vp_in ((4 * v2) + 1) 8000 ∧ ∀ hv22 : HV, hv22 = up hv21 21 0 (upd (hv21 21 0) (Int32.toNatClampNeg ((4 * v2) + 1)) (hv21 15 0 303)) → (vp_in ((4 * v2) + 2) 8000 ∧ ∀ hv23 : HV, hv23 = up hv22 21 0 (upd (hv22 21 0) (Int32.toNatClampNeg ((4 * v2) + 2)) (hv22 15 0 310)) → (vp_in ((4 * v2) + 3) 8000 ∧ ∀ hv24 : HV, hv24 = up hv23 21 0 (upd (hv23 21 0) (Int32.toNatClampNeg ((4 * v2) + 3)) (hv23 15 0 311)) → (∀ x25 : Int32, x25 = v2 + 1 → (∀ x26 : Int32, x26 = v3 + 1 → V_X9_period_22 a1 post n22 x25 x26 hv24))))))) n54 0 hv6))))))))
set_option maxHeartbeats 4000000 in
theorem k_X9_period_22 {p : Program} {l : Launch} {e : Env} {s : State} {m : MethodId} {args : Array Value} {below : List Frame} {meth : Method} {c : Code} {G : wG} {A : Nat → Prop} (a1 : Int32) (post : Int32 → HV → Prop) (C0 : cx p s m args meth c "RamStationModel" cX9_period 5 G) (hr : meth.sig.returnType = (Option.some FieldType.int))   : ∀ (n : Nat) (v2 : Int32) (v3 : Int32) (hv : HV), V_X9_period_22 a1 post n v2 v3 hv → ∀ (H : Heap) (locs : List Loc) (ls : Array Slot), wd G A hv H → va_S A s.heap H locs → lv_has ls 5 [(0, .ref (ad G 9 0)), (2, .int v2), (3, .int v3)] → W p l e (wrm 4) s m args below meth c H locs 0 0 (MQ below (qI G A post) args s 0 0 A) (F0 m 22 ls []) := by
  have hx := C0.1
  have hb := C0.2.1
  have hown := C0.2.2.2.1
  have hts := C0.2.2.2.2.1
  intro n
  induction n with
  | zero =>
    intro v2 v3 hv  h
    exact (h : False).elim
  | succ n ih =>
    intro v2 v3 hv  h H locs ls hW hS hl
    rw [V_X9_period_22] at h
    refine lv_iload_n hx hb dX9_period_22 rfl (lv_at hl 2 rfl) ?_
    refine lv_sipush (v := 2000) hx hb dX9_period_23 (by decide) ?_
    refine lv_icmp_gt (tgt := 210) hx hb dX9_period_26 (by decide) (fun c4 => ?_) (fun c4 => ?_)
    · have h := h.1 c4
      refine lv_sipush (v := (-1005)) hx hb dX9_period_210 (by decide) ?_
      exact w_iret C0 hr hW hS h dX9_period_213
    · have h := h.2 c4
      refine lv_aload_n hx hb dX9_period_29 rfl (lv_at hl 0 rfl) ?_
      refine lv_iconst (v := 0) hx hb dX9_period_30 (by decide) ?_
      refine w_put (v := 0) C0 hW hS 9 0 (by decide) (by decide) rfl rfl in_X9 tyX9_ok nmX9 7 (by decide) w_769 rfl rfl rfl (Nat.le_of_ble_eq_true rfl) rfl dX9_period_31 (fun hv5 ehv5 H locs hW hS => ?_)
      have h := h hv5 ehv5
      refine lv_aload_n hx hb dX9_period_34 rfl (lv_at hl 0 rfl) ?_
      refine lv_sipush (v := 297) hx hb dX9_period_35 (by decide) ?_
      refine lv_sipush (v := (-1005)) hx hb dX9_period_38 (by decide) ?_
      refine w_cv hS (w_runV (As := [.int 297, .int (-1005)]) C0 hW 9 0 (by decide) (by decide) rfl rfl (c_X9_tick l G A 297 (-1005) (by omega) hv5 _ h) ⟨⟨w_922, w_61, w_925⟩, pl_X9_tick, ⟨Nat.le_of_ble_eq_true rfl, Nat.le_of_ble_eq_true rfl⟩, ⟨Nat.le_refl _, Nat.le_refl _⟩⟩ ⟨w_924, w_24⟩ rfl hl.1 rfl (Nat.le_of_ble_eq_true rfl) dX9_period_41) (fun hv6 h H locs hW hS => ?_)
      refine lv_aload_n hx hb dX9_period_44 rfl (lv_at hl 0 rfl) ?_
      refine w_get (v := .int (hv6 9 0 7)) C0 hW 9 0 (by decide) (by decide) rfl rfl in_X9 7 (by decide) w_769 rfl dX9_period_45 ?_
      refine lv_if_eq (tgt := 204) hx hb dX9_period_48 (by decide) (fun c7 => ?_) (fun c7 => ?_)
      · have h := h.1 c7
        obtain ⟨x8, ex8⟩ : ∃ y : Int32, y = v3 + 1 := ⟨_, rfl⟩
        have h := h x8 ex8
        refine lv_iinc (v := x8) (lv' := [(3, .int x8), (0, .ref (ad G 9 0)), (2, .int v2)]) hx hb dX9_period_204 hl (k := 2) rfl (by rw [ex8]; rfl) (by decide) rfl (fun ls hl => ?_)
        refine lv_goto (tgt := 22) hx hb dX9_period_207 (by decide) ?_
        exact ih v2 x8 hv6 h _ _ _ hW hS (lv_sub hl [1, 2, 0] rfl)
      · have h := h.2 c7
        refine lv_iconst (v := 0) hx hb dX9_period_51 (by decide) ?_
        refine lv_istore (lv' := [(4, .int 0), (0, .ref (ad G 9 0)), (2, .int v2), (3, .int v3)]) hx hb dX9_period_52 hl (by decide) rfl (fun ls hl => ?_)
        obtain ⟨n27, h⟩ := h
        refine k_X9_period_54 a1 v2 v3 post _ C0 hr (fun hv20 h H locs ls hW hS hl => ?_) n27 0 hv6 h _ _ _ hW hS (lv_sub hl [1, 2, 3, 0] rfl)
        refine lv_aload_n hx hb dX9_period_138 rfl (lv_at hl 0 rfl) ?_
        refine w_get (v := .ref (ad G 21 0)) C0 hW 9 0 (by decide) (by decide) rfl rfl in_X9 18 (by decide) w_780 rfl dX9_period_139 ?_
        refine lv_iconst (v := 4) hx hb dX9_period_142 (by decide) ?_
        refine lv_iload_n hx hb dX9_period_143 rfl (lv_at hl 1 rfl) ?_
        refine lv_imul hx hb dX9_period_144 ?_
        refine lv_iload_n hx hb dX9_period_145 rfl (lv_at hl 2 rfl) ?_
        obtain ⟨q21, h⟩ := h
        refine w_iast C0 hW hS 21 0 (by decide) (by decide) (n := 8000) (fun _ => rfl) q21 dX9_period_146 (fun hv21 ehv21 H locs hW hS => ?_)
        have h := h hv21 ehv21
        refine lv_aload_n hx hb dX9_period_147 rfl (lv_at hl 0 rfl) ?_
        refine w_get (v := .ref (ad G 21 0)) C0 hW 9 0 (by decide) (by decide) rfl rfl in_X9 18 (by decide) w_780 rfl dX9_period_148 ?_
        refine lv_iconst (v := 4) hx hb dX9_period_151 (by decide) ?_
        refine lv_iload_n hx hb dX9_period_152 rfl (lv_at hl 1 rfl) ?_
        refine lv_imul hx hb dX9_period_153 ?_
        refine lv_iconst (v := 1) hx hb dX9_period_154 (by decide) ?_
        refine lv_iadd hx hb dX9_period_155 ?_
        refine lv_aload_n hx hb dX9_period_156 rfl (lv_at hl 0 rfl) ?_
        refine w_get (v := .ref (ad G 15 0)) C0 hW 9 0 (by decide) (by decide) rfl rfl in_X9 0 (by decide) w_762 rfl dX9_period_157 ?_
        refine lv_sipush (v := 303) hx hb dX9_period_160 (by decide) ?_
        refine w_ialdN C0 hW 15 0 (by decide) (by decide) (n := 370) rfl (j := 303) rfl (by omega) (by decide) dX9_period_163 ?_
        obtain ⟨q22, h⟩ := h
        refine w_iast C0 hW hS 21 0 (by decide) (by decide) (n := 8000) (fun _ => rfl) q22 dX9_period_164 (fun hv22 ehv22 H locs hW hS => ?_)
        have h := h hv22 ehv22
        refine lv_aload_n hx hb dX9_period_165 rfl (lv_at hl 0 rfl) ?_
        refine w_get (v := .ref (ad G 21 0)) C0 hW 9 0 (by decide) (by decide) rfl rfl in_X9 18 (by decide) w_780 rfl dX9_period_166 ?_
        refine lv_iconst (v := 4) hx hb dX9_period_169 (by decide) ?_
        refine lv_iload_n hx hb dX9_period_170 rfl (lv_at hl 1 rfl) ?_
        refine lv_imul hx hb dX9_period_171 ?_
        refine lv_iconst (v := 2) hx hb dX9_period_172 (by decide) ?_
        refine lv_iadd hx hb dX9_period_173 ?_
        refine lv_aload_n hx hb dX9_period_174 rfl (lv_at hl 0 rfl) ?_
        refine w_get (v := .ref (ad G 15 0)) C0 hW 9 0 (by decide) (by decide) rfl rfl in_X9 0 (by decide) w_762 rfl dX9_period_175 ?_
        refine lv_sipush (v := 310) hx hb dX9_period_178 (by decide) ?_
        refine w_ialdN C0 hW 15 0 (by decide) (by decide) (n := 370) rfl (j := 310) rfl (by omega) (by decide) dX9_period_181 ?_
        obtain ⟨q23, h⟩ := h
        refine w_iast C0 hW hS 21 0 (by decide) (by decide) (n := 8000) (fun _ => rfl) q23 dX9_period_182 (fun hv23 ehv23 H locs hW hS => ?_)
        have h := h hv23 ehv23
        refine lv_aload_n hx hb dX9_period_183 rfl (lv_at hl 0 rfl) ?_
        refine w_get (v := .ref (ad G 21 0)) C0 hW 9 0 (by decide) (by decide) rfl rfl in_X9 18 (by decide) w_780 rfl dX9_period_184 ?_
        refine lv_iconst (v := 4) hx hb dX9_period_187 (by decide) ?_
        refine lv_iload_n hx hb dX9_period_188 rfl (lv_at hl 1 rfl) ?_
        refine lv_imul hx hb dX9_period_189 ?_
        refine lv_iconst (v := 3) hx hb dX9_period_190 (by decide) ?_
        refine lv_iadd hx hb dX9_period_191 ?_
        refine lv_aload_n hx hb dX9_period_192 rfl (lv_at hl 0 rfl) ?_
        refine w_get (v := .ref (ad G 15 0)) C0 hW 9 0 (by decide) (by decide) rfl rfl in_X9 0 (by decide) w_762 rfl dX9_period_193 ?_
        refine lv_sipush (v := 311) hx hb dX9_period_196 (by decide) ?_
        refine w_ialdN C0 hW 15 0 (by decide) (by decide) (n := 370) rfl (j := 311) rfl (by omega) (by decide) dX9_period_199 ?_
        obtain ⟨q24, h⟩ := h
        refine w_iast C0 hW hS 21 0 (by decide) (by decide) (n := 8000) (fun _ => rfl) q24 dX9_period_200 (fun hv24 ehv24 H locs hW hS => ?_)
        have h := h hv24 ehv24
        obtain ⟨x25, ex25⟩ : ∃ y : Int32, y = v2 + 1 := ⟨_, rfl⟩
        have h := h x25 ex25
        refine lv_iinc (v := x25) (lv' := [(2, .int x25), (0, .ref (ad G 9 0)), (3, .int v3)]) hx hb dX9_period_201 hl (k := 1) rfl (by rw [ex25]; rfl) (by decide) rfl (fun ls hl => ?_)
        obtain ⟨x26, ex26⟩ : ∃ y : Int32, y = v3 + 1 := ⟨_, rfl⟩
        have h := h x26 ex26
        refine lv_iinc (v := x26) (lv' := [(3, .int x26), (2, .int x25), (0, .ref (ad G 9 0))]) hx hb dX9_period_204 hl (k := 2) rfl (by rw [ex26]; rfl) (by decide) rfl (fun ls hl => ?_)
        refine lv_goto (tgt := 22) hx hb dX9_period_207 (by decide) ?_
        exact ih x25 x26 hv24 h _ _ _ hW hS (lv_sub hl [2, 1, 0] rfl)
theorem pl_X9_period : yX9_period.cls ≠ "java/lang/invoke/MethodHandle" ∧ yX9_period.cls ≠ "java/lang/invoke/VarHandle" ∧ (parseMethodDescriptor yX9_period.desc).map (fun d => d.parameters.length) = some 1 := ⟨by decide +kernel, by decide +kernel, by decide +kernel⟩
def V_X9_period (a1 : Int32) (hv : HV) (post : Int32 → HV → Prop) : Prop := (V_X9_isPump a1 hv (fun r1 hv1 => ((r1 = 0 → post (-1001) hv1) ∧ (¬ (r1 = 0) → (V_X9_beginTrial a1 0 hv1 (fun hv3 => (∃ n22, V_X9_period_22 a1 post n22 0 1 hv3)))))))
set_option maxHeartbeats 4000000 in
theorem c_X9_period (l : Launch) (G : wG) (A : Nat → Prop) (a1 : Int32) (hv : HV) (post : Int32 → HV → Prop) (h : V_X9_period a1 hv post) : wM l yX9_period cX9_period 5 ((Option.some FieldType.int)) 4 G A hv [.ref (ad G 9 0), .int a1] (qI G A post) := by
  refine wM_of (by decide +kernel) (Nat.le_of_ble_eq_true rfl) ?_
  intro p e s m args below meth c C0 hr ls hl hW hS
  have hx := C0.1
  have hb := C0.2.1
  have hown := C0.2.2.2.1
  have hts := C0.2.2.2.2.1
  have hl : lv_has ls 5 [(0, .ref (ad G 9 0)), (1, .int a1)] := hl
  unfold V_X9_period at h
  refine lv_aload_n hx hb dX9_period_0 rfl (lv_at hl 0 rfl) ?_
  refine lv_iload_n hx hb dX9_period_1 rfl (lv_at hl 1 rfl) ?_
  refine w_ci hS (w_runV (As := [.int a1]) C0 hW 9 0 (by decide) (by decide) rfl rfl (c_X9_isPump l G A a1 hv _ h) ⟨⟨w_846, w_61, w_849⟩, pl_X9_isPump, ⟨Nat.le_of_ble_eq_true rfl, Nat.le_of_ble_eq_true rfl⟩, ⟨Nat.le_refl _, Nat.le_refl _⟩⟩ ⟨w_848, w_11⟩ rfl hl.1 rfl (Nat.le_of_ble_eq_true rfl) dX9_period_2) (fun r1 hv1 h H locs hW hS => ?_)
  refine lv_if_ne (tgt := 12) hx hb dX9_period_5 (by decide) (fun c2 => ?_) (fun c2 => ?_)
  · have h := h.2 c2
    refine lv_aload_n hx hb dX9_period_12 rfl (lv_at hl 0 rfl) ?_
    refine lv_iload_n hx hb dX9_period_13 rfl (lv_at hl 1 rfl) ?_
    refine lv_iconst (v := 0) hx hb dX9_period_14 (by decide) ?_
    refine w_cv hS (w_runV (As := [.int a1, .int 0]) C0 hW 9 0 (by decide) (by decide) rfl rfl (c_X9_beginTrial l G A a1 0 hv1 _ h) ⟨⟨w_1136, w_61, w_1139⟩, pl_X9_beginTrial, ⟨Nat.le_of_ble_eq_true rfl, Nat.le_of_ble_eq_true rfl⟩, ⟨Nat.le_refl _, Nat.le_refl _⟩⟩ ⟨w_1138, w_46⟩ rfl hl.1 rfl (Nat.le_of_ble_eq_true rfl) dX9_period_15) (fun hv3 h H locs hW hS => ?_)
    refine lv_iconst (v := 0) hx hb dX9_period_18 (by decide) ?_
    refine lv_istore_n (lv' := [(2, .int 0), (0, .ref (ad G 9 0)), (1, .int a1)]) hx hb dX9_period_19 rfl hl (by decide) rfl (fun ls hl => ?_)
    refine lv_iconst (v := 1) hx hb dX9_period_20 (by decide) ?_
    refine lv_istore_n (lv' := [(3, .int 1), (2, .int 0), (0, .ref (ad G 9 0)), (1, .int a1)]) hx hb dX9_period_21 rfl hl (by decide) rfl (fun ls hl => ?_)
    obtain ⟨n28, h⟩ := h
    exact k_X9_period_22 a1 post C0 hr n28 0 1 hv3 h _ _ _ hW hS (lv_sub hl [2, 1, 0] rfl)
  · have h := h.1 c2
    refine lv_sipush (v := (-1001)) hx hb dX9_period_8 (by decide) ?_
    exact w_iret C0 hr hW hS h dX9_period_11

def V_X9_best_12 (a1 : Int32) (a2 : Int32) (n3 : Nat) (a4 : Int32) (post : Int32 → HV → Prop) : Nat → Int32 → Int32 → Int32 → HV → Prop
  | 0, _, _, _, _ => False
  | n12 + 1, v5, v6, v7, hv => ((a4 < v7 → post v5 hv) ∧ (¬ (a4 < v7) → (V_X9_beginTrial a1 1 hv (fun hv2 => (∀ hv3 : HV, hv3 = up hv2 15 0 (upd (hv2 15 0) (297 + n3) v7) → (V_X9_goOn a2 hv3 (fun hv4 => (((hv4 9 0 9) ≤ v6 → (((hv4 9 0 9) ≤ v6 → (∀ x7 : Int32, x7 = v7 + 10 → V_X9_best_12 a1 a2 n3 a4 post n12 v5 v6 x7 hv4)) ∧ (¬ ((hv4 9 0 9) ≤ v6) → (∀ x8 : Int32, x8 = (hv4 9 0 9) → (∀ x9 : Int32, x9 = v7 + 10 → V_X9_best_12 a1 a2 n3 a4 post n12 v5 x8 x9 hv4))))) ∧ (¬ ((hv4 9 0 9) ≤ v6) → (((hv4 9 0 9) ≤ v6 → (∀ x11 : Int32, x11 = v7 + 10 → V_X9_best_12 a1 a2 n3 a4 post n12 v7 v6 x11 hv4)) ∧ (¬ ((hv4 9 0 9) ≤ v6) → (∀ x12 : Int32, x12 = (hv4 9 0 9) → (∀ x13 : Int32, x13 = v7 + 10 → V_X9_best_12 a1 a2 n3 a4 post n12 v7 x12 x13 hv4)))))))))))))
set_option maxHeartbeats 4000000 in
theorem k_X9_best_12 {p : Program} {l : Launch} {e : Env} {s : State} {m : MethodId} {args : Array Value} {below : List Frame} {meth : Method} {c : Code} {G : wG} {A : Nat → Prop} (a1 : Int32) (a2 : Int32) (n3 : Nat) (a4 : Int32) (post : Int32 → HV → Prop) (C0 : cx p s m args meth c "RamStationModel" cX9_best 8 G) (hr : meth.sig.returnType = (Option.some FieldType.int)) (hn3 : n3 < 73)  : ∀ (n : Nat) (v5 : Int32) (v6 : Int32) (v7 : Int32) (hv : HV), V_X9_best_12 a1 a2 n3 a4 post n v5 v6 v7 hv → ∀ (H : Heap) (locs : List Loc) (ls : Array Slot), wd G A hv H → va_S A s.heap H locs → lv_has ls 8 [(0, .ref (ad G 9 0)), (1, .int a1), (2, .int a2), (3, .int (nI n3)), (4, .int a4), (5, .int v5), (6, .int v6), (7, .int v7)] → W p l e (wrm 5) s m args below meth c H locs 0 0 (MQ below (qI G A post) args s 0 0 A) (F0 m 12 ls []) := by
  have hx := C0.1
  have hb := C0.2.1
  have hown := C0.2.2.2.1
  have hts := C0.2.2.2.2.1
  intro n
  induction n with
  | zero =>
    intro v5 v6 v7 hv  h
    exact (h : False).elim
  | succ n ih =>
    intro v5 v6 v7 hv  h H locs ls hW hS hl
    rw [V_X9_best_12] at h
    refine lv_iload hx hb dX9_best_12 (lv_at hl 7 rfl) ?_
    refine lv_iload hx hb dX9_best_14 (lv_at hl 4 rfl) ?_
    refine lv_icmp_gt (tgt := 86) hx hb dX9_best_16 (by decide) (fun c1 => ?_) (fun c1 => ?_)
    · have h := h.1 c1
      refine lv_iload hx hb dX9_best_86 (lv_at hl 5 rfl) ?_
      exact w_iret C0 hr hW hS h dX9_best_88
    · have h := h.2 c1
      refine lv_aload_n hx hb dX9_best_19 rfl (lv_at hl 0 rfl) ?_
      refine lv_iload_n hx hb dX9_best_20 rfl (lv_at hl 1 rfl) ?_
      refine lv_iconst (v := 1) hx hb dX9_best_21 (by decide) ?_
      refine w_cv hS (w_runV (As := [.int a1, .int 1]) C0 hW 9 0 (by decide) (by decide) rfl rfl (c_X9_beginTrial l G A a1 1 hv _ h) ⟨⟨w_1136, w_61, w_1139⟩, pl_X9_beginTrial, ⟨Nat.le_of_ble_eq_true rfl, Nat.le_of_ble_eq_true rfl⟩, ⟨Nat.le_refl _, Nat.le_refl _⟩⟩ ⟨w_1138, w_46⟩ rfl hl.1 rfl (Nat.le_of_ble_eq_true rfl) dX9_best_22) (fun hv2 h H locs hW hS => ?_)
      refine lv_aload_n hx hb dX9_best_25 rfl (lv_at hl 0 rfl) ?_
      refine w_get (v := .ref (ad G 15 0)) C0 hW 9 0 (by decide) (by decide) rfl rfl in_X9 0 (by decide) w_762 rfl dX9_best_26 ?_
      refine lv_sipush (v := 297) hx hb dX9_best_29 (by decide) ?_
      refine lv_iload_n hx hb dX9_best_32 rfl (lv_at hl 3 rfl) ?_
      refine lv_iadd hx hb dX9_best_33 ?_
      refine w_top (y := nI (297 + n3)) (nI_add 297 n3) ?_
      refine lv_iload hx hb dX9_best_34 (lv_at hl 7 rfl) ?_
      refine w_iastN C0 hW hS 15 0 (by decide) (by decide) (n := 370) (fun _ => rfl) (j := (297 + n3)) rfl (by omega) (by decide) dX9_best_36 (fun hv3 ehv3 H locs hW hS => ?_)
      have h := h hv3 ehv3
      refine lv_aload_n hx hb dX9_best_37 rfl (lv_at hl 0 rfl) ?_
      refine lv_iload_n hx hb dX9_best_38 rfl (lv_at hl 2 rfl) ?_
      refine w_cv hS (w_runV (As := [.int a2]) C0 hW 9 0 (by decide) (by decide) rfl rfl (c_X9_goOn l G A a2 hv3 _ h) ⟨⟨w_1148, w_61, w_1151⟩, pl_X9_goOn, ⟨Nat.le_of_ble_eq_true rfl, Nat.le_of_ble_eq_true rfl⟩, ⟨Nat.le_refl _, Nat.le_refl _⟩⟩ ⟨w_1150, w_48⟩ rfl hl.1 rfl (Nat.le_of_ble_eq_true rfl) dX9_best_39) (fun hv4 h H locs hW hS => ?_)
      refine lv_aload_n hx hb dX9_best_42 rfl (lv_at hl 0 rfl) ?_
      refine w_get (v := .int (hv4 9 0 9)) C0 hW 9 0 (by decide) (by decide) rfl rfl in_X9 9 (by decide) w_771 rfl dX9_best_43 ?_
      refine lv_iload hx hb dX9_best_46 (lv_at hl 6 rfl) ?_
      refine lv_icmp_le (tgt := 56) hx hb dX9_best_48 (by decide) (fun c5 => ?_) (fun c5 => ?_)
      · have h := h.1 c5
        refine lv_iload hx hb dX9_best_56 (lv_at hl 5 rfl) ?_
        refine lv_istore (lv' := [(5, .int v5), (0, .ref (ad G 9 0)), (1, .int a1), (2, .int a2), (3, .int (nI n3)), (4, .int a4), (6, .int v6), (7, .int v7)]) hx hb dX9_best_58 hl (by decide) rfl (fun ls hl => ?_)
        refine lv_aload_n hx hb dX9_best_60 rfl (lv_at hl 1 rfl) ?_
        refine w_get (v := .int (hv4 9 0 9)) C0 hW 9 0 (by decide) (by decide) rfl rfl in_X9 9 (by decide) w_771 rfl dX9_best_61 ?_
        refine lv_iload hx hb dX9_best_64 (lv_at hl 6 rfl) ?_
        refine lv_icmp_le (tgt := 76) hx hb dX9_best_66 (by decide) (fun c6 => ?_) (fun c6 => ?_)
        · have h := h.1 c6
          refine lv_iload hx hb dX9_best_76 (lv_at hl 6 rfl) ?_
          refine lv_istore (lv' := [(6, .int v6), (5, .int v5), (0, .ref (ad G 9 0)), (1, .int a1), (2, .int a2), (3, .int (nI n3)), (4, .int a4), (7, .int v7)]) hx hb dX9_best_78 hl (by decide) rfl (fun ls hl => ?_)
          obtain ⟨x7, ex7⟩ : ∃ y : Int32, y = v7 + 10 := ⟨_, rfl⟩
          have h := h x7 ex7
          refine lv_iinc (v := x7) (lv' := [(7, .int x7), (6, .int v6), (5, .int v5), (0, .ref (ad G 9 0)), (1, .int a1), (2, .int a2), (3, .int (nI n3)), (4, .int a4)]) hx hb dX9_best_80 hl (k := 7) rfl (by rw [ex7]; rfl) (by decide) rfl (fun ls hl => ?_)
          refine lv_goto (tgt := 12) hx hb dX9_best_83 (by decide) ?_
          exact ih v5 v6 x7 hv4 h _ _ _ hW hS (lv_sub hl [3, 4, 5, 6, 7, 2, 1, 0] rfl)
        · have h := h.2 c6
          refine lv_aload_n hx hb dX9_best_69 rfl (lv_at hl 1 rfl) ?_
          refine w_get (v := .int (hv4 9 0 9)) C0 hW 9 0 (by decide) (by decide) rfl rfl in_X9 9 (by decide) w_771 rfl dX9_best_70 ?_
          refine lv_goto (tgt := 78) hx hb dX9_best_73 (by decide) ?_
          refine lv_topi (fun x8 ex8 => ?_)
          have h := h x8 ex8
          refine lv_istore (lv' := [(6, .int x8), (5, .int v5), (0, .ref (ad G 9 0)), (1, .int a1), (2, .int a2), (3, .int (nI n3)), (4, .int a4), (7, .int v7)]) hx hb dX9_best_78 hl (by decide) rfl (fun ls hl => ?_)
          obtain ⟨x9, ex9⟩ : ∃ y : Int32, y = v7 + 10 := ⟨_, rfl⟩
          have h := h x9 ex9
          refine lv_iinc (v := x9) (lv' := [(7, .int x9), (6, .int x8), (5, .int v5), (0, .ref (ad G 9 0)), (1, .int a1), (2, .int a2), (3, .int (nI n3)), (4, .int a4)]) hx hb dX9_best_80 hl (k := 7) rfl (by rw [ex9]; rfl) (by decide) rfl (fun ls hl => ?_)
          refine lv_goto (tgt := 12) hx hb dX9_best_83 (by decide) ?_
          exact ih v5 x8 x9 hv4 h _ _ _ hW hS (lv_sub hl [3, 4, 5, 6, 7, 2, 1, 0] rfl)
      · have h := h.2 c5
        refine lv_iload hx hb dX9_best_51 (lv_at hl 7 rfl) ?_
        refine lv_goto (tgt := 58) hx hb dX9_best_53 (by decide) ?_
        refine lv_istore (lv' := [(5, .int v7), (0, .ref (ad G 9 0)), (1, .int a1), (2, .int a2), (3, .int (nI n3)), (4, .int a4), (6, .int v6), (7, .int v7)]) hx hb dX9_best_58 hl (by decide) rfl (fun ls hl => ?_)
        refine lv_aload_n hx hb dX9_best_60 rfl (lv_at hl 1 rfl) ?_
        refine w_get (v := .int (hv4 9 0 9)) C0 hW 9 0 (by decide) (by decide) rfl rfl in_X9 9 (by decide) w_771 rfl dX9_best_61 ?_
        refine lv_iload hx hb dX9_best_64 (lv_at hl 6 rfl) ?_
        refine lv_icmp_le (tgt := 76) hx hb dX9_best_66 (by decide) (fun c10 => ?_) (fun c10 => ?_)
        · have h := h.1 c10
          refine lv_iload hx hb dX9_best_76 (lv_at hl 6 rfl) ?_
          refine lv_istore (lv' := [(6, .int v6), (5, .int v7), (0, .ref (ad G 9 0)), (1, .int a1), (2, .int a2), (3, .int (nI n3)), (4, .int a4), (7, .int v7)]) hx hb dX9_best_78 hl (by decide) rfl (fun ls hl => ?_)
          obtain ⟨x11, ex11⟩ : ∃ y : Int32, y = v7 + 10 := ⟨_, rfl⟩
          have h := h x11 ex11
          refine lv_iinc (v := x11) (lv' := [(7, .int x11), (6, .int v6), (5, .int v7), (0, .ref (ad G 9 0)), (1, .int a1), (2, .int a2), (3, .int (nI n3)), (4, .int a4)]) hx hb dX9_best_80 hl (k := 7) rfl (by rw [ex11]; rfl) (by decide) rfl (fun ls hl => ?_)
          refine lv_goto (tgt := 12) hx hb dX9_best_83 (by decide) ?_
          exact ih v7 v6 x11 hv4 h _ _ _ hW hS (lv_sub hl [3, 4, 5, 6, 7, 2, 1, 0] rfl)
        · have h := h.2 c10
          refine lv_aload_n hx hb dX9_best_69 rfl (lv_at hl 1 rfl) ?_
          refine w_get (v := .int (hv4 9 0 9)) C0 hW 9 0 (by decide) (by decide) rfl rfl in_X9 9 (by decide) w_771 rfl dX9_best_70 ?_
          refine lv_goto (tgt := 78) hx hb dX9_best_73 (by decide) ?_
          refine lv_topi (fun x12 ex12 => ?_)
          have h := h x12 ex12
          refine lv_istore (lv' := [(6, .int x12), (5, .int v7), (0, .ref (ad G 9 0)), (1, .int a1), (2, .int a2), (3, .int (nI n3)), (4, .int a4), (7, .int v7)]) hx hb dX9_best_78 hl (by decide) rfl (fun ls hl => ?_)
          obtain ⟨x13, ex13⟩ : ∃ y : Int32, y = v7 + 10 := ⟨_, rfl⟩
          have h := h x13 ex13
          refine lv_iinc (v := x13) (lv' := [(7, .int x13), (6, .int x12), (5, .int v7), (0, .ref (ad G 9 0)), (1, .int a1), (2, .int a2), (3, .int (nI n3)), (4, .int a4)]) hx hb dX9_best_80 hl (k := 7) rfl (by rw [ex13]; rfl) (by decide) rfl (fun ls hl => ?_)
          refine lv_goto (tgt := 12) hx hb dX9_best_83 (by decide) ?_
          exact ih v7 x12 x13 hv4 h _ _ _ hW hS (lv_sub hl [3, 4, 5, 6, 7, 2, 1, 0] rfl)
theorem pl_X9_best : yX9_best.cls ≠ "java/lang/invoke/MethodHandle" ∧ yX9_best.cls ≠ "java/lang/invoke/VarHandle" ∧ (parseMethodDescriptor yX9_best.desc).map (fun d => d.parameters.length) = some 4 := ⟨by decide +kernel, by decide +kernel, by decide +kernel⟩
def V_X9_best (a1 : Int32) (a2 : Int32) (n3 : Nat) (a4 : Int32) (hv : HV) (post : Int32 → HV → Prop) : Prop := (∃ n12, V_X9_best_12 a1 a2 n3 a4 post n12 0 (-1005) 10 hv)
set_option maxHeartbeats 4000000 in
theorem c_X9_best (l : Launch) (G : wG) (A : Nat → Prop) (a1 : Int32) (a2 : Int32) (n3 : Nat) (a4 : Int32) (hn3 : n3 < 73) (hv : HV) (post : Int32 → HV → Prop) (h : V_X9_best a1 a2 n3 a4 hv post) : wM l yX9_best cX9_best 8 ((Option.some FieldType.int)) 5 G A hv [.ref (ad G 9 0), .int a1, .int a2, .int (nI n3), .int a4] (qI G A post) := by
  refine wM_of (by decide +kernel) (Nat.le_of_ble_eq_true rfl) ?_
  intro p e s m args below meth c C0 hr ls hl hW hS
  have hx := C0.1
  have hb := C0.2.1
  have hown := C0.2.2.2.1
  have hts := C0.2.2.2.2.1
  have hl : lv_has ls 8 [(0, .ref (ad G 9 0)), (1, .int a1), (2, .int a2), (3, .int (nI n3)), (4, .int a4)] := hl
  unfold V_X9_best at h
  refine lv_iconst (v := 0) hx hb dX9_best_0 (by decide) ?_
  refine lv_istore (lv' := [(5, .int 0), (0, .ref (ad G 9 0)), (1, .int a1), (2, .int a2), (3, .int (nI n3)), (4, .int a4)]) hx hb dX9_best_1 hl (by decide) rfl (fun ls hl => ?_)
  refine lv_sipush (v := (-1005)) hx hb dX9_best_3 (by decide) ?_
  refine lv_istore (lv' := [(6, .int (-1005)), (5, .int 0), (0, .ref (ad G 9 0)), (1, .int a1), (2, .int a2), (3, .int (nI n3)), (4, .int a4)]) hx hb dX9_best_6 hl (by decide) rfl (fun ls hl => ?_)
  refine lv_bipush (v := 10) hx hb dX9_best_8 (by decide) ?_
  refine lv_istore (lv' := [(7, .int 10), (6, .int (-1005)), (5, .int 0), (0, .ref (ad G 9 0)), (1, .int a1), (2, .int a2), (3, .int (nI n3)), (4, .int a4)]) hx hb dX9_best_10 hl (by decide) rfl (fun ls hl => ?_)
  obtain ⟨n14, h⟩ := h
  exact k_X9_best_12 a1 a2 n3 a4 post C0 hr hn3 n14 0 (-1005) 10 hv h _ _ _ hW hS (lv_sub hl [3, 4, 5, 6, 7, 2, 1, 0] rfl)

theorem pl_X9_bestLength : yX9_bestLength.cls ≠ "java/lang/invoke/MethodHandle" ∧ yX9_bestLength.cls ≠ "java/lang/invoke/VarHandle" ∧ (parseMethodDescriptor yX9_bestLength.desc).map (fun d => d.parameters.length) = some 2 := ⟨by decide +kernel, by decide +kernel, by decide +kernel⟩
def V_X9_bestLength (a1 : Int32) (a2 : Int32) (hv : HV) (post : Int32 → HV → Prop) : Prop := (V_X9_trialRefused a1 a2 300 hv (fun r1 hv1 => ((r1 = 0 → (V_X9_best a1 a2 1 400 hv1 (fun r3 hv3 => post r3 hv3))) ∧ (¬ (r1 = 0) → post r1 hv1))))
set_option maxHeartbeats 4000000 in
theorem c_X9_bestLength (l : Launch) (G : wG) (A : Nat → Prop) (a1 : Int32) (a2 : Int32) (hv : HV) (post : Int32 → HV → Prop) (h : V_X9_bestLength a1 a2 hv post) : wM l yX9_bestLength cX9_bestLength 4 ((Option.some FieldType.int)) 6 G A hv [.ref (ad G 9 0), .int a1, .int a2] (qI G A post) := by
  refine wM_of (by decide +kernel) (Nat.le_of_ble_eq_true rfl) ?_
  intro p e s m args below meth c C0 hr ls hl hW hS
  have hx := C0.1
  have hb := C0.2.1
  have hown := C0.2.2.2.1
  have hts := C0.2.2.2.2.1
  have hl : lv_has ls 4 [(0, .ref (ad G 9 0)), (1, .int a1), (2, .int a2)] := hl
  unfold V_X9_bestLength at h
  refine lv_aload_n hx hb dX9_bestLength_0 rfl (lv_at hl 0 rfl) ?_
  refine lv_iload_n hx hb dX9_bestLength_1 rfl (lv_at hl 1 rfl) ?_
  refine lv_iload_n hx hb dX9_bestLength_2 rfl (lv_at hl 2 rfl) ?_
  refine lv_sipush (v := 300) hx hb dX9_bestLength_3 (by decide) ?_
  refine w_ci hS (w_runV (As := [.int a1, .int a2, .int 300]) C0 hW 9 0 (by decide) (by decide) rfl rfl (c_X9_trialRefused l G A a1 a2 300 hv _ h) ⟨⟨w_1144, w_61, w_1147⟩, pl_X9_trialRefused, ⟨Nat.le_of_ble_eq_true rfl, Nat.le_of_ble_eq_true rfl⟩, ⟨Nat.le_refl _, Nat.le_refl _⟩⟩ ⟨w_1146, w_47⟩ rfl hl.1 rfl (Nat.le_of_ble_eq_true rfl) dX9_bestLength_6) (fun r1 hv1 h H locs hW hS => ?_)
  refine lv_istore_n (lv' := [(3, .int r1), (0, .ref (ad G 9 0)), (1, .int a1), (2, .int a2)]) hx hb dX9_bestLength_9 rfl hl (by decide) rfl (fun ls hl => ?_)
  refine lv_iload_n hx hb dX9_bestLength_10 rfl (lv_at hl 0 rfl) ?_
  refine lv_if_eq (tgt := 18) hx hb dX9_bestLength_11 (by decide) (fun c2 => ?_) (fun c2 => ?_)
  · have h := h.1 c2
    refine lv_aload_n hx hb dX9_bestLength_18 rfl (lv_at hl 1 rfl) ?_
    refine lv_iload_n hx hb dX9_bestLength_19 rfl (lv_at hl 2 rfl) ?_
    refine lv_iload_n hx hb dX9_bestLength_20 rfl (lv_at hl 3 rfl) ?_
    refine lv_iconst (v := 1) hx hb dX9_bestLength_21 (by decide) ?_
    refine lv_sipush (v := 400) hx hb dX9_bestLength_22 (by decide) ?_
    refine w_ci hS (w_runV (As := [.int a1, .int a2, .int 1, .int 400]) C0 hW 9 0 (by decide) (by decide) rfl rfl (c_X9_best l G A a1 a2 1 400 (by omega) hv1 _ h) ⟨⟨w_1164, w_61, w_1167⟩, pl_X9_best, ⟨Nat.le_of_ble_eq_true rfl, Nat.le_of_ble_eq_true rfl⟩, ⟨Nat.le_refl _, Nat.le_refl _⟩⟩ ⟨w_1166, w_49⟩ rfl hl.1 rfl (Nat.le_of_ble_eq_true rfl) dX9_bestLength_25) (fun r3 hv3 h H locs hW hS => ?_)
    exact w_iret C0 hr hW hS h dX9_bestLength_28
  · have h := h.2 c2
    refine lv_iload_n hx hb dX9_bestLength_14 rfl (lv_at hl 0 rfl) ?_
    refine lv_goto (tgt := 28) hx hb dX9_bestLength_15 (by decide) ?_
    exact w_iret C0 hr hW hS h dX9_bestLength_28

theorem pl_X9_bestSetting : yX9_bestSetting.cls ≠ "java/lang/invoke/MethodHandle" ∧ yX9_bestSetting.cls ≠ "java/lang/invoke/VarHandle" ∧ (parseMethodDescriptor yX9_bestSetting.desc).map (fun d => d.parameters.length) = some 2 := ⟨by decide +kernel, by decide +kernel, by decide +kernel⟩
def V_X9_bestSetting (a1 : Int32) (a2 : Int32) (hv : HV) (post : Int32 → HV → Prop) : Prop := (V_X9_trialRefused a1 a2 300 hv (fun r1 hv1 => ((r1 = 0 → (V_X9_best a1 a2 10 500 hv1 (fun r3 hv3 => post r3 hv3))) ∧ (¬ (r1 = 0) → post r1 hv1))))
set_option maxHeartbeats 4000000 in
theorem c_X9_bestSetting (l : Launch) (G : wG) (A : Nat → Prop) (a1 : Int32) (a2 : Int32) (hv : HV) (post : Int32 → HV → Prop) (h : V_X9_bestSetting a1 a2 hv post) : wM l yX9_bestSetting cX9_bestSetting 4 ((Option.some FieldType.int)) 6 G A hv [.ref (ad G 9 0), .int a1, .int a2] (qI G A post) := by
  refine wM_of (by decide +kernel) (Nat.le_of_ble_eq_true rfl) ?_
  intro p e s m args below meth c C0 hr ls hl hW hS
  have hx := C0.1
  have hb := C0.2.1
  have hown := C0.2.2.2.1
  have hts := C0.2.2.2.2.1
  have hl : lv_has ls 4 [(0, .ref (ad G 9 0)), (1, .int a1), (2, .int a2)] := hl
  unfold V_X9_bestSetting at h
  refine lv_aload_n hx hb dX9_bestSetting_0 rfl (lv_at hl 0 rfl) ?_
  refine lv_iload_n hx hb dX9_bestSetting_1 rfl (lv_at hl 1 rfl) ?_
  refine lv_iload_n hx hb dX9_bestSetting_2 rfl (lv_at hl 2 rfl) ?_
  refine lv_sipush (v := 300) hx hb dX9_bestSetting_3 (by decide) ?_
  refine w_ci hS (w_runV (As := [.int a1, .int a2, .int 300]) C0 hW 9 0 (by decide) (by decide) rfl rfl (c_X9_trialRefused l G A a1 a2 300 hv _ h) ⟨⟨w_1144, w_61, w_1147⟩, pl_X9_trialRefused, ⟨Nat.le_of_ble_eq_true rfl, Nat.le_of_ble_eq_true rfl⟩, ⟨Nat.le_refl _, Nat.le_refl _⟩⟩ ⟨w_1146, w_47⟩ rfl hl.1 rfl (Nat.le_of_ble_eq_true rfl) dX9_bestSetting_6) (fun r1 hv1 h H locs hW hS => ?_)
  refine lv_istore_n (lv' := [(3, .int r1), (0, .ref (ad G 9 0)), (1, .int a1), (2, .int a2)]) hx hb dX9_bestSetting_9 rfl hl (by decide) rfl (fun ls hl => ?_)
  refine lv_iload_n hx hb dX9_bestSetting_10 rfl (lv_at hl 0 rfl) ?_
  refine lv_if_eq (tgt := 18) hx hb dX9_bestSetting_11 (by decide) (fun c2 => ?_) (fun c2 => ?_)
  · have h := h.1 c2
    refine lv_aload_n hx hb dX9_bestSetting_18 rfl (lv_at hl 1 rfl) ?_
    refine lv_iload_n hx hb dX9_bestSetting_19 rfl (lv_at hl 2 rfl) ?_
    refine lv_iload_n hx hb dX9_bestSetting_20 rfl (lv_at hl 3 rfl) ?_
    refine lv_bipush (v := 10) hx hb dX9_bestSetting_21 (by decide) ?_
    refine lv_sipush (v := 500) hx hb dX9_bestSetting_23 (by decide) ?_
    refine w_ci hS (w_runV (As := [.int a1, .int a2, .int 10, .int 500]) C0 hW 9 0 (by decide) (by decide) rfl rfl (c_X9_best l G A a1 a2 10 500 (by omega) hv1 _ h) ⟨⟨w_1164, w_61, w_1167⟩, pl_X9_best, ⟨Nat.le_of_ble_eq_true rfl, Nat.le_of_ble_eq_true rfl⟩, ⟨Nat.le_refl _, Nat.le_refl _⟩⟩ ⟨w_1166, w_49⟩ rfl hl.1 rfl (Nat.le_of_ble_eq_true rfl) dX9_bestSetting_26) (fun r3 hv3 h H locs hW hS => ?_)
    exact w_iret C0 hr hW hS h dX9_bestSetting_29
  · have h := h.2 c2
    refine lv_iload_n hx hb dX9_bestSetting_14 rfl (lv_at hl 0 rfl) ?_
    refine lv_goto (tgt := 29) hx hb dX9_bestSetting_15 (by decide) ?_
    exact w_iret C0 hr hW hS h dX9_bestSetting_29
