theorem pl_L_low : yL_low.cls ≠ "java/lang/invoke/MethodHandle" ∧ yL_low.cls ≠ "java/lang/invoke/VarHandle" ∧ (parseMethodDescriptor yL_low.desc).map (fun d => d.parameters.length) = some 2 := ⟨by decide +kernel, by decide +kernel, by decide +kernel⟩
def V_L_low (a0 : Int32) (a1 : Int32) (hv : HV) (post : Int32 → HV → Prop) : Prop := (¬ a1 = 0 ∧ post ((a0 &&& 2147483647) - (a0 &&& 2147483647) / a1 * a1) hv)
set_option maxHeartbeats 4000000 in
theorem c_L_low (l : Launch) (G : wG) (A : Nat → Prop) (a0 : Int32) (a1 : Int32) (hv : HV) (post : Int32 → HV → Prop) (h : V_L_low a0 a1 hv post) : wM l yL_low cL_low 2 ((Option.some FieldType.int)) 0 G A hv [.int a0, .int a1] (qI G A post) := by
  refine wM_of (by decide +kernel) (Nat.le_of_ble_eq_true rfl) ?_
  intro p e s m args below meth c C0 hr ls hl hW hS
  have hx := C0.1
  have hb := C0.2.1
  have hown := C0.2.2.2.1
  have hts := C0.2.2.2.2.1
  have hl : lv_has ls 2 [(0, .int a0), (1, .int a1)] := hl
  unfold V_L_low at h
  refine lv_iload_n hx hb dL_low_0 rfl (lv_at hl 0 rfl) ?_
  refine lv_ldc (v := 2147483647) hx hb hown (hts _ w_362) dL_low_1 ?_
  refine lv_iand hx hb dL_low_3 ?_
  refine lv_iload_n hx hb dL_low_4 rfl (lv_at hl 1 rfl) ?_
  obtain ⟨q1, h⟩ := h
  refine lv_irem hx hb dL_low_5 q1 ?_
  exact w_iret C0 hr hW hS h dL_low_6

def V_L_many_4 (a1 : Int32) (post : Int32 → HV → Prop) : Nat → Int32 → Int32 → HV → Prop
  | 0, _, _, _ => False
  | n4 + 1, v2, v3, hv => (V_X8_pumps hv (fun r1 hv1 => ((r1 ≤ v3 → post v2 hv1) ∧ (¬ (r1 ≤ v3) → (V_X8_phase v3 hv1 (fun r3 hv3 => ((r3 < a1 → (∀ x5 : Int32, x5 = v3 + 1 → V_L_many_4 a1 post n4 v2 x5 hv3)) ∧ (¬ (r3 < a1) → (∀ x6 : Int32, x6 = (v2 + 1) → (∀ x7 : Int32, x7 = v3 + 1 → V_L_many_4 a1 post n4 x6 x7 hv3))))))))))
set_option maxHeartbeats 4000000 in
theorem k_L_many_4 {p : Program} {l : Launch} {e : Env} {s : State} {m : MethodId} {args : Array Value} {below : List Frame} {meth : Method} {c : Code} {G : wG} {A : Nat → Prop} (a1 : Int32) (post : Int32 → HV → Prop) (C0 : cx p s m args meth c "RamStationLaw" cL_many 4 G) (hr : meth.sig.returnType = (Option.some FieldType.int))   : ∀ (n : Nat) (v2 : Int32) (v3 : Int32) (hv : HV), V_L_many_4 a1 post n v2 v3 hv → ∀ (H : Heap) (locs : List Loc) (ls : Array Slot), wd G A hv H → va_S A s.heap H locs → lv_has ls 4 [(0, .ref (ad G 8 0)), (1, .int a1), (2, .int v2), (3, .int v3)] → W p l e (wrm 3) s m args below meth c H locs 0 0 (MQ below (qI G A post) args s 0 0 A) (F0 m 4 ls []) := by
  have hx := C0.1
  have hb := C0.2.1
  have hown := C0.2.2.2.1
  have hts := C0.2.2.2.2.1
  intro n
  induction n with
  | zero =>
    intro v2 v3 hv  h
    exact (h : False).elim
  | succ n ih =>
    intro v2 v3 hv  h H locs ls hW hS hl
    rw [V_L_many_4] at h
    refine lv_iload_n hx hb dL_many_4 rfl (lv_at hl 3 rfl) ?_
    refine lv_aload_n hx hb dL_many_5 rfl (lv_at hl 0 rfl) ?_
    refine w_ci hS (w_runV (As := []) C0 hW 8 0 (by decide) (by decide) rfl rfl (c_X8_pumps l G A hv _ h) ⟨⟨w_319, w_6, w_322⟩, pl_X8_pumps, ⟨Nat.le_of_ble_eq_true rfl, Nat.le_of_ble_eq_true rfl⟩, ⟨Nat.le_refl _, Nat.le_refl _⟩⟩ ⟨w_320, w_321⟩ rfl hl.1 rfl (Nat.le_of_ble_eq_true rfl) dL_many_6) (fun r1 hv1 h H locs hW hS => ?_)
    refine lv_icmp_ge (tgt := 35) hx hb dL_many_9 (by decide) (fun c2 => ?_) (fun c2 => ?_)
    · have h := h.1 c2
      refine lv_iload_n hx hb dL_many_35 rfl (lv_at hl 2 rfl) ?_
      exact w_iret C0 hr hW hS h dL_many_36
    · have h := h.2 c2
      refine lv_aload_n hx hb dL_many_12 rfl (lv_at hl 0 rfl) ?_
      refine lv_iload_n hx hb dL_many_13 rfl (lv_at hl 3 rfl) ?_
      refine w_ci hS (w_runV (As := [.int v3]) C0 hW 8 0 (by decide) (by decide) rfl rfl (c_X8_phase l G A v3 hv1 _ h) ⟨⟨w_346, w_6, w_349⟩, pl_X8_phase, ⟨Nat.le_of_ble_eq_true rfl, Nat.le_of_ble_eq_true rfl⟩, ⟨Nat.le_refl _, Nat.le_refl _⟩⟩ ⟨w_347, w_348⟩ rfl hl.1 rfl (Nat.le_of_ble_eq_true rfl) dL_many_14) (fun r3 hv3 h H locs hW hS => ?_)
      refine lv_iload_n hx hb dL_many_17 rfl (lv_at hl 1 rfl) ?_
      refine lv_icmp_lt (tgt := 27) hx hb dL_many_18 (by decide) (fun c4 => ?_) (fun c4 => ?_)
      · have h := h.1 c4
        refine lv_iload_n hx hb dL_many_27 rfl (lv_at hl 2 rfl) ?_
        refine lv_istore_n (lv' := [(2, .int v2), (0, .ref (ad G 8 0)), (1, .int a1), (3, .int v3)]) hx hb dL_many_28 rfl hl (by decide) rfl (fun ls hl => ?_)
        obtain ⟨x5, ex5⟩ : ∃ y : Int32, y = v3 + 1 := ⟨_, rfl⟩
        have h := h x5 ex5
        refine lv_iinc (v := x5) (lv' := [(3, .int x5), (2, .int v2), (0, .ref (ad G 8 0)), (1, .int a1)]) hx hb dL_many_29 hl (k := 3) rfl (by rw [ex5]; rfl) (by decide) rfl (fun ls hl => ?_)
        refine lv_goto (tgt := 4) hx hb dL_many_32 (by decide) ?_
        exact ih v2 x5 hv3 h _ _ _ hW hS (lv_sub hl [2, 3, 1, 0] rfl)
      · have h := h.2 c4
        refine lv_iload_n hx hb dL_many_21 rfl (lv_at hl 2 rfl) ?_
        refine lv_iconst (v := 1) hx hb dL_many_22 (by decide) ?_
        refine lv_iadd hx hb dL_many_23 ?_
        refine lv_goto (tgt := 28) hx hb dL_many_24 (by decide) ?_
        refine lv_topi (fun x6 ex6 => ?_)
        have h := h x6 ex6
        refine lv_istore_n (lv' := [(2, .int x6), (0, .ref (ad G 8 0)), (1, .int a1), (3, .int v3)]) hx hb dL_many_28 rfl hl (by decide) rfl (fun ls hl => ?_)
        obtain ⟨x7, ex7⟩ : ∃ y : Int32, y = v3 + 1 := ⟨_, rfl⟩
        have h := h x7 ex7
        refine lv_iinc (v := x7) (lv' := [(3, .int x7), (2, .int x6), (0, .ref (ad G 8 0)), (1, .int a1)]) hx hb dL_many_29 hl (k := 3) rfl (by rw [ex7]; rfl) (by decide) rfl (fun ls hl => ?_)
        refine lv_goto (tgt := 4) hx hb dL_many_32 (by decide) ?_
        exact ih x6 x7 hv3 h _ _ _ hW hS (lv_sub hl [2, 3, 1, 0] rfl)
theorem pl_L_many : yL_many.cls ≠ "java/lang/invoke/MethodHandle" ∧ yL_many.cls ≠ "java/lang/invoke/VarHandle" ∧ (parseMethodDescriptor yL_many.desc).map (fun d => d.parameters.length) = some 2 := ⟨by decide +kernel, by decide +kernel, by decide +kernel⟩
def V_L_many (a1 : Int32) (hv : HV) (post : Int32 → HV → Prop) : Prop := (∃ n4, V_L_many_4 a1 post n4 0 0 hv)
set_option maxHeartbeats 4000000 in
theorem c_L_many (l : Launch) (G : wG) (A : Nat → Prop) (a1 : Int32) (hv : HV) (post : Int32 → HV → Prop) (h : V_L_many a1 hv post) : wM l yL_many cL_many 4 ((Option.some FieldType.int)) 3 G A hv [.ref (ad G 8 0), .int a1] (qI G A post) := by
  refine wM_of (by decide +kernel) (Nat.le_of_ble_eq_true rfl) ?_
  intro p e s m args below meth c C0 hr ls hl hW hS
  have hx := C0.1
  have hb := C0.2.1
  have hown := C0.2.2.2.1
  have hts := C0.2.2.2.2.1
  have hl : lv_has ls 4 [(0, .ref (ad G 8 0)), (1, .int a1)] := hl
  unfold V_L_many at h
  refine lv_iconst (v := 0) hx hb dL_many_0 (by decide) ?_
  refine lv_istore_n (lv' := [(2, .int 0), (0, .ref (ad G 8 0)), (1, .int a1)]) hx hb dL_many_1 rfl hl (by decide) rfl (fun ls hl => ?_)
  refine lv_iconst (v := 0) hx hb dL_many_2 (by decide) ?_
  refine lv_istore_n (lv' := [(3, .int 0), (2, .int 0), (0, .ref (ad G 8 0)), (1, .int a1)]) hx hb dL_many_3 rfl hl (by decide) rfl (fun ls hl => ?_)
  obtain ⟨n8, h⟩ := h
  exact k_L_many_4 a1 post C0 hr n8 0 0 hv h _ _ _ hW hS (lv_sub hl [2, 3, 1, 0] rfl)

def V_L_lifted_4 (post : Int32 → HV → Prop) : Nat → Int32 → Int32 → HV → Prop
  | 0, _, _, _ => False
  | n4 + 1, v1, v2, hv => (V_X8_pumps hv (fun r1 hv1 => ((r1 ≤ v2 → post v1 hv1) ∧ (¬ (r1 ≤ v2) → (V_X8_lifted v2 hv1 (fun r3 hv3 => (∀ x4 : Int32, x4 = (v1 + r3) → (∀ x5 : Int32, x5 = v2 + 1 → V_L_lifted_4 post n4 x4 x5 hv3))))))))
set_option maxHeartbeats 4000000 in
theorem k_L_lifted_4 {p : Program} {l : Launch} {e : Env} {s : State} {m : MethodId} {args : Array Value} {below : List Frame} {meth : Method} {c : Code} {G : wG} {A : Nat → Prop} (post : Int32 → HV → Prop) (C0 : cx p s m args meth c "RamStationLaw" cL_lifted 3 G) (hr : meth.sig.returnType = (Option.some FieldType.int))   : ∀ (n : Nat) (v1 : Int32) (v2 : Int32) (hv : HV), V_L_lifted_4 post n v1 v2 hv → ∀ (H : Heap) (locs : List Loc) (ls : Array Slot), wd G A hv H → va_S A s.heap H locs → lv_has ls 3 [(0, .ref (ad G 8 0)), (1, .int v1), (2, .int v2)] → W p l e (wrm 3) s m args below meth c H locs 0 0 (MQ below (qI G A post) args s 0 0 A) (F0 m 4 ls []) := by
  have hx := C0.1
  have hb := C0.2.1
  have hown := C0.2.2.2.1
  have hts := C0.2.2.2.2.1
  intro n
  induction n with
  | zero =>
    intro v1 v2 hv  h
    exact (h : False).elim
  | succ n ih =>
    intro v1 v2 hv  h H locs ls hW hS hl
    rw [V_L_lifted_4] at h
    refine lv_iload_n hx hb dL_lifted_4 rfl (lv_at hl 2 rfl) ?_
    refine lv_aload_n hx hb dL_lifted_5 rfl (lv_at hl 0 rfl) ?_
    refine w_ci hS (w_runV (As := []) C0 hW 8 0 (by decide) (by decide) rfl rfl (c_X8_pumps l G A hv _ h) ⟨⟨w_319, w_6, w_322⟩, pl_X8_pumps, ⟨Nat.le_of_ble_eq_true rfl, Nat.le_of_ble_eq_true rfl⟩, ⟨Nat.le_refl _, Nat.le_refl _⟩⟩ ⟨w_320, w_321⟩ rfl hl.1 rfl (Nat.le_of_ble_eq_true rfl) dL_lifted_6) (fun r1 hv1 h H locs hW hS => ?_)
    refine lv_icmp_ge (tgt := 26) hx hb dL_lifted_9 (by decide) (fun c2 => ?_) (fun c2 => ?_)
    · have h := h.1 c2
      refine lv_iload_n hx hb dL_lifted_26 rfl (lv_at hl 1 rfl) ?_
      exact w_iret C0 hr hW hS h dL_lifted_27
    · have h := h.2 c2
      refine lv_iload_n hx hb dL_lifted_12 rfl (lv_at hl 1 rfl) ?_
      refine lv_aload_n hx hb dL_lifted_13 rfl (lv_at hl 0 rfl) ?_
      refine lv_iload_n hx hb dL_lifted_14 rfl (lv_at hl 2 rfl) ?_
      refine w_ci hS (w_runV (As := [.int v2]) C0 hW 8 0 (by decide) (by decide) rfl rfl (c_X8_lifted l G A v2 hv1 _ h) ⟨⟨w_461, w_6, w_464⟩, pl_X8_lifted, ⟨Nat.le_of_ble_eq_true rfl, Nat.le_of_ble_eq_true rfl⟩, ⟨Nat.le_refl _, Nat.le_refl _⟩⟩ ⟨w_462, w_463⟩ rfl hl.1 rfl (Nat.le_of_ble_eq_true rfl) dL_lifted_15) (fun r3 hv3 h H locs hW hS => ?_)
      refine lv_iadd hx hb dL_lifted_18 ?_
      refine lv_topi (fun x4 ex4 => ?_)
      have h := h x4 ex4
      refine lv_istore_n (lv' := [(1, .int x4), (0, .ref (ad G 8 0)), (2, .int v2)]) hx hb dL_lifted_19 rfl hl (by decide) rfl (fun ls hl => ?_)
      obtain ⟨x5, ex5⟩ : ∃ y : Int32, y = v2 + 1 := ⟨_, rfl⟩
      have h := h x5 ex5
      refine lv_iinc (v := x5) (lv' := [(2, .int x5), (1, .int x4), (0, .ref (ad G 8 0))]) hx hb dL_lifted_20 hl (k := 2) rfl (by rw [ex5]; rfl) (by decide) rfl (fun ls hl => ?_)
      refine lv_goto (tgt := 4) hx hb dL_lifted_23 (by decide) ?_
      exact ih x4 x5 hv3 h _ _ _ hW hS (lv_sub hl [2, 1, 0] rfl)
theorem pl_L_lifted : yL_lifted.cls ≠ "java/lang/invoke/MethodHandle" ∧ yL_lifted.cls ≠ "java/lang/invoke/VarHandle" ∧ (parseMethodDescriptor yL_lifted.desc).map (fun d => d.parameters.length) = some 1 := ⟨by decide +kernel, by decide +kernel, by decide +kernel⟩
def V_L_lifted  (hv : HV) (post : Int32 → HV → Prop) : Prop := (∃ n4, V_L_lifted_4 post n4 0 0 hv)
set_option maxHeartbeats 4000000 in
theorem c_L_lifted (l : Launch) (G : wG) (A : Nat → Prop) (hv : HV) (post : Int32 → HV → Prop) (h : V_L_lifted hv post) : wM l yL_lifted cL_lifted 3 ((Option.some FieldType.int)) 3 G A hv [.ref (ad G 8 0)] (qI G A post) := by
  refine wM_of (by decide +kernel) (Nat.le_of_ble_eq_true rfl) ?_
  intro p e s m args below meth c C0 hr ls hl hW hS
  have hx := C0.1
  have hb := C0.2.1
  have hown := C0.2.2.2.1
  have hts := C0.2.2.2.2.1
  have hl : lv_has ls 3 [(0, .ref (ad G 8 0))] := hl
  unfold V_L_lifted at h
  refine lv_iconst (v := 0) hx hb dL_lifted_0 (by decide) ?_
  refine lv_istore_n (lv' := [(1, .int 0), (0, .ref (ad G 8 0))]) hx hb dL_lifted_1 rfl hl (by decide) rfl (fun ls hl => ?_)
  refine lv_iconst (v := 0) hx hb dL_lifted_2 (by decide) ?_
  refine lv_istore_n (lv' := [(2, .int 0), (1, .int 0), (0, .ref (ad G 8 0))]) hx hb dL_lifted_3 rfl hl (by decide) rfl (fun ls hl => ?_)
  obtain ⟨n6, h⟩ := h
  exact k_L_lifted_4 post C0 hr n6 0 0 hv h _ _ _ hW hS (lv_sub hl [2, 1, 0] rfl)

theorem pl_L_through : yL_through.cls ≠ "java/lang/invoke/MethodHandle" ∧ yL_through.cls ≠ "java/lang/invoke/VarHandle" ∧ (parseMethodDescriptor yL_through.desc).map (fun d => d.parameters.length) = some 2 := ⟨by decide +kernel, by decide +kernel, by decide +kernel⟩
def V_L_through (a1 : Int32) (hv : HV) (post : Int32 → HV → Prop) : Prop := (V_X8_wasted a1 hv (fun r1 hv1 => (V_X8_relieved a1 hv1 (fun r2 hv2 => (V_X8_lifted a1 hv2 (fun r3 hv3 => (V_X8_chamberWater a1 hv3 (fun r4 hv4 => post (((r1 + r2) + r3) + r4) hv4))))))))
set_option maxHeartbeats 4000000 in
theorem c_L_through (l : Launch) (G : wG) (A : Nat → Prop) (a1 : Int32) (hv : HV) (post : Int32 → HV → Prop) (h : V_L_through a1 hv post) : wM l yL_through cL_through 2 ((Option.some FieldType.int)) 3 G A hv [.ref (ad G 8 0), .int a1] (qI G A post) := by
  refine wM_of (by decide +kernel) (Nat.le_of_ble_eq_true rfl) ?_
  intro p e s m args below meth c C0 hr ls hl hW hS
  have hx := C0.1
  have hb := C0.2.1
  have hown := C0.2.2.2.1
  have hts := C0.2.2.2.2.1
  have hl : lv_has ls 2 [(0, .ref (ad G 8 0)), (1, .int a1)] := hl
  unfold V_L_through at h
  refine lv_aload_n hx hb dL_through_0 rfl (lv_at hl 0 rfl) ?_
  refine lv_iload_n hx hb dL_through_1 rfl (lv_at hl 1 rfl) ?_
  refine w_ci hS (w_runV (As := [.int a1]) C0 hW 8 0 (by decide) (by decide) rfl rfl (c_X8_wasted l G A a1 hv _ h) ⟨⟨w_550, w_6, w_553⟩, pl_X8_wasted, ⟨Nat.le_of_ble_eq_true rfl, Nat.le_of_ble_eq_true rfl⟩, ⟨Nat.le_refl _, Nat.le_refl _⟩⟩ ⟨w_551, w_552⟩ rfl hl.1 rfl (Nat.le_of_ble_eq_true rfl) dL_through_2) (fun r1 hv1 h H locs hW hS => ?_)
  refine lv_aload_n hx hb dL_through_5 rfl (lv_at hl 0 rfl) ?_
  refine lv_iload_n hx hb dL_through_6 rfl (lv_at hl 1 rfl) ?_
  refine w_ci hS (w_runV (As := [.int a1]) C0 hW 8 0 (by decide) (by decide) rfl rfl (c_X8_relieved l G A a1 hv1 _ h) ⟨⟨w_554, w_6, w_557⟩, pl_X8_relieved, ⟨Nat.le_of_ble_eq_true rfl, Nat.le_of_ble_eq_true rfl⟩, ⟨Nat.le_refl _, Nat.le_refl _⟩⟩ ⟨w_555, w_556⟩ rfl hl.1 rfl (Nat.le_of_ble_eq_true rfl) dL_through_7) (fun r2 hv2 h H locs hW hS => ?_)
  refine lv_iadd hx hb dL_through_10 ?_
  refine lv_aload_n hx hb dL_through_11 rfl (lv_at hl 0 rfl) ?_
  refine lv_iload_n hx hb dL_through_12 rfl (lv_at hl 1 rfl) ?_
  refine w_ci hS (w_runV (As := [.int a1]) C0 hW 8 0 (by decide) (by decide) rfl rfl (c_X8_lifted l G A a1 hv2 _ h) ⟨⟨w_461, w_6, w_464⟩, pl_X8_lifted, ⟨Nat.le_of_ble_eq_true rfl, Nat.le_of_ble_eq_true rfl⟩, ⟨Nat.le_refl _, Nat.le_refl _⟩⟩ ⟨w_462, w_463⟩ rfl hl.1 rfl (Nat.le_of_ble_eq_true rfl) dL_through_13) (fun r3 hv3 h H locs hW hS => ?_)
  refine lv_iadd hx hb dL_through_16 ?_
  refine lv_aload_n hx hb dL_through_17 rfl (lv_at hl 0 rfl) ?_
  refine lv_iload_n hx hb dL_through_18 rfl (lv_at hl 1 rfl) ?_
  refine w_ci hS (w_runV (As := [.int a1]) C0 hW 8 0 (by decide) (by decide) rfl rfl (c_X8_chamberWater l G A a1 hv3 _ h) ⟨⟨w_409, w_6, w_412⟩, pl_X8_chamberWater, ⟨Nat.le_of_ble_eq_true rfl, Nat.le_of_ble_eq_true rfl⟩, ⟨Nat.le_refl _, Nat.le_refl _⟩⟩ ⟨w_410, w_411⟩ rfl hl.1 rfl (Nat.le_of_ble_eq_true rfl) dL_through_19) (fun r4 hv4 h H locs hW hS => ?_)
  refine lv_iadd hx hb dL_through_22 ?_
  exact w_iret C0 hr hW hS h dL_through_23

def V_L_isBalanced_29 (post : Int32 → HV → Prop) (k_104 : Int32 → Int32 → HV → Prop) : Nat → Int32 → Int32 → Int32 → HV → Prop
  | 0, _, _, _, _ => False
  | n29 + 1, v2, v3, v4, hv => (V_X8_pumps hv (fun r6 hv6 => ((r6 ≤ v4 → k_104 v2 v3 hv6) ∧ (¬ (r6 ≤ v4) → (V_L_through v4 hv6 (fun r8 hv8 => (∀ x9 : Int32, x9 = (v2 + r8) → ((v3 = 0 → (∀ x11 : Int32, x11 = v4 + 1 → V_L_isBalanced_29 post k_104 n29 x9 0 x11 hv8)) ∧ (¬ (v3 = 0) → (V_X8_lifted v4 hv8 (fun r12 hv12 => (V_X8_tank v4 hv12 (fun r13 hv13 => (V_X8_overflowed v4 hv13 (fun r14 hv14 => (vp_in (2 + v4) 6 ∧ ((r12 = ((r13 + r14) + (hv14 9 0 (Int32.toNatClampNeg (2 + v4)))) → (V_X8_tank v4 hv14 (fun r18 hv18 => ((30000 < r18 → (∀ x20 : Int32, x20 = v4 + 1 → V_L_isBalanced_29 post k_104 n29 x9 0 x20 hv18)) ∧ (¬ (30000 < r18) → (∀ x21 : Int32, x21 = v4 + 1 → V_L_isBalanced_29 post k_104 n29 x9 1 x21 hv18)))))) ∧ (¬ (r12 = ((r13 + r14) + (hv14 9 0 (Int32.toNatClampNeg (2 + v4))))) → (∀ x17 : Int32, x17 = v4 + 1 → V_L_isBalanced_29 post k_104 n29 x9 0 x17 hv14)))))))))))))))))))
set_option maxHeartbeats 4000000 in
theorem k_L_isBalanced_29 {p : Program} {l : Launch} {e : Env} {s : State} {m : MethodId} {args : Array Value} {below : List Frame} {meth : Method} {c : Code} {G : wG} {A : Nat → Prop} (post : Int32 → HV → Prop) (k_104 : Int32 → Int32 → HV → Prop) (C0 : cx p s m args meth c "RamStationLaw" cL_isBalanced 5 G) (hr : meth.sig.returnType = (Option.some FieldType.boolean))  (hk_104 : ∀ (v2 : Int32) (v3 : Int32) (hv : HV),  k_104 v2 v3 hv → ∀ (H : Heap) (locs : List Loc) (ls : Array Slot), wd G A hv H → va_S A s.heap H locs → lv_has ls 5 [(1, .ref (ad G 9 0)), (2, .int v2), (3, .int v3)] → W p l e (wrm 4) s m args below meth c H locs 0 0 (MQ below (qI G A post) args s 0 0 A) (F0 m 104 ls [])) : ∀ (n : Nat) (v2 : Int32) (v3 : Int32) (v4 : Int32) (hv : HV), V_L_isBalanced_29 post k_104 n v2 v3 v4 hv → ∀ (H : Heap) (locs : List Loc) (ls : Array Slot), wd G A hv H → va_S A s.heap H locs → lv_has ls 5 [(0, .ref (ad G 8 0)), (1, .ref (ad G 9 0)), (2, .int v2), (3, .int v3), (4, .int v4)] → W p l e (wrm 4) s m args below meth c H locs 0 0 (MQ below (qI G A post) args s 0 0 A) (F0 m 29 ls []) := by
  have hx := C0.1
  have hb := C0.2.1
  have hown := C0.2.2.2.1
  have hts := C0.2.2.2.2.1
  intro n
  induction n with
  | zero =>
    intro v2 v3 v4 hv  h
    exact (h : False).elim
  | succ n ih =>
    intro v2 v3 v4 hv  h H locs ls hW hS hl
    rw [V_L_isBalanced_29] at h
    refine lv_iload hx hb dL_isBalanced_29 (lv_at hl 4 rfl) ?_
    refine lv_aload_n hx hb dL_isBalanced_31 rfl (lv_at hl 0 rfl) ?_
    refine w_ci hS (w_runV (As := []) C0 hW 8 0 (by decide) (by decide) rfl rfl (c_X8_pumps l G A hv _ h) ⟨⟨w_319, w_6, w_322⟩, pl_X8_pumps, ⟨Nat.le_of_ble_eq_true rfl, Nat.le_of_ble_eq_true rfl⟩, ⟨Nat.le_refl _, Nat.le_refl _⟩⟩ ⟨w_320, w_321⟩ rfl hl.1 rfl (Nat.le_of_ble_eq_true rfl) dL_isBalanced_32) (fun r6 hv6 h H locs hW hS => ?_)
    refine lv_icmp_ge (tgt := 104) hx hb dL_isBalanced_35 (by decide) (fun c7 => ?_) (fun c7 => ?_)
    · have h := h.1 c7
      exact hk_104 v2 v3 hv6 h _ _ _ hW hS (lv_sub hl [1, 2, 3] rfl)
    · have h := h.2 c7
      refine lv_iload_n hx hb dL_isBalanced_38 rfl (lv_at hl 2 rfl) ?_
      refine lv_aload_n hx hb dL_isBalanced_39 rfl (lv_at hl 0 rfl) ?_
      refine lv_iload hx hb dL_isBalanced_40 (lv_at hl 4 rfl) ?_
      refine w_ci hS (w_runS (As := [.ref (ad G 8 0), .int v4]) C0 hW (c_L_through l G A v4 hv6 _ h) ⟨⟨w_547, w_5, w_549⟩, pl_L_through, ⟨Nat.le_of_ble_eq_true rfl, Nat.le_of_ble_eq_true rfl⟩, ⟨Nat.le_refl _, Nat.le_refl _⟩⟩ w_548 rfl hl.1 rfl (Nat.le_of_ble_eq_true rfl) dL_isBalanced_42) (fun r8 hv8 h H locs hW hS => ?_)
      refine lv_iadd hx hb dL_isBalanced_45 ?_
      refine lv_topi (fun x9 ex9 => ?_)
      have h := h x9 ex9
      refine lv_istore_n (lv' := [(2, .int x9), (0, .ref (ad G 8 0)), (1, .ref (ad G 9 0)), (3, .int v3), (4, .int v4)]) hx hb dL_isBalanced_46 rfl hl (by decide) rfl (fun ls hl => ?_)
      refine lv_iload_n hx hb dL_isBalanced_47 rfl (lv_at hl 3 rfl) ?_
      refine lv_if_eq (tgt := 96) hx hb dL_isBalanced_48 (by decide) (fun c10 => ?_) (fun c10 => ?_)
      · have h := h.1 c10
        refine lv_iconst (v := 0) hx hb dL_isBalanced_96 (by decide) ?_
        refine lv_istore_n (lv' := [(3, .int 0), (2, .int x9), (0, .ref (ad G 8 0)), (1, .ref (ad G 9 0)), (4, .int v4)]) hx hb dL_isBalanced_97 rfl hl (by decide) rfl (fun ls hl => ?_)
        obtain ⟨x11, ex11⟩ : ∃ y : Int32, y = v4 + 1 := ⟨_, rfl⟩
        have h := h x11 ex11
        refine lv_iinc (v := x11) (lv' := [(4, .int x11), (3, .int 0), (2, .int x9), (0, .ref (ad G 8 0)), (1, .ref (ad G 9 0))]) hx hb dL_isBalanced_98 hl (k := 4) rfl (by rw [ex11]; rfl) (by decide) rfl (fun ls hl => ?_)
        refine lv_goto (tgt := 29) hx hb dL_isBalanced_101 (by decide) ?_
        exact ih x9 0 x11 hv8 h _ _ _ hW hS (lv_sub hl [3, 4, 2, 1, 0] rfl)
      · have h := h.2 c10
        refine lv_aload_n hx hb dL_isBalanced_51 rfl (lv_at hl 1 rfl) ?_
        refine lv_iload hx hb dL_isBalanced_52 (lv_at hl 4 rfl) ?_
        refine w_ci hS (w_runV (As := [.int v4]) C0 hW 8 0 (by decide) (by decide) rfl rfl (c_X8_lifted l G A v4 hv8 _ h) ⟨⟨w_461, w_6, w_464⟩, pl_X8_lifted, ⟨Nat.le_of_ble_eq_true rfl, Nat.le_of_ble_eq_true rfl⟩, ⟨Nat.le_refl _, Nat.le_refl _⟩⟩ ⟨w_462, w_463⟩ rfl hl.1 rfl (Nat.le_of_ble_eq_true rfl) dL_isBalanced_54) (fun r12 hv12 h H locs hW hS => ?_)
        refine lv_aload_n hx hb dL_isBalanced_57 rfl (lv_at hl 1 rfl) ?_
        refine lv_iload hx hb dL_isBalanced_58 (lv_at hl 4 rfl) ?_
        refine w_ci hS (w_runV (As := [.int v4]) C0 hW 8 0 (by decide) (by decide) rfl rfl (c_X8_tank l G A v4 hv12 _ h) ⟨⟨w_430, w_6, w_433⟩, pl_X8_tank, ⟨Nat.le_of_ble_eq_true rfl, Nat.le_of_ble_eq_true rfl⟩, ⟨Nat.le_refl _, Nat.le_refl _⟩⟩ ⟨w_431, w_432⟩ rfl hl.1 rfl (Nat.le_of_ble_eq_true rfl) dL_isBalanced_60) (fun r13 hv13 h H locs hW hS => ?_)
        refine lv_aload_n hx hb dL_isBalanced_63 rfl (lv_at hl 1 rfl) ?_
        refine lv_iload hx hb dL_isBalanced_64 (lv_at hl 4 rfl) ?_
        refine w_ci hS (w_runV (As := [.int v4]) C0 hW 8 0 (by decide) (by decide) rfl rfl (c_X8_overflowed l G A v4 hv13 _ h) ⟨⟨w_558, w_6, w_561⟩, pl_X8_overflowed, ⟨Nat.le_of_ble_eq_true rfl, Nat.le_of_ble_eq_true rfl⟩, ⟨Nat.le_refl _, Nat.le_refl _⟩⟩ ⟨w_559, w_560⟩ rfl hl.1 rfl (Nat.le_of_ble_eq_true rfl) dL_isBalanced_66) (fun r14 hv14 h H locs hW hS => ?_)
        refine lv_iadd hx hb dL_isBalanced_69 ?_
        refine lv_aload_n hx hb dL_isBalanced_70 rfl (lv_at hl 2 rfl) ?_
        refine lv_iconst (v := 2) hx hb dL_isBalanced_71 (by decide) ?_
        refine lv_iload hx hb dL_isBalanced_72 (lv_at hl 4 rfl) ?_
        refine lv_iadd hx hb dL_isBalanced_74 ?_
        obtain ⟨q15, h⟩ := h
        refine w_iald C0 hW 9 0 (by decide) (by decide) (n := 6) rfl q15 dL_isBalanced_75 ?_
        refine lv_iadd hx hb dL_isBalanced_76 ?_
        refine lv_icmp_ne (tgt := 96) hx hb dL_isBalanced_77 (by decide) (fun c16 => ?_) (fun c16 => ?_)
        · have h := h.2 c16
          refine lv_iconst (v := 0) hx hb dL_isBalanced_96 (by decide) ?_
          refine lv_istore_n (lv' := [(3, .int 0), (2, .int x9), (0, .ref (ad G 8 0)), (1, .ref (ad G 9 0)), (4, .int v4)]) hx hb dL_isBalanced_97 rfl hl (by decide) rfl (fun ls hl => ?_)
          obtain ⟨x17, ex17⟩ : ∃ y : Int32, y = v4 + 1 := ⟨_, rfl⟩
          have h := h x17 ex17
          refine lv_iinc (v := x17) (lv' := [(4, .int x17), (3, .int 0), (2, .int x9), (0, .ref (ad G 8 0)), (1, .ref (ad G 9 0))]) hx hb dL_isBalanced_98 hl (k := 4) rfl (by rw [ex17]; rfl) (by decide) rfl (fun ls hl => ?_)
          refine lv_goto (tgt := 29) hx hb dL_isBalanced_101 (by decide) ?_
          exact ih x9 0 x17 hv14 h _ _ _ hW hS (lv_sub hl [3, 4, 2, 1, 0] rfl)
        · have h := h.1 c16
          refine lv_aload_n hx hb dL_isBalanced_80 rfl (lv_at hl 1 rfl) ?_
          refine lv_iload hx hb dL_isBalanced_81 (lv_at hl 4 rfl) ?_
          refine w_ci hS (w_runV (As := [.int v4]) C0 hW 8 0 (by decide) (by decide) rfl rfl (c_X8_tank l G A v4 hv14 _ h) ⟨⟨w_430, w_6, w_433⟩, pl_X8_tank, ⟨Nat.le_of_ble_eq_true rfl, Nat.le_of_ble_eq_true rfl⟩, ⟨Nat.le_refl _, Nat.le_refl _⟩⟩ ⟨w_431, w_432⟩ rfl hl.1 rfl (Nat.le_of_ble_eq_true rfl) dL_isBalanced_83) (fun r18 hv18 h H locs hW hS => ?_)
          refine lv_sipush (v := 30000) hx hb dL_isBalanced_86 (by decide) ?_
          refine lv_icmp_gt (tgt := 96) hx hb dL_isBalanced_89 (by decide) (fun c19 => ?_) (fun c19 => ?_)
          · have h := h.1 c19
            refine lv_iconst (v := 0) hx hb dL_isBalanced_96 (by decide) ?_
            refine lv_istore_n (lv' := [(3, .int 0), (2, .int x9), (0, .ref (ad G 8 0)), (1, .ref (ad G 9 0)), (4, .int v4)]) hx hb dL_isBalanced_97 rfl hl (by decide) rfl (fun ls hl => ?_)
            obtain ⟨x20, ex20⟩ : ∃ y : Int32, y = v4 + 1 := ⟨_, rfl⟩
            have h := h x20 ex20
            refine lv_iinc (v := x20) (lv' := [(4, .int x20), (3, .int 0), (2, .int x9), (0, .ref (ad G 8 0)), (1, .ref (ad G 9 0))]) hx hb dL_isBalanced_98 hl (k := 4) rfl (by rw [ex20]; rfl) (by decide) rfl (fun ls hl => ?_)
            refine lv_goto (tgt := 29) hx hb dL_isBalanced_101 (by decide) ?_
            exact ih x9 0 x20 hv18 h _ _ _ hW hS (lv_sub hl [3, 4, 2, 1, 0] rfl)
          · have h := h.2 c19
            refine lv_iconst (v := 1) hx hb dL_isBalanced_92 (by decide) ?_
            refine lv_goto (tgt := 97) hx hb dL_isBalanced_93 (by decide) ?_
            refine lv_istore_n (lv' := [(3, .int 1), (2, .int x9), (0, .ref (ad G 8 0)), (1, .ref (ad G 9 0)), (4, .int v4)]) hx hb dL_isBalanced_97 rfl hl (by decide) rfl (fun ls hl => ?_)
            obtain ⟨x21, ex21⟩ : ∃ y : Int32, y = v4 + 1 := ⟨_, rfl⟩
            have h := h x21 ex21
            refine lv_iinc (v := x21) (lv' := [(4, .int x21), (3, .int 1), (2, .int x9), (0, .ref (ad G 8 0)), (1, .ref (ad G 9 0))]) hx hb dL_isBalanced_98 hl (k := 4) rfl (by rw [ex21]; rfl) (by decide) rfl (fun ls hl => ?_)
            refine lv_goto (tgt := 29) hx hb dL_isBalanced_101 (by decide) ?_
            exact ih x9 1 x21 hv18 h _ _ _ hW hS (lv_sub hl [3, 4, 2, 1, 0] rfl)
theorem pl_L_isBalanced : yL_isBalanced.cls ≠ "java/lang/invoke/MethodHandle" ∧ yL_isBalanced.cls ≠ "java/lang/invoke/VarHandle" ∧ (parseMethodDescriptor yL_isBalanced.desc).map (fun d => d.parameters.length) = some 2 := ⟨by decide +kernel, by decide +kernel, by decide +kernel⟩
def V_L_isBalanced  (hv : HV) (post : Int32 → HV → Prop) : Prop := (V_X8_basin hv (fun r1 hv1 => (V_X8_spilled hv1 (fun r2 hv2 => (∀ x3 : Int32, x3 = (r1 + r2) → (V_X8_basin hv2 (fun r4 hv4 => ((20000 < r4 → (∃ n29, V_L_isBalanced_29 post (fun y22_2 y22_3 hv22 => ((y22_3 = 0 → post 0 hv22) ∧ (¬ (y22_3 = 0) → ((y22_2 = (hv22 9 0 1) → post 1 hv22) ∧ (¬ (y22_2 = (hv22 9 0 1)) → post 0 hv22))))) n29 x3 0 0 hv4)) ∧ (¬ (20000 < r4) → (∃ n29, V_L_isBalanced_29 post (fun y26_2 y26_3 hv26 => ((y26_3 = 0 → post 0 hv26) ∧ (¬ (y26_3 = 0) → ((y26_2 = (hv26 9 0 1) → post 1 hv26) ∧ (¬ (y26_2 = (hv26 9 0 1)) → post 0 hv26))))) n29 x3 1 0 hv4))))))))))
set_option maxHeartbeats 4000000 in
theorem c_L_isBalanced (l : Launch) (G : wG) (A : Nat → Prop) (hv : HV) (post : Int32 → HV → Prop) (h : V_L_isBalanced hv post) : wM l yL_isBalanced cL_isBalanced 5 ((Option.some FieldType.boolean)) 4 G A hv [.ref (ad G 8 0), .ref (ad G 9 0)] (qI G A post) := by
  refine wM_of (by decide +kernel) (Nat.le_of_ble_eq_true rfl) ?_
  intro p e s m args below meth c C0 hr ls hl hW hS
  have hx := C0.1
  have hb := C0.2.1
  have hown := C0.2.2.2.1
  have hts := C0.2.2.2.2.1
  have hl : lv_has ls 5 [(0, .ref (ad G 8 0)), (1, .ref (ad G 9 0))] := hl
  unfold V_L_isBalanced at h
  refine lv_aload_n hx hb dL_isBalanced_0 rfl (lv_at hl 0 rfl) ?_
  refine w_ci hS (w_runV (As := []) C0 hW 8 0 (by decide) (by decide) rfl rfl (c_X8_basin l G A hv _ h) ⟨⟨w_539, w_6, w_542⟩, pl_X8_basin, ⟨Nat.le_of_ble_eq_true rfl, Nat.le_of_ble_eq_true rfl⟩, ⟨Nat.le_refl _, Nat.le_refl _⟩⟩ ⟨w_540, w_541⟩ rfl hl.1 rfl (Nat.le_of_ble_eq_true rfl) dL_isBalanced_1) (fun r1 hv1 h H locs hW hS => ?_)
  refine lv_aload_n hx hb dL_isBalanced_4 rfl (lv_at hl 0 rfl) ?_
  refine w_ci hS (w_runV (As := []) C0 hW 8 0 (by decide) (by decide) rfl rfl (c_X8_spilled l G A hv1 _ h) ⟨⟨w_543, w_6, w_546⟩, pl_X8_spilled, ⟨Nat.le_of_ble_eq_true rfl, Nat.le_of_ble_eq_true rfl⟩, ⟨Nat.le_refl _, Nat.le_refl _⟩⟩ ⟨w_544, w_545⟩ rfl hl.1 rfl (Nat.le_of_ble_eq_true rfl) dL_isBalanced_5) (fun r2 hv2 h H locs hW hS => ?_)
  refine lv_iadd hx hb dL_isBalanced_8 ?_
  refine lv_topi (fun x3 ex3 => ?_)
  have h := h x3 ex3
  refine lv_istore_n (lv' := [(2, .int x3), (0, .ref (ad G 8 0)), (1, .ref (ad G 9 0))]) hx hb dL_isBalanced_9 rfl hl (by decide) rfl (fun ls hl => ?_)
  refine lv_aload_n hx hb dL_isBalanced_10 rfl (lv_at hl 1 rfl) ?_
  refine w_ci hS (w_runV (As := []) C0 hW 8 0 (by decide) (by decide) rfl rfl (c_X8_basin l G A hv2 _ h) ⟨⟨w_539, w_6, w_542⟩, pl_X8_basin, ⟨Nat.le_of_ble_eq_true rfl, Nat.le_of_ble_eq_true rfl⟩, ⟨Nat.le_refl _, Nat.le_refl _⟩⟩ ⟨w_540, w_541⟩ rfl hl.1 rfl (Nat.le_of_ble_eq_true rfl) dL_isBalanced_11) (fun r4 hv4 h H locs hW hS => ?_)
  refine lv_sipush (v := 20000) hx hb dL_isBalanced_14 (by decide) ?_
  refine lv_icmp_gt (tgt := 24) hx hb dL_isBalanced_17 (by decide) (fun c5 => ?_) (fun c5 => ?_)
  · have h := h.1 c5
    refine lv_iconst (v := 0) hx hb dL_isBalanced_24 (by decide) ?_
    refine lv_istore_n (lv' := [(3, .int 0), (2, .int x3), (0, .ref (ad G 8 0)), (1, .ref (ad G 9 0))]) hx hb dL_isBalanced_25 rfl hl (by decide) rfl (fun ls hl => ?_)
    refine lv_iconst (v := 0) hx hb dL_isBalanced_26 (by decide) ?_
    refine lv_istore (lv' := [(4, .int 0), (3, .int 0), (2, .int x3), (0, .ref (ad G 8 0)), (1, .ref (ad G 9 0))]) hx hb dL_isBalanced_27 hl (by decide) rfl (fun ls hl => ?_)
    obtain ⟨n25, h⟩ := h
    refine k_L_isBalanced_29 post _ C0 hr (fun y22_2 y22_3 hv22 h H locs ls hW hS hl => ?_) n25 x3 0 0 hv4 h _ _ _ hW hS (lv_sub hl [3, 4, 2, 1, 0] rfl)
    refine lv_iload_n hx hb dL_isBalanced_104 rfl (lv_at hl 2 rfl) ?_
    refine lv_if_eq (tgt := 119) hx hb dL_isBalanced_105 (by decide) (fun c23 => ?_) (fun c23 => ?_)
    · have h := h.1 c23
      refine lv_iconst (v := 0) hx hb dL_isBalanced_119 (by decide) ?_
      exact w_zret C0 hr rfl hW hS h dL_isBalanced_120
    · have h := h.2 c23
      refine lv_iload_n hx hb dL_isBalanced_108 rfl (lv_at hl 1 rfl) ?_
      refine lv_aload_n hx hb dL_isBalanced_109 rfl (lv_at hl 0 rfl) ?_
      refine lv_iconst (v := 1) hx hb dL_isBalanced_110 (by decide) ?_
      refine w_ialdN C0 hW 9 0 (by decide) (by decide) (n := 6) rfl (j := 1) rfl (by omega) (by decide) dL_isBalanced_111 ?_
      refine lv_icmp_ne (tgt := 119) hx hb dL_isBalanced_112 (by decide) (fun c24 => ?_) (fun c24 => ?_)
      · have h := h.2 c24
        refine lv_iconst (v := 0) hx hb dL_isBalanced_119 (by decide) ?_
        exact w_zret C0 hr rfl hW hS h dL_isBalanced_120
      · have h := h.1 c24
        refine lv_iconst (v := 1) hx hb dL_isBalanced_115 (by decide) ?_
        refine lv_goto (tgt := 120) hx hb dL_isBalanced_116 (by decide) ?_
        exact w_zret C0 hr rfl hW hS h dL_isBalanced_120
  · have h := h.2 c5
    refine lv_iconst (v := 1) hx hb dL_isBalanced_20 (by decide) ?_
    refine lv_goto (tgt := 25) hx hb dL_isBalanced_21 (by decide) ?_
    refine lv_istore_n (lv' := [(3, .int 1), (2, .int x3), (0, .ref (ad G 8 0)), (1, .ref (ad G 9 0))]) hx hb dL_isBalanced_25 rfl hl (by decide) rfl (fun ls hl => ?_)
    refine lv_iconst (v := 0) hx hb dL_isBalanced_26 (by decide) ?_
    refine lv_istore (lv' := [(4, .int 0), (3, .int 1), (2, .int x3), (0, .ref (ad G 8 0)), (1, .ref (ad G 9 0))]) hx hb dL_isBalanced_27 hl (by decide) rfl (fun ls hl => ?_)
    obtain ⟨n29, h⟩ := h
    refine k_L_isBalanced_29 post _ C0 hr (fun y26_2 y26_3 hv26 h H locs ls hW hS hl => ?_) n29 x3 1 0 hv4 h _ _ _ hW hS (lv_sub hl [3, 4, 2, 1, 0] rfl)
    refine lv_iload_n hx hb dL_isBalanced_104 rfl (lv_at hl 2 rfl) ?_
    refine lv_if_eq (tgt := 119) hx hb dL_isBalanced_105 (by decide) (fun c27 => ?_) (fun c27 => ?_)
    · have h := h.1 c27
      refine lv_iconst (v := 0) hx hb dL_isBalanced_119 (by decide) ?_
      exact w_zret C0 hr rfl hW hS h dL_isBalanced_120
    · have h := h.2 c27
      refine lv_iload_n hx hb dL_isBalanced_108 rfl (lv_at hl 1 rfl) ?_
      refine lv_aload_n hx hb dL_isBalanced_109 rfl (lv_at hl 0 rfl) ?_
      refine lv_iconst (v := 1) hx hb dL_isBalanced_110 (by decide) ?_
      refine w_ialdN C0 hW 9 0 (by decide) (by decide) (n := 6) rfl (j := 1) rfl (by omega) (by decide) dL_isBalanced_111 ?_
      refine lv_icmp_ne (tgt := 119) hx hb dL_isBalanced_112 (by decide) (fun c28 => ?_) (fun c28 => ?_)
      · have h := h.2 c28
        refine lv_iconst (v := 0) hx hb dL_isBalanced_119 (by decide) ?_
        exact w_zret C0 hr rfl hW hS h dL_isBalanced_120
      · have h := h.1 c28
        refine lv_iconst (v := 1) hx hb dL_isBalanced_115 (by decide) ?_
        refine lv_goto (tgt := 120) hx hb dL_isBalanced_116 (by decide) ?_
        exact w_zret C0 hr rfl hW hS h dL_isBalanced_120

def V_L_isPump_65 (a1 : Int32) (post : Int32 → HV → Prop) (k_123 : Int32 → Int32 → HV → Prop) : Nat → Int32 → Int32 → HV → Prop
  | 0, _, _, _ => False
  | n65 + 1, v4, v5, hv => (V_X8_trace a1 v5 hv (fun r4 hv4 => ((r4 = (-1005) → k_123 v4 v5 hv4) ∧ (¬ (r4 = (-1005)) → ((v4 = 0 → (∀ x7 : Int32, x7 = (v5 + 1) → V_L_isPump_65 a1 post k_123 n65 0 x7 hv4)) ∧ (¬ (v4 = 0) → (V_X8_trace a1 v5 hv4 (fun r8 hv8 => ((r8 < (-128) → (∀ x10 : Int32, x10 = (v5 + 1) → V_L_isPump_65 a1 post k_123 n65 0 x10 hv8)) ∧ (¬ (r8 < (-128)) → (V_X8_trace a1 v5 hv8 (fun r11 hv11 => ((127 < r11 → (∀ x13 : Int32, x13 = (v5 + 1) → V_L_isPump_65 a1 post k_123 n65 0 x13 hv11)) ∧ (¬ (127 < r11) → (∀ x14 : Int32, x14 = (v5 + 1) → V_L_isPump_65 a1 post k_123 n65 1 x14 hv11)))))))))))))))
set_option maxHeartbeats 4000000 in
theorem k_L_isPump_65 {p : Program} {l : Launch} {e : Env} {s : State} {m : MethodId} {args : Array Value} {below : List Frame} {meth : Method} {c : Code} {G : wG} {A : Nat → Prop} (a1 : Int32) (post : Int32 → HV → Prop) (k_123 : Int32 → Int32 → HV → Prop) (C0 : cx p s m args meth c "RamStationLaw" cL_isPump 8 G) (hr : meth.sig.returnType = (Option.some FieldType.boolean))  (hk_123 : ∀ (v4 : Int32) (v5 : Int32) (hv : HV),  k_123 v4 v5 hv → ∀ (H : Heap) (locs : List Loc) (ls : Array Slot), wd G A hv H → va_S A s.heap H locs → lv_has ls 8 [(0, .ref (ad G 8 0)), (1, .int a1), (4, .int v4), (5, .int v5)] → W p l e (wrm 3) s m args below meth c H locs 0 0 (MQ below (qI G A post) args s 0 0 A) (F0 m 123 ls [])) : ∀ (n : Nat) (v4 : Int32) (v5 : Int32) (hv : HV), V_L_isPump_65 a1 post k_123 n v4 v5 hv → ∀ (H : Heap) (locs : List Loc) (ls : Array Slot), wd G A hv H → va_S A s.heap H locs → lv_has ls 8 [(0, .ref (ad G 8 0)), (1, .int a1), (4, .int v4), (5, .int v5)] → W p l e (wrm 3) s m args below meth c H locs 0 0 (MQ below (qI G A post) args s 0 0 A) (F0 m 65 ls []) := by
  have hx := C0.1
  have hb := C0.2.1
  have hown := C0.2.2.2.1
  have hts := C0.2.2.2.2.1
  intro n
  induction n with
  | zero =>
    intro v4 v5 hv  h
    exact (h : False).elim
  | succ n ih =>
    intro v4 v5 hv  h H locs ls hW hS hl
    rw [V_L_isPump_65] at h
    refine lv_aload_n hx hb dL_isPump_65 rfl (lv_at hl 0 rfl) ?_
    refine lv_iload_n hx hb dL_isPump_66 rfl (lv_at hl 1 rfl) ?_
    refine lv_iload hx hb dL_isPump_67 (lv_at hl 3 rfl) ?_
    refine w_ci hS (w_runV (As := [.int a1, .int v5]) C0 hW 8 0 (by decide) (by decide) rfl rfl (c_X8_trace l G A a1 v5 hv _ h) ⟨⟨w_578, w_6, w_581⟩, pl_X8_trace, ⟨Nat.le_of_ble_eq_true rfl, Nat.le_of_ble_eq_true rfl⟩, ⟨Nat.le_refl _, Nat.le_refl _⟩⟩ ⟨w_579, w_580⟩ rfl hl.1 rfl (Nat.le_of_ble_eq_true rfl) dL_isPump_69) (fun r4 hv4 h H locs hW hS => ?_)
    refine lv_sipush (v := (-1005)) hx hb dL_isPump_72 (by decide) ?_
    refine lv_icmp_eq (tgt := 123) hx hb dL_isPump_75 (by decide) (fun c5 => ?_) (fun c5 => ?_)
    · have h := h.1 c5
      exact hk_123 v4 v5 hv4 h _ _ _ hW hS (lv_sub hl [0, 1, 2, 3] rfl)
    · have h := h.2 c5
      refine lv_iload hx hb dL_isPump_78 (lv_at hl 2 rfl) ?_
      refine lv_if_eq (tgt := 111) hx hb dL_isPump_80 (by decide) (fun c6 => ?_) (fun c6 => ?_)
      · have h := h.1 c6
        refine lv_iconst (v := 0) hx hb dL_isPump_111 (by decide) ?_
        refine lv_istore (lv' := [(4, .int 0), (0, .ref (ad G 8 0)), (1, .int a1), (5, .int v5)]) hx hb dL_isPump_112 hl (by decide) rfl (fun ls hl => ?_)
        refine lv_iload hx hb dL_isPump_114 (lv_at hl 3 rfl) ?_
        refine lv_iconst (v := 1) hx hb dL_isPump_116 (by decide) ?_
        refine lv_iadd hx hb dL_isPump_117 ?_
        refine lv_topi (fun x7 ex7 => ?_)
        have h := h x7 ex7
        refine lv_istore (lv' := [(5, .int x7), (4, .int 0), (0, .ref (ad G 8 0)), (1, .int a1)]) hx hb dL_isPump_118 hl (by decide) rfl (fun ls hl => ?_)
        refine lv_goto (tgt := 65) hx hb dL_isPump_120 (by decide) ?_
        exact ih 0 x7 hv4 h _ _ _ hW hS (lv_sub hl [2, 3, 1, 0] rfl)
      · have h := h.2 c6
        refine lv_aload_n hx hb dL_isPump_83 rfl (lv_at hl 0 rfl) ?_
        refine lv_iload_n hx hb dL_isPump_84 rfl (lv_at hl 1 rfl) ?_
        refine lv_iload hx hb dL_isPump_85 (lv_at hl 3 rfl) ?_
        refine w_ci hS (w_runV (As := [.int a1, .int v5]) C0 hW 8 0 (by decide) (by decide) rfl rfl (c_X8_trace l G A a1 v5 hv4 _ h) ⟨⟨w_578, w_6, w_581⟩, pl_X8_trace, ⟨Nat.le_of_ble_eq_true rfl, Nat.le_of_ble_eq_true rfl⟩, ⟨Nat.le_refl _, Nat.le_refl _⟩⟩ ⟨w_579, w_580⟩ rfl hl.1 rfl (Nat.le_of_ble_eq_true rfl) dL_isPump_87) (fun r8 hv8 h H locs hW hS => ?_)
        refine lv_bipush (v := (-128)) hx hb dL_isPump_90 (by decide) ?_
        refine lv_icmp_lt (tgt := 111) hx hb dL_isPump_92 (by decide) (fun c9 => ?_) (fun c9 => ?_)
        · have h := h.1 c9
          refine lv_iconst (v := 0) hx hb dL_isPump_111 (by decide) ?_
          refine lv_istore (lv' := [(4, .int 0), (0, .ref (ad G 8 0)), (1, .int a1), (5, .int v5)]) hx hb dL_isPump_112 hl (by decide) rfl (fun ls hl => ?_)
          refine lv_iload hx hb dL_isPump_114 (lv_at hl 3 rfl) ?_
          refine lv_iconst (v := 1) hx hb dL_isPump_116 (by decide) ?_
          refine lv_iadd hx hb dL_isPump_117 ?_
          refine lv_topi (fun x10 ex10 => ?_)
          have h := h x10 ex10
          refine lv_istore (lv' := [(5, .int x10), (4, .int 0), (0, .ref (ad G 8 0)), (1, .int a1)]) hx hb dL_isPump_118 hl (by decide) rfl (fun ls hl => ?_)
          refine lv_goto (tgt := 65) hx hb dL_isPump_120 (by decide) ?_
          exact ih 0 x10 hv8 h _ _ _ hW hS (lv_sub hl [2, 3, 1, 0] rfl)
        · have h := h.2 c9
          refine lv_aload_n hx hb dL_isPump_95 rfl (lv_at hl 0 rfl) ?_
          refine lv_iload_n hx hb dL_isPump_96 rfl (lv_at hl 1 rfl) ?_
          refine lv_iload hx hb dL_isPump_97 (lv_at hl 3 rfl) ?_
          refine w_ci hS (w_runV (As := [.int a1, .int v5]) C0 hW 8 0 (by decide) (by decide) rfl rfl (c_X8_trace l G A a1 v5 hv8 _ h) ⟨⟨w_578, w_6, w_581⟩, pl_X8_trace, ⟨Nat.le_of_ble_eq_true rfl, Nat.le_of_ble_eq_true rfl⟩, ⟨Nat.le_refl _, Nat.le_refl _⟩⟩ ⟨w_579, w_580⟩ rfl hl.1 rfl (Nat.le_of_ble_eq_true rfl) dL_isPump_99) (fun r11 hv11 h H locs hW hS => ?_)
          refine lv_bipush (v := 127) hx hb dL_isPump_102 (by decide) ?_
          refine lv_icmp_gt (tgt := 111) hx hb dL_isPump_104 (by decide) (fun c12 => ?_) (fun c12 => ?_)
          · have h := h.1 c12
            refine lv_iconst (v := 0) hx hb dL_isPump_111 (by decide) ?_
            refine lv_istore (lv' := [(4, .int 0), (0, .ref (ad G 8 0)), (1, .int a1), (5, .int v5)]) hx hb dL_isPump_112 hl (by decide) rfl (fun ls hl => ?_)
            refine lv_iload hx hb dL_isPump_114 (lv_at hl 3 rfl) ?_
            refine lv_iconst (v := 1) hx hb dL_isPump_116 (by decide) ?_
            refine lv_iadd hx hb dL_isPump_117 ?_
            refine lv_topi (fun x13 ex13 => ?_)
            have h := h x13 ex13
            refine lv_istore (lv' := [(5, .int x13), (4, .int 0), (0, .ref (ad G 8 0)), (1, .int a1)]) hx hb dL_isPump_118 hl (by decide) rfl (fun ls hl => ?_)
            refine lv_goto (tgt := 65) hx hb dL_isPump_120 (by decide) ?_
            exact ih 0 x13 hv11 h _ _ _ hW hS (lv_sub hl [2, 3, 1, 0] rfl)
          · have h := h.2 c12
            refine lv_iconst (v := 1) hx hb dL_isPump_107 (by decide) ?_
            refine lv_goto (tgt := 112) hx hb dL_isPump_108 (by decide) ?_
            refine lv_istore (lv' := [(4, .int 1), (0, .ref (ad G 8 0)), (1, .int a1), (5, .int v5)]) hx hb dL_isPump_112 hl (by decide) rfl (fun ls hl => ?_)
            refine lv_iload hx hb dL_isPump_114 (lv_at hl 3 rfl) ?_
            refine lv_iconst (v := 1) hx hb dL_isPump_116 (by decide) ?_
            refine lv_iadd hx hb dL_isPump_117 ?_
            refine lv_topi (fun x14 ex14 => ?_)
            have h := h x14 ex14
            refine lv_istore (lv' := [(5, .int x14), (4, .int 1), (0, .ref (ad G 8 0)), (1, .int a1)]) hx hb dL_isPump_118 hl (by decide) rfl (fun ls hl => ?_)
            refine lv_goto (tgt := 65) hx hb dL_isPump_120 (by decide) ?_
            exact ih 1 x14 hv11 h _ _ _ hW hS (lv_sub hl [2, 3, 1, 0] rfl)
def V_L_isPump_126 (a1 : Int32) (f5 : Int32) (post : Int32 → HV → Prop) (k_170 : Int32 → Int32 → HV → Prop) : Nat → Int32 → Int32 → HV → Prop
  | 0, _, _, _ => False
  | n126 + 1, v4, v6, hv => (V_X8_interval a1 v6 hv (fun r16 hv16 => ((r16 = (-1005) → k_170 v4 v6 hv16) ∧ (¬ (r16 = (-1005)) → ((v4 = 0 → (∀ x19 : Int32, x19 = (v6 + 1) → V_L_isPump_126 a1 f5 post k_170 n126 0 x19 hv16)) ∧ (¬ (v4 = 0) → (V_X8_interval a1 v6 hv16 (fun r20 hv20 => ((r20 < 0 → (∀ x22 : Int32, x22 = (v6 + 1) → V_L_isPump_126 a1 f5 post k_170 n126 0 x22 hv20)) ∧ (¬ (r20 < 0) → (∀ x23 : Int32, x23 = (v6 + 1) → V_L_isPump_126 a1 f5 post k_170 n126 1 x23 hv20)))))))))))
set_option maxHeartbeats 4000000 in
theorem k_L_isPump_126 {p : Program} {l : Launch} {e : Env} {s : State} {m : MethodId} {args : Array Value} {below : List Frame} {meth : Method} {c : Code} {G : wG} {A : Nat → Prop} (a1 : Int32) (f5 : Int32) (post : Int32 → HV → Prop) (k_170 : Int32 → Int32 → HV → Prop) (C0 : cx p s m args meth c "RamStationLaw" cL_isPump 8 G) (hr : meth.sig.returnType = (Option.some FieldType.boolean))  (hk_170 : ∀ (v4 : Int32) (v6 : Int32) (hv : HV),  k_170 v4 v6 hv → ∀ (H : Heap) (locs : List Loc) (ls : Array Slot), wd G A hv H → va_S A s.heap H locs → lv_has ls 8 [(0, .ref (ad G 8 0)), (1, .int a1), (4, .int v4), (5, .int f5), (6, .int v6)] → W p l e (wrm 3) s m args below meth c H locs 0 0 (MQ below (qI G A post) args s 0 0 A) (F0 m 170 ls [])) : ∀ (n : Nat) (v4 : Int32) (v6 : Int32) (hv : HV), V_L_isPump_126 a1 f5 post k_170 n v4 v6 hv → ∀ (H : Heap) (locs : List Loc) (ls : Array Slot), wd G A hv H → va_S A s.heap H locs → lv_has ls 8 [(0, .ref (ad G 8 0)), (1, .int a1), (5, .int f5), (4, .int v4), (6, .int v6)] → W p l e (wrm 3) s m args below meth c H locs 0 0 (MQ below (qI G A post) args s 0 0 A) (F0 m 126 ls []) := by
  have hx := C0.1
  have hb := C0.2.1
  have hown := C0.2.2.2.1
  have hts := C0.2.2.2.2.1
  intro n
  induction n with
  | zero =>
    intro v4 v6 hv  h
    exact (h : False).elim
  | succ n ih =>
    intro v4 v6 hv  h H locs ls hW hS hl
    rw [V_L_isPump_126] at h
    refine lv_aload_n hx hb dL_isPump_126 rfl (lv_at hl 0 rfl) ?_
    refine lv_iload_n hx hb dL_isPump_127 rfl (lv_at hl 1 rfl) ?_
    refine lv_iload hx hb dL_isPump_128 (lv_at hl 4 rfl) ?_
    refine w_ci hS (w_runV (As := [.int a1, .int v6]) C0 hW 8 0 (by decide) (by decide) rfl rfl (c_X8_interval l G A a1 v6 hv _ h) ⟨⟨w_582, w_6, w_585⟩, pl_X8_interval, ⟨Nat.le_of_ble_eq_true rfl, Nat.le_of_ble_eq_true rfl⟩, ⟨Nat.le_refl _, Nat.le_refl _⟩⟩ ⟨w_583, w_584⟩ rfl hl.1 rfl (Nat.le_of_ble_eq_true rfl) dL_isPump_130) (fun r16 hv16 h H locs hW hS => ?_)
    refine lv_sipush (v := (-1005)) hx hb dL_isPump_133 (by decide) ?_
    refine lv_icmp_eq (tgt := 170) hx hb dL_isPump_136 (by decide) (fun c17 => ?_) (fun c17 => ?_)
    · have h := h.1 c17
      exact hk_170 v4 v6 hv16 h _ _ _ hW hS (lv_sub hl [0, 1, 3, 2, 4] rfl)
    · have h := h.2 c17
      refine lv_iload hx hb dL_isPump_139 (lv_at hl 3 rfl) ?_
      refine lv_if_eq (tgt := 158) hx hb dL_isPump_141 (by decide) (fun c18 => ?_) (fun c18 => ?_)
      · have h := h.1 c18
        refine lv_iconst (v := 0) hx hb dL_isPump_158 (by decide) ?_
        refine lv_istore (lv' := [(4, .int 0), (0, .ref (ad G 8 0)), (1, .int a1), (5, .int f5), (6, .int v6)]) hx hb dL_isPump_159 hl (by decide) rfl (fun ls hl => ?_)
        refine lv_iload hx hb dL_isPump_161 (lv_at hl 4 rfl) ?_
        refine lv_iconst (v := 1) hx hb dL_isPump_163 (by decide) ?_
        refine lv_iadd hx hb dL_isPump_164 ?_
        refine lv_topi (fun x19 ex19 => ?_)
        have h := h x19 ex19
        refine lv_istore (lv' := [(6, .int x19), (4, .int 0), (0, .ref (ad G 8 0)), (1, .int a1), (5, .int f5)]) hx hb dL_isPump_165 hl (by decide) rfl (fun ls hl => ?_)
        refine lv_goto (tgt := 126) hx hb dL_isPump_167 (by decide) ?_
        exact ih 0 x19 hv16 h _ _ _ hW hS (lv_sub hl [2, 3, 4, 1, 0] rfl)
      · have h := h.2 c18
        refine lv_aload_n hx hb dL_isPump_144 rfl (lv_at hl 0 rfl) ?_
        refine lv_iload_n hx hb dL_isPump_145 rfl (lv_at hl 1 rfl) ?_
        refine lv_iload hx hb dL_isPump_146 (lv_at hl 4 rfl) ?_
        refine w_ci hS (w_runV (As := [.int a1, .int v6]) C0 hW 8 0 (by decide) (by decide) rfl rfl (c_X8_interval l G A a1 v6 hv16 _ h) ⟨⟨w_582, w_6, w_585⟩, pl_X8_interval, ⟨Nat.le_of_ble_eq_true rfl, Nat.le_of_ble_eq_true rfl⟩, ⟨Nat.le_refl _, Nat.le_refl _⟩⟩ ⟨w_583, w_584⟩ rfl hl.1 rfl (Nat.le_of_ble_eq_true rfl) dL_isPump_148) (fun r20 hv20 h H locs hW hS => ?_)
        refine lv_if_lt (tgt := 158) hx hb dL_isPump_151 (by decide) (fun c21 => ?_) (fun c21 => ?_)
        · have h := h.1 c21
          refine lv_iconst (v := 0) hx hb dL_isPump_158 (by decide) ?_
          refine lv_istore (lv' := [(4, .int 0), (0, .ref (ad G 8 0)), (1, .int a1), (5, .int f5), (6, .int v6)]) hx hb dL_isPump_159 hl (by decide) rfl (fun ls hl => ?_)
          refine lv_iload hx hb dL_isPump_161 (lv_at hl 4 rfl) ?_
          refine lv_iconst (v := 1) hx hb dL_isPump_163 (by decide) ?_
          refine lv_iadd hx hb dL_isPump_164 ?_
          refine lv_topi (fun x22 ex22 => ?_)
          have h := h x22 ex22
          refine lv_istore (lv' := [(6, .int x22), (4, .int 0), (0, .ref (ad G 8 0)), (1, .int a1), (5, .int f5)]) hx hb dL_isPump_165 hl (by decide) rfl (fun ls hl => ?_)
          refine lv_goto (tgt := 126) hx hb dL_isPump_167 (by decide) ?_
          exact ih 0 x22 hv20 h _ _ _ hW hS (lv_sub hl [2, 3, 4, 1, 0] rfl)
        · have h := h.2 c21
          refine lv_iconst (v := 1) hx hb dL_isPump_154 (by decide) ?_
          refine lv_goto (tgt := 159) hx hb dL_isPump_155 (by decide) ?_
          refine lv_istore (lv' := [(4, .int 1), (0, .ref (ad G 8 0)), (1, .int a1), (5, .int f5), (6, .int v6)]) hx hb dL_isPump_159 hl (by decide) rfl (fun ls hl => ?_)
          refine lv_iload hx hb dL_isPump_161 (lv_at hl 4 rfl) ?_
          refine lv_iconst (v := 1) hx hb dL_isPump_163 (by decide) ?_
          refine lv_iadd hx hb dL_isPump_164 ?_
          refine lv_topi (fun x23 ex23 => ?_)
          have h := h x23 ex23
          refine lv_istore (lv' := [(6, .int x23), (4, .int 1), (0, .ref (ad G 8 0)), (1, .int a1), (5, .int f5)]) hx hb dL_isPump_165 hl (by decide) rfl (fun ls hl => ?_)
          refine lv_goto (tgt := 126) hx hb dL_isPump_167 (by decide) ?_
          exact ih 1 x23 hv20 h _ _ _ hW hS (lv_sub hl [2, 3, 4, 1, 0] rfl)
theorem pl_L_isPump : yL_isPump.cls ≠ "java/lang/invoke/MethodHandle" ∧ yL_isPump.cls ≠ "java/lang/invoke/VarHandle" ∧ (parseMethodDescriptor yL_isPump.desc).map (fun d => d.parameters.length) = some 2 := ⟨by decide +kernel, by decide +kernel, by decide +kernel⟩
def V_L_isPump (a1 : Int32) (hv : HV) (post : Int32 → HV → Prop) : Prop := (V_X8_phase a1 hv (fun r1 hv1 => (V_X8_speed a1 hv1 (fun r2 hv2 => ((r2 < 0 → (∃ n65, V_L_isPump_65 a1 post (fun y15_4 y15_5 hv15 => (∃ n126, V_L_isPump_126 a1 y15_5 post (fun y24_4 y24_6 hv24 => (V_X8_wasted a1 hv24 (fun r25 hv25 => (V_X8_relieved a1 hv25 (fun r26 hv26 => (V_X8_lifted a1 hv26 (fun r27 hv27 => (∀ x28 : Int32, x28 = ((r25 + r26) + r27) → ((y24_4 = 0 → post 0 hv27) ∧ (¬ (y24_4 = 0) → ((32 < y15_5 → post 0 hv27) ∧ (¬ (32 < y15_5) → (V_X8_beats a1 hv27 (fun r31 hv31 => ((16 ≤ r31 → ((y24_6 = 16 → ((x28 = 0 → (V_X8_efficiency a1 hv31 (fun r37 hv37 => ((r37 = (-1005) → post 1 hv37) ∧ (¬ (r37 = (-1005)) → post 0 hv37))))) ∧ (¬ (x28 = 0) → (V_X8_efficiency a1 hv31 (fun r35 hv35 => ((r35 < 0 → post 0 hv35) ∧ (¬ (r35 < 0) → post 1 hv35))))))) ∧ (¬ (y24_6 = 16) → post 0 hv31))) ∧ (¬ (16 ≤ r31) → (V_X8_beats a1 hv31 (fun r39 hv39 => ((y24_6 = r39 → ((x28 = 0 → (V_X8_efficiency a1 hv39 (fun r44 hv44 => ((r44 = (-1005) → post 1 hv44) ∧ (¬ (r44 = (-1005)) → post 0 hv44))))) ∧ (¬ (x28 = 0) → (V_X8_efficiency a1 hv39 (fun r42 hv42 => ((r42 < 0 → post 0 hv42) ∧ (¬ (r42 < 0) → post 1 hv42))))))) ∧ (¬ (y24_6 = r39) → post 0 hv39)))))))))))))))))))) n126 y15_4 0 hv15)) n65 0 0 hv2)) ∧ (¬ (r2 < 0) → ((2000 < r2 → (∃ n65, V_L_isPump_65 a1 post (fun y49_4 y49_5 hv49 => (∃ n126, V_L_isPump_126 a1 y49_5 post (fun y50_4 y50_6 hv50 => (V_X8_wasted a1 hv50 (fun r51 hv51 => (V_X8_relieved a1 hv51 (fun r52 hv52 => (V_X8_lifted a1 hv52 (fun r53 hv53 => (∀ x54 : Int32, x54 = ((r51 + r52) + r53) → ((y50_4 = 0 → post 0 hv53) ∧ (¬ (y50_4 = 0) → ((32 < y49_5 → post 0 hv53) ∧ (¬ (32 < y49_5) → (V_X8_beats a1 hv53 (fun r57 hv57 => ((16 ≤ r57 → ((y50_6 = 16 → ((x54 = 0 → (V_X8_efficiency a1 hv57 (fun r63 hv63 => ((r63 = (-1005) → post 1 hv63) ∧ (¬ (r63 = (-1005)) → post 0 hv63))))) ∧ (¬ (x54 = 0) → (V_X8_efficiency a1 hv57 (fun r61 hv61 => ((r61 < 0 → post 0 hv61) ∧ (¬ (r61 < 0) → post 1 hv61))))))) ∧ (¬ (y50_6 = 16) → post 0 hv57))) ∧ (¬ (16 ≤ r57) → (V_X8_beats a1 hv57 (fun r65 hv65 => ((y50_6 = r65 → ((x54 = 0 → (V_X8_efficiency a1 hv65 (fun r70 hv70 => ((r70 = (-1005) → post 1 hv70) ∧ (¬ (r70 = (-1005)) → post 0 hv70))))) ∧ (¬ (x54 = 0) → (V_X8_efficiency a1 hv65 (fun r68 hv68 => ((r68 < 0 → post 0 hv68) ∧ (¬ (r68 < 0) → post 1 hv68))))))) ∧ (¬ (y50_6 = r65) → post 0 hv65)))))))))))))))))))) n126 y49_4 0 hv49)) n65 0 0 hv2)) ∧ (¬ (2000 < r2) → ((0 < r1 → (V_X8_chamberWater a1 hv2 (fun r75 hv75 => ((r75 < 0 → (∃ n65, V_L_isPump_65 a1 post (fun y77_4 y77_5 hv77 => (∃ n126, V_L_isPump_126 a1 y77_5 post (fun y78_4 y78_6 hv78 => (V_X8_wasted a1 hv78 (fun r79 hv79 => (V_X8_relieved a1 hv79 (fun r80 hv80 => (V_X8_lifted a1 hv80 (fun r81 hv81 => (∀ x82 : Int32, x82 = ((r79 + r80) + r81) → ((y78_4 = 0 → post 0 hv81) ∧ (¬ (y78_4 = 0) → ((32 < y77_5 → post 0 hv81) ∧ (¬ (32 < y77_5) → (V_X8_beats a1 hv81 (fun r85 hv85 => ((16 ≤ r85 → ((y78_6 = 16 → ((x82 = 0 → (V_X8_efficiency a1 hv85 (fun r91 hv91 => ((r91 = (-1005) → post 1 hv91) ∧ (¬ (r91 = (-1005)) → post 0 hv91))))) ∧ (¬ (x82 = 0) → (V_X8_efficiency a1 hv85 (fun r89 hv89 => ((r89 < 0 → post 0 hv89) ∧ (¬ (r89 < 0) → post 1 hv89))))))) ∧ (¬ (y78_6 = 16) → post 0 hv85))) ∧ (¬ (16 ≤ r85) → (V_X8_beats a1 hv85 (fun r93 hv93 => ((y78_6 = r93 → ((x82 = 0 → (V_X8_efficiency a1 hv93 (fun r98 hv98 => ((r98 = (-1005) → post 1 hv98) ∧ (¬ (r98 = (-1005)) → post 0 hv98))))) ∧ (¬ (x82 = 0) → (V_X8_efficiency a1 hv93 (fun r96 hv96 => ((r96 < 0 → post 0 hv96) ∧ (¬ (r96 < 0) → post 1 hv96))))))) ∧ (¬ (y78_6 = r93) → post 0 hv93)))))))))))))))))))) n126 y77_4 0 hv77)) n65 0 0 hv75)) ∧ (¬ (r75 < 0) → (V_X8_chamberHead a1 hv75 (fun r102 hv102 => ((r102 < 0 → (∃ n65, V_L_isPump_65 a1 post (fun y104_4 y104_5 hv104 => (∃ n126, V_L_isPump_126 a1 y104_5 post (fun y105_4 y105_6 hv105 => (V_X8_wasted a1 hv105 (fun r106 hv106 => (V_X8_relieved a1 hv106 (fun r107 hv107 => (V_X8_lifted a1 hv107 (fun r108 hv108 => (∀ x109 : Int32, x109 = ((r106 + r107) + r108) → ((y105_4 = 0 → post 0 hv108) ∧ (¬ (y105_4 = 0) → ((32 < y104_5 → post 0 hv108) ∧ (¬ (32 < y104_5) → (V_X8_beats a1 hv108 (fun r112 hv112 => ((16 ≤ r112 → ((y105_6 = 16 → ((x109 = 0 → (V_X8_efficiency a1 hv112 (fun r118 hv118 => ((r118 = (-1005) → post 1 hv118) ∧ (¬ (r118 = (-1005)) → post 0 hv118))))) ∧ (¬ (x109 = 0) → (V_X8_efficiency a1 hv112 (fun r116 hv116 => ((r116 < 0 → post 0 hv116) ∧ (¬ (r116 < 0) → post 1 hv116))))))) ∧ (¬ (y105_6 = 16) → post 0 hv112))) ∧ (¬ (16 ≤ r112) → (V_X8_beats a1 hv112 (fun r120 hv120 => ((y105_6 = r120 → ((x109 = 0 → (V_X8_efficiency a1 hv120 (fun r125 hv125 => ((r125 = (-1005) → post 1 hv125) ∧ (¬ (r125 = (-1005)) → post 0 hv125))))) ∧ (¬ (x109 = 0) → (V_X8_efficiency a1 hv120 (fun r123 hv123 => ((r123 < 0 → post 0 hv123) ∧ (¬ (r123 < 0) → post 1 hv123))))))) ∧ (¬ (y105_6 = r120) → post 0 hv120)))))))))))))))))))) n126 y104_4 0 hv104)) n65 0 0 hv102)) ∧ (¬ (r102 < 0) → (∃ n65, V_L_isPump_65 a1 post (fun y129_4 y129_5 hv129 => (∃ n126, V_L_isPump_126 a1 y129_5 post (fun y130_4 y130_6 hv130 => (V_X8_wasted a1 hv130 (fun r131 hv131 => (V_X8_relieved a1 hv131 (fun r132 hv132 => (V_X8_lifted a1 hv132 (fun r133 hv133 => (∀ x134 : Int32, x134 = ((r131 + r132) + r133) → ((y130_4 = 0 → post 0 hv133) ∧ (¬ (y130_4 = 0) → ((32 < y129_5 → post 0 hv133) ∧ (¬ (32 < y129_5) → (V_X8_beats a1 hv133 (fun r137 hv137 => ((16 ≤ r137 → ((y130_6 = 16 → ((x134 = 0 → (V_X8_efficiency a1 hv137 (fun r143 hv143 => ((r143 = (-1005) → post 1 hv143) ∧ (¬ (r143 = (-1005)) → post 0 hv143))))) ∧ (¬ (x134 = 0) → (V_X8_efficiency a1 hv137 (fun r141 hv141 => ((r141 < 0 → post 0 hv141) ∧ (¬ (r141 < 0) → post 1 hv141))))))) ∧ (¬ (y130_6 = 16) → post 0 hv137))) ∧ (¬ (16 ≤ r137) → (V_X8_beats a1 hv137 (fun r145 hv145 => ((y130_6 = r145 → ((x134 = 0 → (V_X8_efficiency a1 hv145 (fun r150 hv150 => ((r150 = (-1005) → post 1 hv150) ∧ (¬ (r150 = (-1005)) → post 0 hv150))))) ∧ (¬ (x134 = 0) → (V_X8_efficiency a1 hv145 (fun r148 hv148 => ((r148 < 0 → post 0 hv148) ∧ (¬ (r148 < 0) → post 1 hv148))))))) ∧ (¬ (y130_6 = r145) → post 0 hv145)))))))))))))))))))) n126 y129_4 0 hv129)) n65 1 0 hv102)))))))))) ∧ (¬ (0 < r1) → ((r2 = 0 → (V_X8_openTicks a1 hv2 (fun r180 hv180 => ((r180 = 0 → (V_X8_chamberWater a1 hv180 (fun r207 hv207 => ((r207 < 0 → (∃ n65, V_L_isPump_65 a1 post (fun y209_4 y209_5 hv209 => (∃ n126, V_L_isPump_126 a1 y209_5 post (fun y210_4 y210_6 hv210 => (V_X8_wasted a1 hv210 (fun r211 hv211 => (V_X8_relieved a1 hv211 (fun r212 hv212 => (V_X8_lifted a1 hv212 (fun r213 hv213 => (∀ x214 : Int32, x214 = ((r211 + r212) + r213) → ((y210_4 = 0 → post 0 hv213) ∧ (¬ (y210_4 = 0) → ((32 < y209_5 → post 0 hv213) ∧ (¬ (32 < y209_5) → (V_X8_beats a1 hv213 (fun r217 hv217 => ((16 ≤ r217 → ((y210_6 = 16 → ((x214 = 0 → (V_X8_efficiency a1 hv217 (fun r223 hv223 => ((r223 = (-1005) → post 1 hv223) ∧ (¬ (r223 = (-1005)) → post 0 hv223))))) ∧ (¬ (x214 = 0) → (V_X8_efficiency a1 hv217 (fun r221 hv221 => ((r221 < 0 → post 0 hv221) ∧ (¬ (r221 < 0) → post 1 hv221))))))) ∧ (¬ (y210_6 = 16) → post 0 hv217))) ∧ (¬ (16 ≤ r217) → (V_X8_beats a1 hv217 (fun r225 hv225 => ((y210_6 = r225 → ((x214 = 0 → (V_X8_efficiency a1 hv225 (fun r230 hv230 => ((r230 = (-1005) → post 1 hv230) ∧ (¬ (r230 = (-1005)) → post 0 hv230))))) ∧ (¬ (x214 = 0) → (V_X8_efficiency a1 hv225 (fun r228 hv228 => ((r228 < 0 → post 0 hv228) ∧ (¬ (r228 < 0) → post 1 hv228))))))) ∧ (¬ (y210_6 = r225) → post 0 hv225)))))))))))))))))))) n126 y209_4 0 hv209)) n65 0 0 hv207)) ∧ (¬ (r207 < 0) → (V_X8_chamberHead a1 hv207 (fun r234 hv234 => ((r234 < 0 → (∃ n65, V_L_isPump_65 a1 post (fun y236_4 y236_5 hv236 => (∃ n126, V_L_isPump_126 a1 y236_5 post (fun y237_4 y237_6 hv237 => (V_X8_wasted a1 hv237 (fun r238 hv238 => (V_X8_relieved a1 hv238 (fun r239 hv239 => (V_X8_lifted a1 hv239 (fun r240 hv240 => (∀ x241 : Int32, x241 = ((r238 + r239) + r240) → ((y237_4 = 0 → post 0 hv240) ∧ (¬ (y237_4 = 0) → ((32 < y236_5 → post 0 hv240) ∧ (¬ (32 < y236_5) → (V_X8_beats a1 hv240 (fun r244 hv244 => ((16 ≤ r244 → ((y237_6 = 16 → ((x241 = 0 → (V_X8_efficiency a1 hv244 (fun r250 hv250 => ((r250 = (-1005) → post 1 hv250) ∧ (¬ (r250 = (-1005)) → post 0 hv250))))) ∧ (¬ (x241 = 0) → (V_X8_efficiency a1 hv244 (fun r248 hv248 => ((r248 < 0 → post 0 hv248) ∧ (¬ (r248 < 0) → post 1 hv248))))))) ∧ (¬ (y237_6 = 16) → post 0 hv244))) ∧ (¬ (16 ≤ r244) → (V_X8_beats a1 hv244 (fun r252 hv252 => ((y237_6 = r252 → ((x241 = 0 → (V_X8_efficiency a1 hv252 (fun r257 hv257 => ((r257 = (-1005) → post 1 hv257) ∧ (¬ (r257 = (-1005)) → post 0 hv257))))) ∧ (¬ (x241 = 0) → (V_X8_efficiency a1 hv252 (fun r255 hv255 => ((r255 < 0 → post 0 hv255) ∧ (¬ (r255 < 0) → post 1 hv255))))))) ∧ (¬ (y237_6 = r252) → post 0 hv252)))))))))))))))))))) n126 y236_4 0 hv236)) n65 0 0 hv234)) ∧ (¬ (r234 < 0) → (∃ n65, V_L_isPump_65 a1 post (fun y261_4 y261_5 hv261 => (∃ n126, V_L_isPump_126 a1 y261_5 post (fun y262_4 y262_6 hv262 => (V_X8_wasted a1 hv262 (fun r263 hv263 => (V_X8_relieved a1 hv263 (fun r264 hv264 => (V_X8_lifted a1 hv264 (fun r265 hv265 => (∀ x266 : Int32, x266 = ((r263 + r264) + r265) → ((y262_4 = 0 → post 0 hv265) ∧ (¬ (y262_4 = 0) → ((32 < y261_5 → post 0 hv265) ∧ (¬ (32 < y261_5) → (V_X8_beats a1 hv265 (fun r269 hv269 => ((16 ≤ r269 → ((y262_6 = 16 → ((x266 = 0 → (V_X8_efficiency a1 hv269 (fun r275 hv275 => ((r275 = (-1005) → post 1 hv275) ∧ (¬ (r275 = (-1005)) → post 0 hv275))))) ∧ (¬ (x266 = 0) → (V_X8_efficiency a1 hv269 (fun r273 hv273 => ((r273 < 0 → post 0 hv273) ∧ (¬ (r273 < 0) → post 1 hv273))))))) ∧ (¬ (y262_6 = 16) → post 0 hv269))) ∧ (¬ (16 ≤ r269) → (V_X8_beats a1 hv269 (fun r277 hv277 => ((y262_6 = r277 → ((x266 = 0 → (V_X8_efficiency a1 hv277 (fun r282 hv282 => ((r282 = (-1005) → post 1 hv282) ∧ (¬ (r282 = (-1005)) → post 0 hv282))))) ∧ (¬ (x266 = 0) → (V_X8_efficiency a1 hv277 (fun r280 hv280 => ((r280 < 0 → post 0 hv280) ∧ (¬ (r280 < 0) → post 1 hv280))))))) ∧ (¬ (y262_6 = r277) → post 0 hv277)))))))))))))))))))) n126 y261_4 0 hv261)) n65 1 0 hv234)))))))))) ∧ (¬ (r180 = 0) → (∃ n65, V_L_isPump_65 a1 post (fun y182_4 y182_5 hv182 => (∃ n126, V_L_isPump_126 a1 y182_5 post (fun y183_4 y183_6 hv183 => (V_X8_wasted a1 hv183 (fun r184 hv184 => (V_X8_relieved a1 hv184 (fun r185 hv185 => (V_X8_lifted a1 hv185 (fun r186 hv186 => (∀ x187 : Int32, x187 = ((r184 + r185) + r186) → ((y183_4 = 0 → post 0 hv186) ∧ (¬ (y183_4 = 0) → ((32 < y182_5 → post 0 hv186) ∧ (¬ (32 < y182_5) → (V_X8_beats a1 hv186 (fun r190 hv190 => ((16 ≤ r190 → ((y183_6 = 16 → ((x187 = 0 → (V_X8_efficiency a1 hv190 (fun r196 hv196 => ((r196 = (-1005) → post 1 hv196) ∧ (¬ (r196 = (-1005)) → post 0 hv196))))) ∧ (¬ (x187 = 0) → (V_X8_efficiency a1 hv190 (fun r194 hv194 => ((r194 < 0 → post 0 hv194) ∧ (¬ (r194 < 0) → post 1 hv194))))))) ∧ (¬ (y183_6 = 16) → post 0 hv190))) ∧ (¬ (16 ≤ r190) → (V_X8_beats a1 hv190 (fun r198 hv198 => ((y183_6 = r198 → ((x187 = 0 → (V_X8_efficiency a1 hv198 (fun r203 hv203 => ((r203 = (-1005) → post 1 hv203) ∧ (¬ (r203 = (-1005)) → post 0 hv203))))) ∧ (¬ (x187 = 0) → (V_X8_efficiency a1 hv198 (fun r201 hv201 => ((r201 < 0 → post 0 hv201) ∧ (¬ (r201 < 0) → post 1 hv201))))))) ∧ (¬ (y183_6 = r198) → post 0 hv198)))))))))))))))))))) n126 y182_4 0 hv182)) n65 0 0 hv180)))))) ∧ (¬ (r2 = 0) → (∃ n65, V_L_isPump_65 a1 post (fun y155_4 y155_5 hv155 => (∃ n126, V_L_isPump_126 a1 y155_5 post (fun y156_4 y156_6 hv156 => (V_X8_wasted a1 hv156 (fun r157 hv157 => (V_X8_relieved a1 hv157 (fun r158 hv158 => (V_X8_lifted a1 hv158 (fun r159 hv159 => (∀ x160 : Int32, x160 = ((r157 + r158) + r159) → ((y156_4 = 0 → post 0 hv159) ∧ (¬ (y156_4 = 0) → ((32 < y155_5 → post 0 hv159) ∧ (¬ (32 < y155_5) → (V_X8_beats a1 hv159 (fun r163 hv163 => ((16 ≤ r163 → ((y156_6 = 16 → ((x160 = 0 → (V_X8_efficiency a1 hv163 (fun r169 hv169 => ((r169 = (-1005) → post 1 hv169) ∧ (¬ (r169 = (-1005)) → post 0 hv169))))) ∧ (¬ (x160 = 0) → (V_X8_efficiency a1 hv163 (fun r167 hv167 => ((r167 < 0 → post 0 hv167) ∧ (¬ (r167 < 0) → post 1 hv167))))))) ∧ (¬ (y156_6 = 16) → post 0 hv163))) ∧ (¬ (16 ≤ r163) → (V_X8_beats a1 hv163 (fun r171 hv171 => ((y156_6 = r171 → ((x160 = 0 → (V_X8_efficiency a1 hv171 (fun r176 hv176 => ((r176 = (-1005) → post 1 hv176) ∧ (¬ (r176 = (-1005)) → post 0 hv176))))) ∧ (¬ (x160 = 0) → (V_X8_efficiency a1 hv171 (fun r174 hv174 => ((r174 < 0 → post 0 hv174) ∧ (¬ (r174 < 0) → post 1 hv174))))))) ∧ (¬ (y156_6 = r171) → post 0 hv171)))))))))))))))))))) n126 y155_4 0 hv155)) n65 0 0 hv2)))))))))))))
set_option maxHeartbeats 4000000 in
theorem c_L_isPump (l : Launch) (G : wG) (A : Nat → Prop) (a1 : Int32) (hv : HV) (post : Int32 → HV → Prop) (h : V_L_isPump a1 hv post) : wM l yL_isPump cL_isPump 8 ((Option.some FieldType.boolean)) 3 G A hv [.ref (ad G 8 0), .int a1] (qI G A post) := by
  refine wM_of (by decide +kernel) (Nat.le_of_ble_eq_true rfl) ?_
  intro p e s m args below meth c C0 hr ls hl hW hS
  have hx := C0.1
  have hb := C0.2.1
  have hown := C0.2.2.2.1
  have hts := C0.2.2.2.2.1
  have hl : lv_has ls 8 [(0, .ref (ad G 8 0)), (1, .int a1)] := hl
  unfold V_L_isPump at h
  refine lv_aload_n hx hb dL_isPump_0 rfl (lv_at hl 0 rfl) ?_
  refine lv_iload_n hx hb dL_isPump_1 rfl (lv_at hl 1 rfl) ?_
  refine w_ci hS (w_runV (As := [.int a1]) C0 hW 8 0 (by decide) (by decide) rfl rfl (c_X8_phase l G A a1 hv _ h) ⟨⟨w_346, w_6, w_349⟩, pl_X8_phase, ⟨Nat.le_of_ble_eq_true rfl, Nat.le_of_ble_eq_true rfl⟩, ⟨Nat.le_refl _, Nat.le_refl _⟩⟩ ⟨w_347, w_348⟩ rfl hl.1 rfl (Nat.le_of_ble_eq_true rfl) dL_isPump_2) (fun r1 hv1 h H locs hW hS => ?_)
  refine lv_istore_n (lv' := [(2, .int r1), (0, .ref (ad G 8 0)), (1, .int a1)]) hx hb dL_isPump_5 rfl hl (by decide) rfl (fun ls hl => ?_)
  refine lv_aload_n hx hb dL_isPump_6 rfl (lv_at hl 1 rfl) ?_
  refine lv_iload_n hx hb dL_isPump_7 rfl (lv_at hl 2 rfl) ?_
  refine w_ci hS (w_runV (As := [.int a1]) C0 hW 8 0 (by decide) (by decide) rfl rfl (c_X8_speed l G A a1 hv1 _ h) ⟨⟨w_565, w_6, w_568⟩, pl_X8_speed, ⟨Nat.le_of_ble_eq_true rfl, Nat.le_of_ble_eq_true rfl⟩, ⟨Nat.le_refl _, Nat.le_refl _⟩⟩ ⟨w_566, w_567⟩ rfl hl.1 rfl (Nat.le_of_ble_eq_true rfl) dL_isPump_8) (fun r2 hv2 h H locs hW hS => ?_)
  refine lv_istore_n (lv' := [(3, .int r2), (2, .int r1), (0, .ref (ad G 8 0)), (1, .int a1)]) hx hb dL_isPump_11 rfl hl (by decide) rfl (fun ls hl => ?_)
  refine lv_iload_n hx hb dL_isPump_12 rfl (lv_at hl 0 rfl) ?_
  refine lv_if_lt (tgt := 59) hx hb dL_isPump_13 (by decide) (fun c3 => ?_) (fun c3 => ?_)
  · have h := h.1 c3
    refine lv_iconst (v := 0) hx hb dL_isPump_59 (by decide) ?_
    refine lv_istore (lv' := [(4, .int 0), (3, .int r2), (2, .int r1), (0, .ref (ad G 8 0)), (1, .int a1)]) hx hb dL_isPump_60 hl (by decide) rfl (fun ls hl => ?_)
    refine lv_iconst (v := 0) hx hb dL_isPump_62 (by decide) ?_
    refine lv_istore (lv' := [(5, .int 0), (4, .int 0), (3, .int r2), (2, .int r1), (0, .ref (ad G 8 0)), (1, .int a1)]) hx hb dL_isPump_63 hl (by decide) rfl (fun ls hl => ?_)
    obtain ⟨n47, h⟩ := h
    refine k_L_isPump_65 a1 post _ C0 hr (fun y15_4 y15_5 hv15 h H locs ls hW hS hl => ?_) n47 0 0 hv2 h _ _ _ hW hS (lv_sub hl [4, 5, 1, 0] rfl)
    refine lv_iconst (v := 0) hx hb dL_isPump_123 (by decide) ?_
    refine lv_istore (lv' := [(6, .int 0), (0, .ref (ad G 8 0)), (1, .int a1), (4, .int y15_4), (5, .int y15_5)]) hx hb dL_isPump_124 hl (by decide) rfl (fun ls hl => ?_)
    obtain ⟨n46, h⟩ := h
    refine k_L_isPump_126 a1 y15_5 post _ C0 hr (fun y24_4 y24_6 hv24 h H locs ls hW hS hl => ?_) n46 y15_4 0 hv15 h _ _ _ hW hS (lv_sub hl [1, 2, 4, 3, 0] rfl)
    refine lv_aload_n hx hb dL_isPump_170 rfl (lv_at hl 0 rfl) ?_
    refine lv_iload_n hx hb dL_isPump_171 rfl (lv_at hl 1 rfl) ?_
    refine w_ci hS (w_runV (As := [.int a1]) C0 hW 8 0 (by decide) (by decide) rfl rfl (c_X8_wasted l G A a1 hv24 _ h) ⟨⟨w_550, w_6, w_553⟩, pl_X8_wasted, ⟨Nat.le_of_ble_eq_true rfl, Nat.le_of_ble_eq_true rfl⟩, ⟨Nat.le_refl _, Nat.le_refl _⟩⟩ ⟨w_551, w_552⟩ rfl hl.1 rfl (Nat.le_of_ble_eq_true rfl) dL_isPump_172) (fun r25 hv25 h H locs hW hS => ?_)
    refine lv_aload_n hx hb dL_isPump_175 rfl (lv_at hl 0 rfl) ?_
    refine lv_iload_n hx hb dL_isPump_176 rfl (lv_at hl 1 rfl) ?_
    refine w_ci hS (w_runV (As := [.int a1]) C0 hW 8 0 (by decide) (by decide) rfl rfl (c_X8_relieved l G A a1 hv25 _ h) ⟨⟨w_554, w_6, w_557⟩, pl_X8_relieved, ⟨Nat.le_of_ble_eq_true rfl, Nat.le_of_ble_eq_true rfl⟩, ⟨Nat.le_refl _, Nat.le_refl _⟩⟩ ⟨w_555, w_556⟩ rfl hl.1 rfl (Nat.le_of_ble_eq_true rfl) dL_isPump_177) (fun r26 hv26 h H locs hW hS => ?_)
    refine lv_iadd hx hb dL_isPump_180 ?_
    refine lv_aload_n hx hb dL_isPump_181 rfl (lv_at hl 0 rfl) ?_
    refine lv_iload_n hx hb dL_isPump_182 rfl (lv_at hl 1 rfl) ?_
    refine w_ci hS (w_runV (As := [.int a1]) C0 hW 8 0 (by decide) (by decide) rfl rfl (c_X8_lifted l G A a1 hv26 _ h) ⟨⟨w_461, w_6, w_464⟩, pl_X8_lifted, ⟨Nat.le_of_ble_eq_true rfl, Nat.le_of_ble_eq_true rfl⟩, ⟨Nat.le_refl _, Nat.le_refl _⟩⟩ ⟨w_462, w_463⟩ rfl hl.1 rfl (Nat.le_of_ble_eq_true rfl) dL_isPump_183) (fun r27 hv27 h H locs hW hS => ?_)
    refine lv_iadd hx hb dL_isPump_186 ?_
    refine lv_topi (fun x28 ex28 => ?_)
    have h := h x28 ex28
    refine lv_istore (lv' := [(7, .int x28), (0, .ref (ad G 8 0)), (1, .int a1), (4, .int y24_4), (5, .int y15_5), (6, .int y24_6)]) hx hb dL_isPump_187 hl (by decide) rfl (fun ls hl => ?_)
    refine lv_iload hx hb dL_isPump_189 (lv_at hl 3 rfl) ?_
    refine lv_if_eq (tgt := 257) hx hb dL_isPump_191 (by decide) (fun c29 => ?_) (fun c29 => ?_)
    · have h := h.1 c29
      refine lv_iconst (v := 0) hx hb dL_isPump_257 (by decide) ?_
      exact w_zret C0 hr rfl hW hS h dL_isPump_258
    · have h := h.2 c29
      refine lv_iload hx hb dL_isPump_194 (lv_at hl 4 rfl) ?_
      refine lv_bipush (v := 32) hx hb dL_isPump_196 (by decide) ?_
      refine lv_icmp_gt (tgt := 257) hx hb dL_isPump_198 (by decide) (fun c30 => ?_) (fun c30 => ?_)
      · have h := h.1 c30
        refine lv_iconst (v := 0) hx hb dL_isPump_257 (by decide) ?_
        exact w_zret C0 hr rfl hW hS h dL_isPump_258
      · have h := h.2 c30
        refine lv_iload hx hb dL_isPump_201 (lv_at hl 5 rfl) ?_
        refine lv_aload_n hx hb dL_isPump_203 rfl (lv_at hl 1 rfl) ?_
        refine lv_iload_n hx hb dL_isPump_204 rfl (lv_at hl 2 rfl) ?_
        refine w_ci hS (w_runV (As := [.int a1]) C0 hW 8 0 (by decide) (by decide) rfl rfl (c_X8_beats l G A a1 hv27 _ h) ⟨⟨w_586, w_6, w_589⟩, pl_X8_beats, ⟨Nat.le_of_ble_eq_true rfl, Nat.le_of_ble_eq_true rfl⟩, ⟨Nat.le_refl _, Nat.le_refl _⟩⟩ ⟨w_587, w_588⟩ rfl hl.1 rfl (Nat.le_of_ble_eq_true rfl) dL_isPump_205) (fun r31 hv31 h H locs hW hS => ?_)
        refine lv_bipush (v := 16) hx hb dL_isPump_208 (by decide) ?_
        refine lv_icmp_ge (tgt := 221) hx hb dL_isPump_210 (by decide) (fun c32 => ?_) (fun c32 => ?_)
        · have h := h.1 c32
          refine lv_bipush (v := 16) hx hb dL_isPump_221 (by decide) ?_
          refine lv_icmp_ne (tgt := 257) hx hb dL_isPump_223 (by decide) (fun c33 => ?_) (fun c33 => ?_)
          · have h := h.2 c33
            refine lv_iconst (v := 0) hx hb dL_isPump_257 (by decide) ?_
            exact w_zret C0 hr rfl hW hS h dL_isPump_258
          · have h := h.1 c33
            refine lv_iload hx hb dL_isPump_226 (lv_at hl 0 rfl) ?_
            refine lv_if_ne (tgt := 245) hx hb dL_isPump_228 (by decide) (fun c34 => ?_) (fun c34 => ?_)
            · have h := h.2 c34
              refine lv_aload_n hx hb dL_isPump_245 rfl (lv_at hl 1 rfl) ?_
              refine lv_iload_n hx hb dL_isPump_246 rfl (lv_at hl 2 rfl) ?_
              refine w_ci hS (w_runV (As := [.int a1]) C0 hW 8 0 (by decide) (by decide) rfl rfl (c_X8_efficiency l G A a1 hv31 _ h) ⟨⟨w_590, w_6, w_593⟩, pl_X8_efficiency, ⟨Nat.le_of_ble_eq_true rfl, Nat.le_of_ble_eq_true rfl⟩, ⟨Nat.le_refl _, Nat.le_refl _⟩⟩ ⟨w_591, w_592⟩ rfl hl.1 rfl (Nat.le_of_ble_eq_true rfl) dL_isPump_247) (fun r35 hv35 h H locs hW hS => ?_)
              refine lv_if_lt (tgt := 257) hx hb dL_isPump_250 (by decide) (fun c36 => ?_) (fun c36 => ?_)
              · have h := h.1 c36
                refine lv_iconst (v := 0) hx hb dL_isPump_257 (by decide) ?_
                exact w_zret C0 hr rfl hW hS h dL_isPump_258
              · have h := h.2 c36
                refine lv_iconst (v := 1) hx hb dL_isPump_253 (by decide) ?_
                refine lv_goto (tgt := 258) hx hb dL_isPump_254 (by decide) ?_
                exact w_zret C0 hr rfl hW hS h dL_isPump_258
            · have h := h.1 c34
              refine lv_aload_n hx hb dL_isPump_231 rfl (lv_at hl 1 rfl) ?_
              refine lv_iload_n hx hb dL_isPump_232 rfl (lv_at hl 2 rfl) ?_
              refine w_ci hS (w_runV (As := [.int a1]) C0 hW 8 0 (by decide) (by decide) rfl rfl (c_X8_efficiency l G A a1 hv31 _ h) ⟨⟨w_590, w_6, w_593⟩, pl_X8_efficiency, ⟨Nat.le_of_ble_eq_true rfl, Nat.le_of_ble_eq_true rfl⟩, ⟨Nat.le_refl _, Nat.le_refl _⟩⟩ ⟨w_591, w_592⟩ rfl hl.1 rfl (Nat.le_of_ble_eq_true rfl) dL_isPump_233) (fun r37 hv37 h H locs hW hS => ?_)
              refine lv_sipush (v := (-1005)) hx hb dL_isPump_236 (by decide) ?_
              refine lv_icmp_ne (tgt := 257) hx hb dL_isPump_239 (by decide) (fun c38 => ?_) (fun c38 => ?_)
              · have h := h.2 c38
                refine lv_iconst (v := 0) hx hb dL_isPump_257 (by decide) ?_
                exact w_zret C0 hr rfl hW hS h dL_isPump_258
              · have h := h.1 c38
                refine lv_goto (tgt := 253) hx hb dL_isPump_242 (by decide) ?_
                refine lv_iconst (v := 1) hx hb dL_isPump_253 (by decide) ?_
                refine lv_goto (tgt := 258) hx hb dL_isPump_254 (by decide) ?_
                exact w_zret C0 hr rfl hW hS h dL_isPump_258
        · have h := h.2 c32
          refine lv_aload_n hx hb dL_isPump_213 rfl (lv_at hl 1 rfl) ?_
          refine lv_iload_n hx hb dL_isPump_214 rfl (lv_at hl 2 rfl) ?_
          refine w_ci hS (w_runV (As := [.int a1]) C0 hW 8 0 (by decide) (by decide) rfl rfl (c_X8_beats l G A a1 hv31 _ h) ⟨⟨w_586, w_6, w_589⟩, pl_X8_beats, ⟨Nat.le_of_ble_eq_true rfl, Nat.le_of_ble_eq_true rfl⟩, ⟨Nat.le_refl _, Nat.le_refl _⟩⟩ ⟨w_587, w_588⟩ rfl hl.1 rfl (Nat.le_of_ble_eq_true rfl) dL_isPump_215) (fun r39 hv39 h H locs hW hS => ?_)
          refine lv_goto (tgt := 223) hx hb dL_isPump_218 (by decide) ?_
          refine lv_icmp_ne (tgt := 257) hx hb dL_isPump_223 (by decide) (fun c40 => ?_) (fun c40 => ?_)
          · have h := h.2 c40
            refine lv_iconst (v := 0) hx hb dL_isPump_257 (by decide) ?_
            exact w_zret C0 hr rfl hW hS h dL_isPump_258
          · have h := h.1 c40
            refine lv_iload hx hb dL_isPump_226 (lv_at hl 0 rfl) ?_
            refine lv_if_ne (tgt := 245) hx hb dL_isPump_228 (by decide) (fun c41 => ?_) (fun c41 => ?_)
            · have h := h.2 c41
              refine lv_aload_n hx hb dL_isPump_245 rfl (lv_at hl 1 rfl) ?_
              refine lv_iload_n hx hb dL_isPump_246 rfl (lv_at hl 2 rfl) ?_
              refine w_ci hS (w_runV (As := [.int a1]) C0 hW 8 0 (by decide) (by decide) rfl rfl (c_X8_efficiency l G A a1 hv39 _ h) ⟨⟨w_590, w_6, w_593⟩, pl_X8_efficiency, ⟨Nat.le_of_ble_eq_true rfl, Nat.le_of_ble_eq_true rfl⟩, ⟨Nat.le_refl _, Nat.le_refl _⟩⟩ ⟨w_591, w_592⟩ rfl hl.1 rfl (Nat.le_of_ble_eq_true rfl) dL_isPump_247) (fun r42 hv42 h H locs hW hS => ?_)
              refine lv_if_lt (tgt := 257) hx hb dL_isPump_250 (by decide) (fun c43 => ?_) (fun c43 => ?_)
              · have h := h.1 c43
                refine lv_iconst (v := 0) hx hb dL_isPump_257 (by decide) ?_
                exact w_zret C0 hr rfl hW hS h dL_isPump_258
              · have h := h.2 c43
                refine lv_iconst (v := 1) hx hb dL_isPump_253 (by decide) ?_
                refine lv_goto (tgt := 258) hx hb dL_isPump_254 (by decide) ?_
                exact w_zret C0 hr rfl hW hS h dL_isPump_258
            · have h := h.1 c41
              refine lv_aload_n hx hb dL_isPump_231 rfl (lv_at hl 1 rfl) ?_
              refine lv_iload_n hx hb dL_isPump_232 rfl (lv_at hl 2 rfl) ?_
              refine w_ci hS (w_runV (As := [.int a1]) C0 hW 8 0 (by decide) (by decide) rfl rfl (c_X8_efficiency l G A a1 hv39 _ h) ⟨⟨w_590, w_6, w_593⟩, pl_X8_efficiency, ⟨Nat.le_of_ble_eq_true rfl, Nat.le_of_ble_eq_true rfl⟩, ⟨Nat.le_refl _, Nat.le_refl _⟩⟩ ⟨w_591, w_592⟩ rfl hl.1 rfl (Nat.le_of_ble_eq_true rfl) dL_isPump_233) (fun r44 hv44 h H locs hW hS => ?_)
              refine lv_sipush (v := (-1005)) hx hb dL_isPump_236 (by decide) ?_
              refine lv_icmp_ne (tgt := 257) hx hb dL_isPump_239 (by decide) (fun c45 => ?_) (fun c45 => ?_)
              · have h := h.2 c45
                refine lv_iconst (v := 0) hx hb dL_isPump_257 (by decide) ?_
                exact w_zret C0 hr rfl hW hS h dL_isPump_258
              · have h := h.1 c45
                refine lv_goto (tgt := 253) hx hb dL_isPump_242 (by decide) ?_
                refine lv_iconst (v := 1) hx hb dL_isPump_253 (by decide) ?_
                refine lv_goto (tgt := 258) hx hb dL_isPump_254 (by decide) ?_
                exact w_zret C0 hr rfl hW hS h dL_isPump_258
  · have h := h.2 c3
    refine lv_iload_n hx hb dL_isPump_16 rfl (lv_at hl 0 rfl) ?_
    refine lv_sipush (v := 2000) hx hb dL_isPump_17 (by decide) ?_
    refine lv_icmp_gt (tgt := 59) hx hb dL_isPump_20 (by decide) (fun c48 => ?_) (fun c48 => ?_)
    · have h := h.1 c48
      refine lv_iconst (v := 0) hx hb dL_isPump_59 (by decide) ?_
      refine lv_istore (lv' := [(4, .int 0), (3, .int r2), (2, .int r1), (0, .ref (ad G 8 0)), (1, .int a1)]) hx hb dL_isPump_60 hl (by decide) rfl (fun ls hl => ?_)
      refine lv_iconst (v := 0) hx hb dL_isPump_62 (by decide) ?_
      refine lv_istore (lv' := [(5, .int 0), (4, .int 0), (3, .int r2), (2, .int r1), (0, .ref (ad G 8 0)), (1, .int a1)]) hx hb dL_isPump_63 hl (by decide) rfl (fun ls hl => ?_)
      obtain ⟨n73, h⟩ := h
      refine k_L_isPump_65 a1 post _ C0 hr (fun y49_4 y49_5 hv49 h H locs ls hW hS hl => ?_) n73 0 0 hv2 h _ _ _ hW hS (lv_sub hl [4, 5, 1, 0] rfl)
      refine lv_iconst (v := 0) hx hb dL_isPump_123 (by decide) ?_
      refine lv_istore (lv' := [(6, .int 0), (0, .ref (ad G 8 0)), (1, .int a1), (4, .int y49_4), (5, .int y49_5)]) hx hb dL_isPump_124 hl (by decide) rfl (fun ls hl => ?_)
      obtain ⟨n72, h⟩ := h
      refine k_L_isPump_126 a1 y49_5 post _ C0 hr (fun y50_4 y50_6 hv50 h H locs ls hW hS hl => ?_) n72 y49_4 0 hv49 h _ _ _ hW hS (lv_sub hl [1, 2, 4, 3, 0] rfl)
      refine lv_aload_n hx hb dL_isPump_170 rfl (lv_at hl 0 rfl) ?_
      refine lv_iload_n hx hb dL_isPump_171 rfl (lv_at hl 1 rfl) ?_
      refine w_ci hS (w_runV (As := [.int a1]) C0 hW 8 0 (by decide) (by decide) rfl rfl (c_X8_wasted l G A a1 hv50 _ h) ⟨⟨w_550, w_6, w_553⟩, pl_X8_wasted, ⟨Nat.le_of_ble_eq_true rfl, Nat.le_of_ble_eq_true rfl⟩, ⟨Nat.le_refl _, Nat.le_refl _⟩⟩ ⟨w_551, w_552⟩ rfl hl.1 rfl (Nat.le_of_ble_eq_true rfl) dL_isPump_172) (fun r51 hv51 h H locs hW hS => ?_)
      refine lv_aload_n hx hb dL_isPump_175 rfl (lv_at hl 0 rfl) ?_
      refine lv_iload_n hx hb dL_isPump_176 rfl (lv_at hl 1 rfl) ?_
      refine w_ci hS (w_runV (As := [.int a1]) C0 hW 8 0 (by decide) (by decide) rfl rfl (c_X8_relieved l G A a1 hv51 _ h) ⟨⟨w_554, w_6, w_557⟩, pl_X8_relieved, ⟨Nat.le_of_ble_eq_true rfl, Nat.le_of_ble_eq_true rfl⟩, ⟨Nat.le_refl _, Nat.le_refl _⟩⟩ ⟨w_555, w_556⟩ rfl hl.1 rfl (Nat.le_of_ble_eq_true rfl) dL_isPump_177) (fun r52 hv52 h H locs hW hS => ?_)
      refine lv_iadd hx hb dL_isPump_180 ?_
      refine lv_aload_n hx hb dL_isPump_181 rfl (lv_at hl 0 rfl) ?_
      refine lv_iload_n hx hb dL_isPump_182 rfl (lv_at hl 1 rfl) ?_
      refine w_ci hS (w_runV (As := [.int a1]) C0 hW 8 0 (by decide) (by decide) rfl rfl (c_X8_lifted l G A a1 hv52 _ h) ⟨⟨w_461, w_6, w_464⟩, pl_X8_lifted, ⟨Nat.le_of_ble_eq_true rfl, Nat.le_of_ble_eq_true rfl⟩, ⟨Nat.le_refl _, Nat.le_refl _⟩⟩ ⟨w_462, w_463⟩ rfl hl.1 rfl (Nat.le_of_ble_eq_true rfl) dL_isPump_183) (fun r53 hv53 h H locs hW hS => ?_)
      refine lv_iadd hx hb dL_isPump_186 ?_
      refine lv_topi (fun x54 ex54 => ?_)
      have h := h x54 ex54
      refine lv_istore (lv' := [(7, .int x54), (0, .ref (ad G 8 0)), (1, .int a1), (4, .int y50_4), (5, .int y49_5), (6, .int y50_6)]) hx hb dL_isPump_187 hl (by decide) rfl (fun ls hl => ?_)
      refine lv_iload hx hb dL_isPump_189 (lv_at hl 3 rfl) ?_
      refine lv_if_eq (tgt := 257) hx hb dL_isPump_191 (by decide) (fun c55 => ?_) (fun c55 => ?_)
      · have h := h.1 c55
        refine lv_iconst (v := 0) hx hb dL_isPump_257 (by decide) ?_
        exact w_zret C0 hr rfl hW hS h dL_isPump_258
      · have h := h.2 c55
        refine lv_iload hx hb dL_isPump_194 (lv_at hl 4 rfl) ?_
        refine lv_bipush (v := 32) hx hb dL_isPump_196 (by decide) ?_
        refine lv_icmp_gt (tgt := 257) hx hb dL_isPump_198 (by decide) (fun c56 => ?_) (fun c56 => ?_)
        · have h := h.1 c56
          refine lv_iconst (v := 0) hx hb dL_isPump_257 (by decide) ?_
          exact w_zret C0 hr rfl hW hS h dL_isPump_258
        · have h := h.2 c56
          refine lv_iload hx hb dL_isPump_201 (lv_at hl 5 rfl) ?_
          refine lv_aload_n hx hb dL_isPump_203 rfl (lv_at hl 1 rfl) ?_
          refine lv_iload_n hx hb dL_isPump_204 rfl (lv_at hl 2 rfl) ?_
          refine w_ci hS (w_runV (As := [.int a1]) C0 hW 8 0 (by decide) (by decide) rfl rfl (c_X8_beats l G A a1 hv53 _ h) ⟨⟨w_586, w_6, w_589⟩, pl_X8_beats, ⟨Nat.le_of_ble_eq_true rfl, Nat.le_of_ble_eq_true rfl⟩, ⟨Nat.le_refl _, Nat.le_refl _⟩⟩ ⟨w_587, w_588⟩ rfl hl.1 rfl (Nat.le_of_ble_eq_true rfl) dL_isPump_205) (fun r57 hv57 h H locs hW hS => ?_)
          refine lv_bipush (v := 16) hx hb dL_isPump_208 (by decide) ?_
          refine lv_icmp_ge (tgt := 221) hx hb dL_isPump_210 (by decide) (fun c58 => ?_) (fun c58 => ?_)
          · have h := h.1 c58
            refine lv_bipush (v := 16) hx hb dL_isPump_221 (by decide) ?_
            refine lv_icmp_ne (tgt := 257) hx hb dL_isPump_223 (by decide) (fun c59 => ?_) (fun c59 => ?_)
            · have h := h.2 c59
              refine lv_iconst (v := 0) hx hb dL_isPump_257 (by decide) ?_
              exact w_zret C0 hr rfl hW hS h dL_isPump_258
            · have h := h.1 c59
              refine lv_iload hx hb dL_isPump_226 (lv_at hl 0 rfl) ?_
              refine lv_if_ne (tgt := 245) hx hb dL_isPump_228 (by decide) (fun c60 => ?_) (fun c60 => ?_)
              · have h := h.2 c60
                refine lv_aload_n hx hb dL_isPump_245 rfl (lv_at hl 1 rfl) ?_
                refine lv_iload_n hx hb dL_isPump_246 rfl (lv_at hl 2 rfl) ?_
                refine w_ci hS (w_runV (As := [.int a1]) C0 hW 8 0 (by decide) (by decide) rfl rfl (c_X8_efficiency l G A a1 hv57 _ h) ⟨⟨w_590, w_6, w_593⟩, pl_X8_efficiency, ⟨Nat.le_of_ble_eq_true rfl, Nat.le_of_ble_eq_true rfl⟩, ⟨Nat.le_refl _, Nat.le_refl _⟩⟩ ⟨w_591, w_592⟩ rfl hl.1 rfl (Nat.le_of_ble_eq_true rfl) dL_isPump_247) (fun r61 hv61 h H locs hW hS => ?_)
                refine lv_if_lt (tgt := 257) hx hb dL_isPump_250 (by decide) (fun c62 => ?_) (fun c62 => ?_)
                · have h := h.1 c62
                  refine lv_iconst (v := 0) hx hb dL_isPump_257 (by decide) ?_
                  exact w_zret C0 hr rfl hW hS h dL_isPump_258
                · have h := h.2 c62
                  refine lv_iconst (v := 1) hx hb dL_isPump_253 (by decide) ?_
                  refine lv_goto (tgt := 258) hx hb dL_isPump_254 (by decide) ?_
                  exact w_zret C0 hr rfl hW hS h dL_isPump_258
              · have h := h.1 c60
                refine lv_aload_n hx hb dL_isPump_231 rfl (lv_at hl 1 rfl) ?_
                refine lv_iload_n hx hb dL_isPump_232 rfl (lv_at hl 2 rfl) ?_
                refine w_ci hS (w_runV (As := [.int a1]) C0 hW 8 0 (by decide) (by decide) rfl rfl (c_X8_efficiency l G A a1 hv57 _ h) ⟨⟨w_590, w_6, w_593⟩, pl_X8_efficiency, ⟨Nat.le_of_ble_eq_true rfl, Nat.le_of_ble_eq_true rfl⟩, ⟨Nat.le_refl _, Nat.le_refl _⟩⟩ ⟨w_591, w_592⟩ rfl hl.1 rfl (Nat.le_of_ble_eq_true rfl) dL_isPump_233) (fun r63 hv63 h H locs hW hS => ?_)
                refine lv_sipush (v := (-1005)) hx hb dL_isPump_236 (by decide) ?_
                refine lv_icmp_ne (tgt := 257) hx hb dL_isPump_239 (by decide) (fun c64 => ?_) (fun c64 => ?_)
                · have h := h.2 c64
                  refine lv_iconst (v := 0) hx hb dL_isPump_257 (by decide) ?_
                  exact w_zret C0 hr rfl hW hS h dL_isPump_258
                · have h := h.1 c64
                  refine lv_goto (tgt := 253) hx hb dL_isPump_242 (by decide) ?_
                  refine lv_iconst (v := 1) hx hb dL_isPump_253 (by decide) ?_
                  refine lv_goto (tgt := 258) hx hb dL_isPump_254 (by decide) ?_
                  exact w_zret C0 hr rfl hW hS h dL_isPump_258
          · have h := h.2 c58
            refine lv_aload_n hx hb dL_isPump_213 rfl (lv_at hl 1 rfl) ?_
            refine lv_iload_n hx hb dL_isPump_214 rfl (lv_at hl 2 rfl) ?_
            refine w_ci hS (w_runV (As := [.int a1]) C0 hW 8 0 (by decide) (by decide) rfl rfl (c_X8_beats l G A a1 hv57 _ h) ⟨⟨w_586, w_6, w_589⟩, pl_X8_beats, ⟨Nat.le_of_ble_eq_true rfl, Nat.le_of_ble_eq_true rfl⟩, ⟨Nat.le_refl _, Nat.le_refl _⟩⟩ ⟨w_587, w_588⟩ rfl hl.1 rfl (Nat.le_of_ble_eq_true rfl) dL_isPump_215) (fun r65 hv65 h H locs hW hS => ?_)
            refine lv_goto (tgt := 223) hx hb dL_isPump_218 (by decide) ?_
            refine lv_icmp_ne (tgt := 257) hx hb dL_isPump_223 (by decide) (fun c66 => ?_) (fun c66 => ?_)
            · have h := h.2 c66
              refine lv_iconst (v := 0) hx hb dL_isPump_257 (by decide) ?_
              exact w_zret C0 hr rfl hW hS h dL_isPump_258
            · have h := h.1 c66
              refine lv_iload hx hb dL_isPump_226 (lv_at hl 0 rfl) ?_
              refine lv_if_ne (tgt := 245) hx hb dL_isPump_228 (by decide) (fun c67 => ?_) (fun c67 => ?_)
              · have h := h.2 c67
                refine lv_aload_n hx hb dL_isPump_245 rfl (lv_at hl 1 rfl) ?_
                refine lv_iload_n hx hb dL_isPump_246 rfl (lv_at hl 2 rfl) ?_
                refine w_ci hS (w_runV (As := [.int a1]) C0 hW 8 0 (by decide) (by decide) rfl rfl (c_X8_efficiency l G A a1 hv65 _ h) ⟨⟨w_590, w_6, w_593⟩, pl_X8_efficiency, ⟨Nat.le_of_ble_eq_true rfl, Nat.le_of_ble_eq_true rfl⟩, ⟨Nat.le_refl _, Nat.le_refl _⟩⟩ ⟨w_591, w_592⟩ rfl hl.1 rfl (Nat.le_of_ble_eq_true rfl) dL_isPump_247) (fun r68 hv68 h H locs hW hS => ?_)
                refine lv_if_lt (tgt := 257) hx hb dL_isPump_250 (by decide) (fun c69 => ?_) (fun c69 => ?_)
                · have h := h.1 c69
                  refine lv_iconst (v := 0) hx hb dL_isPump_257 (by decide) ?_
                  exact w_zret C0 hr rfl hW hS h dL_isPump_258
                · have h := h.2 c69
                  refine lv_iconst (v := 1) hx hb dL_isPump_253 (by decide) ?_
                  refine lv_goto (tgt := 258) hx hb dL_isPump_254 (by decide) ?_
                  exact w_zret C0 hr rfl hW hS h dL_isPump_258
              · have h := h.1 c67
                refine lv_aload_n hx hb dL_isPump_231 rfl (lv_at hl 1 rfl) ?_
                refine lv_iload_n hx hb dL_isPump_232 rfl (lv_at hl 2 rfl) ?_
                refine w_ci hS (w_runV (As := [.int a1]) C0 hW 8 0 (by decide) (by decide) rfl rfl (c_X8_efficiency l G A a1 hv65 _ h) ⟨⟨w_590, w_6, w_593⟩, pl_X8_efficiency, ⟨Nat.le_of_ble_eq_true rfl, Nat.le_of_ble_eq_true rfl⟩, ⟨Nat.le_refl _, Nat.le_refl _⟩⟩ ⟨w_591, w_592⟩ rfl hl.1 rfl (Nat.le_of_ble_eq_true rfl) dL_isPump_233) (fun r70 hv70 h H locs hW hS => ?_)
                refine lv_sipush (v := (-1005)) hx hb dL_isPump_236 (by decide) ?_
                refine lv_icmp_ne (tgt := 257) hx hb dL_isPump_239 (by decide) (fun c71 => ?_) (fun c71 => ?_)
                · have h := h.2 c71
                  refine lv_iconst (v := 0) hx hb dL_isPump_257 (by decide) ?_
                  exact w_zret C0 hr rfl hW hS h dL_isPump_258
                · have h := h.1 c71
                  refine lv_goto (tgt := 253) hx hb dL_isPump_242 (by decide) ?_
                  refine lv_iconst (v := 1) hx hb dL_isPump_253 (by decide) ?_
                  refine lv_goto (tgt := 258) hx hb dL_isPump_254 (by decide) ?_
                  exact w_zret C0 hr rfl hW hS h dL_isPump_258
    · have h := h.2 c48
      refine lv_iload_n hx hb dL_isPump_23 rfl (lv_at hl 1 rfl) ?_
      refine lv_if_gt (tgt := 39) hx hb dL_isPump_24 (by decide) (fun c74 => ?_) (fun c74 => ?_)
      · have h := h.1 c74
        refine lv_aload_n hx hb dL_isPump_39 rfl (lv_at hl 2 rfl) ?_
        refine lv_iload_n hx hb dL_isPump_40 rfl (lv_at hl 3 rfl) ?_
        refine w_ci hS (w_runV (As := [.int a1]) C0 hW 8 0 (by decide) (by decide) rfl rfl (c_X8_chamberWater l G A a1 hv2 _ h) ⟨⟨w_409, w_6, w_412⟩, pl_X8_chamberWater, ⟨Nat.le_of_ble_eq_true rfl, Nat.le_of_ble_eq_true rfl⟩, ⟨Nat.le_refl _, Nat.le_refl _⟩⟩ ⟨w_410, w_411⟩ rfl hl.1 rfl (Nat.le_of_ble_eq_true rfl) dL_isPump_41) (fun r75 hv75 h H locs hW hS => ?_)
        refine lv_if_lt (tgt := 59) hx hb dL_isPump_44 (by decide) (fun c76 => ?_) (fun c76 => ?_)
        · have h := h.1 c76
          refine lv_iconst (v := 0) hx hb dL_isPump_59 (by decide) ?_
          refine lv_istore (lv' := [(4, .int 0), (3, .int r2), (2, .int r1), (0, .ref (ad G 8 0)), (1, .int a1)]) hx hb dL_isPump_60 hl (by decide) rfl (fun ls hl => ?_)
          refine lv_iconst (v := 0) hx hb dL_isPump_62 (by decide) ?_
          refine lv_istore (lv' := [(5, .int 0), (4, .int 0), (3, .int r2), (2, .int r1), (0, .ref (ad G 8 0)), (1, .int a1)]) hx hb dL_isPump_63 hl (by decide) rfl (fun ls hl => ?_)
          obtain ⟨n101, h⟩ := h
          refine k_L_isPump_65 a1 post _ C0 hr (fun y77_4 y77_5 hv77 h H locs ls hW hS hl => ?_) n101 0 0 hv75 h _ _ _ hW hS (lv_sub hl [4, 5, 1, 0] rfl)
          refine lv_iconst (v := 0) hx hb dL_isPump_123 (by decide) ?_
          refine lv_istore (lv' := [(6, .int 0), (0, .ref (ad G 8 0)), (1, .int a1), (4, .int y77_4), (5, .int y77_5)]) hx hb dL_isPump_124 hl (by decide) rfl (fun ls hl => ?_)
          obtain ⟨n100, h⟩ := h
          refine k_L_isPump_126 a1 y77_5 post _ C0 hr (fun y78_4 y78_6 hv78 h H locs ls hW hS hl => ?_) n100 y77_4 0 hv77 h _ _ _ hW hS (lv_sub hl [1, 2, 4, 3, 0] rfl)
          refine lv_aload_n hx hb dL_isPump_170 rfl (lv_at hl 0 rfl) ?_
          refine lv_iload_n hx hb dL_isPump_171 rfl (lv_at hl 1 rfl) ?_
          refine w_ci hS (w_runV (As := [.int a1]) C0 hW 8 0 (by decide) (by decide) rfl rfl (c_X8_wasted l G A a1 hv78 _ h) ⟨⟨w_550, w_6, w_553⟩, pl_X8_wasted, ⟨Nat.le_of_ble_eq_true rfl, Nat.le_of_ble_eq_true rfl⟩, ⟨Nat.le_refl _, Nat.le_refl _⟩⟩ ⟨w_551, w_552⟩ rfl hl.1 rfl (Nat.le_of_ble_eq_true rfl) dL_isPump_172) (fun r79 hv79 h H locs hW hS => ?_)
          refine lv_aload_n hx hb dL_isPump_175 rfl (lv_at hl 0 rfl) ?_
          refine lv_iload_n hx hb dL_isPump_176 rfl (lv_at hl 1 rfl) ?_
          refine w_ci hS (w_runV (As := [.int a1]) C0 hW 8 0 (by decide) (by decide) rfl rfl (c_X8_relieved l G A a1 hv79 _ h) ⟨⟨w_554, w_6, w_557⟩, pl_X8_relieved, ⟨Nat.le_of_ble_eq_true rfl, Nat.le_of_ble_eq_true rfl⟩, ⟨Nat.le_refl _, Nat.le_refl _⟩⟩ ⟨w_555, w_556⟩ rfl hl.1 rfl (Nat.le_of_ble_eq_true rfl) dL_isPump_177) (fun r80 hv80 h H locs hW hS => ?_)
          refine lv_iadd hx hb dL_isPump_180 ?_
          refine lv_aload_n hx hb dL_isPump_181 rfl (lv_at hl 0 rfl) ?_
          refine lv_iload_n hx hb dL_isPump_182 rfl (lv_at hl 1 rfl) ?_
          refine w_ci hS (w_runV (As := [.int a1]) C0 hW 8 0 (by decide) (by decide) rfl rfl (c_X8_lifted l G A a1 hv80 _ h) ⟨⟨w_461, w_6, w_464⟩, pl_X8_lifted, ⟨Nat.le_of_ble_eq_true rfl, Nat.le_of_ble_eq_true rfl⟩, ⟨Nat.le_refl _, Nat.le_refl _⟩⟩ ⟨w_462, w_463⟩ rfl hl.1 rfl (Nat.le_of_ble_eq_true rfl) dL_isPump_183) (fun r81 hv81 h H locs hW hS => ?_)
          refine lv_iadd hx hb dL_isPump_186 ?_
          refine lv_topi (fun x82 ex82 => ?_)
          have h := h x82 ex82
          refine lv_istore (lv' := [(7, .int x82), (0, .ref (ad G 8 0)), (1, .int a1), (4, .int y78_4), (5, .int y77_5), (6, .int y78_6)]) hx hb dL_isPump_187 hl (by decide) rfl (fun ls hl => ?_)
          refine lv_iload hx hb dL_isPump_189 (lv_at hl 3 rfl) ?_
          refine lv_if_eq (tgt := 257) hx hb dL_isPump_191 (by decide) (fun c83 => ?_) (fun c83 => ?_)
          · have h := h.1 c83
            refine lv_iconst (v := 0) hx hb dL_isPump_257 (by decide) ?_
            exact w_zret C0 hr rfl hW hS h dL_isPump_258
          · have h := h.2 c83
            refine lv_iload hx hb dL_isPump_194 (lv_at hl 4 rfl) ?_
            refine lv_bipush (v := 32) hx hb dL_isPump_196 (by decide) ?_
            refine lv_icmp_gt (tgt := 257) hx hb dL_isPump_198 (by decide) (fun c84 => ?_) (fun c84 => ?_)
            · have h := h.1 c84
              refine lv_iconst (v := 0) hx hb dL_isPump_257 (by decide) ?_
              exact w_zret C0 hr rfl hW hS h dL_isPump_258
            · have h := h.2 c84
              refine lv_iload hx hb dL_isPump_201 (lv_at hl 5 rfl) ?_
              refine lv_aload_n hx hb dL_isPump_203 rfl (lv_at hl 1 rfl) ?_
              refine lv_iload_n hx hb dL_isPump_204 rfl (lv_at hl 2 rfl) ?_
              refine w_ci hS (w_runV (As := [.int a1]) C0 hW 8 0 (by decide) (by decide) rfl rfl (c_X8_beats l G A a1 hv81 _ h) ⟨⟨w_586, w_6, w_589⟩, pl_X8_beats, ⟨Nat.le_of_ble_eq_true rfl, Nat.le_of_ble_eq_true rfl⟩, ⟨Nat.le_refl _, Nat.le_refl _⟩⟩ ⟨w_587, w_588⟩ rfl hl.1 rfl (Nat.le_of_ble_eq_true rfl) dL_isPump_205) (fun r85 hv85 h H locs hW hS => ?_)
              refine lv_bipush (v := 16) hx hb dL_isPump_208 (by decide) ?_
              refine lv_icmp_ge (tgt := 221) hx hb dL_isPump_210 (by decide) (fun c86 => ?_) (fun c86 => ?_)
              · have h := h.1 c86
                refine lv_bipush (v := 16) hx hb dL_isPump_221 (by decide) ?_
                refine lv_icmp_ne (tgt := 257) hx hb dL_isPump_223 (by decide) (fun c87 => ?_) (fun c87 => ?_)
                · have h := h.2 c87
                  refine lv_iconst (v := 0) hx hb dL_isPump_257 (by decide) ?_
                  exact w_zret C0 hr rfl hW hS h dL_isPump_258
                · have h := h.1 c87
                  refine lv_iload hx hb dL_isPump_226 (lv_at hl 0 rfl) ?_
                  refine lv_if_ne (tgt := 245) hx hb dL_isPump_228 (by decide) (fun c88 => ?_) (fun c88 => ?_)
                  · have h := h.2 c88
                    refine lv_aload_n hx hb dL_isPump_245 rfl (lv_at hl 1 rfl) ?_
                    refine lv_iload_n hx hb dL_isPump_246 rfl (lv_at hl 2 rfl) ?_
                    refine w_ci hS (w_runV (As := [.int a1]) C0 hW 8 0 (by decide) (by decide) rfl rfl (c_X8_efficiency l G A a1 hv85 _ h) ⟨⟨w_590, w_6, w_593⟩, pl_X8_efficiency, ⟨Nat.le_of_ble_eq_true rfl, Nat.le_of_ble_eq_true rfl⟩, ⟨Nat.le_refl _, Nat.le_refl _⟩⟩ ⟨w_591, w_592⟩ rfl hl.1 rfl (Nat.le_of_ble_eq_true rfl) dL_isPump_247) (fun r89 hv89 h H locs hW hS => ?_)
                    refine lv_if_lt (tgt := 257) hx hb dL_isPump_250 (by decide) (fun c90 => ?_) (fun c90 => ?_)
                    · have h := h.1 c90
                      refine lv_iconst (v := 0) hx hb dL_isPump_257 (by decide) ?_
                      exact w_zret C0 hr rfl hW hS h dL_isPump_258
                    · have h := h.2 c90
                      refine lv_iconst (v := 1) hx hb dL_isPump_253 (by decide) ?_
                      refine lv_goto (tgt := 258) hx hb dL_isPump_254 (by decide) ?_
                      exact w_zret C0 hr rfl hW hS h dL_isPump_258
                  · have h := h.1 c88
                    refine lv_aload_n hx hb dL_isPump_231 rfl (lv_at hl 1 rfl) ?_
                    refine lv_iload_n hx hb dL_isPump_232 rfl (lv_at hl 2 rfl) ?_
                    refine w_ci hS (w_runV (As := [.int a1]) C0 hW 8 0 (by decide) (by decide) rfl rfl (c_X8_efficiency l G A a1 hv85 _ h) ⟨⟨w_590, w_6, w_593⟩, pl_X8_efficiency, ⟨Nat.le_of_ble_eq_true rfl, Nat.le_of_ble_eq_true rfl⟩, ⟨Nat.le_refl _, Nat.le_refl _⟩⟩ ⟨w_591, w_592⟩ rfl hl.1 rfl (Nat.le_of_ble_eq_true rfl) dL_isPump_233) (fun r91 hv91 h H locs hW hS => ?_)
                    refine lv_sipush (v := (-1005)) hx hb dL_isPump_236 (by decide) ?_
                    refine lv_icmp_ne (tgt := 257) hx hb dL_isPump_239 (by decide) (fun c92 => ?_) (fun c92 => ?_)
                    · have h := h.2 c92
                      refine lv_iconst (v := 0) hx hb dL_isPump_257 (by decide) ?_
                      exact w_zret C0 hr rfl hW hS h dL_isPump_258
                    · have h := h.1 c92
                      refine lv_goto (tgt := 253) hx hb dL_isPump_242 (by decide) ?_
                      refine lv_iconst (v := 1) hx hb dL_isPump_253 (by decide) ?_
                      refine lv_goto (tgt := 258) hx hb dL_isPump_254 (by decide) ?_
                      exact w_zret C0 hr rfl hW hS h dL_isPump_258
              · have h := h.2 c86
                refine lv_aload_n hx hb dL_isPump_213 rfl (lv_at hl 1 rfl) ?_
                refine lv_iload_n hx hb dL_isPump_214 rfl (lv_at hl 2 rfl) ?_
                refine w_ci hS (w_runV (As := [.int a1]) C0 hW 8 0 (by decide) (by decide) rfl rfl (c_X8_beats l G A a1 hv85 _ h) ⟨⟨w_586, w_6, w_589⟩, pl_X8_beats, ⟨Nat.le_of_ble_eq_true rfl, Nat.le_of_ble_eq_true rfl⟩, ⟨Nat.le_refl _, Nat.le_refl _⟩⟩ ⟨w_587, w_588⟩ rfl hl.1 rfl (Nat.le_of_ble_eq_true rfl) dL_isPump_215) (fun r93 hv93 h H locs hW hS => ?_)
                refine lv_goto (tgt := 223) hx hb dL_isPump_218 (by decide) ?_
                refine lv_icmp_ne (tgt := 257) hx hb dL_isPump_223 (by decide) (fun c94 => ?_) (fun c94 => ?_)
                · have h := h.2 c94
                  refine lv_iconst (v := 0) hx hb dL_isPump_257 (by decide) ?_
                  exact w_zret C0 hr rfl hW hS h dL_isPump_258
                · have h := h.1 c94
                  refine lv_iload hx hb dL_isPump_226 (lv_at hl 0 rfl) ?_
                  refine lv_if_ne (tgt := 245) hx hb dL_isPump_228 (by decide) (fun c95 => ?_) (fun c95 => ?_)
                  · have h := h.2 c95
                    refine lv_aload_n hx hb dL_isPump_245 rfl (lv_at hl 1 rfl) ?_
                    refine lv_iload_n hx hb dL_isPump_246 rfl (lv_at hl 2 rfl) ?_
                    refine w_ci hS (w_runV (As := [.int a1]) C0 hW 8 0 (by decide) (by decide) rfl rfl (c_X8_efficiency l G A a1 hv93 _ h) ⟨⟨w_590, w_6, w_593⟩, pl_X8_efficiency, ⟨Nat.le_of_ble_eq_true rfl, Nat.le_of_ble_eq_true rfl⟩, ⟨Nat.le_refl _, Nat.le_refl _⟩⟩ ⟨w_591, w_592⟩ rfl hl.1 rfl (Nat.le_of_ble_eq_true rfl) dL_isPump_247) (fun r96 hv96 h H locs hW hS => ?_)
                    refine lv_if_lt (tgt := 257) hx hb dL_isPump_250 (by decide) (fun c97 => ?_) (fun c97 => ?_)
                    · have h := h.1 c97
                      refine lv_iconst (v := 0) hx hb dL_isPump_257 (by decide) ?_
                      exact w_zret C0 hr rfl hW hS h dL_isPump_258
                    · have h := h.2 c97
                      refine lv_iconst (v := 1) hx hb dL_isPump_253 (by decide) ?_
                      refine lv_goto (tgt := 258) hx hb dL_isPump_254 (by decide) ?_
                      exact w_zret C0 hr rfl hW hS h dL_isPump_258
                  · have h := h.1 c95
                    refine lv_aload_n hx hb dL_isPump_231 rfl (lv_at hl 1 rfl) ?_
                    refine lv_iload_n hx hb dL_isPump_232 rfl (lv_at hl 2 rfl) ?_
                    refine w_ci hS (w_runV (As := [.int a1]) C0 hW 8 0 (by decide) (by decide) rfl rfl (c_X8_efficiency l G A a1 hv93 _ h) ⟨⟨w_590, w_6, w_593⟩, pl_X8_efficiency, ⟨Nat.le_of_ble_eq_true rfl, Nat.le_of_ble_eq_true rfl⟩, ⟨Nat.le_refl _, Nat.le_refl _⟩⟩ ⟨w_591, w_592⟩ rfl hl.1 rfl (Nat.le_of_ble_eq_true rfl) dL_isPump_233) (fun r98 hv98 h H locs hW hS => ?_)
                    refine lv_sipush (v := (-1005)) hx hb dL_isPump_236 (by decide) ?_
                    refine lv_icmp_ne (tgt := 257) hx hb dL_isPump_239 (by decide) (fun c99 => ?_) (fun c99 => ?_)
                    · have h := h.2 c99
                      refine lv_iconst (v := 0) hx hb dL_isPump_257 (by decide) ?_
                      exact w_zret C0 hr rfl hW hS h dL_isPump_258
                    · have h := h.1 c99
                      refine lv_goto (tgt := 253) hx hb dL_isPump_242 (by decide) ?_
                      refine lv_iconst (v := 1) hx hb dL_isPump_253 (by decide) ?_
                      refine lv_goto (tgt := 258) hx hb dL_isPump_254 (by decide) ?_
                      exact w_zret C0 hr rfl hW hS h dL_isPump_258
        · have h := h.2 c76
          refine lv_aload_n hx hb dL_isPump_47 rfl (lv_at hl 2 rfl) ?_
          refine lv_iload_n hx hb dL_isPump_48 rfl (lv_at hl 3 rfl) ?_
          refine w_ci hS (w_runV (As := [.int a1]) C0 hW 8 0 (by decide) (by decide) rfl rfl (c_X8_chamberHead l G A a1 hv75 _ h) ⟨⟨w_573, w_6, w_576⟩, pl_X8_chamberHead, ⟨Nat.le_of_ble_eq_true rfl, Nat.le_of_ble_eq_true rfl⟩, ⟨Nat.le_refl _, Nat.le_refl _⟩⟩ ⟨w_574, w_575⟩ rfl hl.1 rfl (Nat.le_of_ble_eq_true rfl) dL_isPump_49) (fun r102 hv102 h H locs hW hS => ?_)
          refine lv_if_lt (tgt := 59) hx hb dL_isPump_52 (by decide) (fun c103 => ?_) (fun c103 => ?_)
          · have h := h.1 c103
            refine lv_iconst (v := 0) hx hb dL_isPump_59 (by decide) ?_
            refine lv_istore (lv' := [(4, .int 0), (3, .int r2), (2, .int r1), (0, .ref (ad G 8 0)), (1, .int a1)]) hx hb dL_isPump_60 hl (by decide) rfl (fun ls hl => ?_)
            refine lv_iconst (v := 0) hx hb dL_isPump_62 (by decide) ?_
            refine lv_istore (lv' := [(5, .int 0), (4, .int 0), (3, .int r2), (2, .int r1), (0, .ref (ad G 8 0)), (1, .int a1)]) hx hb dL_isPump_63 hl (by decide) rfl (fun ls hl => ?_)
            obtain ⟨n128, h⟩ := h
            refine k_L_isPump_65 a1 post _ C0 hr (fun y104_4 y104_5 hv104 h H locs ls hW hS hl => ?_) n128 0 0 hv102 h _ _ _ hW hS (lv_sub hl [4, 5, 1, 0] rfl)
            refine lv_iconst (v := 0) hx hb dL_isPump_123 (by decide) ?_
            refine lv_istore (lv' := [(6, .int 0), (0, .ref (ad G 8 0)), (1, .int a1), (4, .int y104_4), (5, .int y104_5)]) hx hb dL_isPump_124 hl (by decide) rfl (fun ls hl => ?_)
            obtain ⟨n127, h⟩ := h
            refine k_L_isPump_126 a1 y104_5 post _ C0 hr (fun y105_4 y105_6 hv105 h H locs ls hW hS hl => ?_) n127 y104_4 0 hv104 h _ _ _ hW hS (lv_sub hl [1, 2, 4, 3, 0] rfl)
            refine lv_aload_n hx hb dL_isPump_170 rfl (lv_at hl 0 rfl) ?_
            refine lv_iload_n hx hb dL_isPump_171 rfl (lv_at hl 1 rfl) ?_
            refine w_ci hS (w_runV (As := [.int a1]) C0 hW 8 0 (by decide) (by decide) rfl rfl (c_X8_wasted l G A a1 hv105 _ h) ⟨⟨w_550, w_6, w_553⟩, pl_X8_wasted, ⟨Nat.le_of_ble_eq_true rfl, Nat.le_of_ble_eq_true rfl⟩, ⟨Nat.le_refl _, Nat.le_refl _⟩⟩ ⟨w_551, w_552⟩ rfl hl.1 rfl (Nat.le_of_ble_eq_true rfl) dL_isPump_172) (fun r106 hv106 h H locs hW hS => ?_)
            refine lv_aload_n hx hb dL_isPump_175 rfl (lv_at hl 0 rfl) ?_
            refine lv_iload_n hx hb dL_isPump_176 rfl (lv_at hl 1 rfl) ?_
            refine w_ci hS (w_runV (As := [.int a1]) C0 hW 8 0 (by decide) (by decide) rfl rfl (c_X8_relieved l G A a1 hv106 _ h) ⟨⟨w_554, w_6, w_557⟩, pl_X8_relieved, ⟨Nat.le_of_ble_eq_true rfl, Nat.le_of_ble_eq_true rfl⟩, ⟨Nat.le_refl _, Nat.le_refl _⟩⟩ ⟨w_555, w_556⟩ rfl hl.1 rfl (Nat.le_of_ble_eq_true rfl) dL_isPump_177) (fun r107 hv107 h H locs hW hS => ?_)
            refine lv_iadd hx hb dL_isPump_180 ?_
            refine lv_aload_n hx hb dL_isPump_181 rfl (lv_at hl 0 rfl) ?_
            refine lv_iload_n hx hb dL_isPump_182 rfl (lv_at hl 1 rfl) ?_
            refine w_ci hS (w_runV (As := [.int a1]) C0 hW 8 0 (by decide) (by decide) rfl rfl (c_X8_lifted l G A a1 hv107 _ h) ⟨⟨w_461, w_6, w_464⟩, pl_X8_lifted, ⟨Nat.le_of_ble_eq_true rfl, Nat.le_of_ble_eq_true rfl⟩, ⟨Nat.le_refl _, Nat.le_refl _⟩⟩ ⟨w_462, w_463⟩ rfl hl.1 rfl (Nat.le_of_ble_eq_true rfl) dL_isPump_183) (fun r108 hv108 h H locs hW hS => ?_)
            refine lv_iadd hx hb dL_isPump_186 ?_
            refine lv_topi (fun x109 ex109 => ?_)
            have h := h x109 ex109
            refine lv_istore (lv' := [(7, .int x109), (0, .ref (ad G 8 0)), (1, .int a1), (4, .int y105_4), (5, .int y104_5), (6, .int y105_6)]) hx hb dL_isPump_187 hl (by decide) rfl (fun ls hl => ?_)
            refine lv_iload hx hb dL_isPump_189 (lv_at hl 3 rfl) ?_
            refine lv_if_eq (tgt := 257) hx hb dL_isPump_191 (by decide) (fun c110 => ?_) (fun c110 => ?_)
            · have h := h.1 c110
              refine lv_iconst (v := 0) hx hb dL_isPump_257 (by decide) ?_
              exact w_zret C0 hr rfl hW hS h dL_isPump_258
            · have h := h.2 c110
              refine lv_iload hx hb dL_isPump_194 (lv_at hl 4 rfl) ?_
              refine lv_bipush (v := 32) hx hb dL_isPump_196 (by decide) ?_
              refine lv_icmp_gt (tgt := 257) hx hb dL_isPump_198 (by decide) (fun c111 => ?_) (fun c111 => ?_)
              · have h := h.1 c111
                refine lv_iconst (v := 0) hx hb dL_isPump_257 (by decide) ?_
                exact w_zret C0 hr rfl hW hS h dL_isPump_258
              · have h := h.2 c111
                refine lv_iload hx hb dL_isPump_201 (lv_at hl 5 rfl) ?_
                refine lv_aload_n hx hb dL_isPump_203 rfl (lv_at hl 1 rfl) ?_
                refine lv_iload_n hx hb dL_isPump_204 rfl (lv_at hl 2 rfl) ?_
                refine w_ci hS (w_runV (As := [.int a1]) C0 hW 8 0 (by decide) (by decide) rfl rfl (c_X8_beats l G A a1 hv108 _ h) ⟨⟨w_586, w_6, w_589⟩, pl_X8_beats, ⟨Nat.le_of_ble_eq_true rfl, Nat.le_of_ble_eq_true rfl⟩, ⟨Nat.le_refl _, Nat.le_refl _⟩⟩ ⟨w_587, w_588⟩ rfl hl.1 rfl (Nat.le_of_ble_eq_true rfl) dL_isPump_205) (fun r112 hv112 h H locs hW hS => ?_)
                refine lv_bipush (v := 16) hx hb dL_isPump_208 (by decide) ?_
                refine lv_icmp_ge (tgt := 221) hx hb dL_isPump_210 (by decide) (fun c113 => ?_) (fun c113 => ?_)
                · have h := h.1 c113
                  refine lv_bipush (v := 16) hx hb dL_isPump_221 (by decide) ?_
                  refine lv_icmp_ne (tgt := 257) hx hb dL_isPump_223 (by decide) (fun c114 => ?_) (fun c114 => ?_)
                  · have h := h.2 c114
                    refine lv_iconst (v := 0) hx hb dL_isPump_257 (by decide) ?_
                    exact w_zret C0 hr rfl hW hS h dL_isPump_258
                  · have h := h.1 c114
                    refine lv_iload hx hb dL_isPump_226 (lv_at hl 0 rfl) ?_
                    refine lv_if_ne (tgt := 245) hx hb dL_isPump_228 (by decide) (fun c115 => ?_) (fun c115 => ?_)
                    · have h := h.2 c115
                      refine lv_aload_n hx hb dL_isPump_245 rfl (lv_at hl 1 rfl) ?_
                      refine lv_iload_n hx hb dL_isPump_246 rfl (lv_at hl 2 rfl) ?_
                      refine w_ci hS (w_runV (As := [.int a1]) C0 hW 8 0 (by decide) (by decide) rfl rfl (c_X8_efficiency l G A a1 hv112 _ h) ⟨⟨w_590, w_6, w_593⟩, pl_X8_efficiency, ⟨Nat.le_of_ble_eq_true rfl, Nat.le_of_ble_eq_true rfl⟩, ⟨Nat.le_refl _, Nat.le_refl _⟩⟩ ⟨w_591, w_592⟩ rfl hl.1 rfl (Nat.le_of_ble_eq_true rfl) dL_isPump_247) (fun r116 hv116 h H locs hW hS => ?_)
                      refine lv_if_lt (tgt := 257) hx hb dL_isPump_250 (by decide) (fun c117 => ?_) (fun c117 => ?_)
                      · have h := h.1 c117
                        refine lv_iconst (v := 0) hx hb dL_isPump_257 (by decide) ?_
                        exact w_zret C0 hr rfl hW hS h dL_isPump_258
                      · have h := h.2 c117
                        refine lv_iconst (v := 1) hx hb dL_isPump_253 (by decide) ?_
                        refine lv_goto (tgt := 258) hx hb dL_isPump_254 (by decide) ?_
                        exact w_zret C0 hr rfl hW hS h dL_isPump_258
                    · have h := h.1 c115
                      refine lv_aload_n hx hb dL_isPump_231 rfl (lv_at hl 1 rfl) ?_
                      refine lv_iload_n hx hb dL_isPump_232 rfl (lv_at hl 2 rfl) ?_
                      refine w_ci hS (w_runV (As := [.int a1]) C0 hW 8 0 (by decide) (by decide) rfl rfl (c_X8_efficiency l G A a1 hv112 _ h) ⟨⟨w_590, w_6, w_593⟩, pl_X8_efficiency, ⟨Nat.le_of_ble_eq_true rfl, Nat.le_of_ble_eq_true rfl⟩, ⟨Nat.le_refl _, Nat.le_refl _⟩⟩ ⟨w_591, w_592⟩ rfl hl.1 rfl (Nat.le_of_ble_eq_true rfl) dL_isPump_233) (fun r118 hv118 h H locs hW hS => ?_)
                      refine lv_sipush (v := (-1005)) hx hb dL_isPump_236 (by decide) ?_
                      refine lv_icmp_ne (tgt := 257) hx hb dL_isPump_239 (by decide) (fun c119 => ?_) (fun c119 => ?_)
                      · have h := h.2 c119
                        refine lv_iconst (v := 0) hx hb dL_isPump_257 (by decide) ?_
                        exact w_zret C0 hr rfl hW hS h dL_isPump_258
                      · have h := h.1 c119
                        refine lv_goto (tgt := 253) hx hb dL_isPump_242 (by decide) ?_
                        refine lv_iconst (v := 1) hx hb dL_isPump_253 (by decide) ?_
                        refine lv_goto (tgt := 258) hx hb dL_isPump_254 (by decide) ?_
                        exact w_zret C0 hr rfl hW hS h dL_isPump_258
                · have h := h.2 c113
                  refine lv_aload_n hx hb dL_isPump_213 rfl (lv_at hl 1 rfl) ?_
                  refine lv_iload_n hx hb dL_isPump_214 rfl (lv_at hl 2 rfl) ?_
                  refine w_ci hS (w_runV (As := [.int a1]) C0 hW 8 0 (by decide) (by decide) rfl rfl (c_X8_beats l G A a1 hv112 _ h) ⟨⟨w_586, w_6, w_589⟩, pl_X8_beats, ⟨Nat.le_of_ble_eq_true rfl, Nat.le_of_ble_eq_true rfl⟩, ⟨Nat.le_refl _, Nat.le_refl _⟩⟩ ⟨w_587, w_588⟩ rfl hl.1 rfl (Nat.le_of_ble_eq_true rfl) dL_isPump_215) (fun r120 hv120 h H locs hW hS => ?_)
                  refine lv_goto (tgt := 223) hx hb dL_isPump_218 (by decide) ?_
                  refine lv_icmp_ne (tgt := 257) hx hb dL_isPump_223 (by decide) (fun c121 => ?_) (fun c121 => ?_)
                  · have h := h.2 c121
                    refine lv_iconst (v := 0) hx hb dL_isPump_257 (by decide) ?_
                    exact w_zret C0 hr rfl hW hS h dL_isPump_258
                  · have h := h.1 c121
                    refine lv_iload hx hb dL_isPump_226 (lv_at hl 0 rfl) ?_
                    refine lv_if_ne (tgt := 245) hx hb dL_isPump_228 (by decide) (fun c122 => ?_) (fun c122 => ?_)
                    · have h := h.2 c122
                      refine lv_aload_n hx hb dL_isPump_245 rfl (lv_at hl 1 rfl) ?_
                      refine lv_iload_n hx hb dL_isPump_246 rfl (lv_at hl 2 rfl) ?_
                      refine w_ci hS (w_runV (As := [.int a1]) C0 hW 8 0 (by decide) (by decide) rfl rfl (c_X8_efficiency l G A a1 hv120 _ h) ⟨⟨w_590, w_6, w_593⟩, pl_X8_efficiency, ⟨Nat.le_of_ble_eq_true rfl, Nat.le_of_ble_eq_true rfl⟩, ⟨Nat.le_refl _, Nat.le_refl _⟩⟩ ⟨w_591, w_592⟩ rfl hl.1 rfl (Nat.le_of_ble_eq_true rfl) dL_isPump_247) (fun r123 hv123 h H locs hW hS => ?_)
                      refine lv_if_lt (tgt := 257) hx hb dL_isPump_250 (by decide) (fun c124 => ?_) (fun c124 => ?_)
                      · have h := h.1 c124
                        refine lv_iconst (v := 0) hx hb dL_isPump_257 (by decide) ?_
                        exact w_zret C0 hr rfl hW hS h dL_isPump_258
                      · have h := h.2 c124
                        refine lv_iconst (v := 1) hx hb dL_isPump_253 (by decide) ?_
                        refine lv_goto (tgt := 258) hx hb dL_isPump_254 (by decide) ?_
                        exact w_zret C0 hr rfl hW hS h dL_isPump_258
                    · have h := h.1 c122
                      refine lv_aload_n hx hb dL_isPump_231 rfl (lv_at hl 1 rfl) ?_
                      refine lv_iload_n hx hb dL_isPump_232 rfl (lv_at hl 2 rfl) ?_
                      refine w_ci hS (w_runV (As := [.int a1]) C0 hW 8 0 (by decide) (by decide) rfl rfl (c_X8_efficiency l G A a1 hv120 _ h) ⟨⟨w_590, w_6, w_593⟩, pl_X8_efficiency, ⟨Nat.le_of_ble_eq_true rfl, Nat.le_of_ble_eq_true rfl⟩, ⟨Nat.le_refl _, Nat.le_refl _⟩⟩ ⟨w_591, w_592⟩ rfl hl.1 rfl (Nat.le_of_ble_eq_true rfl) dL_isPump_233) (fun r125 hv125 h H locs hW hS => ?_)
                      refine lv_sipush (v := (-1005)) hx hb dL_isPump_236 (by decide) ?_
                      refine lv_icmp_ne (tgt := 257) hx hb dL_isPump_239 (by decide) (fun c126 => ?_) (fun c126 => ?_)
                      · have h := h.2 c126
                        refine lv_iconst (v := 0) hx hb dL_isPump_257 (by decide) ?_
                        exact w_zret C0 hr rfl hW hS h dL_isPump_258
                      · have h := h.1 c126
                        refine lv_goto (tgt := 253) hx hb dL_isPump_242 (by decide) ?_
                        refine lv_iconst (v := 1) hx hb dL_isPump_253 (by decide) ?_
                        refine lv_goto (tgt := 258) hx hb dL_isPump_254 (by decide) ?_
                        exact w_zret C0 hr rfl hW hS h dL_isPump_258
          · have h := h.2 c103
            refine lv_iconst (v := 1) hx hb dL_isPump_55 (by decide) ?_
            refine lv_goto (tgt := 60) hx hb dL_isPump_56 (by decide) ?_
            refine lv_istore (lv' := [(4, .int 1), (3, .int r2), (2, .int r1), (0, .ref (ad G 8 0)), (1, .int a1)]) hx hb dL_isPump_60 hl (by decide) rfl (fun ls hl => ?_)
            refine lv_iconst (v := 0) hx hb dL_isPump_62 (by decide) ?_
            refine lv_istore (lv' := [(5, .int 0), (4, .int 1), (3, .int r2), (2, .int r1), (0, .ref (ad G 8 0)), (1, .int a1)]) hx hb dL_isPump_63 hl (by decide) rfl (fun ls hl => ?_)
            obtain ⟨n153, h⟩ := h
            refine k_L_isPump_65 a1 post _ C0 hr (fun y129_4 y129_5 hv129 h H locs ls hW hS hl => ?_) n153 1 0 hv102 h _ _ _ hW hS (lv_sub hl [4, 5, 1, 0] rfl)
            refine lv_iconst (v := 0) hx hb dL_isPump_123 (by decide) ?_
            refine lv_istore (lv' := [(6, .int 0), (0, .ref (ad G 8 0)), (1, .int a1), (4, .int y129_4), (5, .int y129_5)]) hx hb dL_isPump_124 hl (by decide) rfl (fun ls hl => ?_)
            obtain ⟨n152, h⟩ := h
            refine k_L_isPump_126 a1 y129_5 post _ C0 hr (fun y130_4 y130_6 hv130 h H locs ls hW hS hl => ?_) n152 y129_4 0 hv129 h _ _ _ hW hS (lv_sub hl [1, 2, 4, 3, 0] rfl)
            refine lv_aload_n hx hb dL_isPump_170 rfl (lv_at hl 0 rfl) ?_
            refine lv_iload_n hx hb dL_isPump_171 rfl (lv_at hl 1 rfl) ?_
            refine w_ci hS (w_runV (As := [.int a1]) C0 hW 8 0 (by decide) (by decide) rfl rfl (c_X8_wasted l G A a1 hv130 _ h) ⟨⟨w_550, w_6, w_553⟩, pl_X8_wasted, ⟨Nat.le_of_ble_eq_true rfl, Nat.le_of_ble_eq_true rfl⟩, ⟨Nat.le_refl _, Nat.le_refl _⟩⟩ ⟨w_551, w_552⟩ rfl hl.1 rfl (Nat.le_of_ble_eq_true rfl) dL_isPump_172) (fun r131 hv131 h H locs hW hS => ?_)
            refine lv_aload_n hx hb dL_isPump_175 rfl (lv_at hl 0 rfl) ?_
            refine lv_iload_n hx hb dL_isPump_176 rfl (lv_at hl 1 rfl) ?_
            refine w_ci hS (w_runV (As := [.int a1]) C0 hW 8 0 (by decide) (by decide) rfl rfl (c_X8_relieved l G A a1 hv131 _ h) ⟨⟨w_554, w_6, w_557⟩, pl_X8_relieved, ⟨Nat.le_of_ble_eq_true rfl, Nat.le_of_ble_eq_true rfl⟩, ⟨Nat.le_refl _, Nat.le_refl _⟩⟩ ⟨w_555, w_556⟩ rfl hl.1 rfl (Nat.le_of_ble_eq_true rfl) dL_isPump_177) (fun r132 hv132 h H locs hW hS => ?_)
            refine lv_iadd hx hb dL_isPump_180 ?_
            refine lv_aload_n hx hb dL_isPump_181 rfl (lv_at hl 0 rfl) ?_
            refine lv_iload_n hx hb dL_isPump_182 rfl (lv_at hl 1 rfl) ?_
            refine w_ci hS (w_runV (As := [.int a1]) C0 hW 8 0 (by decide) (by decide) rfl rfl (c_X8_lifted l G A a1 hv132 _ h) ⟨⟨w_461, w_6, w_464⟩, pl_X8_lifted, ⟨Nat.le_of_ble_eq_true rfl, Nat.le_of_ble_eq_true rfl⟩, ⟨Nat.le_refl _, Nat.le_refl _⟩⟩ ⟨w_462, w_463⟩ rfl hl.1 rfl (Nat.le_of_ble_eq_true rfl) dL_isPump_183) (fun r133 hv133 h H locs hW hS => ?_)
            refine lv_iadd hx hb dL_isPump_186 ?_
            refine lv_topi (fun x134 ex134 => ?_)
            have h := h x134 ex134
            refine lv_istore (lv' := [(7, .int x134), (0, .ref (ad G 8 0)), (1, .int a1), (4, .int y130_4), (5, .int y129_5), (6, .int y130_6)]) hx hb dL_isPump_187 hl (by decide) rfl (fun ls hl => ?_)
            refine lv_iload hx hb dL_isPump_189 (lv_at hl 3 rfl) ?_
            refine lv_if_eq (tgt := 257) hx hb dL_isPump_191 (by decide) (fun c135 => ?_) (fun c135 => ?_)
            · have h := h.1 c135
              refine lv_iconst (v := 0) hx hb dL_isPump_257 (by decide) ?_
              exact w_zret C0 hr rfl hW hS h dL_isPump_258
            · have h := h.2 c135
              refine lv_iload hx hb dL_isPump_194 (lv_at hl 4 rfl) ?_
              refine lv_bipush (v := 32) hx hb dL_isPump_196 (by decide) ?_
              refine lv_icmp_gt (tgt := 257) hx hb dL_isPump_198 (by decide) (fun c136 => ?_) (fun c136 => ?_)
              · have h := h.1 c136
                refine lv_iconst (v := 0) hx hb dL_isPump_257 (by decide) ?_
                exact w_zret C0 hr rfl hW hS h dL_isPump_258
              · have h := h.2 c136
                refine lv_iload hx hb dL_isPump_201 (lv_at hl 5 rfl) ?_
                refine lv_aload_n hx hb dL_isPump_203 rfl (lv_at hl 1 rfl) ?_
                refine lv_iload_n hx hb dL_isPump_204 rfl (lv_at hl 2 rfl) ?_
                refine w_ci hS (w_runV (As := [.int a1]) C0 hW 8 0 (by decide) (by decide) rfl rfl (c_X8_beats l G A a1 hv133 _ h) ⟨⟨w_586, w_6, w_589⟩, pl_X8_beats, ⟨Nat.le_of_ble_eq_true rfl, Nat.le_of_ble_eq_true rfl⟩, ⟨Nat.le_refl _, Nat.le_refl _⟩⟩ ⟨w_587, w_588⟩ rfl hl.1 rfl (Nat.le_of_ble_eq_true rfl) dL_isPump_205) (fun r137 hv137 h H locs hW hS => ?_)
                refine lv_bipush (v := 16) hx hb dL_isPump_208 (by decide) ?_
                refine lv_icmp_ge (tgt := 221) hx hb dL_isPump_210 (by decide) (fun c138 => ?_) (fun c138 => ?_)
                · have h := h.1 c138
                  refine lv_bipush (v := 16) hx hb dL_isPump_221 (by decide) ?_
                  refine lv_icmp_ne (tgt := 257) hx hb dL_isPump_223 (by decide) (fun c139 => ?_) (fun c139 => ?_)
                  · have h := h.2 c139
                    refine lv_iconst (v := 0) hx hb dL_isPump_257 (by decide) ?_
                    exact w_zret C0 hr rfl hW hS h dL_isPump_258
                  · have h := h.1 c139
                    refine lv_iload hx hb dL_isPump_226 (lv_at hl 0 rfl) ?_
                    refine lv_if_ne (tgt := 245) hx hb dL_isPump_228 (by decide) (fun c140 => ?_) (fun c140 => ?_)
                    · have h := h.2 c140
                      refine lv_aload_n hx hb dL_isPump_245 rfl (lv_at hl 1 rfl) ?_
                      refine lv_iload_n hx hb dL_isPump_246 rfl (lv_at hl 2 rfl) ?_
                      refine w_ci hS (w_runV (As := [.int a1]) C0 hW 8 0 (by decide) (by decide) rfl rfl (c_X8_efficiency l G A a1 hv137 _ h) ⟨⟨w_590, w_6, w_593⟩, pl_X8_efficiency, ⟨Nat.le_of_ble_eq_true rfl, Nat.le_of_ble_eq_true rfl⟩, ⟨Nat.le_refl _, Nat.le_refl _⟩⟩ ⟨w_591, w_592⟩ rfl hl.1 rfl (Nat.le_of_ble_eq_true rfl) dL_isPump_247) (fun r141 hv141 h H locs hW hS => ?_)
                      refine lv_if_lt (tgt := 257) hx hb dL_isPump_250 (by decide) (fun c142 => ?_) (fun c142 => ?_)
                      · have h := h.1 c142
                        refine lv_iconst (v := 0) hx hb dL_isPump_257 (by decide) ?_
                        exact w_zret C0 hr rfl hW hS h dL_isPump_258
                      · have h := h.2 c142
                        refine lv_iconst (v := 1) hx hb dL_isPump_253 (by decide) ?_
                        refine lv_goto (tgt := 258) hx hb dL_isPump_254 (by decide) ?_
                        exact w_zret C0 hr rfl hW hS h dL_isPump_258
                    · have h := h.1 c140
                      refine lv_aload_n hx hb dL_isPump_231 rfl (lv_at hl 1 rfl) ?_
                      refine lv_iload_n hx hb dL_isPump_232 rfl (lv_at hl 2 rfl) ?_
                      refine w_ci hS (w_runV (As := [.int a1]) C0 hW 8 0 (by decide) (by decide) rfl rfl (c_X8_efficiency l G A a1 hv137 _ h) ⟨⟨w_590, w_6, w_593⟩, pl_X8_efficiency, ⟨Nat.le_of_ble_eq_true rfl, Nat.le_of_ble_eq_true rfl⟩, ⟨Nat.le_refl _, Nat.le_refl _⟩⟩ ⟨w_591, w_592⟩ rfl hl.1 rfl (Nat.le_of_ble_eq_true rfl) dL_isPump_233) (fun r143 hv143 h H locs hW hS => ?_)
                      refine lv_sipush (v := (-1005)) hx hb dL_isPump_236 (by decide) ?_
                      refine lv_icmp_ne (tgt := 257) hx hb dL_isPump_239 (by decide) (fun c144 => ?_) (fun c144 => ?_)
                      · have h := h.2 c144
                        refine lv_iconst (v := 0) hx hb dL_isPump_257 (by decide) ?_
                        exact w_zret C0 hr rfl hW hS h dL_isPump_258
                      · have h := h.1 c144
                        refine lv_goto (tgt := 253) hx hb dL_isPump_242 (by decide) ?_
                        refine lv_iconst (v := 1) hx hb dL_isPump_253 (by decide) ?_
                        refine lv_goto (tgt := 258) hx hb dL_isPump_254 (by decide) ?_
                        exact w_zret C0 hr rfl hW hS h dL_isPump_258
                · have h := h.2 c138
                  refine lv_aload_n hx hb dL_isPump_213 rfl (lv_at hl 1 rfl) ?_
                  refine lv_iload_n hx hb dL_isPump_214 rfl (lv_at hl 2 rfl) ?_
                  refine w_ci hS (w_runV (As := [.int a1]) C0 hW 8 0 (by decide) (by decide) rfl rfl (c_X8_beats l G A a1 hv137 _ h) ⟨⟨w_586, w_6, w_589⟩, pl_X8_beats, ⟨Nat.le_of_ble_eq_true rfl, Nat.le_of_ble_eq_true rfl⟩, ⟨Nat.le_refl _, Nat.le_refl _⟩⟩ ⟨w_587, w_588⟩ rfl hl.1 rfl (Nat.le_of_ble_eq_true rfl) dL_isPump_215) (fun r145 hv145 h H locs hW hS => ?_)
                  refine lv_goto (tgt := 223) hx hb dL_isPump_218 (by decide) ?_
                  refine lv_icmp_ne (tgt := 257) hx hb dL_isPump_223 (by decide) (fun c146 => ?_) (fun c146 => ?_)
                  · have h := h.2 c146
                    refine lv_iconst (v := 0) hx hb dL_isPump_257 (by decide) ?_
                    exact w_zret C0 hr rfl hW hS h dL_isPump_258
                  · have h := h.1 c146
                    refine lv_iload hx hb dL_isPump_226 (lv_at hl 0 rfl) ?_
                    refine lv_if_ne (tgt := 245) hx hb dL_isPump_228 (by decide) (fun c147 => ?_) (fun c147 => ?_)
                    · have h := h.2 c147
                      refine lv_aload_n hx hb dL_isPump_245 rfl (lv_at hl 1 rfl) ?_
                      refine lv_iload_n hx hb dL_isPump_246 rfl (lv_at hl 2 rfl) ?_
                      refine w_ci hS (w_runV (As := [.int a1]) C0 hW 8 0 (by decide) (by decide) rfl rfl (c_X8_efficiency l G A a1 hv145 _ h) ⟨⟨w_590, w_6, w_593⟩, pl_X8_efficiency, ⟨Nat.le_of_ble_eq_true rfl, Nat.le_of_ble_eq_true rfl⟩, ⟨Nat.le_refl _, Nat.le_refl _⟩⟩ ⟨w_591, w_592⟩ rfl hl.1 rfl (Nat.le_of_ble_eq_true rfl) dL_isPump_247) (fun r148 hv148 h H locs hW hS => ?_)
                      refine lv_if_lt (tgt := 257) hx hb dL_isPump_250 (by decide) (fun c149 => ?_) (fun c149 => ?_)
                      · have h := h.1 c149
                        refine lv_iconst (v := 0) hx hb dL_isPump_257 (by decide) ?_
                        exact w_zret C0 hr rfl hW hS h dL_isPump_258
                      · have h := h.2 c149
                        refine lv_iconst (v := 1) hx hb dL_isPump_253 (by decide) ?_
                        refine lv_goto (tgt := 258) hx hb dL_isPump_254 (by decide) ?_
                        exact w_zret C0 hr rfl hW hS h dL_isPump_258
                    · have h := h.1 c147
                      refine lv_aload_n hx hb dL_isPump_231 rfl (lv_at hl 1 rfl) ?_
                      refine lv_iload_n hx hb dL_isPump_232 rfl (lv_at hl 2 rfl) ?_
                      refine w_ci hS (w_runV (As := [.int a1]) C0 hW 8 0 (by decide) (by decide) rfl rfl (c_X8_efficiency l G A a1 hv145 _ h) ⟨⟨w_590, w_6, w_593⟩, pl_X8_efficiency, ⟨Nat.le_of_ble_eq_true rfl, Nat.le_of_ble_eq_true rfl⟩, ⟨Nat.le_refl _, Nat.le_refl _⟩⟩ ⟨w_591, w_592⟩ rfl hl.1 rfl (Nat.le_of_ble_eq_true rfl) dL_isPump_233) (fun r150 hv150 h H locs hW hS => ?_)
                      refine lv_sipush (v := (-1005)) hx hb dL_isPump_236 (by decide) ?_
                      refine lv_icmp_ne (tgt := 257) hx hb dL_isPump_239 (by decide) (fun c151 => ?_) (fun c151 => ?_)
                      · have h := h.2 c151
                        refine lv_iconst (v := 0) hx hb dL_isPump_257 (by decide) ?_
                        exact w_zret C0 hr rfl hW hS h dL_isPump_258
                      · have h := h.1 c151
                        refine lv_goto (tgt := 253) hx hb dL_isPump_242 (by decide) ?_
                        refine lv_iconst (v := 1) hx hb dL_isPump_253 (by decide) ?_
                        refine lv_goto (tgt := 258) hx hb dL_isPump_254 (by decide) ?_
                        exact w_zret C0 hr rfl hW hS h dL_isPump_258
      · have h := h.2 c74
        refine lv_iload_n hx hb dL_isPump_27 rfl (lv_at hl 0 rfl) ?_
        refine lv_if_ne (tgt := 59) hx hb dL_isPump_28 (by decide) (fun c154 => ?_) (fun c154 => ?_)
        · have h := h.2 c154
          refine lv_iconst (v := 0) hx hb dL_isPump_59 (by decide) ?_
          refine lv_istore (lv' := [(4, .int 0), (3, .int r2), (2, .int r1), (0, .ref (ad G 8 0)), (1, .int a1)]) hx hb dL_isPump_60 hl (by decide) rfl (fun ls hl => ?_)
          refine lv_iconst (v := 0) hx hb dL_isPump_62 (by decide) ?_
          refine lv_istore (lv' := [(5, .int 0), (4, .int 0), (3, .int r2), (2, .int r1), (0, .ref (ad G 8 0)), (1, .int a1)]) hx hb dL_isPump_63 hl (by decide) rfl (fun ls hl => ?_)
          obtain ⟨n179, h⟩ := h
          refine k_L_isPump_65 a1 post _ C0 hr (fun y155_4 y155_5 hv155 h H locs ls hW hS hl => ?_) n179 0 0 hv2 h _ _ _ hW hS (lv_sub hl [4, 5, 1, 0] rfl)
          refine lv_iconst (v := 0) hx hb dL_isPump_123 (by decide) ?_
          refine lv_istore (lv' := [(6, .int 0), (0, .ref (ad G 8 0)), (1, .int a1), (4, .int y155_4), (5, .int y155_5)]) hx hb dL_isPump_124 hl (by decide) rfl (fun ls hl => ?_)
          obtain ⟨n178, h⟩ := h
          refine k_L_isPump_126 a1 y155_5 post _ C0 hr (fun y156_4 y156_6 hv156 h H locs ls hW hS hl => ?_) n178 y155_4 0 hv155 h _ _ _ hW hS (lv_sub hl [1, 2, 4, 3, 0] rfl)
          refine lv_aload_n hx hb dL_isPump_170 rfl (lv_at hl 0 rfl) ?_
          refine lv_iload_n hx hb dL_isPump_171 rfl (lv_at hl 1 rfl) ?_
          refine w_ci hS (w_runV (As := [.int a1]) C0 hW 8 0 (by decide) (by decide) rfl rfl (c_X8_wasted l G A a1 hv156 _ h) ⟨⟨w_550, w_6, w_553⟩, pl_X8_wasted, ⟨Nat.le_of_ble_eq_true rfl, Nat.le_of_ble_eq_true rfl⟩, ⟨Nat.le_refl _, Nat.le_refl _⟩⟩ ⟨w_551, w_552⟩ rfl hl.1 rfl (Nat.le_of_ble_eq_true rfl) dL_isPump_172) (fun r157 hv157 h H locs hW hS => ?_)
          refine lv_aload_n hx hb dL_isPump_175 rfl (lv_at hl 0 rfl) ?_
          refine lv_iload_n hx hb dL_isPump_176 rfl (lv_at hl 1 rfl) ?_
          refine w_ci hS (w_runV (As := [.int a1]) C0 hW 8 0 (by decide) (by decide) rfl rfl (c_X8_relieved l G A a1 hv157 _ h) ⟨⟨w_554, w_6, w_557⟩, pl_X8_relieved, ⟨Nat.le_of_ble_eq_true rfl, Nat.le_of_ble_eq_true rfl⟩, ⟨Nat.le_refl _, Nat.le_refl _⟩⟩ ⟨w_555, w_556⟩ rfl hl.1 rfl (Nat.le_of_ble_eq_true rfl) dL_isPump_177) (fun r158 hv158 h H locs hW hS => ?_)
          refine lv_iadd hx hb dL_isPump_180 ?_
          refine lv_aload_n hx hb dL_isPump_181 rfl (lv_at hl 0 rfl) ?_
          refine lv_iload_n hx hb dL_isPump_182 rfl (lv_at hl 1 rfl) ?_
          refine w_ci hS (w_runV (As := [.int a1]) C0 hW 8 0 (by decide) (by decide) rfl rfl (c_X8_lifted l G A a1 hv158 _ h) ⟨⟨w_461, w_6, w_464⟩, pl_X8_lifted, ⟨Nat.le_of_ble_eq_true rfl, Nat.le_of_ble_eq_true rfl⟩, ⟨Nat.le_refl _, Nat.le_refl _⟩⟩ ⟨w_462, w_463⟩ rfl hl.1 rfl (Nat.le_of_ble_eq_true rfl) dL_isPump_183) (fun r159 hv159 h H locs hW hS => ?_)
          refine lv_iadd hx hb dL_isPump_186 ?_
          refine lv_topi (fun x160 ex160 => ?_)
          have h := h x160 ex160
          refine lv_istore (lv' := [(7, .int x160), (0, .ref (ad G 8 0)), (1, .int a1), (4, .int y156_4), (5, .int y155_5), (6, .int y156_6)]) hx hb dL_isPump_187 hl (by decide) rfl (fun ls hl => ?_)
          refine lv_iload hx hb dL_isPump_189 (lv_at hl 3 rfl) ?_
          refine lv_if_eq (tgt := 257) hx hb dL_isPump_191 (by decide) (fun c161 => ?_) (fun c161 => ?_)
          · have h := h.1 c161
            refine lv_iconst (v := 0) hx hb dL_isPump_257 (by decide) ?_
            exact w_zret C0 hr rfl hW hS h dL_isPump_258
          · have h := h.2 c161
            refine lv_iload hx hb dL_isPump_194 (lv_at hl 4 rfl) ?_
            refine lv_bipush (v := 32) hx hb dL_isPump_196 (by decide) ?_
            refine lv_icmp_gt (tgt := 257) hx hb dL_isPump_198 (by decide) (fun c162 => ?_) (fun c162 => ?_)
            · have h := h.1 c162
              refine lv_iconst (v := 0) hx hb dL_isPump_257 (by decide) ?_
              exact w_zret C0 hr rfl hW hS h dL_isPump_258
            · have h := h.2 c162
              refine lv_iload hx hb dL_isPump_201 (lv_at hl 5 rfl) ?_
              refine lv_aload_n hx hb dL_isPump_203 rfl (lv_at hl 1 rfl) ?_
              refine lv_iload_n hx hb dL_isPump_204 rfl (lv_at hl 2 rfl) ?_
              refine w_ci hS (w_runV (As := [.int a1]) C0 hW 8 0 (by decide) (by decide) rfl rfl (c_X8_beats l G A a1 hv159 _ h) ⟨⟨w_586, w_6, w_589⟩, pl_X8_beats, ⟨Nat.le_of_ble_eq_true rfl, Nat.le_of_ble_eq_true rfl⟩, ⟨Nat.le_refl _, Nat.le_refl _⟩⟩ ⟨w_587, w_588⟩ rfl hl.1 rfl (Nat.le_of_ble_eq_true rfl) dL_isPump_205) (fun r163 hv163 h H locs hW hS => ?_)
              refine lv_bipush (v := 16) hx hb dL_isPump_208 (by decide) ?_
              refine lv_icmp_ge (tgt := 221) hx hb dL_isPump_210 (by decide) (fun c164 => ?_) (fun c164 => ?_)
              · have h := h.1 c164
                refine lv_bipush (v := 16) hx hb dL_isPump_221 (by decide) ?_
                refine lv_icmp_ne (tgt := 257) hx hb dL_isPump_223 (by decide) (fun c165 => ?_) (fun c165 => ?_)
                · have h := h.2 c165
                  refine lv_iconst (v := 0) hx hb dL_isPump_257 (by decide) ?_
                  exact w_zret C0 hr rfl hW hS h dL_isPump_258
                · have h := h.1 c165
                  refine lv_iload hx hb dL_isPump_226 (lv_at hl 0 rfl) ?_
                  refine lv_if_ne (tgt := 245) hx hb dL_isPump_228 (by decide) (fun c166 => ?_) (fun c166 => ?_)
                  · have h := h.2 c166
                    refine lv_aload_n hx hb dL_isPump_245 rfl (lv_at hl 1 rfl) ?_
                    refine lv_iload_n hx hb dL_isPump_246 rfl (lv_at hl 2 rfl) ?_
                    refine w_ci hS (w_runV (As := [.int a1]) C0 hW 8 0 (by decide) (by decide) rfl rfl (c_X8_efficiency l G A a1 hv163 _ h) ⟨⟨w_590, w_6, w_593⟩, pl_X8_efficiency, ⟨Nat.le_of_ble_eq_true rfl, Nat.le_of_ble_eq_true rfl⟩, ⟨Nat.le_refl _, Nat.le_refl _⟩⟩ ⟨w_591, w_592⟩ rfl hl.1 rfl (Nat.le_of_ble_eq_true rfl) dL_isPump_247) (fun r167 hv167 h H locs hW hS => ?_)
                    refine lv_if_lt (tgt := 257) hx hb dL_isPump_250 (by decide) (fun c168 => ?_) (fun c168 => ?_)
                    · have h := h.1 c168
                      refine lv_iconst (v := 0) hx hb dL_isPump_257 (by decide) ?_
                      exact w_zret C0 hr rfl hW hS h dL_isPump_258
                    · have h := h.2 c168
                      refine lv_iconst (v := 1) hx hb dL_isPump_253 (by decide) ?_
                      refine lv_goto (tgt := 258) hx hb dL_isPump_254 (by decide) ?_
                      exact w_zret C0 hr rfl hW hS h dL_isPump_258
                  · have h := h.1 c166
                    refine lv_aload_n hx hb dL_isPump_231 rfl (lv_at hl 1 rfl) ?_
                    refine lv_iload_n hx hb dL_isPump_232 rfl (lv_at hl 2 rfl) ?_
                    refine w_ci hS (w_runV (As := [.int a1]) C0 hW 8 0 (by decide) (by decide) rfl rfl (c_X8_efficiency l G A a1 hv163 _ h) ⟨⟨w_590, w_6, w_593⟩, pl_X8_efficiency, ⟨Nat.le_of_ble_eq_true rfl, Nat.le_of_ble_eq_true rfl⟩, ⟨Nat.le_refl _, Nat.le_refl _⟩⟩ ⟨w_591, w_592⟩ rfl hl.1 rfl (Nat.le_of_ble_eq_true rfl) dL_isPump_233) (fun r169 hv169 h H locs hW hS => ?_)
                    refine lv_sipush (v := (-1005)) hx hb dL_isPump_236 (by decide) ?_
                    refine lv_icmp_ne (tgt := 257) hx hb dL_isPump_239 (by decide) (fun c170 => ?_) (fun c170 => ?_)
                    · have h := h.2 c170
                      refine lv_iconst (v := 0) hx hb dL_isPump_257 (by decide) ?_
                      exact w_zret C0 hr rfl hW hS h dL_isPump_258
                    · have h := h.1 c170
                      refine lv_goto (tgt := 253) hx hb dL_isPump_242 (by decide) ?_
                      refine lv_iconst (v := 1) hx hb dL_isPump_253 (by decide) ?_
                      refine lv_goto (tgt := 258) hx hb dL_isPump_254 (by decide) ?_
                      exact w_zret C0 hr rfl hW hS h dL_isPump_258
              · have h := h.2 c164
                refine lv_aload_n hx hb dL_isPump_213 rfl (lv_at hl 1 rfl) ?_
                refine lv_iload_n hx hb dL_isPump_214 rfl (lv_at hl 2 rfl) ?_
                refine w_ci hS (w_runV (As := [.int a1]) C0 hW 8 0 (by decide) (by decide) rfl rfl (c_X8_beats l G A a1 hv163 _ h) ⟨⟨w_586, w_6, w_589⟩, pl_X8_beats, ⟨Nat.le_of_ble_eq_true rfl, Nat.le_of_ble_eq_true rfl⟩, ⟨Nat.le_refl _, Nat.le_refl _⟩⟩ ⟨w_587, w_588⟩ rfl hl.1 rfl (Nat.le_of_ble_eq_true rfl) dL_isPump_215) (fun r171 hv171 h H locs hW hS => ?_)
                refine lv_goto (tgt := 223) hx hb dL_isPump_218 (by decide) ?_
                refine lv_icmp_ne (tgt := 257) hx hb dL_isPump_223 (by decide) (fun c172 => ?_) (fun c172 => ?_)
                · have h := h.2 c172
                  refine lv_iconst (v := 0) hx hb dL_isPump_257 (by decide) ?_
                  exact w_zret C0 hr rfl hW hS h dL_isPump_258
                · have h := h.1 c172
                  refine lv_iload hx hb dL_isPump_226 (lv_at hl 0 rfl) ?_
                  refine lv_if_ne (tgt := 245) hx hb dL_isPump_228 (by decide) (fun c173 => ?_) (fun c173 => ?_)
                  · have h := h.2 c173
                    refine lv_aload_n hx hb dL_isPump_245 rfl (lv_at hl 1 rfl) ?_
                    refine lv_iload_n hx hb dL_isPump_246 rfl (lv_at hl 2 rfl) ?_
                    refine w_ci hS (w_runV (As := [.int a1]) C0 hW 8 0 (by decide) (by decide) rfl rfl (c_X8_efficiency l G A a1 hv171 _ h) ⟨⟨w_590, w_6, w_593⟩, pl_X8_efficiency, ⟨Nat.le_of_ble_eq_true rfl, Nat.le_of_ble_eq_true rfl⟩, ⟨Nat.le_refl _, Nat.le_refl _⟩⟩ ⟨w_591, w_592⟩ rfl hl.1 rfl (Nat.le_of_ble_eq_true rfl) dL_isPump_247) (fun r174 hv174 h H locs hW hS => ?_)
                    refine lv_if_lt (tgt := 257) hx hb dL_isPump_250 (by decide) (fun c175 => ?_) (fun c175 => ?_)
                    · have h := h.1 c175
                      refine lv_iconst (v := 0) hx hb dL_isPump_257 (by decide) ?_
                      exact w_zret C0 hr rfl hW hS h dL_isPump_258
                    · have h := h.2 c175
                      refine lv_iconst (v := 1) hx hb dL_isPump_253 (by decide) ?_
                      refine lv_goto (tgt := 258) hx hb dL_isPump_254 (by decide) ?_
                      exact w_zret C0 hr rfl hW hS h dL_isPump_258
                  · have h := h.1 c173
                    refine lv_aload_n hx hb dL_isPump_231 rfl (lv_at hl 1 rfl) ?_
                    refine lv_iload_n hx hb dL_isPump_232 rfl (lv_at hl 2 rfl) ?_
                    refine w_ci hS (w_runV (As := [.int a1]) C0 hW 8 0 (by decide) (by decide) rfl rfl (c_X8_efficiency l G A a1 hv171 _ h) ⟨⟨w_590, w_6, w_593⟩, pl_X8_efficiency, ⟨Nat.le_of_ble_eq_true rfl, Nat.le_of_ble_eq_true rfl⟩, ⟨Nat.le_refl _, Nat.le_refl _⟩⟩ ⟨w_591, w_592⟩ rfl hl.1 rfl (Nat.le_of_ble_eq_true rfl) dL_isPump_233) (fun r176 hv176 h H locs hW hS => ?_)
                    refine lv_sipush (v := (-1005)) hx hb dL_isPump_236 (by decide) ?_
                    refine lv_icmp_ne (tgt := 257) hx hb dL_isPump_239 (by decide) (fun c177 => ?_) (fun c177 => ?_)
                    · have h := h.2 c177
                      refine lv_iconst (v := 0) hx hb dL_isPump_257 (by decide) ?_
                      exact w_zret C0 hr rfl hW hS h dL_isPump_258
                    · have h := h.1 c177
                      refine lv_goto (tgt := 253) hx hb dL_isPump_242 (by decide) ?_
                      refine lv_iconst (v := 1) hx hb dL_isPump_253 (by decide) ?_
                      refine lv_goto (tgt := 258) hx hb dL_isPump_254 (by decide) ?_
                      exact w_zret C0 hr rfl hW hS h dL_isPump_258
        · have h := h.1 c154
          refine lv_aload_n hx hb dL_isPump_31 rfl (lv_at hl 2 rfl) ?_
          refine lv_iload_n hx hb dL_isPump_32 rfl (lv_at hl 3 rfl) ?_
          refine w_ci hS (w_runV (As := [.int a1]) C0 hW 8 0 (by decide) (by decide) rfl rfl (c_X8_openTicks l G A a1 hv2 _ h) ⟨⟨w_569, w_6, w_572⟩, pl_X8_openTicks, ⟨Nat.le_of_ble_eq_true rfl, Nat.le_of_ble_eq_true rfl⟩, ⟨Nat.le_refl _, Nat.le_refl _⟩⟩ ⟨w_570, w_571⟩ rfl hl.1 rfl (Nat.le_of_ble_eq_true rfl) dL_isPump_33) (fun r180 hv180 h H locs hW hS => ?_)
          refine lv_if_ne (tgt := 59) hx hb dL_isPump_36 (by decide) (fun c181 => ?_) (fun c181 => ?_)
          · have h := h.2 c181
            refine lv_iconst (v := 0) hx hb dL_isPump_59 (by decide) ?_
            refine lv_istore (lv' := [(4, .int 0), (3, .int r2), (2, .int r1), (0, .ref (ad G 8 0)), (1, .int a1)]) hx hb dL_isPump_60 hl (by decide) rfl (fun ls hl => ?_)
            refine lv_iconst (v := 0) hx hb dL_isPump_62 (by decide) ?_
            refine lv_istore (lv' := [(5, .int 0), (4, .int 0), (3, .int r2), (2, .int r1), (0, .ref (ad G 8 0)), (1, .int a1)]) hx hb dL_isPump_63 hl (by decide) rfl (fun ls hl => ?_)
            obtain ⟨n206, h⟩ := h
            refine k_L_isPump_65 a1 post _ C0 hr (fun y182_4 y182_5 hv182 h H locs ls hW hS hl => ?_) n206 0 0 hv180 h _ _ _ hW hS (lv_sub hl [4, 5, 1, 0] rfl)
            refine lv_iconst (v := 0) hx hb dL_isPump_123 (by decide) ?_
            refine lv_istore (lv' := [(6, .int 0), (0, .ref (ad G 8 0)), (1, .int a1), (4, .int y182_4), (5, .int y182_5)]) hx hb dL_isPump_124 hl (by decide) rfl (fun ls hl => ?_)
            obtain ⟨n205, h⟩ := h
            refine k_L_isPump_126 a1 y182_5 post _ C0 hr (fun y183_4 y183_6 hv183 h H locs ls hW hS hl => ?_) n205 y182_4 0 hv182 h _ _ _ hW hS (lv_sub hl [1, 2, 4, 3, 0] rfl)
            refine lv_aload_n hx hb dL_isPump_170 rfl (lv_at hl 0 rfl) ?_
            refine lv_iload_n hx hb dL_isPump_171 rfl (lv_at hl 1 rfl) ?_
            refine w_ci hS (w_runV (As := [.int a1]) C0 hW 8 0 (by decide) (by decide) rfl rfl (c_X8_wasted l G A a1 hv183 _ h) ⟨⟨w_550, w_6, w_553⟩, pl_X8_wasted, ⟨Nat.le_of_ble_eq_true rfl, Nat.le_of_ble_eq_true rfl⟩, ⟨Nat.le_refl _, Nat.le_refl _⟩⟩ ⟨w_551, w_552⟩ rfl hl.1 rfl (Nat.le_of_ble_eq_true rfl) dL_isPump_172) (fun r184 hv184 h H locs hW hS => ?_)
            refine lv_aload_n hx hb dL_isPump_175 rfl (lv_at hl 0 rfl) ?_
            refine lv_iload_n hx hb dL_isPump_176 rfl (lv_at hl 1 rfl) ?_
            refine w_ci hS (w_runV (As := [.int a1]) C0 hW 8 0 (by decide) (by decide) rfl rfl (c_X8_relieved l G A a1 hv184 _ h) ⟨⟨w_554, w_6, w_557⟩, pl_X8_relieved, ⟨Nat.le_of_ble_eq_true rfl, Nat.le_of_ble_eq_true rfl⟩, ⟨Nat.le_refl _, Nat.le_refl _⟩⟩ ⟨w_555, w_556⟩ rfl hl.1 rfl (Nat.le_of_ble_eq_true rfl) dL_isPump_177) (fun r185 hv185 h H locs hW hS => ?_)
            refine lv_iadd hx hb dL_isPump_180 ?_
            refine lv_aload_n hx hb dL_isPump_181 rfl (lv_at hl 0 rfl) ?_
            refine lv_iload_n hx hb dL_isPump_182 rfl (lv_at hl 1 rfl) ?_
            refine w_ci hS (w_runV (As := [.int a1]) C0 hW 8 0 (by decide) (by decide) rfl rfl (c_X8_lifted l G A a1 hv185 _ h) ⟨⟨w_461, w_6, w_464⟩, pl_X8_lifted, ⟨Nat.le_of_ble_eq_true rfl, Nat.le_of_ble_eq_true rfl⟩, ⟨Nat.le_refl _, Nat.le_refl _⟩⟩ ⟨w_462, w_463⟩ rfl hl.1 rfl (Nat.le_of_ble_eq_true rfl) dL_isPump_183) (fun r186 hv186 h H locs hW hS => ?_)
            refine lv_iadd hx hb dL_isPump_186 ?_
            refine lv_topi (fun x187 ex187 => ?_)
            have h := h x187 ex187
            refine lv_istore (lv' := [(7, .int x187), (0, .ref (ad G 8 0)), (1, .int a1), (4, .int y183_4), (5, .int y182_5), (6, .int y183_6)]) hx hb dL_isPump_187 hl (by decide) rfl (fun ls hl => ?_)
            refine lv_iload hx hb dL_isPump_189 (lv_at hl 3 rfl) ?_
            refine lv_if_eq (tgt := 257) hx hb dL_isPump_191 (by decide) (fun c188 => ?_) (fun c188 => ?_)
            · have h := h.1 c188
              refine lv_iconst (v := 0) hx hb dL_isPump_257 (by decide) ?_
              exact w_zret C0 hr rfl hW hS h dL_isPump_258
            · have h := h.2 c188
              refine lv_iload hx hb dL_isPump_194 (lv_at hl 4 rfl) ?_
              refine lv_bipush (v := 32) hx hb dL_isPump_196 (by decide) ?_
              refine lv_icmp_gt (tgt := 257) hx hb dL_isPump_198 (by decide) (fun c189 => ?_) (fun c189 => ?_)
              · have h := h.1 c189
                refine lv_iconst (v := 0) hx hb dL_isPump_257 (by decide) ?_
                exact w_zret C0 hr rfl hW hS h dL_isPump_258
              · have h := h.2 c189
                refine lv_iload hx hb dL_isPump_201 (lv_at hl 5 rfl) ?_
                refine lv_aload_n hx hb dL_isPump_203 rfl (lv_at hl 1 rfl) ?_
                refine lv_iload_n hx hb dL_isPump_204 rfl (lv_at hl 2 rfl) ?_
                refine w_ci hS (w_runV (As := [.int a1]) C0 hW 8 0 (by decide) (by decide) rfl rfl (c_X8_beats l G A a1 hv186 _ h) ⟨⟨w_586, w_6, w_589⟩, pl_X8_beats, ⟨Nat.le_of_ble_eq_true rfl, Nat.le_of_ble_eq_true rfl⟩, ⟨Nat.le_refl _, Nat.le_refl _⟩⟩ ⟨w_587, w_588⟩ rfl hl.1 rfl (Nat.le_of_ble_eq_true rfl) dL_isPump_205) (fun r190 hv190 h H locs hW hS => ?_)
                refine lv_bipush (v := 16) hx hb dL_isPump_208 (by decide) ?_
                refine lv_icmp_ge (tgt := 221) hx hb dL_isPump_210 (by decide) (fun c191 => ?_) (fun c191 => ?_)
                · have h := h.1 c191
                  refine lv_bipush (v := 16) hx hb dL_isPump_221 (by decide) ?_
                  refine lv_icmp_ne (tgt := 257) hx hb dL_isPump_223 (by decide) (fun c192 => ?_) (fun c192 => ?_)
                  · have h := h.2 c192
                    refine lv_iconst (v := 0) hx hb dL_isPump_257 (by decide) ?_
                    exact w_zret C0 hr rfl hW hS h dL_isPump_258
                  · have h := h.1 c192
                    refine lv_iload hx hb dL_isPump_226 (lv_at hl 0 rfl) ?_
                    refine lv_if_ne (tgt := 245) hx hb dL_isPump_228 (by decide) (fun c193 => ?_) (fun c193 => ?_)
                    · have h := h.2 c193
                      refine lv_aload_n hx hb dL_isPump_245 rfl (lv_at hl 1 rfl) ?_
                      refine lv_iload_n hx hb dL_isPump_246 rfl (lv_at hl 2 rfl) ?_
                      refine w_ci hS (w_runV (As := [.int a1]) C0 hW 8 0 (by decide) (by decide) rfl rfl (c_X8_efficiency l G A a1 hv190 _ h) ⟨⟨w_590, w_6, w_593⟩, pl_X8_efficiency, ⟨Nat.le_of_ble_eq_true rfl, Nat.le_of_ble_eq_true rfl⟩, ⟨Nat.le_refl _, Nat.le_refl _⟩⟩ ⟨w_591, w_592⟩ rfl hl.1 rfl (Nat.le_of_ble_eq_true rfl) dL_isPump_247) (fun r194 hv194 h H locs hW hS => ?_)
                      refine lv_if_lt (tgt := 257) hx hb dL_isPump_250 (by decide) (fun c195 => ?_) (fun c195 => ?_)
                      · have h := h.1 c195
                        refine lv_iconst (v := 0) hx hb dL_isPump_257 (by decide) ?_
                        exact w_zret C0 hr rfl hW hS h dL_isPump_258
                      · have h := h.2 c195
                        refine lv_iconst (v := 1) hx hb dL_isPump_253 (by decide) ?_
                        refine lv_goto (tgt := 258) hx hb dL_isPump_254 (by decide) ?_
                        exact w_zret C0 hr rfl hW hS h dL_isPump_258
                    · have h := h.1 c193
                      refine lv_aload_n hx hb dL_isPump_231 rfl (lv_at hl 1 rfl) ?_
                      refine lv_iload_n hx hb dL_isPump_232 rfl (lv_at hl 2 rfl) ?_
                      refine w_ci hS (w_runV (As := [.int a1]) C0 hW 8 0 (by decide) (by decide) rfl rfl (c_X8_efficiency l G A a1 hv190 _ h) ⟨⟨w_590, w_6, w_593⟩, pl_X8_efficiency, ⟨Nat.le_of_ble_eq_true rfl, Nat.le_of_ble_eq_true rfl⟩, ⟨Nat.le_refl _, Nat.le_refl _⟩⟩ ⟨w_591, w_592⟩ rfl hl.1 rfl (Nat.le_of_ble_eq_true rfl) dL_isPump_233) (fun r196 hv196 h H locs hW hS => ?_)
                      refine lv_sipush (v := (-1005)) hx hb dL_isPump_236 (by decide) ?_
                      refine lv_icmp_ne (tgt := 257) hx hb dL_isPump_239 (by decide) (fun c197 => ?_) (fun c197 => ?_)
                      · have h := h.2 c197
                        refine lv_iconst (v := 0) hx hb dL_isPump_257 (by decide) ?_
                        exact w_zret C0 hr rfl hW hS h dL_isPump_258
                      · have h := h.1 c197
                        refine lv_goto (tgt := 253) hx hb dL_isPump_242 (by decide) ?_
                        refine lv_iconst (v := 1) hx hb dL_isPump_253 (by decide) ?_
                        refine lv_goto (tgt := 258) hx hb dL_isPump_254 (by decide) ?_
                        exact w_zret C0 hr rfl hW hS h dL_isPump_258
                · have h := h.2 c191
                  refine lv_aload_n hx hb dL_isPump_213 rfl (lv_at hl 1 rfl) ?_
                  refine lv_iload_n hx hb dL_isPump_214 rfl (lv_at hl 2 rfl) ?_
                  refine w_ci hS (w_runV (As := [.int a1]) C0 hW 8 0 (by decide) (by decide) rfl rfl (c_X8_beats l G A a1 hv190 _ h) ⟨⟨w_586, w_6, w_589⟩, pl_X8_beats, ⟨Nat.le_of_ble_eq_true rfl, Nat.le_of_ble_eq_true rfl⟩, ⟨Nat.le_refl _, Nat.le_refl _⟩⟩ ⟨w_587, w_588⟩ rfl hl.1 rfl (Nat.le_of_ble_eq_true rfl) dL_isPump_215) (fun r198 hv198 h H locs hW hS => ?_)
                  refine lv_goto (tgt := 223) hx hb dL_isPump_218 (by decide) ?_
                  refine lv_icmp_ne (tgt := 257) hx hb dL_isPump_223 (by decide) (fun c199 => ?_) (fun c199 => ?_)
                  · have h := h.2 c199
                    refine lv_iconst (v := 0) hx hb dL_isPump_257 (by decide) ?_
                    exact w_zret C0 hr rfl hW hS h dL_isPump_258
                  · have h := h.1 c199
                    refine lv_iload hx hb dL_isPump_226 (lv_at hl 0 rfl) ?_
                    refine lv_if_ne (tgt := 245) hx hb dL_isPump_228 (by decide) (fun c200 => ?_) (fun c200 => ?_)
                    · have h := h.2 c200
                      refine lv_aload_n hx hb dL_isPump_245 rfl (lv_at hl 1 rfl) ?_
                      refine lv_iload_n hx hb dL_isPump_246 rfl (lv_at hl 2 rfl) ?_
                      refine w_ci hS (w_runV (As := [.int a1]) C0 hW 8 0 (by decide) (by decide) rfl rfl (c_X8_efficiency l G A a1 hv198 _ h) ⟨⟨w_590, w_6, w_593⟩, pl_X8_efficiency, ⟨Nat.le_of_ble_eq_true rfl, Nat.le_of_ble_eq_true rfl⟩, ⟨Nat.le_refl _, Nat.le_refl _⟩⟩ ⟨w_591, w_592⟩ rfl hl.1 rfl (Nat.le_of_ble_eq_true rfl) dL_isPump_247) (fun r201 hv201 h H locs hW hS => ?_)
                      refine lv_if_lt (tgt := 257) hx hb dL_isPump_250 (by decide) (fun c202 => ?_) (fun c202 => ?_)
                      · have h := h.1 c202
                        refine lv_iconst (v := 0) hx hb dL_isPump_257 (by decide) ?_
                        exact w_zret C0 hr rfl hW hS h dL_isPump_258
                      · have h := h.2 c202
                        refine lv_iconst (v := 1) hx hb dL_isPump_253 (by decide) ?_
                        refine lv_goto (tgt := 258) hx hb dL_isPump_254 (by decide) ?_
                        exact w_zret C0 hr rfl hW hS h dL_isPump_258
                    · have h := h.1 c200
                      refine lv_aload_n hx hb dL_isPump_231 rfl (lv_at hl 1 rfl) ?_
                      refine lv_iload_n hx hb dL_isPump_232 rfl (lv_at hl 2 rfl) ?_
                      refine w_ci hS (w_runV (As := [.int a1]) C0 hW 8 0 (by decide) (by decide) rfl rfl (c_X8_efficiency l G A a1 hv198 _ h) ⟨⟨w_590, w_6, w_593⟩, pl_X8_efficiency, ⟨Nat.le_of_ble_eq_true rfl, Nat.le_of_ble_eq_true rfl⟩, ⟨Nat.le_refl _, Nat.le_refl _⟩⟩ ⟨w_591, w_592⟩ rfl hl.1 rfl (Nat.le_of_ble_eq_true rfl) dL_isPump_233) (fun r203 hv203 h H locs hW hS => ?_)
                      refine lv_sipush (v := (-1005)) hx hb dL_isPump_236 (by decide) ?_
                      refine lv_icmp_ne (tgt := 257) hx hb dL_isPump_239 (by decide) (fun c204 => ?_) (fun c204 => ?_)
                      · have h := h.2 c204
                        refine lv_iconst (v := 0) hx hb dL_isPump_257 (by decide) ?_
                        exact w_zret C0 hr rfl hW hS h dL_isPump_258
                      · have h := h.1 c204
                        refine lv_goto (tgt := 253) hx hb dL_isPump_242 (by decide) ?_
                        refine lv_iconst (v := 1) hx hb dL_isPump_253 (by decide) ?_
                        refine lv_goto (tgt := 258) hx hb dL_isPump_254 (by decide) ?_
                        exact w_zret C0 hr rfl hW hS h dL_isPump_258
          · have h := h.1 c181
            refine lv_aload_n hx hb dL_isPump_39 rfl (lv_at hl 2 rfl) ?_
            refine lv_iload_n hx hb dL_isPump_40 rfl (lv_at hl 3 rfl) ?_
            refine w_ci hS (w_runV (As := [.int a1]) C0 hW 8 0 (by decide) (by decide) rfl rfl (c_X8_chamberWater l G A a1 hv180 _ h) ⟨⟨w_409, w_6, w_412⟩, pl_X8_chamberWater, ⟨Nat.le_of_ble_eq_true rfl, Nat.le_of_ble_eq_true rfl⟩, ⟨Nat.le_refl _, Nat.le_refl _⟩⟩ ⟨w_410, w_411⟩ rfl hl.1 rfl (Nat.le_of_ble_eq_true rfl) dL_isPump_41) (fun r207 hv207 h H locs hW hS => ?_)
            refine lv_if_lt (tgt := 59) hx hb dL_isPump_44 (by decide) (fun c208 => ?_) (fun c208 => ?_)
            · have h := h.1 c208
              refine lv_iconst (v := 0) hx hb dL_isPump_59 (by decide) ?_
              refine lv_istore (lv' := [(4, .int 0), (3, .int r2), (2, .int r1), (0, .ref (ad G 8 0)), (1, .int a1)]) hx hb dL_isPump_60 hl (by decide) rfl (fun ls hl => ?_)
              refine lv_iconst (v := 0) hx hb dL_isPump_62 (by decide) ?_
              refine lv_istore (lv' := [(5, .int 0), (4, .int 0), (3, .int r2), (2, .int r1), (0, .ref (ad G 8 0)), (1, .int a1)]) hx hb dL_isPump_63 hl (by decide) rfl (fun ls hl => ?_)
              obtain ⟨n233, h⟩ := h
              refine k_L_isPump_65 a1 post _ C0 hr (fun y209_4 y209_5 hv209 h H locs ls hW hS hl => ?_) n233 0 0 hv207 h _ _ _ hW hS (lv_sub hl [4, 5, 1, 0] rfl)
              refine lv_iconst (v := 0) hx hb dL_isPump_123 (by decide) ?_
              refine lv_istore (lv' := [(6, .int 0), (0, .ref (ad G 8 0)), (1, .int a1), (4, .int y209_4), (5, .int y209_5)]) hx hb dL_isPump_124 hl (by decide) rfl (fun ls hl => ?_)
              obtain ⟨n232, h⟩ := h
              refine k_L_isPump_126 a1 y209_5 post _ C0 hr (fun y210_4 y210_6 hv210 h H locs ls hW hS hl => ?_) n232 y209_4 0 hv209 h _ _ _ hW hS (lv_sub hl [1, 2, 4, 3, 0] rfl)
              refine lv_aload_n hx hb dL_isPump_170 rfl (lv_at hl 0 rfl) ?_
              refine lv_iload_n hx hb dL_isPump_171 rfl (lv_at hl 1 rfl) ?_
              refine w_ci hS (w_runV (As := [.int a1]) C0 hW 8 0 (by decide) (by decide) rfl rfl (c_X8_wasted l G A a1 hv210 _ h) ⟨⟨w_550, w_6, w_553⟩, pl_X8_wasted, ⟨Nat.le_of_ble_eq_true rfl, Nat.le_of_ble_eq_true rfl⟩, ⟨Nat.le_refl _, Nat.le_refl _⟩⟩ ⟨w_551, w_552⟩ rfl hl.1 rfl (Nat.le_of_ble_eq_true rfl) dL_isPump_172) (fun r211 hv211 h H locs hW hS => ?_)
              refine lv_aload_n hx hb dL_isPump_175 rfl (lv_at hl 0 rfl) ?_
              refine lv_iload_n hx hb dL_isPump_176 rfl (lv_at hl 1 rfl) ?_
              refine w_ci hS (w_runV (As := [.int a1]) C0 hW 8 0 (by decide) (by decide) rfl rfl (c_X8_relieved l G A a1 hv211 _ h) ⟨⟨w_554, w_6, w_557⟩, pl_X8_relieved, ⟨Nat.le_of_ble_eq_true rfl, Nat.le_of_ble_eq_true rfl⟩, ⟨Nat.le_refl _, Nat.le_refl _⟩⟩ ⟨w_555, w_556⟩ rfl hl.1 rfl (Nat.le_of_ble_eq_true rfl) dL_isPump_177) (fun r212 hv212 h H locs hW hS => ?_)
              refine lv_iadd hx hb dL_isPump_180 ?_
              refine lv_aload_n hx hb dL_isPump_181 rfl (lv_at hl 0 rfl) ?_
              refine lv_iload_n hx hb dL_isPump_182 rfl (lv_at hl 1 rfl) ?_
              refine w_ci hS (w_runV (As := [.int a1]) C0 hW 8 0 (by decide) (by decide) rfl rfl (c_X8_lifted l G A a1 hv212 _ h) ⟨⟨w_461, w_6, w_464⟩, pl_X8_lifted, ⟨Nat.le_of_ble_eq_true rfl, Nat.le_of_ble_eq_true rfl⟩, ⟨Nat.le_refl _, Nat.le_refl _⟩⟩ ⟨w_462, w_463⟩ rfl hl.1 rfl (Nat.le_of_ble_eq_true rfl) dL_isPump_183) (fun r213 hv213 h H locs hW hS => ?_)
              refine lv_iadd hx hb dL_isPump_186 ?_
              refine lv_topi (fun x214 ex214 => ?_)
              have h := h x214 ex214
              refine lv_istore (lv' := [(7, .int x214), (0, .ref (ad G 8 0)), (1, .int a1), (4, .int y210_4), (5, .int y209_5), (6, .int y210_6)]) hx hb dL_isPump_187 hl (by decide) rfl (fun ls hl => ?_)
              refine lv_iload hx hb dL_isPump_189 (lv_at hl 3 rfl) ?_
              refine lv_if_eq (tgt := 257) hx hb dL_isPump_191 (by decide) (fun c215 => ?_) (fun c215 => ?_)
              · have h := h.1 c215
                refine lv_iconst (v := 0) hx hb dL_isPump_257 (by decide) ?_
                exact w_zret C0 hr rfl hW hS h dL_isPump_258
              · have h := h.2 c215
                refine lv_iload hx hb dL_isPump_194 (lv_at hl 4 rfl) ?_
                refine lv_bipush (v := 32) hx hb dL_isPump_196 (by decide) ?_
                refine lv_icmp_gt (tgt := 257) hx hb dL_isPump_198 (by decide) (fun c216 => ?_) (fun c216 => ?_)
                · have h := h.1 c216
                  refine lv_iconst (v := 0) hx hb dL_isPump_257 (by decide) ?_
                  exact w_zret C0 hr rfl hW hS h dL_isPump_258
                · have h := h.2 c216
                  refine lv_iload hx hb dL_isPump_201 (lv_at hl 5 rfl) ?_
                  refine lv_aload_n hx hb dL_isPump_203 rfl (lv_at hl 1 rfl) ?_
                  refine lv_iload_n hx hb dL_isPump_204 rfl (lv_at hl 2 rfl) ?_
                  refine w_ci hS (w_runV (As := [.int a1]) C0 hW 8 0 (by decide) (by decide) rfl rfl (c_X8_beats l G A a1 hv213 _ h) ⟨⟨w_586, w_6, w_589⟩, pl_X8_beats, ⟨Nat.le_of_ble_eq_true rfl, Nat.le_of_ble_eq_true rfl⟩, ⟨Nat.le_refl _, Nat.le_refl _⟩⟩ ⟨w_587, w_588⟩ rfl hl.1 rfl (Nat.le_of_ble_eq_true rfl) dL_isPump_205) (fun r217 hv217 h H locs hW hS => ?_)
                  refine lv_bipush (v := 16) hx hb dL_isPump_208 (by decide) ?_
                  refine lv_icmp_ge (tgt := 221) hx hb dL_isPump_210 (by decide) (fun c218 => ?_) (fun c218 => ?_)
                  · have h := h.1 c218
                    refine lv_bipush (v := 16) hx hb dL_isPump_221 (by decide) ?_
                    refine lv_icmp_ne (tgt := 257) hx hb dL_isPump_223 (by decide) (fun c219 => ?_) (fun c219 => ?_)
                    · have h := h.2 c219
                      refine lv_iconst (v := 0) hx hb dL_isPump_257 (by decide) ?_
                      exact w_zret C0 hr rfl hW hS h dL_isPump_258
                    · have h := h.1 c219
                      refine lv_iload hx hb dL_isPump_226 (lv_at hl 0 rfl) ?_
                      refine lv_if_ne (tgt := 245) hx hb dL_isPump_228 (by decide) (fun c220 => ?_) (fun c220 => ?_)
                      · have h := h.2 c220
                        refine lv_aload_n hx hb dL_isPump_245 rfl (lv_at hl 1 rfl) ?_
                        refine lv_iload_n hx hb dL_isPump_246 rfl (lv_at hl 2 rfl) ?_
                        refine w_ci hS (w_runV (As := [.int a1]) C0 hW 8 0 (by decide) (by decide) rfl rfl (c_X8_efficiency l G A a1 hv217 _ h) ⟨⟨w_590, w_6, w_593⟩, pl_X8_efficiency, ⟨Nat.le_of_ble_eq_true rfl, Nat.le_of_ble_eq_true rfl⟩, ⟨Nat.le_refl _, Nat.le_refl _⟩⟩ ⟨w_591, w_592⟩ rfl hl.1 rfl (Nat.le_of_ble_eq_true rfl) dL_isPump_247) (fun r221 hv221 h H locs hW hS => ?_)
                        refine lv_if_lt (tgt := 257) hx hb dL_isPump_250 (by decide) (fun c222 => ?_) (fun c222 => ?_)
                        · have h := h.1 c222
                          refine lv_iconst (v := 0) hx hb dL_isPump_257 (by decide) ?_
                          exact w_zret C0 hr rfl hW hS h dL_isPump_258
                        · have h := h.2 c222
                          refine lv_iconst (v := 1) hx hb dL_isPump_253 (by decide) ?_
                          refine lv_goto (tgt := 258) hx hb dL_isPump_254 (by decide) ?_
                          exact w_zret C0 hr rfl hW hS h dL_isPump_258
                      · have h := h.1 c220
                        refine lv_aload_n hx hb dL_isPump_231 rfl (lv_at hl 1 rfl) ?_
                        refine lv_iload_n hx hb dL_isPump_232 rfl (lv_at hl 2 rfl) ?_
                        refine w_ci hS (w_runV (As := [.int a1]) C0 hW 8 0 (by decide) (by decide) rfl rfl (c_X8_efficiency l G A a1 hv217 _ h) ⟨⟨w_590, w_6, w_593⟩, pl_X8_efficiency, ⟨Nat.le_of_ble_eq_true rfl, Nat.le_of_ble_eq_true rfl⟩, ⟨Nat.le_refl _, Nat.le_refl _⟩⟩ ⟨w_591, w_592⟩ rfl hl.1 rfl (Nat.le_of_ble_eq_true rfl) dL_isPump_233) (fun r223 hv223 h H locs hW hS => ?_)
                        refine lv_sipush (v := (-1005)) hx hb dL_isPump_236 (by decide) ?_
                        refine lv_icmp_ne (tgt := 257) hx hb dL_isPump_239 (by decide) (fun c224 => ?_) (fun c224 => ?_)
                        · have h := h.2 c224
                          refine lv_iconst (v := 0) hx hb dL_isPump_257 (by decide) ?_
                          exact w_zret C0 hr rfl hW hS h dL_isPump_258
                        · have h := h.1 c224
                          refine lv_goto (tgt := 253) hx hb dL_isPump_242 (by decide) ?_
                          refine lv_iconst (v := 1) hx hb dL_isPump_253 (by decide) ?_
                          refine lv_goto (tgt := 258) hx hb dL_isPump_254 (by decide) ?_
                          exact w_zret C0 hr rfl hW hS h dL_isPump_258
                  · have h := h.2 c218
                    refine lv_aload_n hx hb dL_isPump_213 rfl (lv_at hl 1 rfl) ?_
                    refine lv_iload_n hx hb dL_isPump_214 rfl (lv_at hl 2 rfl) ?_
                    refine w_ci hS (w_runV (As := [.int a1]) C0 hW 8 0 (by decide) (by decide) rfl rfl (c_X8_beats l G A a1 hv217 _ h) ⟨⟨w_586, w_6, w_589⟩, pl_X8_beats, ⟨Nat.le_of_ble_eq_true rfl, Nat.le_of_ble_eq_true rfl⟩, ⟨Nat.le_refl _, Nat.le_refl _⟩⟩ ⟨w_587, w_588⟩ rfl hl.1 rfl (Nat.le_of_ble_eq_true rfl) dL_isPump_215) (fun r225 hv225 h H locs hW hS => ?_)
                    refine lv_goto (tgt := 223) hx hb dL_isPump_218 (by decide) ?_
                    refine lv_icmp_ne (tgt := 257) hx hb dL_isPump_223 (by decide) (fun c226 => ?_) (fun c226 => ?_)
                    · have h := h.2 c226
                      refine lv_iconst (v := 0) hx hb dL_isPump_257 (by decide) ?_
                      exact w_zret C0 hr rfl hW hS h dL_isPump_258
                    · have h := h.1 c226
                      refine lv_iload hx hb dL_isPump_226 (lv_at hl 0 rfl) ?_
                      refine lv_if_ne (tgt := 245) hx hb dL_isPump_228 (by decide) (fun c227 => ?_) (fun c227 => ?_)
                      · have h := h.2 c227
                        refine lv_aload_n hx hb dL_isPump_245 rfl (lv_at hl 1 rfl) ?_
                        refine lv_iload_n hx hb dL_isPump_246 rfl (lv_at hl 2 rfl) ?_
                        refine w_ci hS (w_runV (As := [.int a1]) C0 hW 8 0 (by decide) (by decide) rfl rfl (c_X8_efficiency l G A a1 hv225 _ h) ⟨⟨w_590, w_6, w_593⟩, pl_X8_efficiency, ⟨Nat.le_of_ble_eq_true rfl, Nat.le_of_ble_eq_true rfl⟩, ⟨Nat.le_refl _, Nat.le_refl _⟩⟩ ⟨w_591, w_592⟩ rfl hl.1 rfl (Nat.le_of_ble_eq_true rfl) dL_isPump_247) (fun r228 hv228 h H locs hW hS => ?_)
                        refine lv_if_lt (tgt := 257) hx hb dL_isPump_250 (by decide) (fun c229 => ?_) (fun c229 => ?_)
                        · have h := h.1 c229
                          refine lv_iconst (v := 0) hx hb dL_isPump_257 (by decide) ?_
                          exact w_zret C0 hr rfl hW hS h dL_isPump_258
                        · have h := h.2 c229
                          refine lv_iconst (v := 1) hx hb dL_isPump_253 (by decide) ?_
                          refine lv_goto (tgt := 258) hx hb dL_isPump_254 (by decide) ?_
                          exact w_zret C0 hr rfl hW hS h dL_isPump_258
                      · have h := h.1 c227
                        refine lv_aload_n hx hb dL_isPump_231 rfl (lv_at hl 1 rfl) ?_
                        refine lv_iload_n hx hb dL_isPump_232 rfl (lv_at hl 2 rfl) ?_
                        refine w_ci hS (w_runV (As := [.int a1]) C0 hW 8 0 (by decide) (by decide) rfl rfl (c_X8_efficiency l G A a1 hv225 _ h) ⟨⟨w_590, w_6, w_593⟩, pl_X8_efficiency, ⟨Nat.le_of_ble_eq_true rfl, Nat.le_of_ble_eq_true rfl⟩, ⟨Nat.le_refl _, Nat.le_refl _⟩⟩ ⟨w_591, w_592⟩ rfl hl.1 rfl (Nat.le_of_ble_eq_true rfl) dL_isPump_233) (fun r230 hv230 h H locs hW hS => ?_)
                        refine lv_sipush (v := (-1005)) hx hb dL_isPump_236 (by decide) ?_
                        refine lv_icmp_ne (tgt := 257) hx hb dL_isPump_239 (by decide) (fun c231 => ?_) (fun c231 => ?_)
                        · have h := h.2 c231
                          refine lv_iconst (v := 0) hx hb dL_isPump_257 (by decide) ?_
                          exact w_zret C0 hr rfl hW hS h dL_isPump_258
                        · have h := h.1 c231
                          refine lv_goto (tgt := 253) hx hb dL_isPump_242 (by decide) ?_
                          refine lv_iconst (v := 1) hx hb dL_isPump_253 (by decide) ?_
                          refine lv_goto (tgt := 258) hx hb dL_isPump_254 (by decide) ?_
                          exact w_zret C0 hr rfl hW hS h dL_isPump_258
            · have h := h.2 c208
              refine lv_aload_n hx hb dL_isPump_47 rfl (lv_at hl 2 rfl) ?_
              refine lv_iload_n hx hb dL_isPump_48 rfl (lv_at hl 3 rfl) ?_
              refine w_ci hS (w_runV (As := [.int a1]) C0 hW 8 0 (by decide) (by decide) rfl rfl (c_X8_chamberHead l G A a1 hv207 _ h) ⟨⟨w_573, w_6, w_576⟩, pl_X8_chamberHead, ⟨Nat.le_of_ble_eq_true rfl, Nat.le_of_ble_eq_true rfl⟩, ⟨Nat.le_refl _, Nat.le_refl _⟩⟩ ⟨w_574, w_575⟩ rfl hl.1 rfl (Nat.le_of_ble_eq_true rfl) dL_isPump_49) (fun r234 hv234 h H locs hW hS => ?_)
              refine lv_if_lt (tgt := 59) hx hb dL_isPump_52 (by decide) (fun c235 => ?_) (fun c235 => ?_)
              · have h := h.1 c235
                refine lv_iconst (v := 0) hx hb dL_isPump_59 (by decide) ?_
                refine lv_istore (lv' := [(4, .int 0), (3, .int r2), (2, .int r1), (0, .ref (ad G 8 0)), (1, .int a1)]) hx hb dL_isPump_60 hl (by decide) rfl (fun ls hl => ?_)
                refine lv_iconst (v := 0) hx hb dL_isPump_62 (by decide) ?_
                refine lv_istore (lv' := [(5, .int 0), (4, .int 0), (3, .int r2), (2, .int r1), (0, .ref (ad G 8 0)), (1, .int a1)]) hx hb dL_isPump_63 hl (by decide) rfl (fun ls hl => ?_)
                obtain ⟨n260, h⟩ := h
                refine k_L_isPump_65 a1 post _ C0 hr (fun y236_4 y236_5 hv236 h H locs ls hW hS hl => ?_) n260 0 0 hv234 h _ _ _ hW hS (lv_sub hl [4, 5, 1, 0] rfl)
                refine lv_iconst (v := 0) hx hb dL_isPump_123 (by decide) ?_
                refine lv_istore (lv' := [(6, .int 0), (0, .ref (ad G 8 0)), (1, .int a1), (4, .int y236_4), (5, .int y236_5)]) hx hb dL_isPump_124 hl (by decide) rfl (fun ls hl => ?_)
                obtain ⟨n259, h⟩ := h
                refine k_L_isPump_126 a1 y236_5 post _ C0 hr (fun y237_4 y237_6 hv237 h H locs ls hW hS hl => ?_) n259 y236_4 0 hv236 h _ _ _ hW hS (lv_sub hl [1, 2, 4, 3, 0] rfl)
                refine lv_aload_n hx hb dL_isPump_170 rfl (lv_at hl 0 rfl) ?_
                refine lv_iload_n hx hb dL_isPump_171 rfl (lv_at hl 1 rfl) ?_
                refine w_ci hS (w_runV (As := [.int a1]) C0 hW 8 0 (by decide) (by decide) rfl rfl (c_X8_wasted l G A a1 hv237 _ h) ⟨⟨w_550, w_6, w_553⟩, pl_X8_wasted, ⟨Nat.le_of_ble_eq_true rfl, Nat.le_of_ble_eq_true rfl⟩, ⟨Nat.le_refl _, Nat.le_refl _⟩⟩ ⟨w_551, w_552⟩ rfl hl.1 rfl (Nat.le_of_ble_eq_true rfl) dL_isPump_172) (fun r238 hv238 h H locs hW hS => ?_)
                refine lv_aload_n hx hb dL_isPump_175 rfl (lv_at hl 0 rfl) ?_
                refine lv_iload_n hx hb dL_isPump_176 rfl (lv_at hl 1 rfl) ?_
                refine w_ci hS (w_runV (As := [.int a1]) C0 hW 8 0 (by decide) (by decide) rfl rfl (c_X8_relieved l G A a1 hv238 _ h) ⟨⟨w_554, w_6, w_557⟩, pl_X8_relieved, ⟨Nat.le_of_ble_eq_true rfl, Nat.le_of_ble_eq_true rfl⟩, ⟨Nat.le_refl _, Nat.le_refl _⟩⟩ ⟨w_555, w_556⟩ rfl hl.1 rfl (Nat.le_of_ble_eq_true rfl) dL_isPump_177) (fun r239 hv239 h H locs hW hS => ?_)
                refine lv_iadd hx hb dL_isPump_180 ?_
                refine lv_aload_n hx hb dL_isPump_181 rfl (lv_at hl 0 rfl) ?_
                refine lv_iload_n hx hb dL_isPump_182 rfl (lv_at hl 1 rfl) ?_
                refine w_ci hS (w_runV (As := [.int a1]) C0 hW 8 0 (by decide) (by decide) rfl rfl (c_X8_lifted l G A a1 hv239 _ h) ⟨⟨w_461, w_6, w_464⟩, pl_X8_lifted, ⟨Nat.le_of_ble_eq_true rfl, Nat.le_of_ble_eq_true rfl⟩, ⟨Nat.le_refl _, Nat.le_refl _⟩⟩ ⟨w_462, w_463⟩ rfl hl.1 rfl (Nat.le_of_ble_eq_true rfl) dL_isPump_183) (fun r240 hv240 h H locs hW hS => ?_)
                refine lv_iadd hx hb dL_isPump_186 ?_
                refine lv_topi (fun x241 ex241 => ?_)
                have h := h x241 ex241
                refine lv_istore (lv' := [(7, .int x241), (0, .ref (ad G 8 0)), (1, .int a1), (4, .int y237_4), (5, .int y236_5), (6, .int y237_6)]) hx hb dL_isPump_187 hl (by decide) rfl (fun ls hl => ?_)
                refine lv_iload hx hb dL_isPump_189 (lv_at hl 3 rfl) ?_
                refine lv_if_eq (tgt := 257) hx hb dL_isPump_191 (by decide) (fun c242 => ?_) (fun c242 => ?_)
                · have h := h.1 c242
                  refine lv_iconst (v := 0) hx hb dL_isPump_257 (by decide) ?_
                  exact w_zret C0 hr rfl hW hS h dL_isPump_258
                · have h := h.2 c242
                  refine lv_iload hx hb dL_isPump_194 (lv_at hl 4 rfl) ?_
                  refine lv_bipush (v := 32) hx hb dL_isPump_196 (by decide) ?_
                  refine lv_icmp_gt (tgt := 257) hx hb dL_isPump_198 (by decide) (fun c243 => ?_) (fun c243 => ?_)
                  · have h := h.1 c243
                    refine lv_iconst (v := 0) hx hb dL_isPump_257 (by decide) ?_
                    exact w_zret C0 hr rfl hW hS h dL_isPump_258
                  · have h := h.2 c243
                    refine lv_iload hx hb dL_isPump_201 (lv_at hl 5 rfl) ?_
                    refine lv_aload_n hx hb dL_isPump_203 rfl (lv_at hl 1 rfl) ?_
                    refine lv_iload_n hx hb dL_isPump_204 rfl (lv_at hl 2 rfl) ?_
                    refine w_ci hS (w_runV (As := [.int a1]) C0 hW 8 0 (by decide) (by decide) rfl rfl (c_X8_beats l G A a1 hv240 _ h) ⟨⟨w_586, w_6, w_589⟩, pl_X8_beats, ⟨Nat.le_of_ble_eq_true rfl, Nat.le_of_ble_eq_true rfl⟩, ⟨Nat.le_refl _, Nat.le_refl _⟩⟩ ⟨w_587, w_588⟩ rfl hl.1 rfl (Nat.le_of_ble_eq_true rfl) dL_isPump_205) (fun r244 hv244 h H locs hW hS => ?_)
                    refine lv_bipush (v := 16) hx hb dL_isPump_208 (by decide) ?_
                    refine lv_icmp_ge (tgt := 221) hx hb dL_isPump_210 (by decide) (fun c245 => ?_) (fun c245 => ?_)
                    · have h := h.1 c245
                      refine lv_bipush (v := 16) hx hb dL_isPump_221 (by decide) ?_
                      refine lv_icmp_ne (tgt := 257) hx hb dL_isPump_223 (by decide) (fun c246 => ?_) (fun c246 => ?_)
                      · have h := h.2 c246
                        refine lv_iconst (v := 0) hx hb dL_isPump_257 (by decide) ?_
                        exact w_zret C0 hr rfl hW hS h dL_isPump_258
                      · have h := h.1 c246
                        refine lv_iload hx hb dL_isPump_226 (lv_at hl 0 rfl) ?_
                        refine lv_if_ne (tgt := 245) hx hb dL_isPump_228 (by decide) (fun c247 => ?_) (fun c247 => ?_)
                        · have h := h.2 c247
                          refine lv_aload_n hx hb dL_isPump_245 rfl (lv_at hl 1 rfl) ?_
                          refine lv_iload_n hx hb dL_isPump_246 rfl (lv_at hl 2 rfl) ?_
                          refine w_ci hS (w_runV (As := [.int a1]) C0 hW 8 0 (by decide) (by decide) rfl rfl (c_X8_efficiency l G A a1 hv244 _ h) ⟨⟨w_590, w_6, w_593⟩, pl_X8_efficiency, ⟨Nat.le_of_ble_eq_true rfl, Nat.le_of_ble_eq_true rfl⟩, ⟨Nat.le_refl _, Nat.le_refl _⟩⟩ ⟨w_591, w_592⟩ rfl hl.1 rfl (Nat.le_of_ble_eq_true rfl) dL_isPump_247) (fun r248 hv248 h H locs hW hS => ?_)
                          refine lv_if_lt (tgt := 257) hx hb dL_isPump_250 (by decide) (fun c249 => ?_) (fun c249 => ?_)
                          · have h := h.1 c249
                            refine lv_iconst (v := 0) hx hb dL_isPump_257 (by decide) ?_
                            exact w_zret C0 hr rfl hW hS h dL_isPump_258
                          · have h := h.2 c249
                            refine lv_iconst (v := 1) hx hb dL_isPump_253 (by decide) ?_
                            refine lv_goto (tgt := 258) hx hb dL_isPump_254 (by decide) ?_
                            exact w_zret C0 hr rfl hW hS h dL_isPump_258
                        · have h := h.1 c247
                          refine lv_aload_n hx hb dL_isPump_231 rfl (lv_at hl 1 rfl) ?_
                          refine lv_iload_n hx hb dL_isPump_232 rfl (lv_at hl 2 rfl) ?_
                          refine w_ci hS (w_runV (As := [.int a1]) C0 hW 8 0 (by decide) (by decide) rfl rfl (c_X8_efficiency l G A a1 hv244 _ h) ⟨⟨w_590, w_6, w_593⟩, pl_X8_efficiency, ⟨Nat.le_of_ble_eq_true rfl, Nat.le_of_ble_eq_true rfl⟩, ⟨Nat.le_refl _, Nat.le_refl _⟩⟩ ⟨w_591, w_592⟩ rfl hl.1 rfl (Nat.le_of_ble_eq_true rfl) dL_isPump_233) (fun r250 hv250 h H locs hW hS => ?_)
                          refine lv_sipush (v := (-1005)) hx hb dL_isPump_236 (by decide) ?_
                          refine lv_icmp_ne (tgt := 257) hx hb dL_isPump_239 (by decide) (fun c251 => ?_) (fun c251 => ?_)
                          · have h := h.2 c251
                            refine lv_iconst (v := 0) hx hb dL_isPump_257 (by decide) ?_
                            exact w_zret C0 hr rfl hW hS h dL_isPump_258
                          · have h := h.1 c251
                            refine lv_goto (tgt := 253) hx hb dL_isPump_242 (by decide) ?_
                            refine lv_iconst (v := 1) hx hb dL_isPump_253 (by decide) ?_
                            refine lv_goto (tgt := 258) hx hb dL_isPump_254 (by decide) ?_
                            exact w_zret C0 hr rfl hW hS h dL_isPump_258
                    · have h := h.2 c245
                      refine lv_aload_n hx hb dL_isPump_213 rfl (lv_at hl 1 rfl) ?_
                      refine lv_iload_n hx hb dL_isPump_214 rfl (lv_at hl 2 rfl) ?_
                      refine w_ci hS (w_runV (As := [.int a1]) C0 hW 8 0 (by decide) (by decide) rfl rfl (c_X8_beats l G A a1 hv244 _ h) ⟨⟨w_586, w_6, w_589⟩, pl_X8_beats, ⟨Nat.le_of_ble_eq_true rfl, Nat.le_of_ble_eq_true rfl⟩, ⟨Nat.le_refl _, Nat.le_refl _⟩⟩ ⟨w_587, w_588⟩ rfl hl.1 rfl (Nat.le_of_ble_eq_true rfl) dL_isPump_215) (fun r252 hv252 h H locs hW hS => ?_)
                      refine lv_goto (tgt := 223) hx hb dL_isPump_218 (by decide) ?_
                      refine lv_icmp_ne (tgt := 257) hx hb dL_isPump_223 (by decide) (fun c253 => ?_) (fun c253 => ?_)
                      · have h := h.2 c253
                        refine lv_iconst (v := 0) hx hb dL_isPump_257 (by decide) ?_
                        exact w_zret C0 hr rfl hW hS h dL_isPump_258
                      · have h := h.1 c253
                        refine lv_iload hx hb dL_isPump_226 (lv_at hl 0 rfl) ?_
                        refine lv_if_ne (tgt := 245) hx hb dL_isPump_228 (by decide) (fun c254 => ?_) (fun c254 => ?_)
                        · have h := h.2 c254
                          refine lv_aload_n hx hb dL_isPump_245 rfl (lv_at hl 1 rfl) ?_
                          refine lv_iload_n hx hb dL_isPump_246 rfl (lv_at hl 2 rfl) ?_
                          refine w_ci hS (w_runV (As := [.int a1]) C0 hW 8 0 (by decide) (by decide) rfl rfl (c_X8_efficiency l G A a1 hv252 _ h) ⟨⟨w_590, w_6, w_593⟩, pl_X8_efficiency, ⟨Nat.le_of_ble_eq_true rfl, Nat.le_of_ble_eq_true rfl⟩, ⟨Nat.le_refl _, Nat.le_refl _⟩⟩ ⟨w_591, w_592⟩ rfl hl.1 rfl (Nat.le_of_ble_eq_true rfl) dL_isPump_247) (fun r255 hv255 h H locs hW hS => ?_)
                          refine lv_if_lt (tgt := 257) hx hb dL_isPump_250 (by decide) (fun c256 => ?_) (fun c256 => ?_)
                          · have h := h.1 c256
                            refine lv_iconst (v := 0) hx hb dL_isPump_257 (by decide) ?_
                            exact w_zret C0 hr rfl hW hS h dL_isPump_258
                          · have h := h.2 c256
                            refine lv_iconst (v := 1) hx hb dL_isPump_253 (by decide) ?_
                            refine lv_goto (tgt := 258) hx hb dL_isPump_254 (by decide) ?_
                            exact w_zret C0 hr rfl hW hS h dL_isPump_258
                        · have h := h.1 c254
                          refine lv_aload_n hx hb dL_isPump_231 rfl (lv_at hl 1 rfl) ?_
                          refine lv_iload_n hx hb dL_isPump_232 rfl (lv_at hl 2 rfl) ?_
                          refine w_ci hS (w_runV (As := [.int a1]) C0 hW 8 0 (by decide) (by decide) rfl rfl (c_X8_efficiency l G A a1 hv252 _ h) ⟨⟨w_590, w_6, w_593⟩, pl_X8_efficiency, ⟨Nat.le_of_ble_eq_true rfl, Nat.le_of_ble_eq_true rfl⟩, ⟨Nat.le_refl _, Nat.le_refl _⟩⟩ ⟨w_591, w_592⟩ rfl hl.1 rfl (Nat.le_of_ble_eq_true rfl) dL_isPump_233) (fun r257 hv257 h H locs hW hS => ?_)
                          refine lv_sipush (v := (-1005)) hx hb dL_isPump_236 (by decide) ?_
                          refine lv_icmp_ne (tgt := 257) hx hb dL_isPump_239 (by decide) (fun c258 => ?_) (fun c258 => ?_)
                          · have h := h.2 c258
                            refine lv_iconst (v := 0) hx hb dL_isPump_257 (by decide) ?_
                            exact w_zret C0 hr rfl hW hS h dL_isPump_258
                          · have h := h.1 c258
                            refine lv_goto (tgt := 253) hx hb dL_isPump_242 (by decide) ?_
                            refine lv_iconst (v := 1) hx hb dL_isPump_253 (by decide) ?_
                            refine lv_goto (tgt := 258) hx hb dL_isPump_254 (by decide) ?_
                            exact w_zret C0 hr rfl hW hS h dL_isPump_258
              · have h := h.2 c235
                refine lv_iconst (v := 1) hx hb dL_isPump_55 (by decide) ?_
                refine lv_goto (tgt := 60) hx hb dL_isPump_56 (by decide) ?_
                refine lv_istore (lv' := [(4, .int 1), (3, .int r2), (2, .int r1), (0, .ref (ad G 8 0)), (1, .int a1)]) hx hb dL_isPump_60 hl (by decide) rfl (fun ls hl => ?_)
                refine lv_iconst (v := 0) hx hb dL_isPump_62 (by decide) ?_
                refine lv_istore (lv' := [(5, .int 0), (4, .int 1), (3, .int r2), (2, .int r1), (0, .ref (ad G 8 0)), (1, .int a1)]) hx hb dL_isPump_63 hl (by decide) rfl (fun ls hl => ?_)
                obtain ⟨n285, h⟩ := h
                refine k_L_isPump_65 a1 post _ C0 hr (fun y261_4 y261_5 hv261 h H locs ls hW hS hl => ?_) n285 1 0 hv234 h _ _ _ hW hS (lv_sub hl [4, 5, 1, 0] rfl)
                refine lv_iconst (v := 0) hx hb dL_isPump_123 (by decide) ?_
                refine lv_istore (lv' := [(6, .int 0), (0, .ref (ad G 8 0)), (1, .int a1), (4, .int y261_4), (5, .int y261_5)]) hx hb dL_isPump_124 hl (by decide) rfl (fun ls hl => ?_)
                obtain ⟨n284, h⟩ := h
                refine k_L_isPump_126 a1 y261_5 post _ C0 hr (fun y262_4 y262_6 hv262 h H locs ls hW hS hl => ?_) n284 y261_4 0 hv261 h _ _ _ hW hS (lv_sub hl [1, 2, 4, 3, 0] rfl)
                refine lv_aload_n hx hb dL_isPump_170 rfl (lv_at hl 0 rfl) ?_
                refine lv_iload_n hx hb dL_isPump_171 rfl (lv_at hl 1 rfl) ?_
                refine w_ci hS (w_runV (As := [.int a1]) C0 hW 8 0 (by decide) (by decide) rfl rfl (c_X8_wasted l G A a1 hv262 _ h) ⟨⟨w_550, w_6, w_553⟩, pl_X8_wasted, ⟨Nat.le_of_ble_eq_true rfl, Nat.le_of_ble_eq_true rfl⟩, ⟨Nat.le_refl _, Nat.le_refl _⟩⟩ ⟨w_551, w_552⟩ rfl hl.1 rfl (Nat.le_of_ble_eq_true rfl) dL_isPump_172) (fun r263 hv263 h H locs hW hS => ?_)
                refine lv_aload_n hx hb dL_isPump_175 rfl (lv_at hl 0 rfl) ?_
                refine lv_iload_n hx hb dL_isPump_176 rfl (lv_at hl 1 rfl) ?_
                refine w_ci hS (w_runV (As := [.int a1]) C0 hW 8 0 (by decide) (by decide) rfl rfl (c_X8_relieved l G A a1 hv263 _ h) ⟨⟨w_554, w_6, w_557⟩, pl_X8_relieved, ⟨Nat.le_of_ble_eq_true rfl, Nat.le_of_ble_eq_true rfl⟩, ⟨Nat.le_refl _, Nat.le_refl _⟩⟩ ⟨w_555, w_556⟩ rfl hl.1 rfl (Nat.le_of_ble_eq_true rfl) dL_isPump_177) (fun r264 hv264 h H locs hW hS => ?_)
                refine lv_iadd hx hb dL_isPump_180 ?_
                refine lv_aload_n hx hb dL_isPump_181 rfl (lv_at hl 0 rfl) ?_
                refine lv_iload_n hx hb dL_isPump_182 rfl (lv_at hl 1 rfl) ?_
                refine w_ci hS (w_runV (As := [.int a1]) C0 hW 8 0 (by decide) (by decide) rfl rfl (c_X8_lifted l G A a1 hv264 _ h) ⟨⟨w_461, w_6, w_464⟩, pl_X8_lifted, ⟨Nat.le_of_ble_eq_true rfl, Nat.le_of_ble_eq_true rfl⟩, ⟨Nat.le_refl _, Nat.le_refl _⟩⟩ ⟨w_462, w_463⟩ rfl hl.1 rfl (Nat.le_of_ble_eq_true rfl) dL_isPump_183) (fun r265 hv265 h H locs hW hS => ?_)
                refine lv_iadd hx hb dL_isPump_186 ?_
                refine lv_topi (fun x266 ex266 => ?_)
                have h := h x266 ex266
                refine lv_istore (lv' := [(7, .int x266), (0, .ref (ad G 8 0)), (1, .int a1), (4, .int y262_4), (5, .int y261_5), (6, .int y262_6)]) hx hb dL_isPump_187 hl (by decide) rfl (fun ls hl => ?_)
                refine lv_iload hx hb dL_isPump_189 (lv_at hl 3 rfl) ?_
                refine lv_if_eq (tgt := 257) hx hb dL_isPump_191 (by decide) (fun c267 => ?_) (fun c267 => ?_)
                · have h := h.1 c267
                  refine lv_iconst (v := 0) hx hb dL_isPump_257 (by decide) ?_
                  exact w_zret C0 hr rfl hW hS h dL_isPump_258
                · have h := h.2 c267
                  refine lv_iload hx hb dL_isPump_194 (lv_at hl 4 rfl) ?_
                  refine lv_bipush (v := 32) hx hb dL_isPump_196 (by decide) ?_
                  refine lv_icmp_gt (tgt := 257) hx hb dL_isPump_198 (by decide) (fun c268 => ?_) (fun c268 => ?_)
                  · have h := h.1 c268
                    refine lv_iconst (v := 0) hx hb dL_isPump_257 (by decide) ?_
                    exact w_zret C0 hr rfl hW hS h dL_isPump_258
                  · have h := h.2 c268
                    refine lv_iload hx hb dL_isPump_201 (lv_at hl 5 rfl) ?_
                    refine lv_aload_n hx hb dL_isPump_203 rfl (lv_at hl 1 rfl) ?_
                    refine lv_iload_n hx hb dL_isPump_204 rfl (lv_at hl 2 rfl) ?_
                    refine w_ci hS (w_runV (As := [.int a1]) C0 hW 8 0 (by decide) (by decide) rfl rfl (c_X8_beats l G A a1 hv265 _ h) ⟨⟨w_586, w_6, w_589⟩, pl_X8_beats, ⟨Nat.le_of_ble_eq_true rfl, Nat.le_of_ble_eq_true rfl⟩, ⟨Nat.le_refl _, Nat.le_refl _⟩⟩ ⟨w_587, w_588⟩ rfl hl.1 rfl (Nat.le_of_ble_eq_true rfl) dL_isPump_205) (fun r269 hv269 h H locs hW hS => ?_)
                    refine lv_bipush (v := 16) hx hb dL_isPump_208 (by decide) ?_
                    refine lv_icmp_ge (tgt := 221) hx hb dL_isPump_210 (by decide) (fun c270 => ?_) (fun c270 => ?_)
                    · have h := h.1 c270
                      refine lv_bipush (v := 16) hx hb dL_isPump_221 (by decide) ?_
                      refine lv_icmp_ne (tgt := 257) hx hb dL_isPump_223 (by decide) (fun c271 => ?_) (fun c271 => ?_)
                      · have h := h.2 c271
                        refine lv_iconst (v := 0) hx hb dL_isPump_257 (by decide) ?_
                        exact w_zret C0 hr rfl hW hS h dL_isPump_258
                      · have h := h.1 c271
                        refine lv_iload hx hb dL_isPump_226 (lv_at hl 0 rfl) ?_
                        refine lv_if_ne (tgt := 245) hx hb dL_isPump_228 (by decide) (fun c272 => ?_) (fun c272 => ?_)
                        · have h := h.2 c272
                          refine lv_aload_n hx hb dL_isPump_245 rfl (lv_at hl 1 rfl) ?_
                          refine lv_iload_n hx hb dL_isPump_246 rfl (lv_at hl 2 rfl) ?_
                          refine w_ci hS (w_runV (As := [.int a1]) C0 hW 8 0 (by decide) (by decide) rfl rfl (c_X8_efficiency l G A a1 hv269 _ h) ⟨⟨w_590, w_6, w_593⟩, pl_X8_efficiency, ⟨Nat.le_of_ble_eq_true rfl, Nat.le_of_ble_eq_true rfl⟩, ⟨Nat.le_refl _, Nat.le_refl _⟩⟩ ⟨w_591, w_592⟩ rfl hl.1 rfl (Nat.le_of_ble_eq_true rfl) dL_isPump_247) (fun r273 hv273 h H locs hW hS => ?_)
                          refine lv_if_lt (tgt := 257) hx hb dL_isPump_250 (by decide) (fun c274 => ?_) (fun c274 => ?_)
                          · have h := h.1 c274
                            refine lv_iconst (v := 0) hx hb dL_isPump_257 (by decide) ?_
                            exact w_zret C0 hr rfl hW hS h dL_isPump_258
                          · have h := h.2 c274
                            refine lv_iconst (v := 1) hx hb dL_isPump_253 (by decide) ?_
                            refine lv_goto (tgt := 258) hx hb dL_isPump_254 (by decide) ?_
                            exact w_zret C0 hr rfl hW hS h dL_isPump_258
                        · have h := h.1 c272
                          refine lv_aload_n hx hb dL_isPump_231 rfl (lv_at hl 1 rfl) ?_
                          refine lv_iload_n hx hb dL_isPump_232 rfl (lv_at hl 2 rfl) ?_
                          refine w_ci hS (w_runV (As := [.int a1]) C0 hW 8 0 (by decide) (by decide) rfl rfl (c_X8_efficiency l G A a1 hv269 _ h) ⟨⟨w_590, w_6, w_593⟩, pl_X8_efficiency, ⟨Nat.le_of_ble_eq_true rfl, Nat.le_of_ble_eq_true rfl⟩, ⟨Nat.le_refl _, Nat.le_refl _⟩⟩ ⟨w_591, w_592⟩ rfl hl.1 rfl (Nat.le_of_ble_eq_true rfl) dL_isPump_233) (fun r275 hv275 h H locs hW hS => ?_)
                          refine lv_sipush (v := (-1005)) hx hb dL_isPump_236 (by decide) ?_
                          refine lv_icmp_ne (tgt := 257) hx hb dL_isPump_239 (by decide) (fun c276 => ?_) (fun c276 => ?_)
                          · have h := h.2 c276
                            refine lv_iconst (v := 0) hx hb dL_isPump_257 (by decide) ?_
                            exact w_zret C0 hr rfl hW hS h dL_isPump_258
                          · have h := h.1 c276
                            refine lv_goto (tgt := 253) hx hb dL_isPump_242 (by decide) ?_
                            refine lv_iconst (v := 1) hx hb dL_isPump_253 (by decide) ?_
                            refine lv_goto (tgt := 258) hx hb dL_isPump_254 (by decide) ?_
                            exact w_zret C0 hr rfl hW hS h dL_isPump_258
                    · have h := h.2 c270
                      refine lv_aload_n hx hb dL_isPump_213 rfl (lv_at hl 1 rfl) ?_
                      refine lv_iload_n hx hb dL_isPump_214 rfl (lv_at hl 2 rfl) ?_
                      refine w_ci hS (w_runV (As := [.int a1]) C0 hW 8 0 (by decide) (by decide) rfl rfl (c_X8_beats l G A a1 hv269 _ h) ⟨⟨w_586, w_6, w_589⟩, pl_X8_beats, ⟨Nat.le_of_ble_eq_true rfl, Nat.le_of_ble_eq_true rfl⟩, ⟨Nat.le_refl _, Nat.le_refl _⟩⟩ ⟨w_587, w_588⟩ rfl hl.1 rfl (Nat.le_of_ble_eq_true rfl) dL_isPump_215) (fun r277 hv277 h H locs hW hS => ?_)
                      refine lv_goto (tgt := 223) hx hb dL_isPump_218 (by decide) ?_
                      refine lv_icmp_ne (tgt := 257) hx hb dL_isPump_223 (by decide) (fun c278 => ?_) (fun c278 => ?_)
                      · have h := h.2 c278
                        refine lv_iconst (v := 0) hx hb dL_isPump_257 (by decide) ?_
                        exact w_zret C0 hr rfl hW hS h dL_isPump_258
                      · have h := h.1 c278
                        refine lv_iload hx hb dL_isPump_226 (lv_at hl 0 rfl) ?_
                        refine lv_if_ne (tgt := 245) hx hb dL_isPump_228 (by decide) (fun c279 => ?_) (fun c279 => ?_)
                        · have h := h.2 c279
                          refine lv_aload_n hx hb dL_isPump_245 rfl (lv_at hl 1 rfl) ?_
                          refine lv_iload_n hx hb dL_isPump_246 rfl (lv_at hl 2 rfl) ?_
                          refine w_ci hS (w_runV (As := [.int a1]) C0 hW 8 0 (by decide) (by decide) rfl rfl (c_X8_efficiency l G A a1 hv277 _ h) ⟨⟨w_590, w_6, w_593⟩, pl_X8_efficiency, ⟨Nat.le_of_ble_eq_true rfl, Nat.le_of_ble_eq_true rfl⟩, ⟨Nat.le_refl _, Nat.le_refl _⟩⟩ ⟨w_591, w_592⟩ rfl hl.1 rfl (Nat.le_of_ble_eq_true rfl) dL_isPump_247) (fun r280 hv280 h H locs hW hS => ?_)
                          refine lv_if_lt (tgt := 257) hx hb dL_isPump_250 (by decide) (fun c281 => ?_) (fun c281 => ?_)
                          · have h := h.1 c281
                            refine lv_iconst (v := 0) hx hb dL_isPump_257 (by decide) ?_
                            exact w_zret C0 hr rfl hW hS h dL_isPump_258
                          · have h := h.2 c281
                            refine lv_iconst (v := 1) hx hb dL_isPump_253 (by decide) ?_
                            refine lv_goto (tgt := 258) hx hb dL_isPump_254 (by decide) ?_
                            exact w_zret C0 hr rfl hW hS h dL_isPump_258
                        · have h := h.1 c279
                          refine lv_aload_n hx hb dL_isPump_231 rfl (lv_at hl 1 rfl) ?_
                          refine lv_iload_n hx hb dL_isPump_232 rfl (lv_at hl 2 rfl) ?_
                          refine w_ci hS (w_runV (As := [.int a1]) C0 hW 8 0 (by decide) (by decide) rfl rfl (c_X8_efficiency l G A a1 hv277 _ h) ⟨⟨w_590, w_6, w_593⟩, pl_X8_efficiency, ⟨Nat.le_of_ble_eq_true rfl, Nat.le_of_ble_eq_true rfl⟩, ⟨Nat.le_refl _, Nat.le_refl _⟩⟩ ⟨w_591, w_592⟩ rfl hl.1 rfl (Nat.le_of_ble_eq_true rfl) dL_isPump_233) (fun r282 hv282 h H locs hW hS => ?_)
                          refine lv_sipush (v := (-1005)) hx hb dL_isPump_236 (by decide) ?_
                          refine lv_icmp_ne (tgt := 257) hx hb dL_isPump_239 (by decide) (fun c283 => ?_) (fun c283 => ?_)
                          · have h := h.2 c283
                            refine lv_iconst (v := 0) hx hb dL_isPump_257 (by decide) ?_
                            exact w_zret C0 hr rfl hW hS h dL_isPump_258
                          · have h := h.1 c283
                            refine lv_goto (tgt := 253) hx hb dL_isPump_242 (by decide) ?_
                            refine lv_iconst (v := 1) hx hb dL_isPump_253 (by decide) ?_
                            refine lv_goto (tgt := 258) hx hb dL_isPump_254 (by decide) ?_
                            exact w_zret C0 hr rfl hW hS h dL_isPump_258

def V_L_isForetold_165 (a1 : Int32) (a2 : Int32) (post : Int32 → HV → Prop) (v3 : Int32) (v4 : Int32) (v5 : Int32) (v6 : Int32) (v13 : Int32) (hv : HV) : Prop := (V_X8_undo hv (fun r15 hv15 => ((r15 < 0 → post 0 hv15) ∧ (¬ (r15 < 0) → ((v13 = 0 → post 0 hv15) ∧ (¬ (v13 = 0) → (V_X8_time hv15 (fun r18 hv18 => ((r18 = v3 → (V_X8_basin hv18 (fun r20 hv20 => ((r20 = v4 → (V_X8_lifted a1 hv20 (fun r22 hv22 => ((r22 = v5 → (V_X8_beats a1 hv22 (fun r24 hv24 => ((r24 = v6 → post 1 hv24) ∧ (¬ (r24 = v6) → post 0 hv24))))) ∧ (¬ (r22 = v5) → post 0 hv22))))) ∧ (¬ (r20 = v4) → post 0 hv20))))) ∧ (¬ (r18 = v3) → post 0 hv18))))))))))
set_option maxHeartbeats 4000000 in
theorem k_L_isForetold_165 {p : Program} {l : Launch} {e : Env} {s : State} {m : MethodId} {args : Array Value} {below : List Frame} {meth : Method} {c : Code} {G : wG} {A : Nat → Prop} (a1 : Int32) (a2 : Int32) (post : Int32 → HV → Prop) (C0 : cx p s m args meth c "RamStationLaw" cL_isForetold 14 G) (hr : meth.sig.returnType = (Option.some FieldType.boolean))   : ∀ (v3 : Int32) (v4 : Int32) (v5 : Int32) (v6 : Int32) (v13 : Int32) (hv : HV), V_L_isForetold_165 a1 a2 post v3 v4 v5 v6 v13 hv → ∀ (H : Heap) (locs : List Loc) (ls : Array Slot), wd G A hv H → va_S A s.heap H locs → lv_has ls 14 [(0, .ref (ad G 8 0)), (1, .int a1), (3, .int v3), (4, .int v4), (5, .int v5), (6, .int v6), (13, .int v13)] → W p l e (wrm 7) s m args below meth c H locs 0 0 (MQ below (qI G A post) args s 0 0 A) (F0 m 165 ls []) := by
  have hx := C0.1
  have hb := C0.2.1
  have hown := C0.2.2.2.1
  have hts := C0.2.2.2.2.1
  intro v3 v4 v5 v6 v13 hv  h H locs ls hW hS hl
  unfold V_L_isForetold_165 at h
  refine lv_aload_n hx hb dL_isForetold_165 rfl (lv_at hl 0 rfl) ?_
  refine w_ci hS (w_runV (As := []) C0 hW 8 0 (by decide) (by decide) rfl rfl (c_X8_undo l G A hv _ h) ⟨⟨w_628, w_6, w_631⟩, pl_X8_undo, ⟨Nat.le_of_ble_eq_true rfl, Nat.le_of_ble_eq_true rfl⟩, ⟨Nat.le_refl _, Nat.le_refl _⟩⟩ ⟨w_629, w_630⟩ rfl hl.1 rfl (Nat.le_of_ble_eq_true rfl) dL_isForetold_166) (fun r15 hv15 h H locs hW hS => ?_)
  refine lv_if_lt (tgt := 218) hx hb dL_isForetold_169 (by decide) (fun c16 => ?_) (fun c16 => ?_)
  · have h := h.1 c16
    refine lv_iconst (v := 0) hx hb dL_isForetold_218 (by decide) ?_
    exact w_zret C0 hr rfl hW hS h dL_isForetold_219
  · have h := h.2 c16
    refine lv_iload hx hb dL_isForetold_172 (lv_at hl 6 rfl) ?_
    refine lv_if_eq (tgt := 218) hx hb dL_isForetold_174 (by decide) (fun c17 => ?_) (fun c17 => ?_)
    · have h := h.1 c17
      refine lv_iconst (v := 0) hx hb dL_isForetold_218 (by decide) ?_
      exact w_zret C0 hr rfl hW hS h dL_isForetold_219
    · have h := h.2 c17
      refine lv_aload_n hx hb dL_isForetold_177 rfl (lv_at hl 0 rfl) ?_
      refine w_ci hS (w_runV (As := []) C0 hW 8 0 (by decide) (by decide) rfl rfl (c_X8_time l G A hv15 _ h) ⟨⟨w_454, w_6, w_457⟩, pl_X8_time, ⟨Nat.le_of_ble_eq_true rfl, Nat.le_of_ble_eq_true rfl⟩, ⟨Nat.le_refl _, Nat.le_refl _⟩⟩ ⟨w_455, w_456⟩ rfl hl.1 rfl (Nat.le_of_ble_eq_true rfl) dL_isForetold_178) (fun r18 hv18 h H locs hW hS => ?_)
      refine lv_iload_n hx hb dL_isForetold_181 rfl (lv_at hl 2 rfl) ?_
      refine lv_icmp_ne (tgt := 218) hx hb dL_isForetold_182 (by decide) (fun c19 => ?_) (fun c19 => ?_)
      · have h := h.2 c19
        refine lv_iconst (v := 0) hx hb dL_isForetold_218 (by decide) ?_
        exact w_zret C0 hr rfl hW hS h dL_isForetold_219
      · have h := h.1 c19
        refine lv_aload_n hx hb dL_isForetold_185 rfl (lv_at hl 0 rfl) ?_
        refine w_ci hS (w_runV (As := []) C0 hW 8 0 (by decide) (by decide) rfl rfl (c_X8_basin l G A hv18 _ h) ⟨⟨w_539, w_6, w_542⟩, pl_X8_basin, ⟨Nat.le_of_ble_eq_true rfl, Nat.le_of_ble_eq_true rfl⟩, ⟨Nat.le_refl _, Nat.le_refl _⟩⟩ ⟨w_540, w_541⟩ rfl hl.1 rfl (Nat.le_of_ble_eq_true rfl) dL_isForetold_186) (fun r20 hv20 h H locs hW hS => ?_)
        refine lv_iload hx hb dL_isForetold_189 (lv_at hl 3 rfl) ?_
        refine lv_icmp_ne (tgt := 218) hx hb dL_isForetold_191 (by decide) (fun c21 => ?_) (fun c21 => ?_)
        · have h := h.2 c21
          refine lv_iconst (v := 0) hx hb dL_isForetold_218 (by decide) ?_
          exact w_zret C0 hr rfl hW hS h dL_isForetold_219
        · have h := h.1 c21
          refine lv_aload_n hx hb dL_isForetold_194 rfl (lv_at hl 0 rfl) ?_
          refine lv_iload_n hx hb dL_isForetold_195 rfl (lv_at hl 1 rfl) ?_
          refine w_ci hS (w_runV (As := [.int a1]) C0 hW 8 0 (by decide) (by decide) rfl rfl (c_X8_lifted l G A a1 hv20 _ h) ⟨⟨w_461, w_6, w_464⟩, pl_X8_lifted, ⟨Nat.le_of_ble_eq_true rfl, Nat.le_of_ble_eq_true rfl⟩, ⟨Nat.le_refl _, Nat.le_refl _⟩⟩ ⟨w_462, w_463⟩ rfl hl.1 rfl (Nat.le_of_ble_eq_true rfl) dL_isForetold_196) (fun r22 hv22 h H locs hW hS => ?_)
          refine lv_iload hx hb dL_isForetold_199 (lv_at hl 4 rfl) ?_
          refine lv_icmp_ne (tgt := 218) hx hb dL_isForetold_201 (by decide) (fun c23 => ?_) (fun c23 => ?_)
          · have h := h.2 c23
            refine lv_iconst (v := 0) hx hb dL_isForetold_218 (by decide) ?_
            exact w_zret C0 hr rfl hW hS h dL_isForetold_219
          · have h := h.1 c23
            refine lv_aload_n hx hb dL_isForetold_204 rfl (lv_at hl 0 rfl) ?_
            refine lv_iload_n hx hb dL_isForetold_205 rfl (lv_at hl 1 rfl) ?_
            refine w_ci hS (w_runV (As := [.int a1]) C0 hW 8 0 (by decide) (by decide) rfl rfl (c_X8_beats l G A a1 hv22 _ h) ⟨⟨w_586, w_6, w_589⟩, pl_X8_beats, ⟨Nat.le_of_ble_eq_true rfl, Nat.le_of_ble_eq_true rfl⟩, ⟨Nat.le_refl _, Nat.le_refl _⟩⟩ ⟨w_587, w_588⟩ rfl hl.1 rfl (Nat.le_of_ble_eq_true rfl) dL_isForetold_206) (fun r24 hv24 h H locs hW hS => ?_)
            refine lv_iload hx hb dL_isForetold_209 (lv_at hl 5 rfl) ?_
            refine lv_icmp_ne (tgt := 218) hx hb dL_isForetold_211 (by decide) (fun c25 => ?_) (fun c25 => ?_)
            · have h := h.2 c25
              refine lv_iconst (v := 0) hx hb dL_isForetold_218 (by decide) ?_
              exact w_zret C0 hr rfl hW hS h dL_isForetold_219
            · have h := h.1 c25
              refine lv_iconst (v := 1) hx hb dL_isForetold_214 (by decide) ?_
              refine lv_goto (tgt := 219) hx hb dL_isForetold_215 (by decide) ?_
              exact w_zret C0 hr rfl hW hS h dL_isForetold_219
theorem pl_L_isForetold : yL_isForetold.cls ≠ "java/lang/invoke/MethodHandle" ∧ yL_isForetold.cls ≠ "java/lang/invoke/VarHandle" ∧ (parseMethodDescriptor yL_isForetold.desc).map (fun d => d.parameters.length) = some 3 := ⟨by decide +kernel, by decide +kernel, by decide +kernel⟩
def V_L_isForetold (a1 : Int32) (a2 : Int32) (hv : HV) (post : Int32 → HV → Prop) : Prop := (V_X8_time hv (fun r1 hv1 => (V_X8_basin hv1 (fun r2 hv2 => (V_X8_lifted a1 hv2 (fun r3 hv3 => (V_X8_beats a1 hv3 (fun r4 hv4 => (V_X8_starved a1 hv4 (fun r5 hv5 => (V_L_through a1 hv5 (fun r6 hv6 => (V_X8_ticksToSlam a1 hv6 (fun r7 hv7 => (V_X8_deliveredIn a1 a2 hv7 (fun r8 hv8 => (V_X8_drawnIn a1 a2 hv8 (fun r9 hv9 => (V_X8_pass a2 hv9 (fun r10 hv10 => (V_X8_lifted a1 hv10 (fun r11 hv11 => ((r10 = (r11 - r3) → (V_X8_starved a1 hv11 (fun r27 hv27 => ((r27 = r5 → ((r10 = r8 → (V_L_through a1 hv27 (fun r31 hv31 => (((r31 - r6) = r9 → (V_X8_beats a1 hv31 (fun r33 hv33 => ((r33 ≤ r4 → ((r7 ≤ 0 → (V_L_isForetold_165 a1 a2 post r1 r2 r3 r4 1 hv33)) ∧ (¬ (r7 ≤ 0) → ((a2 < r7 → (V_L_isForetold_165 a1 a2 post r1 r2 r3 r4 1 hv33)) ∧ (¬ (a2 < r7) → (V_L_isForetold_165 a1 a2 post r1 r2 r3 r4 0 hv33)))))) ∧ (¬ (r33 ≤ r4) → ((r7 ≤ 0 → (V_L_isForetold_165 a1 a2 post r1 r2 r3 r4 0 hv33)) ∧ (¬ (r7 ≤ 0) → ((a2 < r7 → (V_L_isForetold_165 a1 a2 post r1 r2 r3 r4 0 hv33)) ∧ (¬ (a2 < r7) → (V_L_isForetold_165 a1 a2 post r1 r2 r3 r4 1 hv33)))))))))) ∧ (¬ ((r31 - r6) = r9) → (V_L_isForetold_165 a1 a2 post r1 r2 r3 r4 0 hv31)))))) ∧ (¬ (r10 = r8) → (V_L_isForetold_165 a1 a2 post r1 r2 r3 r4 0 hv27)))) ∧ (¬ (r27 = r5) → (V_L_isForetold_165 a1 a2 post r1 r2 r3 r4 1 hv27)))))) ∧ (¬ (r10 = (r11 - r3)) → (V_X8_starved a1 hv11 (fun r13 hv13 => ((r13 = r5 → (V_L_isForetold_165 a1 a2 post r1 r2 r3 r4 0 hv13)) ∧ (¬ (r13 = r5) → (V_L_isForetold_165 a1 a2 post r1 r2 r3 r4 0 hv13)))))))))))))))))))))))))))))
set_option maxHeartbeats 4000000 in
theorem c_L_isForetold (l : Launch) (G : wG) (A : Nat → Prop) (a1 : Int32) (a2 : Int32) (hv : HV) (post : Int32 → HV → Prop) (h : V_L_isForetold a1 a2 hv post) : wM l yL_isForetold cL_isForetold 14 ((Option.some FieldType.boolean)) 7 G A hv [.ref (ad G 8 0), .int a1, .int a2] (qI G A post) := by
  refine wM_of (by decide +kernel) (Nat.le_of_ble_eq_true rfl) ?_
  intro p e s m args below meth c C0 hr ls hl hW hS
  have hx := C0.1
  have hb := C0.2.1
  have hown := C0.2.2.2.1
  have hts := C0.2.2.2.2.1
  have hl : lv_has ls 14 [(0, .ref (ad G 8 0)), (1, .int a1), (2, .int a2)] := hl
  unfold V_L_isForetold at h
  refine lv_aload_n hx hb dL_isForetold_0 rfl (lv_at hl 0 rfl) ?_
  refine w_ci hS (w_runV (As := []) C0 hW 8 0 (by decide) (by decide) rfl rfl (c_X8_time l G A hv _ h) ⟨⟨w_454, w_6, w_457⟩, pl_X8_time, ⟨Nat.le_of_ble_eq_true rfl, Nat.le_of_ble_eq_true rfl⟩, ⟨Nat.le_refl _, Nat.le_refl _⟩⟩ ⟨w_455, w_456⟩ rfl hl.1 rfl (Nat.le_of_ble_eq_true rfl) dL_isForetold_1) (fun r1 hv1 h H locs hW hS => ?_)
  refine lv_istore_n (lv' := [(3, .int r1), (0, .ref (ad G 8 0)), (1, .int a1), (2, .int a2)]) hx hb dL_isForetold_4 rfl hl (by decide) rfl (fun ls hl => ?_)
  refine lv_aload_n hx hb dL_isForetold_5 rfl (lv_at hl 1 rfl) ?_
  refine w_ci hS (w_runV (As := []) C0 hW 8 0 (by decide) (by decide) rfl rfl (c_X8_basin l G A hv1 _ h) ⟨⟨w_539, w_6, w_542⟩, pl_X8_basin, ⟨Nat.le_of_ble_eq_true rfl, Nat.le_of_ble_eq_true rfl⟩, ⟨Nat.le_refl _, Nat.le_refl _⟩⟩ ⟨w_540, w_541⟩ rfl hl.1 rfl (Nat.le_of_ble_eq_true rfl) dL_isForetold_6) (fun r2 hv2 h H locs hW hS => ?_)
  refine lv_istore (lv' := [(4, .int r2), (3, .int r1), (0, .ref (ad G 8 0)), (1, .int a1), (2, .int a2)]) hx hb dL_isForetold_9 hl (by decide) rfl (fun ls hl => ?_)
  refine lv_aload_n hx hb dL_isForetold_11 rfl (lv_at hl 2 rfl) ?_
  refine lv_iload_n hx hb dL_isForetold_12 rfl (lv_at hl 3 rfl) ?_
  refine w_ci hS (w_runV (As := [.int a1]) C0 hW 8 0 (by decide) (by decide) rfl rfl (c_X8_lifted l G A a1 hv2 _ h) ⟨⟨w_461, w_6, w_464⟩, pl_X8_lifted, ⟨Nat.le_of_ble_eq_true rfl, Nat.le_of_ble_eq_true rfl⟩, ⟨Nat.le_refl _, Nat.le_refl _⟩⟩ ⟨w_462, w_463⟩ rfl hl.1 rfl (Nat.le_of_ble_eq_true rfl) dL_isForetold_13) (fun r3 hv3 h H locs hW hS => ?_)
  refine lv_istore (lv' := [(5, .int r3), (4, .int r2), (3, .int r1), (0, .ref (ad G 8 0)), (1, .int a1), (2, .int a2)]) hx hb dL_isForetold_16 hl (by decide) rfl (fun ls hl => ?_)
  refine lv_aload_n hx hb dL_isForetold_18 rfl (lv_at hl 3 rfl) ?_
  refine lv_iload_n hx hb dL_isForetold_19 rfl (lv_at hl 4 rfl) ?_
  refine w_ci hS (w_runV (As := [.int a1]) C0 hW 8 0 (by decide) (by decide) rfl rfl (c_X8_beats l G A a1 hv3 _ h) ⟨⟨w_586, w_6, w_589⟩, pl_X8_beats, ⟨Nat.le_of_ble_eq_true rfl, Nat.le_of_ble_eq_true rfl⟩, ⟨Nat.le_refl _, Nat.le_refl _⟩⟩ ⟨w_587, w_588⟩ rfl hl.1 rfl (Nat.le_of_ble_eq_true rfl) dL_isForetold_20) (fun r4 hv4 h H locs hW hS => ?_)
  refine lv_istore (lv' := [(6, .int r4), (5, .int r3), (4, .int r2), (3, .int r1), (0, .ref (ad G 8 0)), (1, .int a1), (2, .int a2)]) hx hb dL_isForetold_23 hl (by decide) rfl (fun ls hl => ?_)
  refine lv_aload_n hx hb dL_isForetold_25 rfl (lv_at hl 4 rfl) ?_
  refine lv_iload_n hx hb dL_isForetold_26 rfl (lv_at hl 5 rfl) ?_
  refine w_ci hS (w_runV (As := [.int a1]) C0 hW 8 0 (by decide) (by decide) rfl rfl (c_X8_starved l G A a1 hv4 _ h) ⟨⟨w_602, w_6, w_605⟩, pl_X8_starved, ⟨Nat.le_of_ble_eq_true rfl, Nat.le_of_ble_eq_true rfl⟩, ⟨Nat.le_refl _, Nat.le_refl _⟩⟩ ⟨w_603, w_604⟩ rfl hl.1 rfl (Nat.le_of_ble_eq_true rfl) dL_isForetold_27) (fun r5 hv5 h H locs hW hS => ?_)
  refine lv_istore (lv' := [(7, .int r5), (6, .int r4), (5, .int r3), (4, .int r2), (3, .int r1), (0, .ref (ad G 8 0)), (1, .int a1), (2, .int a2)]) hx hb dL_isForetold_30 hl (by decide) rfl (fun ls hl => ?_)
  refine lv_aload_n hx hb dL_isForetold_32 rfl (lv_at hl 5 rfl) ?_
  refine lv_iload_n hx hb dL_isForetold_33 rfl (lv_at hl 6 rfl) ?_
  refine w_ci hS (w_runS (As := [.ref (ad G 8 0), .int a1]) C0 hW (c_L_through l G A a1 hv5 _ h) ⟨⟨w_547, w_5, w_549⟩, pl_L_through, ⟨Nat.le_of_ble_eq_true rfl, Nat.le_of_ble_eq_true rfl⟩, ⟨Nat.le_refl _, Nat.le_refl _⟩⟩ w_548 rfl hl.1 rfl (Nat.le_of_ble_eq_true rfl) dL_isForetold_34) (fun r6 hv6 h H locs hW hS => ?_)
  refine lv_istore (lv' := [(8, .int r6), (7, .int r5), (6, .int r4), (5, .int r3), (4, .int r2), (3, .int r1), (0, .ref (ad G 8 0)), (1, .int a1), (2, .int a2)]) hx hb dL_isForetold_37 hl (by decide) rfl (fun ls hl => ?_)
  refine lv_aload_n hx hb dL_isForetold_39 rfl (lv_at hl 6 rfl) ?_
  refine lv_iload_n hx hb dL_isForetold_40 rfl (lv_at hl 7 rfl) ?_
  refine w_ci hS (w_runV (As := [.int a1]) C0 hW 8 0 (by decide) (by decide) rfl rfl (c_X8_ticksToSlam l G A a1 hv6 _ h) ⟨⟨w_606, w_6, w_609⟩, pl_X8_ticksToSlam, ⟨Nat.le_of_ble_eq_true rfl, Nat.le_of_ble_eq_true rfl⟩, ⟨Nat.le_refl _, Nat.le_refl _⟩⟩ ⟨w_607, w_608⟩ rfl hl.1 rfl (Nat.le_of_ble_eq_true rfl) dL_isForetold_41) (fun r7 hv7 h H locs hW hS => ?_)
  refine lv_istore (lv' := [(9, .int r7), (8, .int r6), (7, .int r5), (6, .int r4), (5, .int r3), (4, .int r2), (3, .int r1), (0, .ref (ad G 8 0)), (1, .int a1), (2, .int a2)]) hx hb dL_isForetold_44 hl (by decide) rfl (fun ls hl => ?_)
  refine lv_aload_n hx hb dL_isForetold_46 rfl (lv_at hl 7 rfl) ?_
  refine lv_iload_n hx hb dL_isForetold_47 rfl (lv_at hl 8 rfl) ?_
  refine lv_iload_n hx hb dL_isForetold_48 rfl (lv_at hl 9 rfl) ?_
  refine w_ci hS (w_runV (As := [.int a1, .int a2]) C0 hW 8 0 (by decide) (by decide) rfl rfl (c_X8_deliveredIn l G A a1 a2 hv7 _ h) ⟨⟨w_616, w_6, w_619⟩, pl_X8_deliveredIn, ⟨Nat.le_of_ble_eq_true rfl, Nat.le_of_ble_eq_true rfl⟩, ⟨Nat.le_refl _, Nat.le_refl _⟩⟩ ⟨w_617, w_618⟩ rfl hl.1 rfl (Nat.le_of_ble_eq_true rfl) dL_isForetold_49) (fun r8 hv8 h H locs hW hS => ?_)
  refine lv_istore (lv' := [(10, .int r8), (9, .int r7), (8, .int r6), (7, .int r5), (6, .int r4), (5, .int r3), (4, .int r2), (3, .int r1), (0, .ref (ad G 8 0)), (1, .int a1), (2, .int a2)]) hx hb dL_isForetold_52 hl (by decide) rfl (fun ls hl => ?_)
  refine lv_aload_n hx hb dL_isForetold_54 rfl (lv_at hl 8 rfl) ?_
  refine lv_iload_n hx hb dL_isForetold_55 rfl (lv_at hl 9 rfl) ?_
  refine lv_iload_n hx hb dL_isForetold_56 rfl (lv_at hl 10 rfl) ?_
  refine w_ci hS (w_runV (As := [.int a1, .int a2]) C0 hW 8 0 (by decide) (by decide) rfl rfl (c_X8_drawnIn l G A a1 a2 hv8 _ h) ⟨⟨w_624, w_6, w_627⟩, pl_X8_drawnIn, ⟨Nat.le_of_ble_eq_true rfl, Nat.le_of_ble_eq_true rfl⟩, ⟨Nat.le_refl _, Nat.le_refl _⟩⟩ ⟨w_625, w_626⟩ rfl hl.1 rfl (Nat.le_of_ble_eq_true rfl) dL_isForetold_57) (fun r9 hv9 h H locs hW hS => ?_)
  refine lv_istore (lv' := [(11, .int r9), (10, .int r8), (9, .int r7), (8, .int r6), (7, .int r5), (6, .int r4), (5, .int r3), (4, .int r2), (3, .int r1), (0, .ref (ad G 8 0)), (1, .int a1), (2, .int a2)]) hx hb dL_isForetold_60 hl (by decide) rfl (fun ls hl => ?_)
  refine lv_aload_n hx hb dL_isForetold_62 rfl (lv_at hl 9 rfl) ?_
  refine lv_iload_n hx hb dL_isForetold_63 rfl (lv_at hl 11 rfl) ?_
  refine w_ci hS (w_runV (As := [.int a2]) C0 hW 8 0 (by decide) (by decide) rfl rfl (c_X8_pass l G A a2 hv9 _ h) ⟨⟨w_465, w_6, w_468⟩, pl_X8_pass, ⟨Nat.le_of_ble_eq_true rfl, Nat.le_of_ble_eq_true rfl⟩, ⟨Nat.le_refl _, Nat.le_refl _⟩⟩ ⟨w_466, w_467⟩ rfl hl.1 rfl (Nat.le_of_ble_eq_true rfl) dL_isForetold_64) (fun r10 hv10 h H locs hW hS => ?_)
  refine lv_istore (lv' := [(12, .int r10), (11, .int r9), (10, .int r8), (9, .int r7), (8, .int r6), (7, .int r5), (6, .int r4), (5, .int r3), (4, .int r2), (3, .int r1), (0, .ref (ad G 8 0)), (1, .int a1), (2, .int a2)]) hx hb dL_isForetold_67 hl (by decide) rfl (fun ls hl => ?_)
  refine lv_iload hx hb dL_isForetold_69 (lv_at hl 0 rfl) ?_
  refine lv_aload_n hx hb dL_isForetold_71 rfl (lv_at hl 10 rfl) ?_
  refine lv_iload_n hx hb dL_isForetold_72 rfl (lv_at hl 11 rfl) ?_
  refine w_ci hS (w_runV (As := [.int a1]) C0 hW 8 0 (by decide) (by decide) rfl rfl (c_X8_lifted l G A a1 hv10 _ h) ⟨⟨w_461, w_6, w_464⟩, pl_X8_lifted, ⟨Nat.le_of_ble_eq_true rfl, Nat.le_of_ble_eq_true rfl⟩, ⟨Nat.le_refl _, Nat.le_refl _⟩⟩ ⟨w_462, w_463⟩ rfl hl.1 rfl (Nat.le_of_ble_eq_true rfl) dL_isForetold_73) (fun r11 hv11 h H locs hW hS => ?_)
  refine lv_iload hx hb dL_isForetold_76 (lv_at hl 7 rfl) ?_
  refine lv_isub hx hb dL_isForetold_78 ?_
  refine lv_icmp_ne (tgt := 86) hx hb dL_isForetold_79 (by decide) (fun c12 => ?_) (fun c12 => ?_)
  · have h := h.2 c12
    refine lv_iconst (v := 0) hx hb dL_isForetold_86 (by decide) ?_
    refine lv_istore (lv' := [(13, .int 0), (12, .int r10), (11, .int r9), (10, .int r8), (9, .int r7), (8, .int r6), (7, .int r5), (6, .int r4), (5, .int r3), (4, .int r2), (3, .int r1), (0, .ref (ad G 8 0)), (1, .int a1), (2, .int a2)]) hx hb dL_isForetold_87 hl (by decide) rfl (fun ls hl => ?_)
    refine lv_aload_n hx hb dL_isForetold_89 rfl (lv_at hl 11 rfl) ?_
    refine lv_iload_n hx hb dL_isForetold_90 rfl (lv_at hl 12 rfl) ?_
    refine w_ci hS (w_runV (As := [.int a1]) C0 hW 8 0 (by decide) (by decide) rfl rfl (c_X8_starved l G A a1 hv11 _ h) ⟨⟨w_602, w_6, w_605⟩, pl_X8_starved, ⟨Nat.le_of_ble_eq_true rfl, Nat.le_of_ble_eq_true rfl⟩, ⟨Nat.le_refl _, Nat.le_refl _⟩⟩ ⟨w_603, w_604⟩ rfl hl.1 rfl (Nat.le_of_ble_eq_true rfl) dL_isForetold_91) (fun r13 hv13 h H locs hW hS => ?_)
    refine lv_iload hx hb dL_isForetold_94 (lv_at hl 6 rfl) ?_
    refine lv_icmp_ne (tgt := 165) hx hb dL_isForetold_96 (by decide) (fun c14 => ?_) (fun c14 => ?_)
    · have h := h.2 c14
      exact k_L_isForetold_165 a1 a2 post C0 hr r1 r2 r3 r4 0 hv13 h _ _ _ hW hS (lv_sub hl [11, 12, 10, 9, 8, 7, 0] rfl)
    · have h := h.1 c14
      refine lv_iload hx hb dL_isForetold_99 (lv_at hl 0 rfl) ?_
      refine lv_if_eq (tgt := 162) hx hb dL_isForetold_101 (by decide) (fun _ => ?_) (fun z => by first | exact absurd z (by decide) | exact absurd (by decide) z)
      refine lv_iconst (v := 0) hx hb dL_isForetold_162 (by decide) ?_
      refine lv_istore (lv' := [(13, .int 0), (12, .int r10), (11, .int r9), (10, .int r8), (9, .int r7), (8, .int r6), (7, .int r5), (6, .int r4), (5, .int r3), (4, .int r2), (3, .int r1), (0, .ref (ad G 8 0)), (1, .int a1), (2, .int a2)]) hx hb dL_isForetold_163 hl (by decide) rfl (fun ls hl => ?_)
      exact k_L_isForetold_165 a1 a2 post C0 hr r1 r2 r3 r4 0 hv13 h _ _ _ hW hS (lv_sub hl [11, 12, 10, 9, 8, 7, 0] rfl)
  · have h := h.1 c12
    refine lv_iconst (v := 1) hx hb dL_isForetold_82 (by decide) ?_
    refine lv_goto (tgt := 87) hx hb dL_isForetold_83 (by decide) ?_
    refine lv_istore (lv' := [(13, .int 1), (12, .int r10), (11, .int r9), (10, .int r8), (9, .int r7), (8, .int r6), (7, .int r5), (6, .int r4), (5, .int r3), (4, .int r2), (3, .int r1), (0, .ref (ad G 8 0)), (1, .int a1), (2, .int a2)]) hx hb dL_isForetold_87 hl (by decide) rfl (fun ls hl => ?_)
    refine lv_aload_n hx hb dL_isForetold_89 rfl (lv_at hl 11 rfl) ?_
    refine lv_iload_n hx hb dL_isForetold_90 rfl (lv_at hl 12 rfl) ?_
    refine w_ci hS (w_runV (As := [.int a1]) C0 hW 8 0 (by decide) (by decide) rfl rfl (c_X8_starved l G A a1 hv11 _ h) ⟨⟨w_602, w_6, w_605⟩, pl_X8_starved, ⟨Nat.le_of_ble_eq_true rfl, Nat.le_of_ble_eq_true rfl⟩, ⟨Nat.le_refl _, Nat.le_refl _⟩⟩ ⟨w_603, w_604⟩ rfl hl.1 rfl (Nat.le_of_ble_eq_true rfl) dL_isForetold_91) (fun r27 hv27 h H locs hW hS => ?_)
    refine lv_iload hx hb dL_isForetold_94 (lv_at hl 6 rfl) ?_
    refine lv_icmp_ne (tgt := 165) hx hb dL_isForetold_96 (by decide) (fun c28 => ?_) (fun c28 => ?_)
    · have h := h.2 c28
      exact k_L_isForetold_165 a1 a2 post C0 hr r1 r2 r3 r4 1 hv27 h _ _ _ hW hS (lv_sub hl [11, 12, 10, 9, 8, 7, 0] rfl)
    · have h := h.1 c28
      refine lv_iload hx hb dL_isForetold_99 (lv_at hl 0 rfl) ?_
      refine lv_if_eq (tgt := 162) hx hb dL_isForetold_101 (by decide) (fun z => absurd z (by decide)) (fun _ => ?_)
      refine lv_iload hx hb dL_isForetold_104 (lv_at hl 1 rfl) ?_
      refine lv_iload hx hb dL_isForetold_106 (lv_at hl 3 rfl) ?_
      refine lv_icmp_ne (tgt := 162) hx hb dL_isForetold_108 (by decide) (fun c30 => ?_) (fun c30 => ?_)
      · have h := h.2 c30
        refine lv_iconst (v := 0) hx hb dL_isForetold_162 (by decide) ?_
        refine lv_istore (lv' := [(13, .int 0), (12, .int r10), (11, .int r9), (10, .int r8), (9, .int r7), (8, .int r6), (7, .int r5), (6, .int r4), (5, .int r3), (4, .int r2), (3, .int r1), (0, .ref (ad G 8 0)), (1, .int a1), (2, .int a2)]) hx hb dL_isForetold_163 hl (by decide) rfl (fun ls hl => ?_)
        exact k_L_isForetold_165 a1 a2 post C0 hr r1 r2 r3 r4 0 hv27 h _ _ _ hW hS (lv_sub hl [11, 12, 10, 9, 8, 7, 0] rfl)
      · have h := h.1 c30
        refine lv_aload_n hx hb dL_isForetold_111 rfl (lv_at hl 11 rfl) ?_
        refine lv_iload_n hx hb dL_isForetold_112 rfl (lv_at hl 12 rfl) ?_
        refine w_ci hS (w_runS (As := [.ref (ad G 8 0), .int a1]) C0 hW (c_L_through l G A a1 hv27 _ h) ⟨⟨w_547, w_5, w_549⟩, pl_L_through, ⟨Nat.le_of_ble_eq_true rfl, Nat.le_of_ble_eq_true rfl⟩, ⟨Nat.le_refl _, Nat.le_refl _⟩⟩ w_548 rfl hl.1 rfl (Nat.le_of_ble_eq_true rfl) dL_isForetold_113) (fun r31 hv31 h H locs hW hS => ?_)
        refine lv_iload hx hb dL_isForetold_116 (lv_at hl 5 rfl) ?_
        refine lv_isub hx hb dL_isForetold_118 ?_
        refine lv_iload hx hb dL_isForetold_119 (lv_at hl 2 rfl) ?_
        refine lv_icmp_ne (tgt := 162) hx hb dL_isForetold_121 (by decide) (fun c32 => ?_) (fun c32 => ?_)
        · have h := h.2 c32
          refine lv_iconst (v := 0) hx hb dL_isForetold_162 (by decide) ?_
          refine lv_istore (lv' := [(13, .int 0), (12, .int r10), (11, .int r9), (10, .int r8), (9, .int r7), (8, .int r6), (7, .int r5), (6, .int r4), (5, .int r3), (4, .int r2), (3, .int r1), (0, .ref (ad G 8 0)), (1, .int a1), (2, .int a2)]) hx hb dL_isForetold_163 hl (by decide) rfl (fun ls hl => ?_)
          exact k_L_isForetold_165 a1 a2 post C0 hr r1 r2 r3 r4 0 hv31 h _ _ _ hW hS (lv_sub hl [11, 12, 10, 9, 8, 7, 0] rfl)
        · have h := h.1 c32
          refine lv_aload_n hx hb dL_isForetold_124 rfl (lv_at hl 11 rfl) ?_
          refine lv_iload_n hx hb dL_isForetold_125 rfl (lv_at hl 12 rfl) ?_
          refine w_ci hS (w_runV (As := [.int a1]) C0 hW 8 0 (by decide) (by decide) rfl rfl (c_X8_beats l G A a1 hv31 _ h) ⟨⟨w_586, w_6, w_589⟩, pl_X8_beats, ⟨Nat.le_of_ble_eq_true rfl, Nat.le_of_ble_eq_true rfl⟩, ⟨Nat.le_refl _, Nat.le_refl _⟩⟩ ⟨w_587, w_588⟩ rfl hl.1 rfl (Nat.le_of_ble_eq_true rfl) dL_isForetold_126) (fun r33 hv33 h H locs hW hS => ?_)
          refine lv_iload hx hb dL_isForetold_129 (lv_at hl 7 rfl) ?_
          refine lv_icmp_le (tgt := 138) hx hb dL_isForetold_131 (by decide) (fun c34 => ?_) (fun c34 => ?_)
          · have h := h.1 c34
            refine lv_iconst (v := 0) hx hb dL_isForetold_138 (by decide) ?_
            refine lv_iload hx hb dL_isForetold_139 (lv_at hl 4 rfl) ?_
            refine lv_if_le (tgt := 154) hx hb dL_isForetold_141 (by decide) (fun c35 => ?_) (fun c35 => ?_)
            · have h := h.1 c35
              refine lv_iconst (v := 0) hx hb dL_isForetold_154 (by decide) ?_
              refine lv_icmp_ne (tgt := 162) hx hb dL_isForetold_155 (by decide) (fun z => absurd z (by decide)) (fun _ => ?_)
              refine lv_iconst (v := 1) hx hb dL_isForetold_158 (by decide) ?_
              refine lv_goto (tgt := 163) hx hb dL_isForetold_159 (by decide) ?_
              refine lv_istore (lv' := [(13, .int 1), (12, .int r10), (11, .int r9), (10, .int r8), (9, .int r7), (8, .int r6), (7, .int r5), (6, .int r4), (5, .int r3), (4, .int r2), (3, .int r1), (0, .ref (ad G 8 0)), (1, .int a1), (2, .int a2)]) hx hb dL_isForetold_163 hl (by decide) rfl (fun ls hl => ?_)
              exact k_L_isForetold_165 a1 a2 post C0 hr r1 r2 r3 r4 1 hv33 h _ _ _ hW hS (lv_sub hl [11, 12, 10, 9, 8, 7, 0] rfl)
            · have h := h.2 c35
              refine lv_iload hx hb dL_isForetold_144 (lv_at hl 4 rfl) ?_
              refine lv_iload_n hx hb dL_isForetold_146 rfl (lv_at hl 13 rfl) ?_
              refine lv_icmp_gt (tgt := 154) hx hb dL_isForetold_147 (by decide) (fun c37 => ?_) (fun c37 => ?_)
              · have h := h.1 c37
                refine lv_iconst (v := 0) hx hb dL_isForetold_154 (by decide) ?_
                refine lv_icmp_ne (tgt := 162) hx hb dL_isForetold_155 (by decide) (fun z => absurd z (by decide)) (fun _ => ?_)
                refine lv_iconst (v := 1) hx hb dL_isForetold_158 (by decide) ?_
                refine lv_goto (tgt := 163) hx hb dL_isForetold_159 (by decide) ?_
                refine lv_istore (lv' := [(13, .int 1), (12, .int r10), (11, .int r9), (10, .int r8), (9, .int r7), (8, .int r6), (7, .int r5), (6, .int r4), (5, .int r3), (4, .int r2), (3, .int r1), (0, .ref (ad G 8 0)), (1, .int a1), (2, .int a2)]) hx hb dL_isForetold_163 hl (by decide) rfl (fun ls hl => ?_)
                exact k_L_isForetold_165 a1 a2 post C0 hr r1 r2 r3 r4 1 hv33 h _ _ _ hW hS (lv_sub hl [11, 12, 10, 9, 8, 7, 0] rfl)
              · have h := h.2 c37
                refine lv_iconst (v := 1) hx hb dL_isForetold_150 (by decide) ?_
                refine lv_goto (tgt := 155) hx hb dL_isForetold_151 (by decide) ?_
                refine lv_icmp_ne (tgt := 162) hx hb dL_isForetold_155 (by decide) (fun _ => ?_) (fun z => by first | exact absurd z (by decide) | exact absurd (by decide) z)
                refine lv_iconst (v := 0) hx hb dL_isForetold_162 (by decide) ?_
                refine lv_istore (lv' := [(13, .int 0), (12, .int r10), (11, .int r9), (10, .int r8), (9, .int r7), (8, .int r6), (7, .int r5), (6, .int r4), (5, .int r3), (4, .int r2), (3, .int r1), (0, .ref (ad G 8 0)), (1, .int a1), (2, .int a2)]) hx hb dL_isForetold_163 hl (by decide) rfl (fun ls hl => ?_)
                exact k_L_isForetold_165 a1 a2 post C0 hr r1 r2 r3 r4 0 hv33 h _ _ _ hW hS (lv_sub hl [11, 12, 10, 9, 8, 7, 0] rfl)
          · have h := h.2 c34
            refine lv_iconst (v := 1) hx hb dL_isForetold_134 (by decide) ?_
            refine lv_goto (tgt := 139) hx hb dL_isForetold_135 (by decide) ?_
            refine lv_iload hx hb dL_isForetold_139 (lv_at hl 4 rfl) ?_
            refine lv_if_le (tgt := 154) hx hb dL_isForetold_141 (by decide) (fun c40 => ?_) (fun c40 => ?_)
            · have h := h.1 c40
              refine lv_iconst (v := 0) hx hb dL_isForetold_154 (by decide) ?_
              refine lv_icmp_ne (tgt := 162) hx hb dL_isForetold_155 (by decide) (fun _ => ?_) (fun z => by first | exact absurd z (by decide) | exact absurd (by decide) z)
              refine lv_iconst (v := 0) hx hb dL_isForetold_162 (by decide) ?_
              refine lv_istore (lv' := [(13, .int 0), (12, .int r10), (11, .int r9), (10, .int r8), (9, .int r7), (8, .int r6), (7, .int r5), (6, .int r4), (5, .int r3), (4, .int r2), (3, .int r1), (0, .ref (ad G 8 0)), (1, .int a1), (2, .int a2)]) hx hb dL_isForetold_163 hl (by decide) rfl (fun ls hl => ?_)
              exact k_L_isForetold_165 a1 a2 post C0 hr r1 r2 r3 r4 0 hv33 h _ _ _ hW hS (lv_sub hl [11, 12, 10, 9, 8, 7, 0] rfl)
            · have h := h.2 c40
              refine lv_iload hx hb dL_isForetold_144 (lv_at hl 4 rfl) ?_
              refine lv_iload_n hx hb dL_isForetold_146 rfl (lv_at hl 13 rfl) ?_
              refine lv_icmp_gt (tgt := 154) hx hb dL_isForetold_147 (by decide) (fun c42 => ?_) (fun c42 => ?_)
              · have h := h.1 c42
                refine lv_iconst (v := 0) hx hb dL_isForetold_154 (by decide) ?_
                refine lv_icmp_ne (tgt := 162) hx hb dL_isForetold_155 (by decide) (fun _ => ?_) (fun z => by first | exact absurd z (by decide) | exact absurd (by decide) z)
                refine lv_iconst (v := 0) hx hb dL_isForetold_162 (by decide) ?_
                refine lv_istore (lv' := [(13, .int 0), (12, .int r10), (11, .int r9), (10, .int r8), (9, .int r7), (8, .int r6), (7, .int r5), (6, .int r4), (5, .int r3), (4, .int r2), (3, .int r1), (0, .ref (ad G 8 0)), (1, .int a1), (2, .int a2)]) hx hb dL_isForetold_163 hl (by decide) rfl (fun ls hl => ?_)
                exact k_L_isForetold_165 a1 a2 post C0 hr r1 r2 r3 r4 0 hv33 h _ _ _ hW hS (lv_sub hl [11, 12, 10, 9, 8, 7, 0] rfl)
              · have h := h.2 c42
                refine lv_iconst (v := 1) hx hb dL_isForetold_150 (by decide) ?_
                refine lv_goto (tgt := 155) hx hb dL_isForetold_151 (by decide) ?_
                refine lv_icmp_ne (tgt := 162) hx hb dL_isForetold_155 (by decide) (fun z => absurd z (by decide)) (fun _ => ?_)
                refine lv_iconst (v := 1) hx hb dL_isForetold_158 (by decide) ?_
                refine lv_goto (tgt := 163) hx hb dL_isForetold_159 (by decide) ?_
                refine lv_istore (lv' := [(13, .int 1), (12, .int r10), (11, .int r9), (10, .int r8), (9, .int r7), (8, .int r6), (7, .int r5), (6, .int r4), (5, .int r3), (4, .int r2), (3, .int r1), (0, .ref (ad G 8 0)), (1, .int a1), (2, .int a2)]) hx hb dL_isForetold_163 hl (by decide) rfl (fun ls hl => ?_)
                exact k_L_isForetold_165 a1 a2 post C0 hr r1 r2 r3 r4 1 hv33 h _ _ _ hW hS (lv_sub hl [11, 12, 10, 9, 8, 7, 0] rfl)

def V_L_isBest_11 (post : Int32 → HV → Prop) (k_58 : Int32 → HV → Prop) : Nat → Int32 → Int32 → HV → Prop
  | 0, _, _, _ => False
  | n11 + 1, v1, v2, hv => ((v2 < 0 → k_58 v1 hv) ∧ (¬ (v2 < 0) → (V_X8_efficiency v2 hv (fun r4 hv4 => ((r4 = (-1005) → (∀ x6 : Int32, x6 = v2 + (-1) → V_L_isBest_11 post k_58 n11 v1 x6 hv4)) ∧ (¬ (r4 = (-1005)) → ((v1 = (-1005) → (∀ x8 : Int32, x8 = v2 + (-1) → V_L_isBest_11 post k_58 n11 v2 x8 hv4)) ∧ (¬ (v1 = (-1005)) → (V_X8_efficiency v2 hv4 (fun r9 hv9 => (V_X8_efficiency v1 hv9 (fun r10 hv10 => ((r9 < r10 → (∀ x12 : Int32, x12 = v2 + (-1) → V_L_isBest_11 post k_58 n11 v1 x12 hv10)) ∧ (¬ (r9 < r10) → (∀ x13 : Int32, x13 = v2 + (-1) → V_L_isBest_11 post k_58 n11 v2 x13 hv10)))))))))))))))
set_option maxHeartbeats 4000000 in
theorem k_L_isBest_11 {p : Program} {l : Launch} {e : Env} {s : State} {m : MethodId} {args : Array Value} {below : List Frame} {meth : Method} {c : Code} {G : wG} {A : Nat → Prop} (post : Int32 → HV → Prop) (k_58 : Int32 → HV → Prop) (C0 : cx p s m args meth c "RamStationLaw" cL_isBest 3 G) (hr : meth.sig.returnType = (Option.some FieldType.boolean))  (hk_58 : ∀ (v1 : Int32) (hv : HV),  k_58 v1 hv → ∀ (H : Heap) (locs : List Loc) (ls : Array Slot), wd G A hv H → va_S A s.heap H locs → lv_has ls 3 [(0, .ref (ad G 8 0)), (1, .int v1)] → W p l e (wrm 4) s m args below meth c H locs 0 0 (MQ below (qI G A post) args s 0 0 A) (F0 m 58 ls [])) : ∀ (n : Nat) (v1 : Int32) (v2 : Int32) (hv : HV), V_L_isBest_11 post k_58 n v1 v2 hv → ∀ (H : Heap) (locs : List Loc) (ls : Array Slot), wd G A hv H → va_S A s.heap H locs → lv_has ls 3 [(0, .ref (ad G 8 0)), (1, .int v1), (2, .int v2)] → W p l e (wrm 4) s m args below meth c H locs 0 0 (MQ below (qI G A post) args s 0 0 A) (F0 m 11 ls []) := by
  have hx := C0.1
  have hb := C0.2.1
  have hown := C0.2.2.2.1
  have hts := C0.2.2.2.2.1
  intro n
  induction n with
  | zero =>
    intro v1 v2 hv  h
    exact (h : False).elim
  | succ n ih =>
    intro v1 v2 hv  h H locs ls hW hS hl
    rw [V_L_isBest_11] at h
    refine lv_iload_n hx hb dL_isBest_11 rfl (lv_at hl 2 rfl) ?_
    refine lv_if_lt (tgt := 58) hx hb dL_isBest_12 (by decide) (fun c3 => ?_) (fun c3 => ?_)
    · have h := h.1 c3
      exact hk_58 v1 hv h _ _ _ hW hS (lv_sub hl [0, 1] rfl)
    · have h := h.2 c3
      refine lv_aload_n hx hb dL_isBest_15 rfl (lv_at hl 0 rfl) ?_
      refine lv_iload_n hx hb dL_isBest_16 rfl (lv_at hl 2 rfl) ?_
      refine w_ci hS (w_runV (As := [.int v2]) C0 hW 8 0 (by decide) (by decide) rfl rfl (c_X8_efficiency l G A v2 hv _ h) ⟨⟨w_590, w_6, w_593⟩, pl_X8_efficiency, ⟨Nat.le_of_ble_eq_true rfl, Nat.le_of_ble_eq_true rfl⟩, ⟨Nat.le_refl _, Nat.le_refl _⟩⟩ ⟨w_591, w_592⟩ rfl hl.1 rfl (Nat.le_of_ble_eq_true rfl) dL_isBest_17) (fun r4 hv4 h H locs hW hS => ?_)
      refine lv_sipush (v := (-1005)) hx hb dL_isBest_20 (by decide) ?_
      refine lv_icmp_eq (tgt := 50) hx hb dL_isBest_23 (by decide) (fun c5 => ?_) (fun c5 => ?_)
      · have h := h.1 c5
        refine lv_iload_n hx hb dL_isBest_50 rfl (lv_at hl 1 rfl) ?_
        refine lv_istore_n (lv' := [(1, .int v1), (0, .ref (ad G 8 0)), (2, .int v2)]) hx hb dL_isBest_51 rfl hl (by decide) rfl (fun ls hl => ?_)
        obtain ⟨x6, ex6⟩ : ∃ y : Int32, y = v2 + (-1) := ⟨_, rfl⟩
        have h := h x6 ex6
        refine lv_iinc (v := x6) (lv' := [(2, .int x6), (1, .int v1), (0, .ref (ad G 8 0))]) hx hb dL_isBest_52 hl (k := 2) rfl (by rw [ex6]; rfl) (by decide) rfl (fun ls hl => ?_)
        refine lv_goto (tgt := 11) hx hb dL_isBest_55 (by decide) ?_
        exact ih v1 x6 hv4 h _ _ _ hW hS (lv_sub hl [2, 1, 0] rfl)
      · have h := h.2 c5
        refine lv_iload_n hx hb dL_isBest_26 rfl (lv_at hl 1 rfl) ?_
        refine lv_sipush (v := (-1005)) hx hb dL_isBest_27 (by decide) ?_
        refine lv_icmp_eq (tgt := 46) hx hb dL_isBest_30 (by decide) (fun c7 => ?_) (fun c7 => ?_)
        · have h := h.1 c7
          refine lv_iload_n hx hb dL_isBest_46 rfl (lv_at hl 2 rfl) ?_
          refine lv_goto (tgt := 51) hx hb dL_isBest_47 (by decide) ?_
          refine lv_istore_n (lv' := [(1, .int v2), (0, .ref (ad G 8 0)), (2, .int v2)]) hx hb dL_isBest_51 rfl hl (by decide) rfl (fun ls hl => ?_)
          obtain ⟨x8, ex8⟩ : ∃ y : Int32, y = v2 + (-1) := ⟨_, rfl⟩
          have h := h x8 ex8
          refine lv_iinc (v := x8) (lv' := [(2, .int x8), (1, .int v2), (0, .ref (ad G 8 0))]) hx hb dL_isBest_52 hl (k := 2) rfl (by rw [ex8]; rfl) (by decide) rfl (fun ls hl => ?_)
          refine lv_goto (tgt := 11) hx hb dL_isBest_55 (by decide) ?_
          exact ih v2 x8 hv4 h _ _ _ hW hS (lv_sub hl [2, 1, 0] rfl)
        · have h := h.2 c7
          refine lv_aload_n hx hb dL_isBest_33 rfl (lv_at hl 0 rfl) ?_
          refine lv_iload_n hx hb dL_isBest_34 rfl (lv_at hl 2 rfl) ?_
          refine w_ci hS (w_runV (As := [.int v2]) C0 hW 8 0 (by decide) (by decide) rfl rfl (c_X8_efficiency l G A v2 hv4 _ h) ⟨⟨w_590, w_6, w_593⟩, pl_X8_efficiency, ⟨Nat.le_of_ble_eq_true rfl, Nat.le_of_ble_eq_true rfl⟩, ⟨Nat.le_refl _, Nat.le_refl _⟩⟩ ⟨w_591, w_592⟩ rfl hl.1 rfl (Nat.le_of_ble_eq_true rfl) dL_isBest_35) (fun r9 hv9 h H locs hW hS => ?_)
          refine lv_aload_n hx hb dL_isBest_38 rfl (lv_at hl 0 rfl) ?_
          refine lv_iload_n hx hb dL_isBest_39 rfl (lv_at hl 1 rfl) ?_
          refine w_ci hS (w_runV (As := [.int v1]) C0 hW 8 0 (by decide) (by decide) rfl rfl (c_X8_efficiency l G A v1 hv9 _ h) ⟨⟨w_590, w_6, w_593⟩, pl_X8_efficiency, ⟨Nat.le_of_ble_eq_true rfl, Nat.le_of_ble_eq_true rfl⟩, ⟨Nat.le_refl _, Nat.le_refl _⟩⟩ ⟨w_591, w_592⟩ rfl hl.1 rfl (Nat.le_of_ble_eq_true rfl) dL_isBest_40) (fun r10 hv10 h H locs hW hS => ?_)
          refine lv_icmp_lt (tgt := 50) hx hb dL_isBest_43 (by decide) (fun c11 => ?_) (fun c11 => ?_)
          · have h := h.1 c11
            refine lv_iload_n hx hb dL_isBest_50 rfl (lv_at hl 1 rfl) ?_
            refine lv_istore_n (lv' := [(1, .int v1), (0, .ref (ad G 8 0)), (2, .int v2)]) hx hb dL_isBest_51 rfl hl (by decide) rfl (fun ls hl => ?_)
            obtain ⟨x12, ex12⟩ : ∃ y : Int32, y = v2 + (-1) := ⟨_, rfl⟩
            have h := h x12 ex12
            refine lv_iinc (v := x12) (lv' := [(2, .int x12), (1, .int v1), (0, .ref (ad G 8 0))]) hx hb dL_isBest_52 hl (k := 2) rfl (by rw [ex12]; rfl) (by decide) rfl (fun ls hl => ?_)
            refine lv_goto (tgt := 11) hx hb dL_isBest_55 (by decide) ?_
            exact ih v1 x12 hv10 h _ _ _ hW hS (lv_sub hl [2, 1, 0] rfl)
          · have h := h.2 c11
            refine lv_iload_n hx hb dL_isBest_46 rfl (lv_at hl 2 rfl) ?_
            refine lv_goto (tgt := 51) hx hb dL_isBest_47 (by decide) ?_
            refine lv_istore_n (lv' := [(1, .int v2), (0, .ref (ad G 8 0)), (2, .int v2)]) hx hb dL_isBest_51 rfl hl (by decide) rfl (fun ls hl => ?_)
            obtain ⟨x13, ex13⟩ : ∃ y : Int32, y = v2 + (-1) := ⟨_, rfl⟩
            have h := h x13 ex13
            refine lv_iinc (v := x13) (lv' := [(2, .int x13), (1, .int v2), (0, .ref (ad G 8 0))]) hx hb dL_isBest_52 hl (k := 2) rfl (by rw [ex13]; rfl) (by decide) rfl (fun ls hl => ?_)
            refine lv_goto (tgt := 11) hx hb dL_isBest_55 (by decide) ?_
            exact ih v2 x13 hv10 h _ _ _ hW hS (lv_sub hl [2, 1, 0] rfl)
theorem pl_L_isBest : yL_isBest.cls ≠ "java/lang/invoke/MethodHandle" ∧ yL_isBest.cls ≠ "java/lang/invoke/VarHandle" ∧ (parseMethodDescriptor yL_isBest.desc).map (fun d => d.parameters.length) = some 1 := ⟨by decide +kernel, by decide +kernel, by decide +kernel⟩
def V_L_isBest  (hv : HV) (post : Int32 → HV → Prop) : Prop := (V_X8_pumps hv (fun r1 hv1 => (∀ x2 : Int32, x2 = (r1 - 1) → (∃ n11, V_L_isBest_11 post (fun y14_1 hv14 => (V_X8_bestPump hv14 (fun r15 hv15 => ((r15 = y14_1 → post 1 hv15) ∧ (¬ (r15 = y14_1) → post 0 hv15))))) n11 (-1005) x2 hv1))))
set_option maxHeartbeats 4000000 in
theorem c_L_isBest (l : Launch) (G : wG) (A : Nat → Prop) (hv : HV) (post : Int32 → HV → Prop) (h : V_L_isBest hv post) : wM l yL_isBest cL_isBest 3 ((Option.some FieldType.boolean)) 4 G A hv [.ref (ad G 8 0)] (qI G A post) := by
  refine wM_of (by decide +kernel) (Nat.le_of_ble_eq_true rfl) ?_
  intro p e s m args below meth c C0 hr ls hl hW hS
  have hx := C0.1
  have hb := C0.2.1
  have hown := C0.2.2.2.1
  have hts := C0.2.2.2.2.1
  have hl : lv_has ls 3 [(0, .ref (ad G 8 0))] := hl
  unfold V_L_isBest at h
  refine lv_sipush (v := (-1005)) hx hb dL_isBest_0 (by decide) ?_
  refine lv_istore_n (lv' := [(1, .int (-1005)), (0, .ref (ad G 8 0))]) hx hb dL_isBest_3 rfl hl (by decide) rfl (fun ls hl => ?_)
  refine lv_aload_n hx hb dL_isBest_4 rfl (lv_at hl 1 rfl) ?_
  refine w_ci hS (w_runV (As := []) C0 hW 8 0 (by decide) (by decide) rfl rfl (c_X8_pumps l G A hv _ h) ⟨⟨w_319, w_6, w_322⟩, pl_X8_pumps, ⟨Nat.le_of_ble_eq_true rfl, Nat.le_of_ble_eq_true rfl⟩, ⟨Nat.le_refl _, Nat.le_refl _⟩⟩ ⟨w_320, w_321⟩ rfl hl.1 rfl (Nat.le_of_ble_eq_true rfl) dL_isBest_5) (fun r1 hv1 h H locs hW hS => ?_)
  refine lv_iconst (v := 1) hx hb dL_isBest_8 (by decide) ?_
  refine lv_isub hx hb dL_isBest_9 ?_
  refine lv_topi (fun x2 ex2 => ?_)
  have h := h x2 ex2
  refine lv_istore_n (lv' := [(2, .int x2), (1, .int (-1005)), (0, .ref (ad G 8 0))]) hx hb dL_isBest_10 rfl hl (by decide) rfl (fun ls hl => ?_)
  obtain ⟨n17, h⟩ := h
  refine k_L_isBest_11 post _ C0 hr (fun y14_1 hv14 h H locs ls hW hS hl => ?_) n17 (-1005) x2 hv1 h _ _ _ hW hS (lv_sub hl [2, 1, 0] rfl)
  refine lv_aload_n hx hb dL_isBest_58 rfl (lv_at hl 0 rfl) ?_
  refine w_ci hS (w_runV (As := []) C0 hW 8 0 (by decide) (by decide) rfl rfl (c_X8_bestPump l G A hv14 _ h) ⟨⟨w_635, w_6, w_638⟩, pl_X8_bestPump, ⟨Nat.le_of_ble_eq_true rfl, Nat.le_of_ble_eq_true rfl⟩, ⟨Nat.le_refl _, Nat.le_refl _⟩⟩ ⟨w_636, w_637⟩ rfl hl.1 rfl (Nat.le_of_ble_eq_true rfl) dL_isBest_59) (fun r15 hv15 h H locs hW hS => ?_)
  refine lv_iload_n hx hb dL_isBest_62 rfl (lv_at hl 1 rfl) ?_
  refine lv_icmp_ne (tgt := 70) hx hb dL_isBest_63 (by decide) (fun c16 => ?_) (fun c16 => ?_)
  · have h := h.2 c16
    refine lv_iconst (v := 0) hx hb dL_isBest_70 (by decide) ?_
    exact w_zret C0 hr rfl hW hS h dL_isBest_71
  · have h := h.1 c16
    refine lv_iconst (v := 1) hx hb dL_isBest_66 (by decide) ?_
    refine lv_goto (tgt := 71) hx hb dL_isBest_67 (by decide) ?_
    exact w_zret C0 hr rfl hW hS h dL_isBest_71
