theorem pl_X7_pumpAt : yX7_pumpAt.cls ≠ "java/lang/invoke/MethodHandle" ∧ yX7_pumpAt.cls ≠ "java/lang/invoke/VarHandle" ∧ (parseMethodDescriptor yX7_pumpAt.desc).map (fun d => d.parameters.length) = some 1 := ⟨by decide +kernel, by decide +kernel, by decide +kernel⟩
def V_X7_pumpAt (i0 : Nat) (a1 : Int32) (hv : HV) (post : Option Nat → HV → Prop) : Prop := (((hv 7 i0 4) ≤ a1 → post none hv) ∧ (¬ ((hv 7 i0 4) ≤ a1) → (V_X8_outside a1 0 3 hv (fun r2 hv2 => ((r2 = 0 → (vp_in a1 4 ∧ post (some (4 * i0 + Int32.toNatClampNeg a1)) hv2)) ∧ (¬ (r2 = 0) → post none hv2))))))
set_option maxHeartbeats 4000000 in
theorem c_X7_pumpAt (l : Launch) (G : wG) (A : Nat → Prop) (i0 : Nat) (a1 : Int32) (hi0 : i0 < 9) (hv : HV) (post : Option Nat → HV → Prop) (h : V_X7_pumpAt i0 a1 hv post) : wM l yX7_pumpAt cX7_pumpAt 2 ((Option.some (FieldType.object "RamStation$Pump"))) 1 G A hv [.ref (ad G 7 i0), .int a1] (qP G A post) := by
  refine wM_of (by decide +kernel) (Nat.le_of_ble_eq_true rfl) ?_
  intro p e s m args below meth c C0 hr ls hl hW hS
  have hx := C0.1
  have hb := C0.2.1
  have hown := C0.2.2.2.1
  have hts := C0.2.2.2.2.1
  have hl : lv_has ls 2 [(0, .ref (ad G 7 i0)), (1, .int a1)] := hl
  unfold V_X7_pumpAt at h
  refine lv_iload_n hx hb dX7_pumpAt_0 rfl (lv_at hl 1 rfl) ?_
  refine lv_aload_n hx hb dX7_pumpAt_1 rfl (lv_at hl 0 rfl) ?_
  refine w_get (v := .int (hv 7 i0 4)) C0 hW 7 i0 (by decide) (show i0 < 9 by omega) rfl rfl in_X7 4 (by decide) w_194 rfl dX7_pumpAt_2 ?_
  refine lv_icmp_ge (tgt := 23) hx hb dX7_pumpAt_5 (by decide) (fun c1 => ?_) (fun c1 => ?_)
  · have h := h.1 c1
    refine lv_null hx hb dX7_pumpAt_23 ?_
    exact w_nret C0 hr hW hS h dX7_pumpAt_24
  · have h := h.2 c1
    refine lv_iload_n hx hb dX7_pumpAt_8 rfl (lv_at hl 1 rfl) ?_
    refine lv_iconst (v := 0) hx hb dX7_pumpAt_9 (by decide) ?_
    refine lv_aload_n hx hb dX7_pumpAt_10 rfl (lv_at hl 0 rfl) ?_
    refine w_get (v := .ref (ad G 11 i0)) C0 hW 7 i0 (by decide) (show i0 < 9 by omega) rfl rfl in_X7 5 (by decide) w_196 rfl dX7_pumpAt_11 ?_
    refine w_alen (v := 4) C0 hW 11 i0 (by decide) (show i0 < 9 by omega) rfl 3 rfl rfl dX7_pumpAt_14 ?_
    refine lv_iconst (v := 1) hx hb dX7_pumpAt_15 (by decide) ?_
    refine lv_isub hx hb dX7_pumpAt_16 ?_
    refine w_top (y := 3) (by decide) ?_
    refine w_ci hS (w_runSN (As := [.int a1, .int 0, .int 3]) C0 hW (c_X8_outside l G A a1 0 3 hv _ h) C0.2.2.2.2.2.1.2.2.1 ⟨w_6, w_337⟩ pl_X8_outside ⟨Nat.le_of_ble_eq_true rfl, Nat.le_of_ble_eq_true rfl⟩ ⟨Nat.le_refl _, Nat.le_refl _⟩ w_336 rfl hl.1 rfl (Nat.le_of_ble_eq_true rfl) dX7_pumpAt_17) (fun r2 hv2 h H locs hW hS => ?_)
    refine lv_if_eq (tgt := 25) hx hb dX7_pumpAt_20 (by decide) (fun c3 => ?_) (fun c3 => ?_)
    · have h := h.1 c3
      refine lv_aload_n hx hb dX7_pumpAt_25 rfl (lv_at hl 0 rfl) ?_
      refine w_get (v := .ref (ad G 11 i0)) C0 hW 7 i0 (by decide) (show i0 < 9 by omega) rfl rfl in_X7 5 (by decide) w_196 rfl dX7_pumpAt_26 ?_
      refine lv_iload_n hx hb dX7_pumpAt_29 rfl (lv_at hl 1 rfl) ?_
      obtain ⟨q4, h⟩ := h
      refine w_aaldP C0 hW i0 (show i0 < 9 by omega) q4 dX7_pumpAt_30 (fun b4 => ?_)
      exact w_pret C0 hr hW hS b4 h dX7_pumpAt_31
    · have h := h.2 c3
      refine lv_null hx hb dX7_pumpAt_23 ?_
      exact w_nret C0 hr hW hS h dX7_pumpAt_24

def V_X7_runningPumps_4 (i0 : Nat) (post : Int32 → HV → Prop) : Nat → Int32 → Int32 → HV → Prop
  | 0, _, _, _ => False
  | n4 + 1, v1, v2, hv => (((hv 7 i0 4) ≤ v2 → post v1 hv) ∧ (¬ ((hv 7 i0 4) ≤ v2) → (V_X7_pumpAt i0 v2 hv (fun o2 hv2 => (o2 = none → (∀ x3 : Int32, x3 = v2 + 1 → V_X7_runningPumps_4 i0 post n4 v1 x3 hv2)) ∧ (∀ r2 : Nat, o2 = some r2 → r2 < 37 → (((hv2 4 r2 5) = 0 → (∀ x5 : Int32, x5 = v2 + 1 → V_X7_runningPumps_4 i0 post n4 v1 x5 hv2)) ∧ (¬ ((hv2 4 r2 5) = 0) → (∀ x6 : Int32, x6 = v1 + 1 → (∀ x7 : Int32, x7 = v2 + 1 → V_X7_runningPumps_4 i0 post n4 x6 x7 hv2)))))))))
set_option maxHeartbeats 4000000 in
theorem k_X7_runningPumps_4 {p : Program} {l : Launch} {e : Env} {s : State} {m : MethodId} {args : Array Value} {below : List Frame} {meth : Method} {c : Code} {G : wG} {A : Nat → Prop} (i0 : Nat) (post : Int32 → HV → Prop) (C0 : cx p s m args meth c "RamStation$State" cX7_runningPumps 4 G) (hr : meth.sig.returnType = (Option.some FieldType.int)) (hi0 : i0 < 9)  : ∀ (n : Nat) (v1 : Int32) (v2 : Int32) (hv : HV), V_X7_runningPumps_4 i0 post n v1 v2 hv → ∀ (H : Heap) (locs : List Loc) (ls : Array Slot), wd G A hv H → va_S A s.heap H locs → lv_has ls 4 [(0, .ref (ad G 7 i0)), (1, .int v1), (2, .int v2)] → W p l e (wrm 2) s m args below meth c H locs 0 0 (MQ below (qI G A post) args s 0 0 A) (F0 m 4 ls []) := by
  have hx := C0.1
  have hb := C0.2.1
  have hown := C0.2.2.2.1
  have hts := C0.2.2.2.2.1
  intro n
  induction n with
  | zero =>
    intro v1 v2 hv  h
    exact (h : False).elim
  | succ n ih =>
    intro v1 v2 hv  h H locs ls hW hS hl
    rw [V_X7_runningPumps_4] at h
    refine lv_iload_n hx hb dX7_runningPumps_4 rfl (lv_at hl 2 rfl) ?_
    refine lv_aload_n hx hb dX7_runningPumps_5 rfl (lv_at hl 0 rfl) ?_
    refine w_get (v := .int (hv 7 i0 4)) C0 hW 7 i0 (by decide) (show i0 < 9 by omega) rfl rfl in_X7 4 (by decide) w_194 rfl dX7_runningPumps_6 ?_
    refine lv_icmp_ge (tgt := 38) hx hb dX7_runningPumps_9 (by decide) (fun c1 => ?_) (fun c1 => ?_)
    · have h := h.1 c1
      refine lv_iload_n hx hb dX7_runningPumps_38 rfl (lv_at hl 1 rfl) ?_
      exact w_iret C0 hr hW hS h dX7_runningPumps_39
    · have h := h.2 c1
      refine lv_aload_n hx hb dX7_runningPumps_12 rfl (lv_at hl 0 rfl) ?_
      refine lv_iload_n hx hb dX7_runningPumps_13 rfl (lv_at hl 2 rfl) ?_
      refine w_cp hS (w_runV (As := [.int v2]) C0 hW 7 i0 (by decide) (show i0 < 9 by omega) rfl rfl (c_X7_pumpAt l G A i0 v2 (show i0 < 9 by omega) hv _ h) ⟨⟨w_382, w_7, w_353⟩, pl_X7_pumpAt, ⟨Nat.le_of_ble_eq_true rfl, Nat.le_of_ble_eq_true rfl⟩, ⟨Nat.le_refl _, Nat.le_refl _⟩⟩ ⟨w_351, w_352⟩ rfl hl.1 rfl (Nat.le_of_ble_eq_true rfl) dX7_runningPumps_14) (fun hv2 h H locs hW hS => ?_) (fun r2 hv2 b2 h H locs hW hS => ?_)
      · have h := h.1 rfl
        refine lv_astore_nN (lv' := [(3, .null), (0, .ref (ad G 7 i0)), (1, .int v1), (2, .int v2)]) hx hb dX7_runningPumps_17 rfl hl (by decide) rfl (fun ls hl => ?_)
        refine lv_aload_nN hx hb dX7_runningPumps_18 rfl (lv_at hl 0 rfl) ?_
        refine lv_ifnullN (tgt := 32) hx hb dX7_runningPumps_19 (by decide) ?_
        obtain ⟨x3, ex3⟩ : ∃ y : Int32, y = v2 + 1 := ⟨_, rfl⟩
        have h := h x3 ex3
        refine lv_iinc (v := x3) (lv' := [(2, .int x3), (3, .null), (0, .ref (ad G 7 i0)), (1, .int v1)]) hx hb dX7_runningPumps_32 hl (k := 3) rfl (by rw [ex3]; rfl) (by decide) rfl (fun ls hl => ?_)
        refine lv_goto (tgt := 4) hx hb dX7_runningPumps_35 (by decide) ?_
        exact ih v1 x3 hv2 h _ _ _ hW hS (lv_sub hl [2, 3, 0] rfl)
      · have h := h.2 r2 rfl b2
        refine lv_astore_n (lv' := [(3, .ref (ad G 4 r2)), (0, .ref (ad G 7 i0)), (1, .int v1), (2, .int v2)]) hx hb dX7_runningPumps_17 rfl hl (by decide) rfl (fun ls hl => ?_)
        refine lv_aload_n hx hb dX7_runningPumps_18 rfl (lv_at hl 0 rfl) ?_
        refine lv_ifnull hx hb dX7_runningPumps_19 ?_
        refine lv_aload_n hx hb dX7_runningPumps_22 rfl (lv_at hl 0 rfl) ?_
        refine w_get (v := .int (hv2 4 r2 5)) C0 hW 4 r2 (by decide) b2 rfl rfl in_X4 5 (by decide) w_127 rfl dX7_runningPumps_23 ?_
        refine lv_if_eq (tgt := 32) hx hb dX7_runningPumps_26 (by decide) (fun c4 => ?_) (fun c4 => ?_)
        · have h := h.1 c4
          obtain ⟨x5, ex5⟩ : ∃ y : Int32, y = v2 + 1 := ⟨_, rfl⟩
          have h := h x5 ex5
          refine lv_iinc (v := x5) (lv' := [(2, .int x5), (3, .ref (ad G 4 r2)), (0, .ref (ad G 7 i0)), (1, .int v1)]) hx hb dX7_runningPumps_32 hl (k := 3) rfl (by rw [ex5]; rfl) (by decide) rfl (fun ls hl => ?_)
          refine lv_goto (tgt := 4) hx hb dX7_runningPumps_35 (by decide) ?_
          exact ih v1 x5 hv2 h _ _ _ hW hS (lv_sub hl [2, 3, 0] rfl)
        · have h := h.2 c4
          obtain ⟨x6, ex6⟩ : ∃ y : Int32, y = v1 + 1 := ⟨_, rfl⟩
          have h := h x6 ex6
          refine lv_iinc (v := x6) (lv' := [(1, .int x6), (3, .ref (ad G 4 r2)), (0, .ref (ad G 7 i0)), (2, .int v2)]) hx hb dX7_runningPumps_29 hl (k := 2) rfl (by rw [ex6]; rfl) (by decide) rfl (fun ls hl => ?_)
          obtain ⟨x7, ex7⟩ : ∃ y : Int32, y = v2 + 1 := ⟨_, rfl⟩
          have h := h x7 ex7
          refine lv_iinc (v := x7) (lv' := [(2, .int x7), (1, .int x6), (3, .ref (ad G 4 r2)), (0, .ref (ad G 7 i0))]) hx hb dX7_runningPumps_32 hl (k := 3) rfl (by rw [ex7]; rfl) (by decide) rfl (fun ls hl => ?_)
          refine lv_goto (tgt := 4) hx hb dX7_runningPumps_35 (by decide) ?_
          exact ih x6 x7 hv2 h _ _ _ hW hS (lv_sub hl [3, 1, 0] rfl)
theorem pl_X7_runningPumps : yX7_runningPumps.cls ≠ "java/lang/invoke/MethodHandle" ∧ yX7_runningPumps.cls ≠ "java/lang/invoke/VarHandle" ∧ (parseMethodDescriptor yX7_runningPumps.desc).map (fun d => d.parameters.length) = some 0 := ⟨by decide +kernel, by decide +kernel, by decide +kernel⟩
def V_X7_runningPumps (i0 : Nat) (hv : HV) (post : Int32 → HV → Prop) : Prop := (∃ n4, V_X7_runningPumps_4 i0 post n4 0 0 hv)
set_option maxHeartbeats 4000000 in
theorem c_X7_runningPumps (l : Launch) (G : wG) (A : Nat → Prop) (i0 : Nat) (hi0 : i0 < 9) (hv : HV) (post : Int32 → HV → Prop) (h : V_X7_runningPumps i0 hv post) : wM l yX7_runningPumps cX7_runningPumps 4 ((Option.some FieldType.int)) 2 G A hv [.ref (ad G 7 i0)] (qI G A post) := by
  refine wM_of (by decide +kernel) (Nat.le_of_ble_eq_true rfl) ?_
  intro p e s m args below meth c C0 hr ls hl hW hS
  have hx := C0.1
  have hb := C0.2.1
  have hown := C0.2.2.2.1
  have hts := C0.2.2.2.2.1
  have hl : lv_has ls 4 [(0, .ref (ad G 7 i0))] := hl
  unfold V_X7_runningPumps at h
  refine lv_iconst (v := 0) hx hb dX7_runningPumps_0 (by decide) ?_
  refine lv_istore_n (lv' := [(1, .int 0), (0, .ref (ad G 7 i0))]) hx hb dX7_runningPumps_1 rfl hl (by decide) rfl (fun ls hl => ?_)
  refine lv_iconst (v := 0) hx hb dX7_runningPumps_2 (by decide) ?_
  refine lv_istore_n (lv' := [(2, .int 0), (1, .int 0), (0, .ref (ad G 7 i0))]) hx hb dX7_runningPumps_3 rfl hl (by decide) rfl (fun ls hl => ?_)
  obtain ⟨n8, h⟩ := h
  exact k_X7_runningPumps_4 i0 post C0 hr hi0 n8 0 0 hv h _ _ _ hW hS (lv_sub hl [2, 1, 0] rfl)

theorem pl_X7_fillBasin : yX7_fillBasin.cls ≠ "java/lang/invoke/MethodHandle" ∧ yX7_fillBasin.cls ≠ "java/lang/invoke/VarHandle" ∧ (parseMethodDescriptor yX7_fillBasin.desc).map (fun d => d.parameters.length) = some 1 := ⟨by decide +kernel, by decide +kernel, by decide +kernel⟩
def V_X7_fillBasin (i0 : Nat) (a1 : Int32) (hv : HV) (post : HV → Prop) : Prop := (∀ x1 : Int32, x1 = (if (20000 - (hv 7 i0 1)) < a1 then (20000 - (hv 7 i0 1)) else a1) → (∀ hv2 : HV, hv2 = up hv 7 i0 (upd (hv 7 i0) 1 ((hv 7 i0 1) + x1)) → (∀ hv3 : HV, hv3 = up hv2 7 i0 (upd (hv2 7 i0) 2 ((hv2 7 i0 2) + (a1 - x1))) → post hv3)))
set_option maxHeartbeats 4000000 in
theorem c_X7_fillBasin (l : Launch) (G : wG) (A : Nat → Prop) (i0 : Nat) (a1 : Int32) (hi0 : i0 < 9) (hv : HV) (post : HV → Prop) (h : V_X7_fillBasin i0 a1 hv post) : wM l yX7_fillBasin cX7_fillBasin 3 ((Option.none : Option FieldType)) 1 G A hv [.ref (ad G 7 i0), .int a1] (qV G A post) := by
  refine wM_of (by decide +kernel) (Nat.le_of_ble_eq_true rfl) ?_
  intro p e s m args below meth c C0 hr ls hl hW hS
  have hx := C0.1
  have hb := C0.2.1
  have hown := C0.2.2.2.1
  have hts := C0.2.2.2.2.1
  have hl : lv_has ls 3 [(0, .ref (ad G 7 i0)), (1, .int a1)] := hl
  unfold V_X7_fillBasin at h
  refine lv_iload_n hx hb dX7_fillBasin_0 rfl (lv_at hl 1 rfl) ?_
  refine lv_sipush (v := 20000) hx hb dX7_fillBasin_1 (by decide) ?_
  refine lv_aload_n hx hb dX7_fillBasin_4 rfl (lv_at hl 0 rfl) ?_
  refine w_get (v := .int (hv 7 i0 1)) C0 hW 7 i0 (by decide) (show i0 < 9 by omega) rfl rfl in_X7 1 (by decide) w_188 rfl dX7_fillBasin_5 ?_
  refine lv_isub hx hb dX7_fillBasin_8 ?_
  refine w_min C0 hl.1 w_421 w_400 w_12 w_401 (Nat.le_of_ble_eq_true rfl) (Nat.le_of_ble_eq_true rfl) (Nat.le_refl _) (Nat.le_refl _) dX7_fillBasin_9 ?_
  refine lv_topi (fun x1 ex1 => ?_)
  have h := h x1 ex1
  refine lv_istore_n (lv' := [(2, .int x1), (0, .ref (ad G 7 i0)), (1, .int a1)]) hx hb dX7_fillBasin_12 rfl hl (by decide) rfl (fun ls hl => ?_)
  refine lv_aload_n hx hb dX7_fillBasin_13 rfl (lv_at hl 1 rfl) ?_
  refine lv_dup hx hb dX7_fillBasin_14 rfl ?_
  refine w_get (v := .int (hv 7 i0 1)) C0 hW 7 i0 (by decide) (show i0 < 9 by omega) rfl rfl in_X7 1 (by decide) w_188 rfl dX7_fillBasin_15 ?_
  refine lv_iload_n hx hb dX7_fillBasin_18 rfl (lv_at hl 0 rfl) ?_
  refine lv_iadd hx hb dX7_fillBasin_19 ?_
  refine w_put (v := ((hv 7 i0 1) + x1)) C0 hW hS 7 i0 (by decide) (show i0 < 9 by omega) rfl rfl in_X7 tyX7_ok nmX7 1 (by decide) w_188 rfl rfl rfl (Nat.le_of_ble_eq_true rfl) rfl dX7_fillBasin_20 (fun hv2 ehv2 H locs hW hS => ?_)
  have h := h hv2 ehv2
  refine lv_aload_n hx hb dX7_fillBasin_23 rfl (lv_at hl 1 rfl) ?_
  refine lv_dup hx hb dX7_fillBasin_24 rfl ?_
  refine w_get (v := .int (hv2 7 i0 2)) C0 hW 7 i0 (by decide) (show i0 < 9 by omega) rfl rfl in_X7 2 (by decide) w_190 rfl dX7_fillBasin_25 ?_
  refine lv_iload_n hx hb dX7_fillBasin_28 rfl (lv_at hl 2 rfl) ?_
  refine lv_iload_n hx hb dX7_fillBasin_29 rfl (lv_at hl 0 rfl) ?_
  refine lv_isub hx hb dX7_fillBasin_30 ?_
  refine lv_iadd hx hb dX7_fillBasin_31 ?_
  refine w_put (v := ((hv2 7 i0 2) + (a1 - x1))) C0 hW hS 7 i0 (by decide) (show i0 < 9 by omega) rfl rfl in_X7 tyX7_ok nmX7 2 (by decide) w_190 rfl rfl rfl (Nat.le_of_ble_eq_true rfl) rfl dX7_fillBasin_32 (fun hv3 ehv3 H locs hW hS => ?_)
  have h := h hv3 ehv3
  exact w_vret C0 hr hW hS h dX7_fillBasin_35

def V_X7_copyFrom_42 (i0 : Nat) (i1 : Nat) (post : HV → Prop) : Nat → Int32 → HV → Prop
  | 0, _, _ => False
  | n42 + 1, v2, hv => (((hv 7 i0 4) ≤ v2 → post hv) ∧ (¬ ((hv 7 i0 4) ≤ v2) → (V_X7_pumpAt i0 v2 hv (fun o7 hv7 => (o7 = none → (V_X7_pumpAt i1 v2 hv7 (fun o8 hv8 => (o8 = none → (∀ x9 : Int32, x9 = v2 + 1 → V_X7_copyFrom_42 i0 i1 post n42 x9 hv8)) ∧ (∀ r8 : Nat, o8 = some r8 → r8 < 37 → (∀ x10 : Int32, x10 = v2 + 1 → V_X7_copyFrom_42 i0 i1 post n42 x10 hv8))))) ∧ (∀ r7 : Nat, o7 = some r7 → r7 < 37 → (V_X7_pumpAt i1 v2 hv7 (fun o11 hv11 => (o11 = none → (∀ x12 : Int32, x12 = v2 + 1 → V_X7_copyFrom_42 i0 i1 post n42 x12 hv11)) ∧ (∀ r11 : Nat, o11 = some r11 → r11 < 37 → (V_X4_copyFrom r7 r11 hv11 (fun hv13 => (∀ x14 : Int32, x14 = v2 + 1 → V_X7_copyFrom_42 i0 i1 post n42 x14 hv13)))))))))))
set_option maxHeartbeats 4000000 in
theorem k_X7_copyFrom_42 {p : Program} {l : Launch} {e : Env} {s : State} {m : MethodId} {args : Array Value} {below : List Frame} {meth : Method} {c : Code} {G : wG} {A : Nat → Prop} (i0 : Nat) (i1 : Nat) (post : HV → Prop) (C0 : cx p s m args meth c "RamStation$State" cX7_copyFrom 5 G) (hr : meth.sig.returnType = (Option.none : Option FieldType)) (hi0 : i0 < 9) (hi1 : i1 < 9)  : ∀ (n : Nat) (v2 : Int32) (hv : HV), V_X7_copyFrom_42 i0 i1 post n v2 hv → ∀ (H : Heap) (locs : List Loc) (ls : Array Slot), wd G A hv H → va_S A s.heap H locs → lv_has ls 5 [(0, .ref (ad G 7 i0)), (1, .ref (ad G 7 i1)), (2, .int v2)] → W p l e (wrm 3) s m args below meth c H locs 0 0 (MQ below (qV G A post) args s 0 0 A) (F0 m 42 ls []) := by
  have hx := C0.1
  have hb := C0.2.1
  have hown := C0.2.2.2.1
  have hts := C0.2.2.2.2.1
  intro n
  induction n with
  | zero =>
    intro v2 hv  h
    exact (h : False).elim
  | succ n ih =>
    intro v2 hv  h H locs ls hW hS hl
    rw [V_X7_copyFrom_42] at h
    refine lv_iload_n hx hb dX7_copyFrom_42 rfl (lv_at hl 2 rfl) ?_
    refine lv_aload_n hx hb dX7_copyFrom_43 rfl (lv_at hl 0 rfl) ?_
    refine w_get (v := .int (hv 7 i0 4)) C0 hW 7 i0 (by decide) (show i0 < 9 by omega) rfl rfl in_X7 4 (by decide) w_194 rfl dX7_copyFrom_44 ?_
    refine lv_icmp_ge (tgt := 84) hx hb dX7_copyFrom_47 (by decide) (fun c6 => ?_) (fun c6 => ?_)
    · have h := h.1 c6
      exact w_vret C0 hr hW hS h dX7_copyFrom_84
    · have h := h.2 c6
      refine lv_aload_n hx hb dX7_copyFrom_50 rfl (lv_at hl 0 rfl) ?_
      refine lv_iload_n hx hb dX7_copyFrom_51 rfl (lv_at hl 2 rfl) ?_
      refine w_cp hS (w_runV (As := [.int v2]) C0 hW 7 i0 (by decide) (show i0 < 9 by omega) rfl rfl (c_X7_pumpAt l G A i0 v2 (show i0 < 9 by omega) hv _ h) ⟨⟨w_382, w_7, w_353⟩, pl_X7_pumpAt, ⟨Nat.le_of_ble_eq_true rfl, Nat.le_of_ble_eq_true rfl⟩, ⟨Nat.le_refl _, Nat.le_refl _⟩⟩ ⟨w_351, w_352⟩ rfl hl.1 rfl (Nat.le_of_ble_eq_true rfl) dX7_copyFrom_52) (fun hv7 h H locs hW hS => ?_) (fun r7 hv7 b7 h H locs hW hS => ?_)
      · have h := h.1 rfl
        refine lv_astore_nN (lv' := [(3, .null), (0, .ref (ad G 7 i0)), (1, .ref (ad G 7 i1)), (2, .int v2)]) hx hb dX7_copyFrom_55 rfl hl (by decide) rfl (fun ls hl => ?_)
        refine lv_aload_n hx hb dX7_copyFrom_56 rfl (lv_at hl 2 rfl) ?_
        refine lv_iload_n hx hb dX7_copyFrom_57 rfl (lv_at hl 3 rfl) ?_
        refine w_cp hS (w_runV (As := [.int v2]) C0 hW 7 i1 (by decide) (show i1 < 9 by omega) rfl rfl (c_X7_pumpAt l G A i1 v2 (show i1 < 9 by omega) hv7 _ h) ⟨⟨w_382, w_7, w_353⟩, pl_X7_pumpAt, ⟨Nat.le_of_ble_eq_true rfl, Nat.le_of_ble_eq_true rfl⟩, ⟨Nat.le_refl _, Nat.le_refl _⟩⟩ ⟨w_351, w_352⟩ rfl hl.1 rfl (Nat.le_of_ble_eq_true rfl) dX7_copyFrom_58) (fun hv8 h H locs hW hS => ?_) (fun r8 hv8 b8 h H locs hW hS => ?_)
        · have h := h.1 rfl
          refine lv_astoreN (lv' := [(4, .null), (3, .null), (0, .ref (ad G 7 i0)), (1, .ref (ad G 7 i1)), (2, .int v2)]) hx hb dX7_copyFrom_61 hl (by decide) rfl (fun ls hl => ?_)
          refine lv_aload_nN hx hb dX7_copyFrom_63 rfl (lv_at hl 1 rfl) ?_
          refine lv_ifnullN (tgt := 78) hx hb dX7_copyFrom_64 (by decide) ?_
          obtain ⟨x9, ex9⟩ : ∃ y : Int32, y = v2 + 1 := ⟨_, rfl⟩
          have h := h x9 ex9
          refine lv_iinc (v := x9) (lv' := [(2, .int x9), (4, .null), (3, .null), (0, .ref (ad G 7 i0)), (1, .ref (ad G 7 i1))]) hx hb dX7_copyFrom_78 hl (k := 4) rfl (by rw [ex9]; rfl) (by decide) rfl (fun ls hl => ?_)
          refine lv_goto (tgt := 42) hx hb dX7_copyFrom_81 (by decide) ?_
          exact ih x9 hv8 h _ _ _ hW hS (lv_sub hl [3, 4, 0] rfl)
        · have h := h.2 r8 rfl b8
          refine lv_astore (lv' := [(4, .ref (ad G 4 r8)), (3, .null), (0, .ref (ad G 7 i0)), (1, .ref (ad G 7 i1)), (2, .int v2)]) hx hb dX7_copyFrom_61 hl (by decide) rfl (fun ls hl => ?_)
          refine lv_aload_nN hx hb dX7_copyFrom_63 rfl (lv_at hl 1 rfl) ?_
          refine lv_ifnullN (tgt := 78) hx hb dX7_copyFrom_64 (by decide) ?_
          obtain ⟨x10, ex10⟩ : ∃ y : Int32, y = v2 + 1 := ⟨_, rfl⟩
          have h := h x10 ex10
          refine lv_iinc (v := x10) (lv' := [(2, .int x10), (4, .ref (ad G 4 r8)), (3, .null), (0, .ref (ad G 7 i0)), (1, .ref (ad G 7 i1))]) hx hb dX7_copyFrom_78 hl (k := 4) rfl (by rw [ex10]; rfl) (by decide) rfl (fun ls hl => ?_)
          refine lv_goto (tgt := 42) hx hb dX7_copyFrom_81 (by decide) ?_
          exact ih x10 hv8 h _ _ _ hW hS (lv_sub hl [3, 4, 0] rfl)
      · have h := h.2 r7 rfl b7
        refine lv_astore_n (lv' := [(3, .ref (ad G 4 r7)), (0, .ref (ad G 7 i0)), (1, .ref (ad G 7 i1)), (2, .int v2)]) hx hb dX7_copyFrom_55 rfl hl (by decide) rfl (fun ls hl => ?_)
        refine lv_aload_n hx hb dX7_copyFrom_56 rfl (lv_at hl 2 rfl) ?_
        refine lv_iload_n hx hb dX7_copyFrom_57 rfl (lv_at hl 3 rfl) ?_
        refine w_cp hS (w_runV (As := [.int v2]) C0 hW 7 i1 (by decide) (show i1 < 9 by omega) rfl rfl (c_X7_pumpAt l G A i1 v2 (show i1 < 9 by omega) hv7 _ h) ⟨⟨w_382, w_7, w_353⟩, pl_X7_pumpAt, ⟨Nat.le_of_ble_eq_true rfl, Nat.le_of_ble_eq_true rfl⟩, ⟨Nat.le_refl _, Nat.le_refl _⟩⟩ ⟨w_351, w_352⟩ rfl hl.1 rfl (Nat.le_of_ble_eq_true rfl) dX7_copyFrom_58) (fun hv11 h H locs hW hS => ?_) (fun r11 hv11 b11 h H locs hW hS => ?_)
        · have h := h.1 rfl
          refine lv_astoreN (lv' := [(4, .null), (3, .ref (ad G 4 r7)), (0, .ref (ad G 7 i0)), (1, .ref (ad G 7 i1)), (2, .int v2)]) hx hb dX7_copyFrom_61 hl (by decide) rfl (fun ls hl => ?_)
          refine lv_aload_n hx hb dX7_copyFrom_63 rfl (lv_at hl 1 rfl) ?_
          refine lv_ifnull hx hb dX7_copyFrom_64 ?_
          refine lv_aloadN hx hb dX7_copyFrom_67 (lv_at hl 0 rfl) ?_
          refine lv_ifnullN (tgt := 78) hx hb dX7_copyFrom_69 (by decide) ?_
          obtain ⟨x12, ex12⟩ : ∃ y : Int32, y = v2 + 1 := ⟨_, rfl⟩
          have h := h x12 ex12
          refine lv_iinc (v := x12) (lv' := [(2, .int x12), (4, .null), (3, .ref (ad G 4 r7)), (0, .ref (ad G 7 i0)), (1, .ref (ad G 7 i1))]) hx hb dX7_copyFrom_78 hl (k := 4) rfl (by rw [ex12]; rfl) (by decide) rfl (fun ls hl => ?_)
          refine lv_goto (tgt := 42) hx hb dX7_copyFrom_81 (by decide) ?_
          exact ih x12 hv11 h _ _ _ hW hS (lv_sub hl [3, 4, 0] rfl)
        · have h := h.2 r11 rfl b11
          refine lv_astore (lv' := [(4, .ref (ad G 4 r11)), (3, .ref (ad G 4 r7)), (0, .ref (ad G 7 i0)), (1, .ref (ad G 7 i1)), (2, .int v2)]) hx hb dX7_copyFrom_61 hl (by decide) rfl (fun ls hl => ?_)
          refine lv_aload_n hx hb dX7_copyFrom_63 rfl (lv_at hl 1 rfl) ?_
          refine lv_ifnull hx hb dX7_copyFrom_64 ?_
          refine lv_aload hx hb dX7_copyFrom_67 (lv_at hl 0 rfl) ?_
          refine lv_ifnull hx hb dX7_copyFrom_69 ?_
          refine lv_aload_n hx hb dX7_copyFrom_72 rfl (lv_at hl 1 rfl) ?_
          refine lv_aload hx hb dX7_copyFrom_73 (lv_at hl 0 rfl) ?_
          refine w_cv hS (w_runV (As := [.ref (ad G 4 r11)]) C0 hW 4 r7 (by decide) b7 rfl rfl (c_X4_copyFrom l G A r7 r11 b7 b11 hv11 _ h) ⟨⟨w_383, w_8, w_386⟩, pl_X4_copyFrom, ⟨Nat.le_of_ble_eq_true rfl, Nat.le_of_ble_eq_true rfl⟩, ⟨Nat.le_refl _, Nat.le_refl _⟩⟩ ⟨w_384, w_385⟩ rfl hl.1 rfl (Nat.le_of_ble_eq_true rfl) dX7_copyFrom_75) (fun hv13 h H locs hW hS => ?_)
          obtain ⟨x14, ex14⟩ : ∃ y : Int32, y = v2 + 1 := ⟨_, rfl⟩
          have h := h x14 ex14
          refine lv_iinc (v := x14) (lv' := [(2, .int x14), (4, .ref (ad G 4 r11)), (3, .ref (ad G 4 r7)), (0, .ref (ad G 7 i0)), (1, .ref (ad G 7 i1))]) hx hb dX7_copyFrom_78 hl (k := 4) rfl (by rw [ex14]; rfl) (by decide) rfl (fun ls hl => ?_)
          refine lv_goto (tgt := 42) hx hb dX7_copyFrom_81 (by decide) ?_
          exact ih x14 hv13 h _ _ _ hW hS (lv_sub hl [3, 4, 0] rfl)
theorem pl_X7_copyFrom : yX7_copyFrom.cls ≠ "java/lang/invoke/MethodHandle" ∧ yX7_copyFrom.cls ≠ "java/lang/invoke/VarHandle" ∧ (parseMethodDescriptor yX7_copyFrom.desc).map (fun d => d.parameters.length) = some 1 := ⟨by decide +kernel, by decide +kernel, by decide +kernel⟩
def V_X7_copyFrom (i0 : Nat) (i1 : Nat) (hv : HV) (post : HV → Prop) : Prop := (∀ hv1 : HV, hv1 = up hv 7 i0 (upd (hv 7 i0) 0 (hv 7 i1 0)) → (∀ hv2 : HV, hv2 = up hv1 7 i0 (upd (hv1 7 i0) 1 (hv1 7 i1 1)) → (∀ hv3 : HV, hv3 = up hv2 7 i0 (upd (hv2 7 i0) 2 (hv2 7 i1 2)) → (∀ hv4 : HV, hv4 = up hv3 7 i0 (upd (hv3 7 i0) 3 (hv3 7 i1 3)) → (∀ hv5 : HV, hv5 = up hv4 7 i0 (upd (hv4 7 i0) 4 (hv4 7 i1 4)) → (∃ n42, V_X7_copyFrom_42 i0 i1 post n42 0 hv5))))))
set_option maxHeartbeats 4000000 in
theorem c_X7_copyFrom (l : Launch) (G : wG) (A : Nat → Prop) (i0 : Nat) (i1 : Nat) (hi0 : i0 < 9) (hi1 : i1 < 9) (hv : HV) (post : HV → Prop) (h : V_X7_copyFrom i0 i1 hv post) : wM l yX7_copyFrom cX7_copyFrom 5 ((Option.none : Option FieldType)) 3 G A hv [.ref (ad G 7 i0), .ref (ad G 7 i1)] (qV G A post) := by
  refine wM_of (by decide +kernel) (Nat.le_of_ble_eq_true rfl) ?_
  intro p e s m args below meth c C0 hr ls hl hW hS
  have hx := C0.1
  have hb := C0.2.1
  have hown := C0.2.2.2.1
  have hts := C0.2.2.2.2.1
  have hl : lv_has ls 5 [(0, .ref (ad G 7 i0)), (1, .ref (ad G 7 i1))] := hl
  unfold V_X7_copyFrom at h
  refine lv_aload_n hx hb dX7_copyFrom_0 rfl (lv_at hl 0 rfl) ?_
  refine lv_aload_n hx hb dX7_copyFrom_1 rfl (lv_at hl 1 rfl) ?_
  refine w_get (v := .int (hv 7 i1 0)) C0 hW 7 i1 (by decide) (show i1 < 9 by omega) rfl rfl in_X7 0 (by decide) w_186 rfl dX7_copyFrom_2 ?_
  refine w_put (v := (hv 7 i1 0)) C0 hW hS 7 i0 (by decide) (show i0 < 9 by omega) rfl rfl in_X7 tyX7_ok nmX7 0 (by decide) w_186 rfl rfl rfl (Nat.le_of_ble_eq_true rfl) rfl dX7_copyFrom_5 (fun hv1 ehv1 H locs hW hS => ?_)
  have h := h hv1 ehv1
  refine lv_aload_n hx hb dX7_copyFrom_8 rfl (lv_at hl 0 rfl) ?_
  refine lv_aload_n hx hb dX7_copyFrom_9 rfl (lv_at hl 1 rfl) ?_
  refine w_get (v := .int (hv1 7 i1 1)) C0 hW 7 i1 (by decide) (show i1 < 9 by omega) rfl rfl in_X7 1 (by decide) w_188 rfl dX7_copyFrom_10 ?_
  refine w_put (v := (hv1 7 i1 1)) C0 hW hS 7 i0 (by decide) (show i0 < 9 by omega) rfl rfl in_X7 tyX7_ok nmX7 1 (by decide) w_188 rfl rfl rfl (Nat.le_of_ble_eq_true rfl) rfl dX7_copyFrom_13 (fun hv2 ehv2 H locs hW hS => ?_)
  have h := h hv2 ehv2
  refine lv_aload_n hx hb dX7_copyFrom_16 rfl (lv_at hl 0 rfl) ?_
  refine lv_aload_n hx hb dX7_copyFrom_17 rfl (lv_at hl 1 rfl) ?_
  refine w_get (v := .int (hv2 7 i1 2)) C0 hW 7 i1 (by decide) (show i1 < 9 by omega) rfl rfl in_X7 2 (by decide) w_190 rfl dX7_copyFrom_18 ?_
  refine w_put (v := (hv2 7 i1 2)) C0 hW hS 7 i0 (by decide) (show i0 < 9 by omega) rfl rfl in_X7 tyX7_ok nmX7 2 (by decide) w_190 rfl rfl rfl (Nat.le_of_ble_eq_true rfl) rfl dX7_copyFrom_21 (fun hv3 ehv3 H locs hW hS => ?_)
  have h := h hv3 ehv3
  refine lv_aload_n hx hb dX7_copyFrom_24 rfl (lv_at hl 0 rfl) ?_
  refine lv_aload_n hx hb dX7_copyFrom_25 rfl (lv_at hl 1 rfl) ?_
  refine w_get (v := .int (hv3 7 i1 3)) C0 hW 7 i1 (by decide) (show i1 < 9 by omega) rfl rfl in_X7 3 (by decide) w_192 rfl dX7_copyFrom_26 ?_
  refine w_put (v := (hv3 7 i1 3)) C0 hW hS 7 i0 (by decide) (show i0 < 9 by omega) rfl rfl in_X7 tyX7_ok nmX7 3 (by decide) w_192 rfl rfl rfl (Nat.le_of_ble_eq_true rfl) rfl dX7_copyFrom_29 (fun hv4 ehv4 H locs hW hS => ?_)
  have h := h hv4 ehv4
  refine lv_aload_n hx hb dX7_copyFrom_32 rfl (lv_at hl 0 rfl) ?_
  refine lv_aload_n hx hb dX7_copyFrom_33 rfl (lv_at hl 1 rfl) ?_
  refine w_get (v := .int (hv4 7 i1 4)) C0 hW 7 i1 (by decide) (show i1 < 9 by omega) rfl rfl in_X7 4 (by decide) w_194 rfl dX7_copyFrom_34 ?_
  refine w_put (v := (hv4 7 i1 4)) C0 hW hS 7 i0 (by decide) (show i0 < 9 by omega) rfl rfl in_X7 tyX7_ok nmX7 4 (by decide) w_194 rfl rfl rfl (Nat.le_of_ble_eq_true rfl) rfl dX7_copyFrom_37 (fun hv5 ehv5 H locs hW hS => ?_)
  have h := h hv5 ehv5
  refine lv_iconst (v := 0) hx hb dX7_copyFrom_40 (by decide) ?_
  refine lv_istore_n (lv' := [(2, .int 0), (0, .ref (ad G 7 i0)), (1, .ref (ad G 7 i1))]) hx hb dX7_copyFrom_41 rfl hl (by decide) rfl (fun ls hl => ?_)
  obtain ⟨n15, h⟩ := h
  exact k_X7_copyFrom_42 i0 i1 post C0 hr hi0 hi1 n15 0 hv5 h _ _ _ hW hS (lv_sub hl [1, 2, 0] rfl)
