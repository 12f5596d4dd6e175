def V_L_change_118 (a2 : Int32) (a3 : Int32) (post : Int32 → HV → Prop) (v4 : Int32) (v6 : Int32) (s0 : Int32) (s1 : Int32) (s2 : Int32) (hv : HV) : Prop := (V_L_low s1 s0 hv (fun r10 hv10 => (∀ x11 : Int32, x11 = (s2 + r10) → (V_L_low (a3 >>> (7 &&& 31)) 91 hv10 (fun r12 hv12 => (V_L_low (a3 >>> (14 &&& 31)) 20 hv12 (fun r13 hv13 => (V_L_low (a3 >>> (4 &&& 31)) 101 hv13 (fun r14 hv14 => (V_X8_addPump v6 (10 + r12) (1 + r13) r14 x11 hv14 (fun r15 hv15 => ((v4 = 4 → ((r15 = (-1004) → post 1 hv15) ∧ (¬ (r15 = (-1004)) → post 0 hv15))) ∧ (¬ (v4 = 4) → ((r15 = v4 → post 1 hv15) ∧ (¬ (r15 = v4) → post 0 hv15)))))))))))))))
set_option maxHeartbeats 4000000 in
theorem k_L_change_118 {p : Program} {l : Launch} {e : Env} {s : State} {m : MethodId} {args : Array Value} {below : List Frame} {meth : Method} {c : Code} {G : wG} {A : Nat → Prop} (a2 : Int32) (a3 : Int32) (post : Int32 → HV → Prop) (C0 : cx p s m args meth c "RamStationLaw" cL_change 9 G) (hO : iAO s) (hA : ∀ q, s.heap.size ≤ q → A q) (hr : meth.sig.returnType = (Option.some FieldType.boolean))   : ∀ (v4 : Int32) (v6 : Int32) (s0 : Int32) (s1 : Int32) (s2 : Int32) (hv : HV), V_L_change_118 a2 a3 post v4 v6 s0 s1 s2 hv → ∀ (H : Heap) (locs : List Loc) (ls : Array Slot), wd G A hv H → va_S A s.heap H locs → lv_has ls 9 [(0, .ref (ad G 8 0)), (3, .int a3), (4, .int v4), (6, .int v6)] → W p l e (irm 6 7 82) s m args below meth c H locs 0 0 (MQ below (qA G A post) args s 7 82 A) (F0 m 118 ls [.int s0, .int s1, .int s2]) := by
  have hx := C0.1
  have hb := C0.2.1
  have hown := C0.2.2.2.1
  have hts := C0.2.2.2.2.1
  intro v4 v6 s0 s1 s2 hv  h H locs ls hW hS hl
  unfold V_L_change_118 at h
  refine w_ci hS (w_runS (As := [.int s1, .int s0]) C0 hW (c_L_low l G A s1 s0 hv _ h) ⟨⟨w_359, w_5, w_361⟩, pl_L_low, ⟨Nat.le_of_ble_eq_true rfl, Nat.le_of_ble_eq_true rfl⟩, ⟨Nat.zero_le _, Nat.zero_le _⟩⟩ w_360 rfl hl.1 rfl (Nat.le_of_ble_eq_true rfl) dL_change_118) (fun r10 hv10 h H locs hW hS => ?_)
  refine lv_iadd hx hb dL_change_121 ?_
  refine lv_topi (fun x11 ex11 => ?_)
  have h := h x11 ex11
  refine lv_istore (lv' := [(7, .int x11), (0, .ref (ad G 8 0)), (3, .int a3), (4, .int v4), (6, .int v6)]) hx hb dL_change_122 hl (by decide) rfl (fun ls hl => ?_)
  refine lv_aload_n hx hb dL_change_124 rfl (lv_at hl 1 rfl) ?_
  refine lv_iload hx hb dL_change_125 (lv_at hl 4 rfl) ?_
  refine lv_bipush (v := 10) hx hb dL_change_127 (by decide) ?_
  refine lv_iload_n hx hb dL_change_129 rfl (lv_at hl 2 rfl) ?_
  refine lv_bipush (v := 7) hx hb dL_change_130 (by decide) ?_
  refine lv_ishr hx hb dL_change_132 ?_
  refine lv_bipush (v := 91) hx hb dL_change_133 (by decide) ?_
  refine w_ci hS (w_runS (As := [.int (a3 >>> (7 &&& 31)), .int 91]) C0 hW (c_L_low l G A (a3 >>> (7 &&& 31)) 91 hv10 _ h) ⟨⟨w_359, w_5, w_361⟩, pl_L_low, ⟨Nat.le_of_ble_eq_true rfl, Nat.le_of_ble_eq_true rfl⟩, ⟨Nat.zero_le _, Nat.zero_le _⟩⟩ w_360 rfl hl.1 rfl (Nat.le_of_ble_eq_true rfl) dL_change_135) (fun r12 hv12 h H locs hW hS => ?_)
  refine lv_iadd hx hb dL_change_138 ?_
  refine lv_iconst (v := 1) hx hb dL_change_139 (by decide) ?_
  refine lv_iload_n hx hb dL_change_140 rfl (lv_at hl 2 rfl) ?_
  refine lv_bipush (v := 14) hx hb dL_change_141 (by decide) ?_
  refine lv_ishr hx hb dL_change_143 ?_
  refine lv_bipush (v := 20) hx hb dL_change_144 (by decide) ?_
  refine w_ci hS (w_runS (As := [.int (a3 >>> (14 &&& 31)), .int 20]) C0 hW (c_L_low l G A (a3 >>> (14 &&& 31)) 20 hv12 _ h) ⟨⟨w_359, w_5, w_361⟩, pl_L_low, ⟨Nat.le_of_ble_eq_true rfl, Nat.le_of_ble_eq_true rfl⟩, ⟨Nat.zero_le _, Nat.zero_le _⟩⟩ w_360 rfl hl.1 rfl (Nat.le_of_ble_eq_true rfl) dL_change_146) (fun r13 hv13 h H locs hW hS => ?_)
  refine lv_iadd hx hb dL_change_149 ?_
  refine lv_iload_n hx hb dL_change_150 rfl (lv_at hl 2 rfl) ?_
  refine lv_iconst (v := 4) hx hb dL_change_151 (by decide) ?_
  refine lv_ishr hx hb dL_change_152 ?_
  refine lv_bipush (v := 101) hx hb dL_change_153 (by decide) ?_
  refine w_ci hS (w_runS (As := [.int (a3 >>> (4 &&& 31)), .int 101]) C0 hW (c_L_low l G A (a3 >>> (4 &&& 31)) 101 hv13 _ h) ⟨⟨w_359, w_5, w_361⟩, pl_L_low, ⟨Nat.le_of_ble_eq_true rfl, Nat.le_of_ble_eq_true rfl⟩, ⟨Nat.zero_le _, Nat.zero_le _⟩⟩ w_360 rfl hl.1 rfl (Nat.le_of_ble_eq_true rfl) dL_change_155) (fun r14 hv14 h H locs hW hS => ?_)
  refine lv_iload hx hb dL_change_158 (lv_at hl 0 rfl) ?_
  refine a_call hS (a_run (As := [.int v6, .int (10 + r12), .int (1 + r13), .int r14, .int x11]) C0 hO (fun q hq => hA q (Nat.le_trans hS.1 hq)) hW (c_X8_addPump l G A v6 (10 + r12) (1 + r13) r14 x11 hv14 _ h) ⟨⟨w_369, w_6, w_372⟩, pl_X8_addPump, ⟨Nat.le_of_ble_eq_true rfl, Nat.le_of_ble_eq_true rfl⟩, ⟨Nat.le_of_ble_eq_true rfl, Nat.le_of_ble_eq_true rfl⟩⟩ ⟨w_370, w_371⟩ rfl hl.1 rfl (Nat.le_of_ble_eq_true rfl) dL_change_160) (fun r15 G1 hv15 g1 g2 g8 g9 h H locs hW hS => ?_)
  refine lv_iload hx hb dL_change_163 (lv_at hl 3 rfl) ?_
  refine lv_iconst (v := 4) hx hb dL_change_165 (by decide) ?_
  refine lv_icmp_ne (tgt := 175) hx hb dL_change_166 (by decide) (fun c16 => ?_) (fun c16 => ?_)
  · have h := h.2 c16
    refine lv_iload hx hb dL_change_175 (lv_at hl 3 rfl) ?_
    refine lv_icmp_ne (tgt := 184) hx hb dL_change_177 (by decide) (fun c17 => ?_) (fun c17 => ?_)
    · have h := h.2 c17
      refine lv_iconst (v := 0) hx hb dL_change_184 (by decide) ?_
      refine W.widen (k := 7) (n := 82) (Nat.le_of_ble_eq_true rfl) (Nat.le_of_ble_eq_true rfl) ?_
      exact a_zret (G' := G1) C0 hr rfl ⟨g1, g2, g8, g9⟩ hW hS h dL_change_185
    · have h := h.1 c17
      refine lv_iconst (v := 1) hx hb dL_change_180 (by decide) ?_
      refine lv_goto (tgt := 185) hx hb dL_change_181 (by decide) ?_
      refine W.widen (k := 7) (n := 82) (Nat.le_of_ble_eq_true rfl) (Nat.le_of_ble_eq_true rfl) ?_
      exact a_zret (G' := G1) C0 hr rfl ⟨g1, g2, g8, g9⟩ hW hS h dL_change_185
  · have h := h.1 c16
    refine lv_sipush (v := (-1004)) hx hb dL_change_169 (by decide) ?_
    refine lv_goto (tgt := 177) hx hb dL_change_172 (by decide) ?_
    refine lv_icmp_ne (tgt := 184) hx hb dL_change_177 (by decide) (fun c18 => ?_) (fun c18 => ?_)
    · have h := h.2 c18
      refine lv_iconst (v := 0) hx hb dL_change_184 (by decide) ?_
      refine W.widen (k := 7) (n := 82) (Nat.le_of_ble_eq_true rfl) (Nat.le_of_ble_eq_true rfl) ?_
      exact a_zret (G' := G1) C0 hr rfl ⟨g1, g2, g8, g9⟩ hW hS h dL_change_185
    · have h := h.1 c18
      refine lv_iconst (v := 1) hx hb dL_change_180 (by decide) ?_
      refine lv_goto (tgt := 185) hx hb dL_change_181 (by decide) ?_
      refine W.widen (k := 7) (n := 82) (Nat.le_of_ble_eq_true rfl) (Nat.le_of_ble_eq_true rfl) ?_
      exact a_zret (G' := G1) C0 hr rfl ⟨g1, g2, g8, g9⟩ hW hS h dL_change_185
def V_L_change_80 (a2 : Int32) (a3 : Int32) (post : Int32 → HV → Prop) (v4 : Int32) (hv : HV) : Prop := (V_L_low a3 90 hv (fun r6 hv6 => (∀ x7 : Int32, x7 = (10 + r6) → (V_L_low a3 3 hv6 (fun r8 hv8 => ((r8 = 0 → (V_L_change_118 a2 a3 post v4 x7 (500 - x7) (a3 >>> (17 &&& 31)) (x7 + 1) hv8)) ∧ (¬ (r8 = 0) → (V_L_change_118 a2 a3 post v4 x7 60 (a3 >>> (17 &&& 31)) (x7 + 1) hv8))))))))
set_option maxHeartbeats 4000000 in
theorem k_L_change_80 {p : Program} {l : Launch} {e : Env} {s : State} {m : MethodId} {args : Array Value} {below : List Frame} {meth : Method} {c : Code} {G : wG} {A : Nat → Prop} (a2 : Int32) (a3 : Int32) (post : Int32 → HV → Prop) (C0 : cx p s m args meth c "RamStationLaw" cL_change 9 G) (hO : iAO s) (hA : ∀ q, s.heap.size ≤ q → A q) (hr : meth.sig.returnType = (Option.some FieldType.boolean))   : ∀ (v4 : Int32) (hv : HV), V_L_change_80 a2 a3 post v4 hv → ∀ (H : Heap) (locs : List Loc) (ls : Array Slot), wd G A hv H → va_S A s.heap H locs → lv_has ls 9 [(0, .ref (ad G 8 0)), (3, .int a3), (4, .int v4)] → W p l e (irm 6 7 82) s m args below meth c H locs 0 0 (MQ below (qA G A post) args s 7 82 A) (F0 m 80 ls []) := by
  have hx := C0.1
  have hb := C0.2.1
  have hown := C0.2.2.2.1
  have hts := C0.2.2.2.2.1
  intro v4 hv  h H locs ls hW hS hl
  unfold V_L_change_80 at h
  refine lv_bipush (v := 10) hx hb dL_change_80 (by decide) ?_
  refine lv_iload_n hx hb dL_change_82 rfl (lv_at hl 1 rfl) ?_
  refine lv_bipush (v := 90) hx hb dL_change_83 (by decide) ?_
  refine w_ci hS (w_runS (As := [.int a3, .int 90]) C0 hW (c_L_low l G A a3 90 hv _ h) ⟨⟨w_359, w_5, w_361⟩, pl_L_low, ⟨Nat.le_of_ble_eq_true rfl, Nat.le_of_ble_eq_true rfl⟩, ⟨Nat.zero_le _, Nat.zero_le _⟩⟩ w_360 rfl hl.1 rfl (Nat.le_of_ble_eq_true rfl) dL_change_85) (fun r6 hv6 h H locs hW hS => ?_)
  refine lv_iadd hx hb dL_change_88 ?_
  refine lv_topi (fun x7 ex7 => ?_)
  have h := h x7 ex7
  refine lv_istore (lv' := [(6, .int x7), (0, .ref (ad G 8 0)), (3, .int a3), (4, .int v4)]) hx hb dL_change_89 hl (by decide) rfl (fun ls hl => ?_)
  refine lv_iload hx hb dL_change_91 (lv_at hl 0 rfl) ?_
  refine lv_iconst (v := 1) hx hb dL_change_93 (by decide) ?_
  refine lv_iadd hx hb dL_change_94 ?_
  refine lv_iload_n hx hb dL_change_95 rfl (lv_at hl 2 rfl) ?_
  refine lv_bipush (v := 17) hx hb dL_change_96 (by decide) ?_
  refine lv_ishr hx hb dL_change_98 ?_
  refine lv_iload_n hx hb dL_change_99 rfl (lv_at hl 2 rfl) ?_
  refine lv_iconst (v := 3) hx hb dL_change_100 (by decide) ?_
  refine w_ci hS (w_runS (As := [.int a3, .int 3]) C0 hW (c_L_low l G A a3 3 hv6 _ h) ⟨⟨w_359, w_5, w_361⟩, pl_L_low, ⟨Nat.le_of_ble_eq_true rfl, Nat.le_of_ble_eq_true rfl⟩, ⟨Nat.zero_le _, Nat.zero_le _⟩⟩ w_360 rfl hl.1 rfl (Nat.le_of_ble_eq_true rfl) dL_change_101) (fun r8 hv8 h H locs hW hS => ?_)
  refine lv_if_ne (tgt := 116) hx hb dL_change_104 (by decide) (fun c9 => ?_) (fun c9 => ?_)
  · have h := h.2 c9
    refine lv_bipush (v := 60) hx hb dL_change_116 (by decide) ?_
    exact k_L_change_118 a2 a3 post C0 hO hA hr v4 x7 60 (a3 >>> (17 &&& 31)) (x7 + 1) hv8 h _ _ _ hW hS (lv_sub hl [1, 2, 3, 0] rfl)
  · have h := h.1 c9
    refine lv_sipush (v := 500) hx hb dL_change_107 (by decide) ?_
    refine lv_iload hx hb dL_change_110 (lv_at hl 0 rfl) ?_
    refine lv_isub hx hb dL_change_112 ?_
    refine lv_goto (tgt := 118) hx hb dL_change_113 (by decide) ?_
    exact k_L_change_118 a2 a3 post C0 hO hA hr v4 x7 (500 - x7) (a3 >>> (17 &&& 31)) (x7 + 1) hv8 h _ _ _ hW hS (lv_sub hl [1, 2, 3, 0] rfl)
def V_L_change_186 (a2 : Int32) (a3 : Int32) (post : Int32 → HV → Prop) (v5 : Int32) (hv : HV) : Prop := (V_X8_phase v5 hv (fun r21 hv21 => (V_L_low a3 3 hv21 (fun r22 hv22 => (V_L_low (a3 >>> (2 &&& 31)) 200 hv22 (fun r23 hv23 => (V_X8_setValve v5 r22 (1 + r23) hv23 (fun r24 hv24 => ((0 ≤ r21 → ((r21 ≤ 0 → ((r24 ≤ 0 → post 0 hv24) ∧ (¬ (r24 ≤ 0) → post 1 hv24))) ∧ (¬ (r21 ≤ 0) → ((r24 = (-1003) → post 1 hv24) ∧ (¬ (r24 = (-1003)) → post 0 hv24))))) ∧ (¬ (0 ≤ r21) → ((r24 = (-1001) → post 1 hv24) ∧ (¬ (r24 = (-1001)) → post 0 hv24))))))))))))
set_option maxHeartbeats 4000000 in
theorem k_L_change_186 {p : Program} {l : Launch} {e : Env} {s : State} {m : MethodId} {args : Array Value} {below : List Frame} {meth : Method} {c : Code} {G : wG} {A : Nat → Prop} (a2 : Int32) (a3 : Int32) (post : Int32 → HV → Prop) (C0 : cx p s m args meth c "RamStationLaw" cL_change 9 G) (hO : iAO s) (hA : ∀ q, s.heap.size ≤ q → A q) (hr : meth.sig.returnType = (Option.some FieldType.boolean))   : ∀ (v5 : Int32) (hv : HV), V_L_change_186 a2 a3 post v5 hv → ∀ (H : Heap) (locs : List Loc) (ls : Array Slot), wd G A hv H → va_S A s.heap H locs → lv_has ls 9 [(0, .ref (ad G 8 0)), (3, .int a3), (5, .int v5)] → W p l e (irm 6 7 82) s m args below meth c H locs 0 0 (MQ below (qA G A post) args s 7 82 A) (F0 m 186 ls []) := by
  have hx := C0.1
  have hb := C0.2.1
  have hown := C0.2.2.2.1
  have hts := C0.2.2.2.2.1
  intro v5 hv  h H locs ls hW hS hl
  unfold V_L_change_186 at h
  refine lv_aload_n hx hb dL_change_186 rfl (lv_at hl 0 rfl) ?_
  refine lv_iload hx hb dL_change_187 (lv_at hl 2 rfl) ?_
  refine w_ci hS (w_runV (As := [.int v5]) C0 hW 8 0 (by decide) (by decide) rfl rfl (c_X8_phase l G A v5 hv _ h) ⟨⟨w_346, w_6, w_349⟩, pl_X8_phase, ⟨Nat.le_of_ble_eq_true rfl, Nat.le_of_ble_eq_true rfl⟩, ⟨Nat.zero_le _, Nat.zero_le _⟩⟩ ⟨w_347, w_348⟩ rfl hl.1 rfl (Nat.le_of_ble_eq_true rfl) dL_change_189) (fun r21 hv21 h H locs hW hS => ?_)
  refine lv_istore (lv' := [(6, .int r21), (0, .ref (ad G 8 0)), (3, .int a3), (5, .int v5)]) hx hb dL_change_192 hl (by decide) rfl (fun ls hl => ?_)
  refine lv_aload_n hx hb dL_change_194 rfl (lv_at hl 1 rfl) ?_
  refine lv_iload hx hb dL_change_195 (lv_at hl 3 rfl) ?_
  refine lv_iload_n hx hb dL_change_197 rfl (lv_at hl 2 rfl) ?_
  refine lv_iconst (v := 3) hx hb dL_change_198 (by decide) ?_
  refine w_ci hS (w_runS (As := [.int a3, .int 3]) C0 hW (c_L_low l G A a3 3 hv21 _ h) ⟨⟨w_359, w_5, w_361⟩, pl_L_low, ⟨Nat.le_of_ble_eq_true rfl, Nat.le_of_ble_eq_true rfl⟩, ⟨Nat.zero_le _, Nat.zero_le _⟩⟩ w_360 rfl hl.1 rfl (Nat.le_of_ble_eq_true rfl) dL_change_199) (fun r22 hv22 h H locs hW hS => ?_)
  refine lv_iconst (v := 1) hx hb dL_change_202 (by decide) ?_
  refine lv_iload_n hx hb dL_change_203 rfl (lv_at hl 2 rfl) ?_
  refine lv_iconst (v := 2) hx hb dL_change_204 (by decide) ?_
  refine lv_ishr hx hb dL_change_205 ?_
  refine lv_sipush (v := 200) hx hb dL_change_206 (by decide) ?_
  refine w_ci hS (w_runS (As := [.int (a3 >>> (2 &&& 31)), .int 200]) C0 hW (c_L_low l G A (a3 >>> (2 &&& 31)) 200 hv22 _ h) ⟨⟨w_359, w_5, w_361⟩, pl_L_low, ⟨Nat.le_of_ble_eq_true rfl, Nat.le_of_ble_eq_true rfl⟩, ⟨Nat.zero_le _, Nat.zero_le _⟩⟩ w_360 rfl hl.1 rfl (Nat.le_of_ble_eq_true rfl) dL_change_209) (fun r23 hv23 h H locs hW hS => ?_)
  refine lv_iadd hx hb dL_change_212 ?_
  refine w_ci hS (w_runV (As := [.int v5, .int r22, .int (1 + r23)]) C0 hW 8 0 (by decide) (by decide) rfl rfl (c_X8_setValve l G A v5 r22 (1 + r23) hv23 _ h) ⟨⟨w_405, w_6, w_408⟩, pl_X8_setValve, ⟨Nat.le_of_ble_eq_true rfl, Nat.le_of_ble_eq_true rfl⟩, ⟨Nat.zero_le _, Nat.zero_le _⟩⟩ ⟨w_406, w_407⟩ rfl hl.1 rfl (Nat.le_of_ble_eq_true rfl) dL_change_213) (fun r24 hv24 h H locs hW hS => ?_)
  refine lv_istore (lv' := [(7, .int r24), (6, .int r21), (0, .ref (ad G 8 0)), (3, .int a3), (5, .int v5)]) hx hb dL_change_216 hl (by decide) rfl (fun ls hl => ?_)
  refine lv_iload hx hb dL_change_218 (lv_at hl 1 rfl) ?_
  refine lv_if_ge (tgt := 239) hx hb dL_change_220 (by decide) (fun c25 => ?_) (fun c25 => ?_)
  · have h := h.1 c25
    refine lv_iload hx hb dL_change_239 (lv_at hl 1 rfl) ?_
    refine lv_if_le (tgt := 260) hx hb dL_change_241 (by decide) (fun c26 => ?_) (fun c26 => ?_)
    · have h := h.1 c26
      refine lv_iload hx hb dL_change_260 (lv_at hl 0 rfl) ?_
      refine lv_if_le (tgt := 269) hx hb dL_change_262 (by decide) (fun c27 => ?_) (fun c27 => ?_)
      · have h := h.1 c27
        refine lv_iconst (v := 0) hx hb dL_change_269 (by decide) ?_
        refine W.widen (k := 7) (n := 82) (Nat.zero_le _) (Nat.zero_le _) ?_
        exact a_zret (G' := G) C0 hr rfl ⟨rfl, rfl, rfl, rfl⟩ hW hS h dL_change_270
      · have h := h.2 c27
        refine lv_iconst (v := 1) hx hb dL_change_265 (by decide) ?_
        refine lv_goto (tgt := 270) hx hb dL_change_266 (by decide) ?_
        refine W.widen (k := 7) (n := 82) (Nat.zero_le _) (Nat.zero_le _) ?_
        exact a_zret (G' := G) C0 hr rfl ⟨rfl, rfl, rfl, rfl⟩ hW hS h dL_change_270
    · have h := h.2 c26
      refine lv_iload hx hb dL_change_244 (lv_at hl 0 rfl) ?_
      refine lv_sipush (v := (-1003)) hx hb dL_change_246 (by decide) ?_
      refine lv_icmp_ne (tgt := 256) hx hb dL_change_249 (by decide) (fun c28 => ?_) (fun c28 => ?_)
      · have h := h.2 c28
        refine lv_iconst (v := 0) hx hb dL_change_256 (by decide) ?_
        refine lv_goto (tgt := 270) hx hb dL_change_257 (by decide) ?_
        refine W.widen (k := 7) (n := 82) (Nat.zero_le _) (Nat.zero_le _) ?_
        exact a_zret (G' := G) C0 hr rfl ⟨rfl, rfl, rfl, rfl⟩ hW hS h dL_change_270
      · have h := h.1 c28
        refine lv_iconst (v := 1) hx hb dL_change_252 (by decide) ?_
        refine lv_goto (tgt := 270) hx hb dL_change_253 (by decide) ?_
        refine W.widen (k := 7) (n := 82) (Nat.zero_le _) (Nat.zero_le _) ?_
        exact a_zret (G' := G) C0 hr rfl ⟨rfl, rfl, rfl, rfl⟩ hW hS h dL_change_270
  · have h := h.2 c25
    refine lv_iload hx hb dL_change_223 (lv_at hl 0 rfl) ?_
    refine lv_sipush (v := (-1001)) hx hb dL_change_225 (by decide) ?_
    refine lv_icmp_ne (tgt := 235) hx hb dL_change_228 (by decide) (fun c29 => ?_) (fun c29 => ?_)
    · have h := h.2 c29
      refine lv_iconst (v := 0) hx hb dL_change_235 (by decide) ?_
      refine lv_goto (tgt := 270) hx hb dL_change_236 (by decide) ?_
      refine W.widen (k := 7) (n := 82) (Nat.zero_le _) (Nat.zero_le _) ?_
      exact a_zret (G' := G) C0 hr rfl ⟨rfl, rfl, rfl, rfl⟩ hW hS h dL_change_270
    · have h := h.1 c29
      refine lv_iconst (v := 1) hx hb dL_change_231 (by decide) ?_
      refine lv_goto (tgt := 270) hx hb dL_change_232 (by decide) ?_
      refine W.widen (k := 7) (n := 82) (Nat.zero_le _) (Nat.zero_le _) ?_
      exact a_zret (G' := G) C0 hr rfl ⟨rfl, rfl, rfl, rfl⟩ hW hS h dL_change_270
def V_L_change_333 (a2 : Int32) (a3 : Int32) (post : Int32 → HV → Prop) (v6 : Int32) (v7 : Int32) (s0 : Int32) (s1 : Int32) (s2 : Int32) (hv : HV) : Prop := (V_X8_setChamber s2 s1 s0 hv (fun r38 hv38 => ((v7 ≤ 0 → ((r38 = v6 → post 1 hv38) ∧ (¬ (r38 = v6) → post 0 hv38))) ∧ (¬ (v7 ≤ 0) → ((r38 = (-1003) → post 1 hv38) ∧ (¬ (r38 = (-1003)) → post 0 hv38))))))
set_option maxHeartbeats 4000000 in
theorem k_L_change_333 {p : Program} {l : Launch} {e : Env} {s : State} {m : MethodId} {args : Array Value} {below : List Frame} {meth : Method} {c : Code} {G : wG} {A : Nat → Prop} (a2 : Int32) (a3 : Int32) (post : Int32 → HV → Prop) (C0 : cx p s m args meth c "RamStationLaw" cL_change 9 G) (hO : iAO s) (hA : ∀ q, s.heap.size ≤ q → A q) (hr : meth.sig.returnType = (Option.some FieldType.boolean))   : ∀ (v6 : Int32) (v7 : Int32) (s0 : Int32) (s1 : Int32) (s2 : Int32) (hv : HV), V_L_change_333 a2 a3 post v6 v7 s0 s1 s2 hv → ∀ (H : Heap) (locs : List Loc) (ls : Array Slot), wd G A hv H → va_S A s.heap H locs → lv_has ls 9 [(6, .int v6), (7, .int v7)] → W p l e (irm 6 7 82) s m args below meth c H locs 0 0 (MQ below (qA G A post) args s 7 82 A) (F0 m 333 ls [.int s0, .int s1, .int s2, .ref (ad G 8 0)]) := by
  have hx := C0.1
  have hb := C0.2.1
  have hown := C0.2.2.2.1
  have hts := C0.2.2.2.2.1
  intro v6 v7 s0 s1 s2 hv  h H locs ls hW hS hl
  unfold V_L_change_333 at h
  refine w_ci hS (w_runV (As := [.int s2, .int s1, .int s0]) C0 hW 8 0 (by decide) (by decide) rfl rfl (c_X8_setChamber l G A s2 s1 s0 hv _ h) ⟨⟨w_413, w_6, w_416⟩, pl_X8_setChamber, ⟨Nat.le_of_ble_eq_true rfl, Nat.le_of_ble_eq_true rfl⟩, ⟨Nat.zero_le _, Nat.zero_le _⟩⟩ ⟨w_414, w_415⟩ rfl hl.1 rfl (Nat.le_of_ble_eq_true rfl) dL_change_333) (fun r38 hv38 h H locs hW hS => ?_)
  refine lv_istore (lv' := [(8, .int r38), (6, .int v6), (7, .int v7)]) hx hb dL_change_336 hl (by decide) rfl (fun ls hl => ?_)
  refine lv_iload hx hb dL_change_338 (lv_at hl 2 rfl) ?_
  refine lv_if_le (tgt := 359) hx hb dL_change_340 (by decide) (fun c39 => ?_) (fun c39 => ?_)
  · have h := h.1 c39
    refine lv_iload hx hb dL_change_359 (lv_at hl 0 rfl) ?_
    refine lv_iload hx hb dL_change_361 (lv_at hl 1 rfl) ?_
    refine lv_icmp_ne (tgt := 370) hx hb dL_change_363 (by decide) (fun c40 => ?_) (fun c40 => ?_)
    · have h := h.2 c40
      refine lv_iconst (v := 0) hx hb dL_change_370 (by decide) ?_
      refine W.widen (k := 7) (n := 82) (Nat.zero_le _) (Nat.zero_le _) ?_
      exact a_zret (G' := G) C0 hr rfl ⟨rfl, rfl, rfl, rfl⟩ hW hS h dL_change_371
    · have h := h.1 c40
      refine lv_iconst (v := 1) hx hb dL_change_366 (by decide) ?_
      refine lv_goto (tgt := 371) hx hb dL_change_367 (by decide) ?_
      refine W.widen (k := 7) (n := 82) (Nat.zero_le _) (Nat.zero_le _) ?_
      exact a_zret (G' := G) C0 hr rfl ⟨rfl, rfl, rfl, rfl⟩ hW hS h dL_change_371
  · have h := h.2 c39
    refine lv_iload hx hb dL_change_343 (lv_at hl 0 rfl) ?_
    refine lv_sipush (v := (-1003)) hx hb dL_change_345 (by decide) ?_
    refine lv_icmp_ne (tgt := 355) hx hb dL_change_348 (by decide) (fun c41 => ?_) (fun c41 => ?_)
    · have h := h.2 c41
      refine lv_iconst (v := 0) hx hb dL_change_355 (by decide) ?_
      refine lv_goto (tgt := 371) hx hb dL_change_356 (by decide) ?_
      refine W.widen (k := 7) (n := 82) (Nat.zero_le _) (Nat.zero_le _) ?_
      exact a_zret (G' := G) C0 hr rfl ⟨rfl, rfl, rfl, rfl⟩ hW hS h dL_change_371
    · have h := h.1 c41
      refine lv_iconst (v := 1) hx hb dL_change_351 (by decide) ?_
      refine lv_goto (tgt := 371) hx hb dL_change_352 (by decide) ?_
      refine W.widen (k := 7) (n := 82) (Nat.zero_le _) (Nat.zero_le _) ?_
      exact a_zret (G' := G) C0 hr rfl ⟨rfl, rfl, rfl, rfl⟩ hW hS h dL_change_371
def V_L_change_313 (a2 : Int32) (a3 : Int32) (post : Int32 → HV → Prop) (v6 : Int32) (v7 : Int32) (s0 : Int32) (s1 : Int32) (s2 : Int32) (s3 : Int32) (hv : HV) : Prop := (V_L_low s1 s0 hv (fun r35 hv35 => (V_L_low (a3 >>> (11 &&& 31)) 2 hv35 (fun r36 hv36 => ((r36 = 0 → (V_L_change_333 a2 a3 post v6 v7 1 (s2 + r35) s3 hv36)) ∧ (¬ (r36 = 0) → (V_L_change_333 a2 a3 post v6 v7 0 (s2 + r35) s3 hv36)))))))
set_option maxHeartbeats 4000000 in
theorem k_L_change_313 {p : Program} {l : Launch} {e : Env} {s : State} {m : MethodId} {args : Array Value} {below : List Frame} {meth : Method} {c : Code} {G : wG} {A : Nat → Prop} (a2 : Int32) (a3 : Int32) (post : Int32 → HV → Prop) (C0 : cx p s m args meth c "RamStationLaw" cL_change 9 G) (hO : iAO s) (hA : ∀ q, s.heap.size ≤ q → A q) (hr : meth.sig.returnType = (Option.some FieldType.boolean))   : ∀ (v6 : Int32) (v7 : Int32) (s0 : Int32) (s1 : Int32) (s2 : Int32) (s3 : Int32) (hv : HV), V_L_change_313 a2 a3 post v6 v7 s0 s1 s2 s3 hv → ∀ (H : Heap) (locs : List Loc) (ls : Array Slot), wd G A hv H → va_S A s.heap H locs → lv_has ls 9 [(3, .int a3), (6, .int v6), (7, .int v7)] → W p l e (irm 6 7 82) s m args below meth c H locs 0 0 (MQ below (qA G A post) args s 7 82 A) (F0 m 313 ls [.int s0, .int s1, .int s2, .int s3, .ref (ad G 8 0)]) := by
  have hx := C0.1
  have hb := C0.2.1
  have hown := C0.2.2.2.1
  have hts := C0.2.2.2.2.1
  intro v6 v7 s0 s1 s2 s3 hv  h H locs ls hW hS hl
  unfold V_L_change_313 at h
  refine w_ci hS (w_runS (As := [.int s1, .int s0]) C0 hW (c_L_low l G A s1 s0 hv _ h) ⟨⟨w_359, w_5, w_361⟩, pl_L_low, ⟨Nat.le_of_ble_eq_true rfl, Nat.le_of_ble_eq_true rfl⟩, ⟨Nat.zero_le _, Nat.zero_le _⟩⟩ w_360 rfl hl.1 rfl (Nat.le_of_ble_eq_true rfl) dL_change_313) (fun r35 hv35 h H locs hW hS => ?_)
  refine lv_iadd hx hb dL_change_316 ?_
  refine lv_iload_n hx hb dL_change_317 rfl (lv_at hl 0 rfl) ?_
  refine lv_bipush (v := 11) hx hb dL_change_318 (by decide) ?_
  refine lv_ishr hx hb dL_change_320 ?_
  refine lv_iconst (v := 2) hx hb dL_change_321 (by decide) ?_
  refine w_ci hS (w_runS (As := [.int (a3 >>> (11 &&& 31)), .int 2]) C0 hW (c_L_low l G A (a3 >>> (11 &&& 31)) 2 hv35 _ h) ⟨⟨w_359, w_5, w_361⟩, pl_L_low, ⟨Nat.le_of_ble_eq_true rfl, Nat.le_of_ble_eq_true rfl⟩, ⟨Nat.zero_le _, Nat.zero_le _⟩⟩ w_360 rfl hl.1 rfl (Nat.le_of_ble_eq_true rfl) dL_change_322) (fun r36 hv36 h H locs hW hS => ?_)
  refine lv_if_ne (tgt := 332) hx hb dL_change_325 (by decide) (fun c37 => ?_) (fun c37 => ?_)
  · have h := h.2 c37
    refine lv_iconst (v := 0) hx hb dL_change_332 (by decide) ?_
    exact k_L_change_333 a2 a3 post C0 hO hA hr v6 v7 0 (s2 + r35) s3 hv36 h _ _ _ hW hS (lv_sub hl [1, 2] rfl)
  · have h := h.1 c37
    refine lv_iconst (v := 1) hx hb dL_change_328 (by decide) ?_
    refine lv_goto (tgt := 333) hx hb dL_change_329 (by decide) ?_
    exact k_L_change_333 a2 a3 post C0 hO hA hr v6 v7 1 (s2 + r35) s3 hv36 h _ _ _ hW hS (lv_sub hl [1, 2] rfl)
def V_L_change_271 (a2 : Int32) (a3 : Int32) (post : Int32 → HV → Prop) (v5 : Int32) (hv : HV) : Prop := (V_X8_chamberWater v5 hv (fun r31 hv31 => (V_X8_phase v5 hv31 (fun r32 hv32 => (V_L_low (a3 >>> (12 &&& 31)) 2 hv32 (fun r33 hv33 => ((r33 = 0 → (V_L_change_313 a2 a3 post r31 r32 200 a3 50 v5 hv33)) ∧ (¬ (r33 = 0) → (V_L_change_313 a2 a3 post r31 r32 1951 a3 50 v5 hv33)))))))))
set_option maxHeartbeats 4000000 in
theorem k_L_change_271 {p : Program} {l : Launch} {e : Env} {s : State} {m : MethodId} {args : Array Value} {below : List Frame} {meth : Method} {c : Code} {G : wG} {A : Nat → Prop} (a2 : Int32) (a3 : Int32) (post : Int32 → HV → Prop) (C0 : cx p s m args meth c "RamStationLaw" cL_change 9 G) (hO : iAO s) (hA : ∀ q, s.heap.size ≤ q → A q) (hr : meth.sig.returnType = (Option.some FieldType.boolean))   : ∀ (v5 : Int32) (hv : HV), V_L_change_271 a2 a3 post v5 hv → ∀ (H : Heap) (locs : List Loc) (ls : Array Slot), wd G A hv H → va_S A s.heap H locs → lv_has ls 9 [(0, .ref (ad G 8 0)), (3, .int a3), (5, .int v5)] → W p l e (irm 6 7 82) s m args below meth c H locs 0 0 (MQ below (qA G A post) args s 7 82 A) (F0 m 271 ls []) := by
  have hx := C0.1
  have hb := C0.2.1
  have hown := C0.2.2.2.1
  have hts := C0.2.2.2.2.1
  intro v5 hv  h H locs ls hW hS hl
  unfold V_L_change_271 at h
  refine lv_aload_n hx hb dL_change_271 rfl (lv_at hl 0 rfl) ?_
  refine lv_iload hx hb dL_change_272 (lv_at hl 2 rfl) ?_
  refine w_ci hS (w_runV (As := [.int v5]) C0 hW 8 0 (by decide) (by decide) rfl rfl (c_X8_chamberWater l G A v5 hv _ h) ⟨⟨w_409, w_6, w_412⟩, pl_X8_chamberWater, ⟨Nat.le_of_ble_eq_true rfl, Nat.le_of_ble_eq_true rfl⟩, ⟨Nat.zero_le _, Nat.zero_le _⟩⟩ ⟨w_410, w_411⟩ rfl hl.1 rfl (Nat.le_of_ble_eq_true rfl) dL_change_274) (fun r31 hv31 h H locs hW hS => ?_)
  refine lv_istore (lv' := [(6, .int r31), (0, .ref (ad G 8 0)), (3, .int a3), (5, .int v5)]) hx hb dL_change_277 hl (by decide) rfl (fun ls hl => ?_)
  refine lv_aload_n hx hb dL_change_279 rfl (lv_at hl 1 rfl) ?_
  refine lv_iload hx hb dL_change_280 (lv_at hl 3 rfl) ?_
  refine w_ci hS (w_runV (As := [.int v5]) C0 hW 8 0 (by decide) (by decide) rfl rfl (c_X8_phase l G A v5 hv31 _ h) ⟨⟨w_346, w_6, w_349⟩, pl_X8_phase, ⟨Nat.le_of_ble_eq_true rfl, Nat.le_of_ble_eq_true rfl⟩, ⟨Nat.zero_le _, Nat.zero_le _⟩⟩ ⟨w_347, w_348⟩ rfl hl.1 rfl (Nat.le_of_ble_eq_true rfl) dL_change_282) (fun r32 hv32 h H locs hW hS => ?_)
  refine lv_istore (lv' := [(7, .int r32), (6, .int r31), (0, .ref (ad G 8 0)), (3, .int a3), (5, .int v5)]) hx hb dL_change_285 hl (by decide) rfl (fun ls hl => ?_)
  refine lv_aload_n hx hb dL_change_287 rfl (lv_at hl 2 rfl) ?_
  refine lv_iload hx hb dL_change_288 (lv_at hl 4 rfl) ?_
  refine lv_bipush (v := 50) hx hb dL_change_290 (by decide) ?_
  refine lv_iload_n hx hb dL_change_292 rfl (lv_at hl 3 rfl) ?_
  refine lv_iload_n hx hb dL_change_293 rfl (lv_at hl 3 rfl) ?_
  refine lv_bipush (v := 12) hx hb dL_change_294 (by decide) ?_
  refine lv_ishr hx hb dL_change_296 ?_
  refine lv_iconst (v := 2) hx hb dL_change_297 (by decide) ?_
  refine w_ci hS (w_runS (As := [.int (a3 >>> (12 &&& 31)), .int 2]) C0 hW (c_L_low l G A (a3 >>> (12 &&& 31)) 2 hv32 _ h) ⟨⟨w_359, w_5, w_361⟩, pl_L_low, ⟨Nat.le_of_ble_eq_true rfl, Nat.le_of_ble_eq_true rfl⟩, ⟨Nat.zero_le _, Nat.zero_le _⟩⟩ w_360 rfl hl.1 rfl (Nat.le_of_ble_eq_true rfl) dL_change_298) (fun r33 hv33 h H locs hW hS => ?_)
  refine lv_if_ne (tgt := 310) hx hb dL_change_301 (by decide) (fun c34 => ?_) (fun c34 => ?_)
  · have h := h.2 c34
    refine lv_sipush (v := 1951) hx hb dL_change_310 (by decide) ?_
    exact k_L_change_313 a2 a3 post C0 hO hA hr r31 r32 1951 a3 50 v5 hv33 h _ _ _ hW hS (lv_sub hl [3, 1, 0] rfl)
  · have h := h.1 c34
    refine lv_sipush (v := 200) hx hb dL_change_304 (by decide) ?_
    refine lv_goto (tgt := 313) hx hb dL_change_307 (by decide) ?_
    exact k_L_change_313 a2 a3 post C0 hO hA hr r31 r32 200 a3 50 v5 hv33 h _ _ _ hW hS (lv_sub hl [3, 1, 0] rfl)
def V_L_change_372 (a2 : Int32) (a3 : Int32) (post : Int32 → HV → Prop)  (hv : HV) : Prop := (∀ x43 : Int32, x43 = (hv 9 0 0) → (V_L_low a3 501 hv (fun r44 hv44 => (∀ hv45 : HV, hv45 = up hv44 9 0 (upd (hv44 9 0) 0 r44) → (V_X8_setInflow (hv45 9 0 0) hv45 (fun r46 hv46 => ((r46 = x43 → post 1 hv46) ∧ (¬ (r46 = x43) → post 0 hv46))))))))
set_option maxHeartbeats 4000000 in
theorem k_L_change_372 {p : Program} {l : Launch} {e : Env} {s : State} {m : MethodId} {args : Array Value} {below : List Frame} {meth : Method} {c : Code} {G : wG} {A : Nat → Prop} (a2 : Int32) (a3 : Int32) (post : Int32 → HV → Prop) (C0 : cx p s m args meth c "RamStationLaw" cL_change 9 G) (hO : iAO s) (hA : ∀ q, s.heap.size ≤ q → A q) (hr : meth.sig.returnType = (Option.some FieldType.boolean))   : ∀  (hv : HV), V_L_change_372 a2 a3 post  hv → ∀ (H : Heap) (locs : List Loc) (ls : Array Slot), wd G A hv H → va_S A s.heap H locs → lv_has ls 9 [(0, .ref (ad G 8 0)), (1, .ref (ad G 9 0)), (3, .int a3)] → W p l e (irm 6 7 82) s m args below meth c H locs 0 0 (MQ below (qA G A post) args s 7 82 A) (F0 m 372 ls []) := by
  have hx := C0.1
  have hb := C0.2.1
  have hown := C0.2.2.2.1
  have hts := C0.2.2.2.2.1
  intro  hv  h H locs ls hW hS hl
  unfold V_L_change_372 at h
  refine lv_aload_n hx hb dL_change_372 rfl (lv_at hl 1 rfl) ?_
  refine lv_iconst (v := 0) hx hb dL_change_373 (by decide) ?_
  refine w_ialdN C0 hW 9 0 (by decide) (by decide) (n := 6) rfl (j := 0) rfl (by omega) (by decide) dL_change_374 ?_
  refine lv_topi (fun x43 ex43 => ?_)
  have h := h x43 ex43
  refine lv_istore (lv' := [(6, .int x43), (0, .ref (ad G 8 0)), (1, .ref (ad G 9 0)), (3, .int a3)]) hx hb dL_change_375 hl (by decide) rfl (fun ls hl => ?_)
  refine lv_aload_n hx hb dL_change_377 rfl (lv_at hl 2 rfl) ?_
  refine lv_iconst (v := 0) hx hb dL_change_378 (by decide) ?_
  refine lv_iload_n hx hb dL_change_379 rfl (lv_at hl 3 rfl) ?_
  refine lv_sipush (v := 501) hx hb dL_change_380 (by decide) ?_
  refine w_ci hS (w_runS (As := [.int a3, .int 501]) C0 hW (c_L_low l G A a3 501 hv _ h) ⟨⟨w_359, w_5, w_361⟩, pl_L_low, ⟨Nat.le_of_ble_eq_true rfl, Nat.le_of_ble_eq_true rfl⟩, ⟨Nat.zero_le _, Nat.zero_le _⟩⟩ w_360 rfl hl.1 rfl (Nat.le_of_ble_eq_true rfl) dL_change_383) (fun r44 hv44 h H locs hW hS => ?_)
  refine w_iastN C0 hW hS 9 0 (by decide) (by decide) (n := 6) (fun _ => rfl) (j := 0) rfl (by omega) (by decide) dL_change_386 (fun hv45 ehv45 H locs hW hS => ?_)
  have h := h hv45 ehv45
  refine lv_aload_n hx hb dL_change_387 rfl (lv_at hl 1 rfl) ?_
  refine lv_aload_n hx hb dL_change_388 rfl (lv_at hl 2 rfl) ?_
  refine lv_iconst (v := 0) hx hb dL_change_389 (by decide) ?_
  refine w_ialdN C0 hW 9 0 (by decide) (by decide) (n := 6) rfl (j := 0) rfl (by omega) (by decide) dL_change_390 ?_
  refine w_ci hS (w_runV (As := [.int (hv45 9 0 0)]) C0 hW 8 0 (by decide) (by decide) rfl rfl (c_X8_setInflow l G A (hv45 9 0 0) hv45 _ h) ⟨⟨w_426, w_6, w_429⟩, pl_X8_setInflow, ⟨Nat.le_of_ble_eq_true rfl, Nat.le_of_ble_eq_true rfl⟩, ⟨Nat.zero_le _, Nat.zero_le _⟩⟩ ⟨w_427, w_428⟩ rfl hl.1 rfl (Nat.le_of_ble_eq_true rfl) dL_change_391) (fun r46 hv46 h H locs hW hS => ?_)
  refine lv_iload hx hb dL_change_394 (lv_at hl 0 rfl) ?_
  refine lv_icmp_ne (tgt := 403) hx hb dL_change_396 (by decide) (fun c47 => ?_) (fun c47 => ?_)
  · have h := h.2 c47
    refine lv_iconst (v := 0) hx hb dL_change_403 (by decide) ?_
    refine W.widen (k := 7) (n := 82) (Nat.zero_le _) (Nat.zero_le _) ?_
    exact a_zret (G' := G) C0 hr rfl ⟨rfl, rfl, rfl, rfl⟩ hW hS h dL_change_404
  · have h := h.1 c47
    refine lv_iconst (v := 1) hx hb dL_change_399 (by decide) ?_
    refine lv_goto (tgt := 404) hx hb dL_change_400 (by decide) ?_
    refine W.widen (k := 7) (n := 82) (Nat.zero_le _) (Nat.zero_le _) ?_
    exact a_zret (G' := G) C0 hr rfl ⟨rfl, rfl, rfl, rfl⟩ hW hS h dL_change_404
def V_L_change_449 (a2 : Int32) (a3 : Int32) (post : Int32 → HV → Prop) (v6 : Int32) (v7 : Int32) (s0 : Int32) (s1 : Int32) (hv : HV) : Prop := (vp_in s1 6 ∧ ∀ hv53 : HV, hv53 = up hv 9 0 (upd (hv 9 0) (Int32.toNatClampNeg s1) s0) → ((0 ≤ v6 → ((v6 = 0 → ((v7 = (-1003) → post 1 hv53) ∧ (¬ (v7 = (-1003)) → post 0 hv53))) ∧ (¬ (v6 = 0) → ((v7 = v6 → post 1 hv53) ∧ (¬ (v7 = v6) → post 0 hv53))))) ∧ (¬ (0 ≤ v6) → ((v7 = (-1001) → post 1 hv53) ∧ (¬ (v7 = (-1001)) → post 0 hv53)))))
set_option maxHeartbeats 4000000 in
theorem k_L_change_449 {p : Program} {l : Launch} {e : Env} {s : State} {m : MethodId} {args : Array Value} {below : List Frame} {meth : Method} {c : Code} {G : wG} {A : Nat → Prop} (a2 : Int32) (a3 : Int32) (post : Int32 → HV → Prop) (C0 : cx p s m args meth c "RamStationLaw" cL_change 9 G) (hO : iAO s) (hA : ∀ q, s.heap.size ≤ q → A q) (hr : meth.sig.returnType = (Option.some FieldType.boolean))   : ∀ (v6 : Int32) (v7 : Int32) (s0 : Int32) (s1 : Int32) (hv : HV), V_L_change_449 a2 a3 post v6 v7 s0 s1 hv → ∀ (H : Heap) (locs : List Loc) (ls : Array Slot), wd G A hv H → va_S A s.heap H locs → lv_has ls 9 [(6, .int v6), (7, .int v7)] → W p l e (irm 6 7 82) s m args below meth c H locs 0 0 (MQ below (qA G A post) args s 7 82 A) (F0 m 449 ls [.int s0, .int s1, .ref (ad G 9 0)]) := by
  have hx := C0.1
  have hb := C0.2.1
  have hown := C0.2.2.2.1
  have hts := C0.2.2.2.2.1
  intro v6 v7 s0 s1 hv  h H locs ls hW hS hl
  unfold V_L_change_449 at h
  obtain ⟨q53, h⟩ := h
  refine w_iast C0 hW hS 9 0 (by decide) (by decide) (n := 6) (fun _ => rfl) q53 dL_change_449 (fun hv53 ehv53 H locs hW hS => ?_)
  have h := h hv53 ehv53
  refine lv_iload hx hb dL_change_450 (lv_at hl 0 rfl) ?_
  refine lv_if_ge (tgt := 471) hx hb dL_change_452 (by decide) (fun c54 => ?_) (fun c54 => ?_)
  · have h := h.1 c54
    refine lv_iload hx hb dL_change_471 (lv_at hl 1 rfl) ?_
    refine lv_iload hx hb dL_change_473 (lv_at hl 0 rfl) ?_
    refine lv_if_ne (tgt := 484) hx hb dL_change_475 (by decide) (fun c55 => ?_) (fun c55 => ?_)
    · have h := h.2 c55
      refine lv_iload hx hb dL_change_484 (lv_at hl 0 rfl) ?_
      refine lv_icmp_ne (tgt := 493) hx hb dL_change_486 (by decide) (fun c56 => ?_) (fun c56 => ?_)
      · have h := h.2 c56
        refine lv_iconst (v := 0) hx hb dL_change_493 (by decide) ?_
        refine W.widen (k := 7) (n := 82) (Nat.zero_le _) (Nat.zero_le _) ?_
        exact a_zret (G' := G) C0 hr rfl ⟨rfl, rfl, rfl, rfl⟩ hW hS h dL_change_494
      · have h := h.1 c56
        refine lv_iconst (v := 1) hx hb dL_change_489 (by decide) ?_
        refine lv_goto (tgt := 494) hx hb dL_change_490 (by decide) ?_
        refine W.widen (k := 7) (n := 82) (Nat.zero_le _) (Nat.zero_le _) ?_
        exact a_zret (G' := G) C0 hr rfl ⟨rfl, rfl, rfl, rfl⟩ hW hS h dL_change_494
    · have h := h.1 c55
      refine lv_sipush (v := (-1003)) hx hb dL_change_478 (by decide) ?_
      refine lv_goto (tgt := 486) hx hb dL_change_481 (by decide) ?_
      refine lv_icmp_ne (tgt := 493) hx hb dL_change_486 (by decide) (fun c57 => ?_) (fun c57 => ?_)
      · have h := h.2 c57
        refine lv_iconst (v := 0) hx hb dL_change_493 (by decide) ?_
        refine W.widen (k := 7) (n := 82) (Nat.zero_le _) (Nat.zero_le _) ?_
        exact a_zret (G' := G) C0 hr rfl ⟨rfl, rfl, rfl, rfl⟩ hW hS h dL_change_494
      · have h := h.1 c57
        refine lv_iconst (v := 1) hx hb dL_change_489 (by decide) ?_
        refine lv_goto (tgt := 494) hx hb dL_change_490 (by decide) ?_
        refine W.widen (k := 7) (n := 82) (Nat.zero_le _) (Nat.zero_le _) ?_
        exact a_zret (G' := G) C0 hr rfl ⟨rfl, rfl, rfl, rfl⟩ hW hS h dL_change_494
  · have h := h.2 c54
    refine lv_iload hx hb dL_change_455 (lv_at hl 1 rfl) ?_
    refine lv_sipush (v := (-1001)) hx hb dL_change_457 (by decide) ?_
    refine lv_icmp_ne (tgt := 467) hx hb dL_change_460 (by decide) (fun c58 => ?_) (fun c58 => ?_)
    · have h := h.2 c58
      refine lv_iconst (v := 0) hx hb dL_change_467 (by decide) ?_
      refine lv_goto (tgt := 494) hx hb dL_change_468 (by decide) ?_
      refine W.widen (k := 7) (n := 82) (Nat.zero_le _) (Nat.zero_le _) ?_
      exact a_zret (G' := G) C0 hr rfl ⟨rfl, rfl, rfl, rfl⟩ hW hS h dL_change_494
    · have h := h.1 c58
      refine lv_iconst (v := 1) hx hb dL_change_463 (by decide) ?_
      refine lv_goto (tgt := 494) hx hb dL_change_464 (by decide) ?_
      refine W.widen (k := 7) (n := 82) (Nat.zero_le _) (Nat.zero_le _) ?_
      exact a_zret (G' := G) C0 hr rfl ⟨rfl, rfl, rfl, rfl⟩ hW hS h dL_change_494
def V_L_change_405 (a2 : Int32) (a3 : Int32) (post : Int32 → HV → Prop) (v5 : Int32) (hv : HV) : Prop := (V_X8_tank v5 hv (fun r49 hv49 => (V_X8_emptyTank v5 hv49 (fun r50 hv50 => ((r49 ≤ 0 → (vp_in (2 + v5) 6 ∧ (V_L_change_449 a2 a3 post r49 r50 (hv50 9 0 (Int32.toNatClampNeg (2 + v5))) (2 + v5) hv50))) ∧ (¬ (r49 ≤ 0) → (vp_in (2 + v5) 6 ∧ (V_L_change_449 a2 a3 post r49 r50 ((hv50 9 0 (Int32.toNatClampNeg (2 + v5))) + r49) (2 + v5) hv50))))))))
set_option maxHeartbeats 4000000 in
theorem k_L_change_405 {p : Program} {l : Launch} {e : Env} {s : State} {m : MethodId} {args : Array Value} {below : List Frame} {meth : Method} {c : Code} {G : wG} {A : Nat → Prop} (a2 : Int32) (a3 : Int32) (post : Int32 → HV → Prop) (C0 : cx p s m args meth c "RamStationLaw" cL_change 9 G) (hO : iAO s) (hA : ∀ q, s.heap.size ≤ q → A q) (hr : meth.sig.returnType = (Option.some FieldType.boolean))   : ∀ (v5 : Int32) (hv : HV), V_L_change_405 a2 a3 post v5 hv → ∀ (H : Heap) (locs : List Loc) (ls : Array Slot), wd G A hv H → va_S A s.heap H locs → lv_has ls 9 [(0, .ref (ad G 8 0)), (1, .ref (ad G 9 0)), (5, .int v5)] → W p l e (irm 6 7 82) s m args below meth c H locs 0 0 (MQ below (qA G A post) args s 7 82 A) (F0 m 405 ls []) := by
  have hx := C0.1
  have hb := C0.2.1
  have hown := C0.2.2.2.1
  have hts := C0.2.2.2.2.1
  intro v5 hv  h H locs ls hW hS hl
  unfold V_L_change_405 at h
  refine lv_aload_n hx hb dL_change_405 rfl (lv_at hl 0 rfl) ?_
  refine lv_iload hx hb dL_change_406 (lv_at hl 2 rfl) ?_
  refine w_ci hS (w_runV (As := [.int v5]) C0 hW 8 0 (by decide) (by decide) rfl rfl (c_X8_tank l G A v5 hv _ h) ⟨⟨w_430, w_6, w_433⟩, pl_X8_tank, ⟨Nat.le_of_ble_eq_true rfl, Nat.le_of_ble_eq_true rfl⟩, ⟨Nat.zero_le _, Nat.zero_le _⟩⟩ ⟨w_431, w_432⟩ rfl hl.1 rfl (Nat.le_of_ble_eq_true rfl) dL_change_408) (fun r49 hv49 h H locs hW hS => ?_)
  refine lv_istore (lv' := [(6, .int r49), (0, .ref (ad G 8 0)), (1, .ref (ad G 9 0)), (5, .int v5)]) hx hb dL_change_411 hl (by decide) rfl (fun ls hl => ?_)
  refine lv_aload_n hx hb dL_change_413 rfl (lv_at hl 1 rfl) ?_
  refine lv_iload hx hb dL_change_414 (lv_at hl 3 rfl) ?_
  refine w_ci hS (w_runV (As := [.int v5]) C0 hW 8 0 (by decide) (by decide) rfl rfl (c_X8_emptyTank l G A v5 hv49 _ h) ⟨⟨w_434, w_6, w_437⟩, pl_X8_emptyTank, ⟨Nat.le_of_ble_eq_true rfl, Nat.le_of_ble_eq_true rfl⟩, ⟨Nat.zero_le _, Nat.zero_le _⟩⟩ ⟨w_435, w_436⟩ rfl hl.1 rfl (Nat.le_of_ble_eq_true rfl) dL_change_416) (fun r50 hv50 h H locs hW hS => ?_)
  refine lv_istore (lv' := [(7, .int r50), (6, .int r49), (0, .ref (ad G 8 0)), (1, .ref (ad G 9 0)), (5, .int v5)]) hx hb dL_change_419 hl (by decide) rfl (fun ls hl => ?_)
  refine lv_aload_n hx hb dL_change_421 rfl (lv_at hl 3 rfl) ?_
  refine lv_iconst (v := 2) hx hb dL_change_422 (by decide) ?_
  refine lv_iload hx hb dL_change_423 (lv_at hl 4 rfl) ?_
  refine lv_iadd hx hb dL_change_425 ?_
  refine lv_iload hx hb dL_change_426 (lv_at hl 1 rfl) ?_
  refine lv_if_le (tgt := 443) hx hb dL_change_428 (by decide) (fun c51 => ?_) (fun c51 => ?_)
  · have h := h.1 c51
    refine lv_aload_n hx hb dL_change_443 rfl (lv_at hl 3 rfl) ?_
    refine lv_iconst (v := 2) hx hb dL_change_444 (by decide) ?_
    refine lv_iload hx hb dL_change_445 (lv_at hl 4 rfl) ?_
    refine lv_iadd hx hb dL_change_447 ?_
    obtain ⟨q52, h⟩ := h
    refine w_iald C0 hW 9 0 (by decide) (by decide) (n := 6) rfl q52 dL_change_448 ?_
    exact k_L_change_449 a2 a3 post C0 hO hA hr r49 r50 (hv50 9 0 (Int32.toNatClampNeg (2 + v5))) (2 + v5) hv50 h _ _ _ hW hS (lv_sub hl [1, 0] rfl)
  · have h := h.2 c51
    refine lv_aload_n hx hb dL_change_431 rfl (lv_at hl 3 rfl) ?_
    refine lv_iconst (v := 2) hx hb dL_change_432 (by decide) ?_
    refine lv_iload hx hb dL_change_433 (lv_at hl 4 rfl) ?_
    refine lv_iadd hx hb dL_change_435 ?_
    obtain ⟨q59, h⟩ := h
    refine w_iald C0 hW 9 0 (by decide) (by decide) (n := 6) rfl q59 dL_change_436 ?_
    refine lv_iload hx hb dL_change_437 (lv_at hl 1 rfl) ?_
    refine lv_iadd hx hb dL_change_439 ?_
    refine lv_goto (tgt := 449) hx hb dL_change_440 (by decide) ?_
    exact k_L_change_449 a2 a3 post C0 hO hA hr r49 r50 ((hv50 9 0 (Int32.toNatClampNeg (2 + v5))) + r49) (2 + v5) hv50 h _ _ _ hW hS (lv_sub hl [1, 0] rfl)
def V_L_change_495 (a2 : Int32) (a3 : Int32) (post : Int32 → HV → Prop) (v5 : Int32) (hv : HV) : Prop := (V_X8_phase v5 hv (fun r61 hv61 => (V_X8_stop v5 hv61 (fun r62 hv62 => ((0 ≤ r61 → ((r61 = 0 → ((r62 = (-1003) → post 1 hv62) ∧ (¬ (r62 = (-1003)) → post 0 hv62))) ∧ (¬ (r61 = 0) → (V_L_many 1 hv62 (fun r65 hv65 => ((r62 = r65 → post 1 hv65) ∧ (¬ (r62 = r65) → post 0 hv65))))))) ∧ (¬ (0 ≤ r61) → ((r62 = (-1001) → post 1 hv62) ∧ (¬ (r62 = (-1001)) → post 0 hv62))))))))
set_option maxHeartbeats 4000000 in
theorem k_L_change_495 {p : Program} {l : Launch} {e : Env} {s : State} {m : MethodId} {args : Array Value} {below : List Frame} {meth : Method} {c : Code} {G : wG} {A : Nat → Prop} (a2 : Int32) (a3 : Int32) (post : Int32 → HV → Prop) (C0 : cx p s m args meth c "RamStationLaw" cL_change 9 G) (hO : iAO s) (hA : ∀ q, s.heap.size ≤ q → A q) (hr : meth.sig.returnType = (Option.some FieldType.boolean))   : ∀ (v5 : Int32) (hv : HV), V_L_change_495 a2 a3 post v5 hv → ∀ (H : Heap) (locs : List Loc) (ls : Array Slot), wd G A hv H → va_S A s.heap H locs → lv_has ls 9 [(0, .ref (ad G 8 0)), (5, .int v5)] → W p l e (irm 6 7 82) s m args below meth c H locs 0 0 (MQ below (qA G A post) args s 7 82 A) (F0 m 495 ls []) := by
  have hx := C0.1
  have hb := C0.2.1
  have hown := C0.2.2.2.1
  have hts := C0.2.2.2.2.1
  intro v5 hv  h H locs ls hW hS hl
  unfold V_L_change_495 at h
  refine lv_aload_n hx hb dL_change_495 rfl (lv_at hl 0 rfl) ?_
  refine lv_iload hx hb dL_change_496 (lv_at hl 1 rfl) ?_
  refine w_ci hS (w_runV (As := [.int v5]) C0 hW 8 0 (by decide) (by decide) rfl rfl (c_X8_phase l G A v5 hv _ h) ⟨⟨w_346, w_6, w_349⟩, pl_X8_phase, ⟨Nat.le_of_ble_eq_true rfl, Nat.le_of_ble_eq_true rfl⟩, ⟨Nat.zero_le _, Nat.zero_le _⟩⟩ ⟨w_347, w_348⟩ rfl hl.1 rfl (Nat.le_of_ble_eq_true rfl) dL_change_498) (fun r61 hv61 h H locs hW hS => ?_)
  refine lv_istore (lv' := [(6, .int r61), (0, .ref (ad G 8 0)), (5, .int v5)]) hx hb dL_change_501 hl (by decide) rfl (fun ls hl => ?_)
  refine lv_aload_n hx hb dL_change_503 rfl (lv_at hl 1 rfl) ?_
  refine lv_iload hx hb dL_change_504 (lv_at hl 2 rfl) ?_
  refine w_ci hS (w_runV (As := [.int v5]) C0 hW 8 0 (by decide) (by decide) rfl rfl (c_X8_stop l G A v5 hv61 _ h) ⟨⟨w_438, w_6, w_441⟩, pl_X8_stop, ⟨Nat.le_of_ble_eq_true rfl, Nat.le_of_ble_eq_true rfl⟩, ⟨Nat.zero_le _, Nat.zero_le _⟩⟩ ⟨w_439, w_440⟩ rfl hl.1 rfl (Nat.le_of_ble_eq_true rfl) dL_change_506) (fun r62 hv62 h H locs hW hS => ?_)
  refine lv_istore (lv' := [(7, .int r62), (6, .int r61), (0, .ref (ad G 8 0)), (5, .int v5)]) hx hb dL_change_509 hl (by decide) rfl (fun ls hl => ?_)
  refine lv_iload hx hb dL_change_511 (lv_at hl 1 rfl) ?_
  refine lv_if_ge (tgt := 532) hx hb dL_change_513 (by decide) (fun c63 => ?_) (fun c63 => ?_)
  · have h := h.1 c63
    refine lv_iload hx hb dL_change_532 (lv_at hl 1 rfl) ?_
    refine lv_if_ne (tgt := 553) hx hb dL_change_534 (by decide) (fun c64 => ?_) (fun c64 => ?_)
    · have h := h.2 c64
      refine lv_iload hx hb dL_change_553 (lv_at hl 0 rfl) ?_
      refine lv_aload_n hx hb dL_change_555 rfl (lv_at hl 2 rfl) ?_
      refine lv_iconst (v := 1) hx hb dL_change_556 (by decide) ?_
      refine w_ci hS (w_runS (As := [.ref (ad G 8 0), .int 1]) C0 hW (c_L_many l G A 1 hv62 _ h) ⟨⟨w_363, w_5, w_365⟩, pl_L_many, ⟨Nat.le_of_ble_eq_true rfl, Nat.le_of_ble_eq_true rfl⟩, ⟨Nat.zero_le _, Nat.zero_le _⟩⟩ w_364 rfl hl.1 rfl (Nat.le_of_ble_eq_true rfl) dL_change_557) (fun r65 hv65 h H locs hW hS => ?_)
      refine lv_icmp_ne (tgt := 567) hx hb dL_change_560 (by decide) (fun c66 => ?_) (fun c66 => ?_)
      · have h := h.2 c66
        refine lv_iconst (v := 0) hx hb dL_change_567 (by decide) ?_
        refine W.widen (k := 7) (n := 82) (Nat.zero_le _) (Nat.zero_le _) ?_
        exact a_zret (G' := G) C0 hr rfl ⟨rfl, rfl, rfl, rfl⟩ hW hS h dL_change_568
      · have h := h.1 c66
        refine lv_iconst (v := 1) hx hb dL_change_563 (by decide) ?_
        refine lv_goto (tgt := 568) hx hb dL_change_564 (by decide) ?_
        refine W.widen (k := 7) (n := 82) (Nat.zero_le _) (Nat.zero_le _) ?_
        exact a_zret (G' := G) C0 hr rfl ⟨rfl, rfl, rfl, rfl⟩ hW hS h dL_change_568
    · have h := h.1 c64
      refine lv_iload hx hb dL_change_537 (lv_at hl 0 rfl) ?_
      refine lv_sipush (v := (-1003)) hx hb dL_change_539 (by decide) ?_
      refine lv_icmp_ne (tgt := 549) hx hb dL_change_542 (by decide) (fun c67 => ?_) (fun c67 => ?_)
      · have h := h.2 c67
        refine lv_iconst (v := 0) hx hb dL_change_549 (by decide) ?_
        refine lv_goto (tgt := 568) hx hb dL_change_550 (by decide) ?_
        refine W.widen (k := 7) (n := 82) (Nat.zero_le _) (Nat.zero_le _) ?_
        exact a_zret (G' := G) C0 hr rfl ⟨rfl, rfl, rfl, rfl⟩ hW hS h dL_change_568
      · have h := h.1 c67
        refine lv_iconst (v := 1) hx hb dL_change_545 (by decide) ?_
        refine lv_goto (tgt := 568) hx hb dL_change_546 (by decide) ?_
        refine W.widen (k := 7) (n := 82) (Nat.zero_le _) (Nat.zero_le _) ?_
        exact a_zret (G' := G) C0 hr rfl ⟨rfl, rfl, rfl, rfl⟩ hW hS h dL_change_568
  · have h := h.2 c63
    refine lv_iload hx hb dL_change_516 (lv_at hl 0 rfl) ?_
    refine lv_sipush (v := (-1001)) hx hb dL_change_518 (by decide) ?_
    refine lv_icmp_ne (tgt := 528) hx hb dL_change_521 (by decide) (fun c68 => ?_) (fun c68 => ?_)
    · have h := h.2 c68
      refine lv_iconst (v := 0) hx hb dL_change_528 (by decide) ?_
      refine lv_goto (tgt := 568) hx hb dL_change_529 (by decide) ?_
      refine W.widen (k := 7) (n := 82) (Nat.zero_le _) (Nat.zero_le _) ?_
      exact a_zret (G' := G) C0 hr rfl ⟨rfl, rfl, rfl, rfl⟩ hW hS h dL_change_568
    · have h := h.1 c68
      refine lv_iconst (v := 1) hx hb dL_change_524 (by decide) ?_
      refine lv_goto (tgt := 568) hx hb dL_change_525 (by decide) ?_
      refine W.widen (k := 7) (n := 82) (Nat.zero_le _) (Nat.zero_le _) ?_
      exact a_zret (G' := G) C0 hr rfl ⟨rfl, rfl, rfl, rfl⟩ hW hS h dL_change_568
def V_L_change_569 (a2 : Int32) (a3 : Int32) (post : Int32 → HV → Prop) (v5 : Int32) (hv : HV) : Prop := (V_X8_phase v5 hv (fun r70 hv70 => (V_X8_start v5 hv70 (fun r71 hv71 => ((0 ≤ r70 → ((r70 ≤ 0 → (V_L_many 1 hv71 (fun r74 hv74 => ((r71 = r74 → post 1 hv74) ∧ (¬ (r71 = r74) → post 0 hv74))))) ∧ (¬ (r70 ≤ 0) → ((r71 = (-1003) → post 1 hv71) ∧ (¬ (r71 = (-1003)) → post 0 hv71))))) ∧ (¬ (0 ≤ r70) → ((r71 = (-1001) → post 1 hv71) ∧ (¬ (r71 = (-1001)) → post 0 hv71))))))))
set_option maxHeartbeats 4000000 in
theorem k_L_change_569 {p : Program} {l : Launch} {e : Env} {s : State} {m : MethodId} {args : Array Value} {below : List Frame} {meth : Method} {c : Code} {G : wG} {A : Nat → Prop} (a2 : Int32) (a3 : Int32) (post : Int32 → HV → Prop) (C0 : cx p s m args meth c "RamStationLaw" cL_change 9 G) (hO : iAO s) (hA : ∀ q, s.heap.size ≤ q → A q) (hr : meth.sig.returnType = (Option.some FieldType.boolean))   : ∀ (v5 : Int32) (hv : HV), V_L_change_569 a2 a3 post v5 hv → ∀ (H : Heap) (locs : List Loc) (ls : Array Slot), wd G A hv H → va_S A s.heap H locs → lv_has ls 9 [(0, .ref (ad G 8 0)), (5, .int v5)] → W p l e (irm 6 7 82) s m args below meth c H locs 0 0 (MQ below (qA G A post) args s 7 82 A) (F0 m 569 ls []) := by
  have hx := C0.1
  have hb := C0.2.1
  have hown := C0.2.2.2.1
  have hts := C0.2.2.2.2.1
  intro v5 hv  h H locs ls hW hS hl
  unfold V_L_change_569 at h
  refine lv_aload_n hx hb dL_change_569 rfl (lv_at hl 0 rfl) ?_
  refine lv_iload hx hb dL_change_570 (lv_at hl 1 rfl) ?_
  refine w_ci hS (w_runV (As := [.int v5]) C0 hW 8 0 (by decide) (by decide) rfl rfl (c_X8_phase l G A v5 hv _ h) ⟨⟨w_346, w_6, w_349⟩, pl_X8_phase, ⟨Nat.le_of_ble_eq_true rfl, Nat.le_of_ble_eq_true rfl⟩, ⟨Nat.zero_le _, Nat.zero_le _⟩⟩ ⟨w_347, w_348⟩ rfl hl.1 rfl (Nat.le_of_ble_eq_true rfl) dL_change_572) (fun r70 hv70 h H locs hW hS => ?_)
  refine lv_istore (lv' := [(6, .int r70), (0, .ref (ad G 8 0)), (5, .int v5)]) hx hb dL_change_575 hl (by decide) rfl (fun ls hl => ?_)
  refine lv_aload_n hx hb dL_change_577 rfl (lv_at hl 1 rfl) ?_
  refine lv_iload hx hb dL_change_578 (lv_at hl 2 rfl) ?_
  refine w_ci hS (w_runV (As := [.int v5]) C0 hW 8 0 (by decide) (by decide) rfl rfl (c_X8_start l G A v5 hv70 _ h) ⟨⟨w_450, w_6, w_453⟩, pl_X8_start, ⟨Nat.le_of_ble_eq_true rfl, Nat.le_of_ble_eq_true rfl⟩, ⟨Nat.zero_le _, Nat.zero_le _⟩⟩ ⟨w_451, w_452⟩ rfl hl.1 rfl (Nat.le_of_ble_eq_true rfl) dL_change_580) (fun r71 hv71 h H locs hW hS => ?_)
  refine lv_istore (lv' := [(7, .int r71), (6, .int r70), (0, .ref (ad G 8 0)), (5, .int v5)]) hx hb dL_change_583 hl (by decide) rfl (fun ls hl => ?_)
  refine lv_iload hx hb dL_change_585 (lv_at hl 1 rfl) ?_
  refine lv_if_ge (tgt := 606) hx hb dL_change_587 (by decide) (fun c72 => ?_) (fun c72 => ?_)
  · have h := h.1 c72
    refine lv_iload hx hb dL_change_606 (lv_at hl 1 rfl) ?_
    refine lv_if_le (tgt := 627) hx hb dL_change_608 (by decide) (fun c73 => ?_) (fun c73 => ?_)
    · have h := h.1 c73
      refine lv_iload hx hb dL_change_627 (lv_at hl 0 rfl) ?_
      refine lv_aload_n hx hb dL_change_629 rfl (lv_at hl 2 rfl) ?_
      refine lv_iconst (v := 1) hx hb dL_change_630 (by decide) ?_
      refine w_ci hS (w_runS (As := [.ref (ad G 8 0), .int 1]) C0 hW (c_L_many l G A 1 hv71 _ h) ⟨⟨w_363, w_5, w_365⟩, pl_L_many, ⟨Nat.le_of_ble_eq_true rfl, Nat.le_of_ble_eq_true rfl⟩, ⟨Nat.zero_le _, Nat.zero_le _⟩⟩ w_364 rfl hl.1 rfl (Nat.le_of_ble_eq_true rfl) dL_change_631) (fun r74 hv74 h H locs hW hS => ?_)
      refine lv_icmp_ne (tgt := 641) hx hb dL_change_634 (by decide) (fun c75 => ?_) (fun c75 => ?_)
      · have h := h.2 c75
        refine lv_iconst (v := 0) hx hb dL_change_641 (by decide) ?_
        refine W.widen (k := 7) (n := 82) (Nat.zero_le _) (Nat.zero_le _) ?_
        exact a_zret (G' := G) C0 hr rfl ⟨rfl, rfl, rfl, rfl⟩ hW hS h dL_change_642
      · have h := h.1 c75
        refine lv_iconst (v := 1) hx hb dL_change_637 (by decide) ?_
        refine lv_goto (tgt := 642) hx hb dL_change_638 (by decide) ?_
        refine W.widen (k := 7) (n := 82) (Nat.zero_le _) (Nat.zero_le _) ?_
        exact a_zret (G' := G) C0 hr rfl ⟨rfl, rfl, rfl, rfl⟩ hW hS h dL_change_642
    · have h := h.2 c73
      refine lv_iload hx hb dL_change_611 (lv_at hl 0 rfl) ?_
      refine lv_sipush (v := (-1003)) hx hb dL_change_613 (by decide) ?_
      refine lv_icmp_ne (tgt := 623) hx hb dL_change_616 (by decide) (fun c76 => ?_) (fun c76 => ?_)
      · have h := h.2 c76
        refine lv_iconst (v := 0) hx hb dL_change_623 (by decide) ?_
        refine lv_goto (tgt := 642) hx hb dL_change_624 (by decide) ?_
        refine W.widen (k := 7) (n := 82) (Nat.zero_le _) (Nat.zero_le _) ?_
        exact a_zret (G' := G) C0 hr rfl ⟨rfl, rfl, rfl, rfl⟩ hW hS h dL_change_642
      · have h := h.1 c76
        refine lv_iconst (v := 1) hx hb dL_change_619 (by decide) ?_
        refine lv_goto (tgt := 642) hx hb dL_change_620 (by decide) ?_
        refine W.widen (k := 7) (n := 82) (Nat.zero_le _) (Nat.zero_le _) ?_
        exact a_zret (G' := G) C0 hr rfl ⟨rfl, rfl, rfl, rfl⟩ hW hS h dL_change_642
  · have h := h.2 c72
    refine lv_iload hx hb dL_change_590 (lv_at hl 0 rfl) ?_
    refine lv_sipush (v := (-1001)) hx hb dL_change_592 (by decide) ?_
    refine lv_icmp_ne (tgt := 602) hx hb dL_change_595 (by decide) (fun c77 => ?_) (fun c77 => ?_)
    · have h := h.2 c77
      refine lv_iconst (v := 0) hx hb dL_change_602 (by decide) ?_
      refine lv_goto (tgt := 642) hx hb dL_change_603 (by decide) ?_
      refine W.widen (k := 7) (n := 82) (Nat.zero_le _) (Nat.zero_le _) ?_
      exact a_zret (G' := G) C0 hr rfl ⟨rfl, rfl, rfl, rfl⟩ hW hS h dL_change_642
    · have h := h.1 c77
      refine lv_iconst (v := 1) hx hb dL_change_598 (by decide) ?_
      refine lv_goto (tgt := 642) hx hb dL_change_599 (by decide) ?_
      refine W.widen (k := 7) (n := 82) (Nat.zero_le _) (Nat.zero_le _) ?_
      exact a_zret (G' := G) C0 hr rfl ⟨rfl, rfl, rfl, rfl⟩ hW hS h dL_change_642
def V_L_change_643 (a2 : Int32) (a3 : Int32) (post : Int32 → HV → Prop)  (hv : HV) : Prop := (V_L_low a3 70 hv (fun r80 hv80 => (∀ x81 : Int32, x81 = (1 + r80) → (V_X8_time hv80 (fun r82 hv82 => (V_L_lifted hv82 (fun r83 hv83 => (∀ hv84 : HV, hv84 = up hv83 9 0 (upd (hv83 9 0) 1 ((hv83 9 0 1) + ((hv83 9 0 0) * x81))) → (V_X8_pass x81 hv84 (fun r85 hv85 => (V_L_lifted hv85 (fun r86 hv86 => ((r85 = (r86 - r83) → (V_X8_time hv86 (fun r88 hv88 => ((r88 = (r82 + x81) → post 1 hv88) ∧ (¬ (r88 = (r82 + x81)) → post 0 hv88))))) ∧ (¬ (r85 = (r86 - r83)) → post 0 hv86))))))))))))))
set_option maxHeartbeats 4000000 in
theorem k_L_change_643 {p : Program} {l : Launch} {e : Env} {s : State} {m : MethodId} {args : Array Value} {below : List Frame} {meth : Method} {c : Code} {G : wG} {A : Nat → Prop} (a2 : Int32) (a3 : Int32) (post : Int32 → HV → Prop) (C0 : cx p s m args meth c "RamStationLaw" cL_change 9 G) (hO : iAO s) (hA : ∀ q, s.heap.size ≤ q → A q) (hr : meth.sig.returnType = (Option.some FieldType.boolean))   : ∀  (hv : HV), V_L_change_643 a2 a3 post  hv → ∀ (H : Heap) (locs : List Loc) (ls : Array Slot), wd G A hv H → va_S A s.heap H locs → lv_has ls 9 [(0, .ref (ad G 8 0)), (1, .ref (ad G 9 0)), (3, .int a3)] → W p l e (irm 6 7 82) s m args below meth c H locs 0 0 (MQ below (qA G A post) args s 7 82 A) (F0 m 643 ls []) := by
  have hx := C0.1
  have hb := C0.2.1
  have hown := C0.2.2.2.1
  have hts := C0.2.2.2.2.1
  intro  hv  h H locs ls hW hS hl
  unfold V_L_change_643 at h
  refine lv_iconst (v := 1) hx hb dL_change_643 (by decide) ?_
  refine lv_iload_n hx hb dL_change_644 rfl (lv_at hl 2 rfl) ?_
  refine lv_bipush (v := 70) hx hb dL_change_645 (by decide) ?_
  refine w_ci hS (w_runS (As := [.int a3, .int 70]) C0 hW (c_L_low l G A a3 70 hv _ h) ⟨⟨w_359, w_5, w_361⟩, pl_L_low, ⟨Nat.le_of_ble_eq_true rfl, Nat.le_of_ble_eq_true rfl⟩, ⟨Nat.zero_le _, Nat.zero_le _⟩⟩ w_360 rfl hl.1 rfl (Nat.le_of_ble_eq_true rfl) dL_change_647) (fun r80 hv80 h H locs hW hS => ?_)
  refine lv_iadd hx hb dL_change_650 ?_
  refine lv_topi (fun x81 ex81 => ?_)
  have h := h x81 ex81
  refine lv_istore (lv' := [(6, .int x81), (0, .ref (ad G 8 0)), (1, .ref (ad G 9 0)), (3, .int a3)]) hx hb dL_change_651 hl (by decide) rfl (fun ls hl => ?_)
  refine lv_aload_n hx hb dL_change_653 rfl (lv_at hl 1 rfl) ?_
  refine w_ci hS (w_runV (As := []) C0 hW 8 0 (by decide) (by decide) rfl rfl (c_X8_time l G A hv80 _ h) ⟨⟨w_454, w_6, w_457⟩, pl_X8_time, ⟨Nat.le_of_ble_eq_true rfl, Nat.le_of_ble_eq_true rfl⟩, ⟨Nat.zero_le _, Nat.zero_le _⟩⟩ ⟨w_455, w_456⟩ rfl hl.1 rfl (Nat.le_of_ble_eq_true rfl) dL_change_654) (fun r82 hv82 h H locs hW hS => ?_)
  refine lv_istore (lv' := [(7, .int r82), (6, .int x81), (0, .ref (ad G 8 0)), (1, .ref (ad G 9 0)), (3, .int a3)]) hx hb dL_change_657 hl (by decide) rfl (fun ls hl => ?_)
  refine lv_aload_n hx hb dL_change_659 rfl (lv_at hl 2 rfl) ?_
  refine w_ci hS (w_runS (As := [.ref (ad G 8 0)]) C0 hW (c_L_lifted l G A hv82 _ h) ⟨⟨w_458, w_5, w_460⟩, pl_L_lifted, ⟨Nat.le_of_ble_eq_true rfl, Nat.le_of_ble_eq_true rfl⟩, ⟨Nat.zero_le _, Nat.zero_le _⟩⟩ w_459 rfl hl.1 rfl (Nat.le_of_ble_eq_true rfl) dL_change_660) (fun r83 hv83 h H locs hW hS => ?_)
  refine lv_istore (lv' := [(8, .int r83), (7, .int r82), (6, .int x81), (0, .ref (ad G 8 0)), (1, .ref (ad G 9 0)), (3, .int a3)]) hx hb dL_change_663 hl (by decide) rfl (fun ls hl => ?_)
  refine lv_aload_n hx hb dL_change_665 rfl (lv_at hl 4 rfl) ?_
  refine lv_iconst (v := 1) hx hb dL_change_666 (by decide) ?_
  refine lv_aload_n hx hb dL_change_667 rfl (lv_at hl 4 rfl) ?_
  refine lv_iconst (v := 1) hx hb dL_change_668 (by decide) ?_
  refine w_ialdN C0 hW 9 0 (by decide) (by decide) (n := 6) rfl (j := 1) rfl (by omega) (by decide) dL_change_669 ?_
  refine lv_aload_n hx hb dL_change_670 rfl (lv_at hl 4 rfl) ?_
  refine lv_iconst (v := 0) hx hb dL_change_671 (by decide) ?_
  refine w_ialdN C0 hW 9 0 (by decide) (by decide) (n := 6) rfl (j := 0) rfl (by omega) (by decide) dL_change_672 ?_
  refine lv_iload hx hb dL_change_673 (lv_at hl 2 rfl) ?_
  refine lv_imul hx hb dL_change_675 ?_
  refine lv_iadd hx hb dL_change_676 ?_
  refine w_iastN C0 hW hS 9 0 (by decide) (by decide) (n := 6) (fun _ => rfl) (j := 1) rfl (by omega) (by decide) dL_change_677 (fun hv84 ehv84 H locs hW hS => ?_)
  have h := h hv84 ehv84
  refine lv_aload_n hx hb dL_change_678 rfl (lv_at hl 3 rfl) ?_
  refine lv_iload hx hb dL_change_679 (lv_at hl 2 rfl) ?_
  refine w_ci hS (w_runV (As := [.int x81]) C0 hW 8 0 (by decide) (by decide) rfl rfl (c_X8_pass l G A x81 hv84 _ h) ⟨⟨w_465, w_6, w_468⟩, pl_X8_pass, ⟨Nat.le_of_ble_eq_true rfl, Nat.le_of_ble_eq_true rfl⟩, ⟨Nat.zero_le _, Nat.zero_le _⟩⟩ ⟨w_466, w_467⟩ rfl hl.1 rfl (Nat.le_of_ble_eq_true rfl) dL_change_681) (fun r85 hv85 h H locs hW hS => ?_)
  refine lv_aload_n hx hb dL_change_684 rfl (lv_at hl 3 rfl) ?_
  refine w_ci hS (w_runS (As := [.ref (ad G 8 0)]) C0 hW (c_L_lifted l G A hv85 _ h) ⟨⟨w_458, w_5, w_460⟩, pl_L_lifted, ⟨Nat.le_of_ble_eq_true rfl, Nat.le_of_ble_eq_true rfl⟩, ⟨Nat.zero_le _, Nat.zero_le _⟩⟩ w_459 rfl hl.1 rfl (Nat.le_of_ble_eq_true rfl) dL_change_685) (fun r86 hv86 h H locs hW hS => ?_)
  refine lv_iload hx hb dL_change_688 (lv_at hl 0 rfl) ?_
  refine lv_isub hx hb dL_change_690 ?_
  refine lv_icmp_ne (tgt := 710) hx hb dL_change_691 (by decide) (fun c87 => ?_) (fun c87 => ?_)
  · have h := h.2 c87
    refine lv_iconst (v := 0) hx hb dL_change_710 (by decide) ?_
    refine W.widen (k := 7) (n := 82) (Nat.zero_le _) (Nat.zero_le _) ?_
    exact a_zret (G' := G) C0 hr rfl ⟨rfl, rfl, rfl, rfl⟩ hW hS h dL_change_711
  · have h := h.1 c87
    refine lv_aload_n hx hb dL_change_694 rfl (lv_at hl 3 rfl) ?_
    refine w_ci hS (w_runV (As := []) C0 hW 8 0 (by decide) (by decide) rfl rfl (c_X8_time l G A hv86 _ h) ⟨⟨w_454, w_6, w_457⟩, pl_X8_time, ⟨Nat.le_of_ble_eq_true rfl, Nat.le_of_ble_eq_true rfl⟩, ⟨Nat.zero_le _, Nat.zero_le _⟩⟩ ⟨w_455, w_456⟩ rfl hl.1 rfl (Nat.le_of_ble_eq_true rfl) dL_change_695) (fun r88 hv88 h H locs hW hS => ?_)
    refine lv_iload hx hb dL_change_698 (lv_at hl 1 rfl) ?_
    refine lv_iload hx hb dL_change_700 (lv_at hl 2 rfl) ?_
    refine lv_iadd hx hb dL_change_702 ?_
    refine lv_icmp_ne (tgt := 710) hx hb dL_change_703 (by decide) (fun c89 => ?_) (fun c89 => ?_)
    · have h := h.2 c89
      refine lv_iconst (v := 0) hx hb dL_change_710 (by decide) ?_
      refine W.widen (k := 7) (n := 82) (Nat.zero_le _) (Nat.zero_le _) ?_
      exact a_zret (G' := G) C0 hr rfl ⟨rfl, rfl, rfl, rfl⟩ hW hS h dL_change_711
    · have h := h.1 c89
      refine lv_iconst (v := 1) hx hb dL_change_706 (by decide) ?_
      refine lv_goto (tgt := 711) hx hb dL_change_707 (by decide) ?_
      refine W.widen (k := 7) (n := 82) (Nat.zero_le _) (Nat.zero_le _) ?_
      exact a_zret (G' := G) C0 hr rfl ⟨rfl, rfl, rfl, rfl⟩ hW hS h dL_change_711
def V_L_change_23 (a2 : Int32) (a3 : Int32) (post : Int32 → HV → Prop) (v4 : Int32) (s0 : Int32) (hv : HV) : Prop := (V_L_low a2 12 hv (fun r4 hv4 => ((r4 = 0 → (V_L_change_80 a2 a3 post v4 hv4)) ∧ (¬ r4 = 0 → ((r4 = 1 → (V_L_change_80 a2 a3 post v4 hv4)) ∧ (¬ r4 = 1 → ((r4 = 2 → (V_L_change_186 a2 a3 post s0 hv4)) ∧ (¬ r4 = 2 → ((r4 = 3 → (V_L_change_271 a2 a3 post s0 hv4)) ∧ (¬ r4 = 3 → ((r4 = 4 → (V_L_change_372 a2 a3 post hv4)) ∧ (¬ r4 = 4 → ((r4 = 5 → (V_L_change_405 a2 a3 post s0 hv4)) ∧ (¬ r4 = 5 → ((r4 = 6 → (V_L_change_495 a2 a3 post s0 hv4)) ∧ (¬ r4 = 6 → ((r4 = 7 → (V_L_change_569 a2 a3 post s0 hv4)) ∧ (¬ r4 = 7 → ((r4 = 8 → (V_L_change_569 a2 a3 post s0 hv4)) ∧ (¬ r4 = 8 → (V_L_change_643 a2 a3 post hv4)))))))))))))))))))))
set_option maxHeartbeats 4000000 in
theorem k_L_change_23 {p : Program} {l : Launch} {e : Env} {s : State} {m : MethodId} {args : Array Value} {below : List Frame} {meth : Method} {c : Code} {G : wG} {A : Nat → Prop} (a2 : Int32) (a3 : Int32) (post : Int32 → HV → Prop) (C0 : cx p s m args meth c "RamStationLaw" cL_change 9 G) (hO : iAO s) (hA : ∀ q, s.heap.size ≤ q → A q) (hr : meth.sig.returnType = (Option.some FieldType.boolean))   : ∀ (v4 : Int32) (s0 : Int32) (hv : HV), V_L_change_23 a2 a3 post v4 s0 hv → ∀ (H : Heap) (locs : List Loc) (ls : Array Slot), wd G A hv H → va_S A s.heap H locs → lv_has ls 9 [(0, .ref (ad G 8 0)), (1, .ref (ad G 9 0)), (2, .int a2), (3, .int a3), (4, .int v4)] → W p l e (irm 6 7 82) s m args below meth c H locs 0 0 (MQ below (qA G A post) args s 7 82 A) (F0 m 23 ls [.int s0]) := by
  have hx := C0.1
  have hb := C0.2.1
  have hown := C0.2.2.2.1
  have hts := C0.2.2.2.2.1
  intro v4 s0 hv  h H locs ls hW hS hl
  unfold V_L_change_23 at h
  refine lv_istore (lv' := [(5, .int s0), (0, .ref (ad G 8 0)), (1, .ref (ad G 9 0)), (2, .int a2), (3, .int a3), (4, .int v4)]) hx hb dL_change_23 hl (by decide) rfl (fun ls hl => ?_)
  refine lv_iload_n hx hb dL_change_25 rfl (lv_at hl 3 rfl) ?_
  refine lv_bipush (v := 12) hx hb dL_change_26 (by decide) ?_
  refine w_ci hS (w_runS (As := [.int a2, .int 12]) C0 hW (c_L_low l G A a2 12 hv _ h) ⟨⟨w_359, w_5, w_361⟩, pl_L_low, ⟨Nat.le_of_ble_eq_true rfl, Nat.le_of_ble_eq_true rfl⟩, ⟨Nat.zero_le _, Nat.zero_le _⟩⟩ w_360 rfl hl.1 rfl (Nat.le_of_ble_eq_true rfl) dL_change_28) (fun r4 hv4 h H locs hW hS => ?_)
  by_cases c5 : r4 = 0
  · have h := h.1 c5
    refine lv_tableIn (tgt := 80) hx hb dL_change_31 (by rw [c5]; decide) (by rw [c5]; decide) (off := 49) (by rw [c5]; rfl) (by decide) ?_
    exact k_L_change_80 a2 a3 post C0 hO hA hr v4 hv4 h _ _ _ hW hS (lv_sub hl [1, 4, 5] rfl)
  have h := h.2 c5
  by_cases c19 : r4 = 1
  · have h := h.1 c19
    refine lv_tableIn (tgt := 80) hx hb dL_change_31 (by rw [c19]; decide) (by rw [c19]; decide) (off := 49) (by rw [c19]; rfl) (by decide) ?_
    exact k_L_change_80 a2 a3 post C0 hO hA hr v4 hv4 h _ _ _ hW hS (lv_sub hl [1, 4, 5] rfl)
  have h := h.2 c19
  by_cases c20 : r4 = 2
  · have h := h.1 c20
    refine lv_tableIn (tgt := 186) hx hb dL_change_31 (by rw [c20]; decide) (by rw [c20]; decide) (off := 155) (by rw [c20]; rfl) (by decide) ?_
    exact k_L_change_186 a2 a3 post C0 hO hA hr s0 hv4 h _ _ _ hW hS (lv_sub hl [1, 4, 0] rfl)
  have h := h.2 c20
  by_cases c30 : r4 = 3
  · have h := h.1 c30
    refine lv_tableIn (tgt := 271) hx hb dL_change_31 (by rw [c30]; decide) (by rw [c30]; decide) (off := 240) (by rw [c30]; rfl) (by decide) ?_
    exact k_L_change_271 a2 a3 post C0 hO hA hr s0 hv4 h _ _ _ hW hS (lv_sub hl [1, 4, 0] rfl)
  have h := h.2 c30
  by_cases c42 : r4 = 4
  · have h := h.1 c42
    refine lv_tableIn (tgt := 372) hx hb dL_change_31 (by rw [c42]; decide) (by rw [c42]; decide) (off := 341) (by rw [c42]; rfl) (by decide) ?_
    exact k_L_change_372 a2 a3 post C0 hO hA hr hv4 h _ _ _ hW hS (lv_sub hl [1, 2, 4] rfl)
  have h := h.2 c42
  by_cases c48 : r4 = 5
  · have h := h.1 c48
    refine lv_tableIn (tgt := 405) hx hb dL_change_31 (by rw [c48]; decide) (by rw [c48]; decide) (off := 374) (by rw [c48]; rfl) (by decide) ?_
    exact k_L_change_405 a2 a3 post C0 hO hA hr s0 hv4 h _ _ _ hW hS (lv_sub hl [1, 2, 0] rfl)
  have h := h.2 c48
  by_cases c60 : r4 = 6
  · have h := h.1 c60
    refine lv_tableIn (tgt := 495) hx hb dL_change_31 (by rw [c60]; decide) (by rw [c60]; decide) (off := 464) (by rw [c60]; rfl) (by decide) ?_
    exact k_L_change_495 a2 a3 post C0 hO hA hr s0 hv4 h _ _ _ hW hS (lv_sub hl [1, 0] rfl)
  have h := h.2 c60
  by_cases c69 : r4 = 7
  · have h := h.1 c69
    refine lv_tableIn (tgt := 569) hx hb dL_change_31 (by rw [c69]; decide) (by rw [c69]; decide) (off := 538) (by rw [c69]; rfl) (by decide) ?_
    exact k_L_change_569 a2 a3 post C0 hO hA hr s0 hv4 h _ _ _ hW hS (lv_sub hl [1, 0] rfl)
  have h := h.2 c69
  by_cases c78 : r4 = 8
  · have h := h.1 c78
    refine lv_tableIn (tgt := 569) hx hb dL_change_31 (by rw [c78]; decide) (by rw [c78]; decide) (off := 538) (by rw [c78]; rfl) (by decide) ?_
    exact k_L_change_569 a2 a3 post C0 hO hA hr s0 hv4 h _ _ _ hW hS (lv_sub hl [1, 0] rfl)
  have h := h.2 c78
  have hk79 : W p l e (irm 6 7 82) s m args below meth c H locs 0 0 (MQ below (qA G A post) args s 7 82 A) (F0 m 643 ls []) := by
    exact k_L_change_643 a2 a3 post C0 hO hA hr hv4 h _ _ _ hW hS (lv_sub hl [1, 2, 4] rfl)
  by_cases g1 : Int32.toInt r4 < 0
  · exact lv_tableOut (tgt := 643) hx hb dL_change_31 (Or.inl g1) (by decide) hk79
  by_cases g2 : 8 < Int32.toInt r4
  · exact lv_tableOut (tgt := 643) hx hb dL_change_31 (Or.inr g2) (by decide) hk79
  refine lv_tableIn (tgt := 643) hx hb dL_change_31 g1 g2 (off := 612) ?_ (by decide) hk79
  obtain ⟨j, hj, ej⟩ : ∃ j : Nat, j < 9 ∧ Int32.toInt r4 - 0 = (j : Int) := ⟨(Int32.toInt r4 - 0).toNat, by omega, by omega⟩
  have c5 := lv_neT c5 (a := 0) (by decide)
  have c19 := lv_neT c19 (a := 1) (by decide)
  have c20 := lv_neT c20 (a := 2) (by decide)
  have c30 := lv_neT c30 (a := 3) (by decide)
  have c42 := lv_neT c42 (a := 4) (by decide)
  have c48 := lv_neT c48 (a := 5) (by decide)
  have c60 := lv_neT c60 (a := 6) (by decide)
  have c69 := lv_neT c69 (a := 7) (by decide)
  have c78 := lv_neT c78 (a := 8) (by decide)
  rw [ej, Int.toNat_natCast]
  have key : ∀ j : Nat, j < 9 → (j = 0 ∨ j = 1 ∨ j = 2 ∨ j = 3 ∨ j = 4 ∨ j = 5 ∨ j = 6 ∨ j = 7 ∨ j = 8 ∨ (#[49, 49, 155, 240, 341, 374, 464, 538, 538] : Array Int)[j]? = some 612) := by decide +kernel
  rcases key j hj with g | g | g | g | g | g | g | g | g | g
  · omega
  · omega
  · omega
  · omega
  · omega
  · omega
  · omega
  · omega
  · omega
  · exact g
theorem pl_L_change : yL_change.cls ≠ "java/lang/invoke/MethodHandle" ∧ yL_change.cls ≠ "java/lang/invoke/VarHandle" ∧ (parseMethodDescriptor yL_change.desc).map (fun d => d.parameters.length) = some 4 := ⟨by decide +kernel, by decide +kernel, by decide +kernel⟩
def V_L_change (a2 : Int32) (a3 : Int32) (hv : HV) (post : Int32 → HV → Prop) : Prop := (V_X8_pumps hv (fun r1 hv1 => ((r1 = 0 → (V_L_change_23 a2 a3 post r1 0 hv1)) ∧ (¬ (r1 = 0) → (V_L_low (a2 >>> (5 &&& 31)) r1 hv1 (fun r3 hv3 => (V_L_change_23 a2 a3 post r1 r3 hv3)))))))
set_option maxHeartbeats 4000000 in
theorem c_L_change (l : Launch) (G : wG) (A : Nat → Prop) (a2 : Int32) (a3 : Int32) (hv : HV) (post : Int32 → HV → Prop) (h : V_L_change a2 a3 hv post) : Met l yL_change (wsy yL_change cL_change 9 ((Option.some FieldType.boolean))) (irm 6 7 82) (aPc G A hv [.ref (ad G 8 0), .ref (ad G 9 0), .int a2, .int a3]) (qA G A post) 7 82 A := by
  refine aM_of (by decide +kernel) (Nat.le_of_ble_eq_true rfl) ?_
  intro p e s m args below meth c C0 hr hO hA ls hl hW hS
  have hx := C0.1
  have hb := C0.2.1
  have hown := C0.2.2.2.1
  have hts := C0.2.2.2.2.1
  have hl : lv_has ls 9 [(0, .ref (ad G 8 0)), (1, .ref (ad G 9 0)), (2, .int a2), (3, .int a3)] := hl
  unfold V_L_change at h
  refine lv_aload_n hx hb dL_change_0 rfl (lv_at hl 0 rfl) ?_
  refine w_ci hS (w_runV (As := []) C0 hW 8 0 (by decide) (by decide) rfl rfl (c_X8_pumps l G A hv _ h) ⟨⟨w_319, w_6, w_322⟩, pl_X8_pumps, ⟨Nat.le_of_ble_eq_true rfl, Nat.le_of_ble_eq_true rfl⟩, ⟨Nat.zero_le _, Nat.zero_le _⟩⟩ ⟨w_320, w_321⟩ rfl hl.1 rfl (Nat.le_of_ble_eq_true rfl) dL_change_1) (fun r1 hv1 h H locs hW hS => ?_)
  refine lv_istore (lv' := [(4, .int r1), (0, .ref (ad G 8 0)), (1, .ref (ad G 9 0)), (2, .int a2), (3, .int a3)]) hx hb dL_change_4 hl (by decide) rfl (fun ls hl => ?_)
  refine lv_iload hx hb dL_change_6 (lv_at hl 0 rfl) ?_
  refine lv_if_ne (tgt := 15) hx hb dL_change_8 (by decide) (fun c2 => ?_) (fun c2 => ?_)
  · have h := h.2 c2
    refine lv_iload_n hx hb dL_change_15 rfl (lv_at hl 3 rfl) ?_
    refine lv_iconst (v := 5) hx hb dL_change_16 (by decide) ?_
    refine lv_ishr hx hb dL_change_17 ?_
    refine lv_iload hx hb dL_change_18 (lv_at hl 0 rfl) ?_
    refine w_ci hS (w_runS (As := [.int (a2 >>> (5 &&& 31)), .int r1]) C0 hW (c_L_low l G A (a2 >>> (5 &&& 31)) r1 hv1 _ h) ⟨⟨w_359, w_5, w_361⟩, pl_L_low, ⟨Nat.le_of_ble_eq_true rfl, Nat.le_of_ble_eq_true rfl⟩, ⟨Nat.zero_le _, Nat.zero_le _⟩⟩ w_360 rfl hl.1 rfl (Nat.le_of_ble_eq_true rfl) dL_change_20) (fun r3 hv3 h H locs hW hS => ?_)
    exact k_L_change_23 a2 a3 post C0 hO hA hr r1 r3 hv3 h _ _ _ hW hS (lv_sub hl [1, 2, 3, 4, 0] rfl)
  · have h := h.1 c2
    refine lv_iconst (v := 0) hx hb dL_change_11 (by decide) ?_
    refine lv_goto (tgt := 23) hx hb dL_change_12 (by decide) ?_
    exact k_L_change_23 a2 a3 post C0 hO hA hr r1 0 hv1 h _ _ _ hW hS (lv_sub hl [1, 2, 3, 4, 0] rfl)
