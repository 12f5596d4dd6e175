/-! Constructors: the small ones, a pump. -/
theorem pi_X0_init : yX0_init.cls ≠ "java/lang/invoke/MethodHandle" ∧ yX0_init.cls ≠ "java/lang/invoke/VarHandle" ∧ (parseMethodDescriptor yX0_init.desc).map (fun d => d.parameters.length) = some 0 := ⟨by decide +kernel, by decide +kernel, by decide +kernel⟩
set_option maxHeartbeats 4000000 in
set_option maxRecDepth 100000 in
theorem c_X0_init (l : Launch) (G : wG) (h0 sz : Nat) : iMt l yX0_init cX0_init 1 1 0 0 G h0 sz (.inr (0, [.int 0, .int 0, .int 0, .int 0, .int 0])) [.ref h0] (fun a => [(a 0 0 0, .inr (0, [.int 400, .int 40, .int 0, .int 0, .int 400]))]) := by
  refine iMt_of (by decide +kernel) rfl (Nat.le_of_ble_eq_true rfl) ?_
  intro p e s m args below meth c C0 hO hI hr ls hl hsz hP
  have hx := C0.1
  have hb := C0.2.1
  subst hsz
  have hA : ∀ q, s.heap.size ≤ q → iA h0 s.heap.size q := fun q h => Or.inr h
  have hS : va_S (iA h0 s.heap.size) s.heap s.heap [] := va_S.rf
  have hD : va_D (iA h0 s.heap.size) ([(h0, .inr (0, [.int 0, .int 0, .int 0, .int 0, .int 0]))] ++ []) := i_one
  have hP : va_P G.1 wcls ([(h0, .inr (0, [.int 0, .int 0, .int 0, .int 0, .int 0]))] ++ []) s.heap := hP
  have hl : lv_has ls 1 [(0, .ref h0)] := hl
  refine lv_aload_n hx hb dX0_init_0 rfl (lv_at hl 0 rfl) ?_
  refine i_obj C0 hl.1 w_43 w_23 w_24 (Nat.le_of_ble_eq_true rfl) (Nat.le_of_ble_eq_true rfl) dX0_init_1 ?_
  refine lv_aload_n hx hb dX0_init_4 rfl (lv_at hl 0 rfl) ?_
  refine lv_sipush (v := 400) hx hb dX0_init_5 (by decide) ?_
  refine i_put (v := .int 400) C0 hP hD hS 0 rfl rfl in_X0 tyX0_ok nmX0 0 (by decide) w_44 rfl rfl rfl (Nat.le_of_ble_eq_true rfl) dX0_init_8 (fun H locs hP hD hS => ?_)
  have hP : va_P G.1 wcls ([(h0, .inr (0, [.int 400, .int 0, .int 0, .int 0, .int 0]))] ++ []) H := hP
  have hD : va_D (iA h0 s.heap.size) ([(h0, .inr (0, [.int 400, .int 0, .int 0, .int 0, .int 0]))] ++ []) := hD
  refine lv_aload_n hx hb dX0_init_11 rfl (lv_at hl 0 rfl) ?_
  refine lv_bipush (v := 40) hx hb dX0_init_12 (by decide) ?_
  refine i_put (v := .int 40) C0 hP hD hS 0 rfl rfl in_X0 tyX0_ok nmX0 1 (by decide) w_45 rfl rfl rfl (Nat.le_of_ble_eq_true rfl) dX0_init_14 (fun H locs hP hD hS => ?_)
  have hP : va_P G.1 wcls ([(h0, .inr (0, [.int 400, .int 40, .int 0, .int 0, .int 0]))] ++ []) H := hP
  have hD : va_D (iA h0 s.heap.size) ([(h0, .inr (0, [.int 400, .int 40, .int 0, .int 0, .int 0]))] ++ []) := hD
  refine lv_aload_n hx hb dX0_init_17 rfl (lv_at hl 0 rfl) ?_
  refine lv_sipush (v := 400) hx hb dX0_init_18 (by decide) ?_
  refine i_put (v := .int 400) C0 hP hD hS 0 rfl rfl in_X0 tyX0_ok nmX0 4 (by decide) w_51 rfl rfl rfl (Nat.le_of_ble_eq_true rfl) dX0_init_21 (fun H locs hP hD hS => ?_)
  have hP : va_P G.1 wcls ([(h0, .inr (0, [.int 400, .int 40, .int 0, .int 0, .int 400]))] ++ []) H := hP
  have hD : va_D (iA h0 s.heap.size) ([(h0, .inr (0, [.int 400, .int 40, .int 0, .int 0, .int 400]))] ++ []) := hD
  exact i_ret (h0 := h0) (X := fun a => [(a 0 0 0, .inr (0, [.int 400, .int 40, .int 0, .int 0, .int 400]))]) (fun _ _ _ => h0) C0 hr rfl hP hD hS dX0_init_24
theorem pi_X2_init : yX2_init.cls ≠ "java/lang/invoke/MethodHandle" ∧ yX2_init.cls ≠ "java/lang/invoke/VarHandle" ∧ (parseMethodDescriptor yX2_init.desc).map (fun d => d.parameters.length) = some 0 := ⟨by decide +kernel, by decide +kernel, by decide +kernel⟩
set_option maxHeartbeats 4000000 in
set_option maxRecDepth 100000 in
theorem c_X2_init (l : Launch) (G : wG) (h0 sz : Nat) : iMt l yX2_init cX2_init 1 1 0 0 G h0 sz (.inr (2, [.int 0, .int 0, .int 0, .int 0, .int 0, .int 0])) [.ref h0] (fun a => [(a 0 0 0, .inr (2, [.int 0, .int 0, .int 0, .int 0, .int 0, .int 0]))]) := by
  refine iMt_of (by decide +kernel) rfl (Nat.le_of_ble_eq_true rfl) ?_
  intro p e s m args below meth c C0 hO hI hr ls hl hsz hP
  have hx := C0.1
  have hb := C0.2.1
  subst hsz
  have hA : ∀ q, s.heap.size ≤ q → iA h0 s.heap.size q := fun q h => Or.inr h
  have hS : va_S (iA h0 s.heap.size) s.heap s.heap [] := va_S.rf
  have hD : va_D (iA h0 s.heap.size) ([(h0, .inr (2, [.int 0, .int 0, .int 0, .int 0, .int 0, .int 0]))] ++ []) := i_one
  have hP : va_P G.1 wcls ([(h0, .inr (2, [.int 0, .int 0, .int 0, .int 0, .int 0, .int 0]))] ++ []) s.heap := hP
  have hl : lv_has ls 1 [(0, .ref h0)] := hl
  refine lv_aload_n hx hb dX2_init_0 rfl (lv_at hl 0 rfl) ?_
  refine i_obj C0 hl.1 w_69 w_23 w_24 (Nat.le_of_ble_eq_true rfl) (Nat.le_of_ble_eq_true rfl) dX2_init_1 ?_
  exact i_ret (h0 := h0) (X := fun a => [(a 0 0 0, .inr (2, [.int 0, .int 0, .int 0, .int 0, .int 0, .int 0]))]) (fun _ _ _ => h0) C0 hr rfl hP hD hS dX2_init_4
theorem pi_X5_init : yX5_init.cls ≠ "java/lang/invoke/MethodHandle" ∧ yX5_init.cls ≠ "java/lang/invoke/VarHandle" ∧ (parseMethodDescriptor yX5_init.desc).map (fun d => d.parameters.length) = some 0 := ⟨by decide +kernel, by decide +kernel, by decide +kernel⟩
set_option maxHeartbeats 4000000 in
set_option maxRecDepth 100000 in
theorem c_X5_init (l : Launch) (G : wG) (h0 sz : Nat) : iMt l yX5_init cX5_init 1 1 0 0 G h0 sz (.inr (5, [.int 0, .int 0, .int 0, .int 0, .int 0])) [.ref h0] (fun a => (reW (a 0 0))) := by
  refine iMt_of (by decide +kernel) rfl (Nat.le_of_ble_eq_true rfl) ?_
  intro p e s m args below meth c C0 hO hI hr ls hl hsz hP
  have hx := C0.1
  have hb := C0.2.1
  subst hsz
  have hA : ∀ q, s.heap.size ≤ q → iA h0 s.heap.size q := fun q h => Or.inr h
  have hS : va_S (iA h0 s.heap.size) s.heap s.heap [] := va_S.rf
  have hD : va_D (iA h0 s.heap.size) ([(h0, .inr (5, [.int 0, .int 0, .int 0, .int 0, .int 0]))] ++ []) := i_one
  have hP : va_P G.1 wcls ([(h0, .inr (5, [.int 0, .int 0, .int 0, .int 0, .int 0]))] ++ []) s.heap := hP
  have hl : lv_has ls 1 [(0, .ref h0)] := hl
  refine lv_aload_n hx hb dX5_init_0 rfl (lv_at hl 0 rfl) ?_
  refine i_obj C0 hl.1 w_255 w_23 w_24 (Nat.le_of_ble_eq_true rfl) (Nat.le_of_ble_eq_true rfl) dX5_init_1 ?_
  exact i_ret (h0 := h0) (X := fun a => (reW (a 0 0))) (fun _ _ _ => h0) C0 hr rfl hP hD hS dX5_init_4
theorem pi_X1_init : yX1_init.cls ≠ "java/lang/invoke/MethodHandle" ∧ yX1_init.cls ≠ "java/lang/invoke/VarHandle" ∧ (parseMethodDescriptor yX1_init.desc).map (fun d => d.parameters.length) = some 0 := ⟨by decide +kernel, by decide +kernel, by decide +kernel⟩
set_option maxHeartbeats 4000000 in
set_option maxRecDepth 100000 in
theorem c_X1_init (l : Launch) (G : wG) (h0 sz : Nat) : iMt l yX1_init cX1_init 1 1 1 40 G h0 sz (.inr (1, [.null, .int 0])) [.ref h0] (fun a => (teW G (a 0 0))) := by
  refine iMt_of (by decide +kernel) rfl (Nat.le_of_ble_eq_true rfl) ?_
  intro p e s m args below meth c C0 hO hI hr ls hl hsz hP
  have hx := C0.1
  have hb := C0.2.1
  subst hsz
  have hA : ∀ q, s.heap.size ≤ q → iA h0 s.heap.size q := fun q h => Or.inr h
  have hS : va_S (iA h0 s.heap.size) s.heap s.heap [] := va_S.rf
  have hD : va_D (iA h0 s.heap.size) ([(h0, .inr (1, [.null, .int 0]))] ++ []) := i_one
  have hP : va_P G.1 wcls ([(h0, .inr (1, [.null, .int 0]))] ++ []) s.heap := hP
  have hl : lv_has ls 1 [(0, .ref h0)] := hl
  refine lv_aload_n hx hb dX1_init_0 rfl (lv_at hl 0 rfl) ?_
  refine i_obj C0 hl.1 w_217 w_23 w_24 (Nat.le_of_ble_eq_true rfl) (Nat.le_of_ble_eq_true rfl) dX1_init_1 ?_
  refine lv_aload_n hx hb dX1_init_4 rfl (lv_at hl 0 rfl) ?_
  refine lv_bipush (v := 40) hx hb dX1_init_5 (by decide) ?_
  refine i_newa (atype := .char) (x := (40, .inl (fun _ => 0))) C0 hP hD hS hA rfl w_224 1 rfl (fun _ => rfl) (by decide) (by decide +kernel) (Nat.le_of_ble_eq_true rfl) (Nat.le_of_ble_eq_true rfl) (Nat.le_of_ble_eq_true rfl) dX1_init_7 (fun q1 H hP hD hS => ?_)
  refine W.widen (k := 1) (n := 40) (Nat.le_of_ble_eq_true rfl) (Nat.le_of_ble_eq_true rfl) ?_
  have hP : va_P G.1 wcls ([(h0, .inr (1, [.null, .int 0])), (q1, .inl (G.2.1 1, 40, .inl (fun _ => 0)))] ++ []) H := hP.swap
  have hD : va_D (iA h0 s.heap.size) ([(h0, .inr (1, [.null, .int 0])), (q1, .inl (G.2.1 1, 40, .inl (fun _ => 0)))] ++ []) := hD.swap
  refine i_putF (v := .ref q1) C0 hI hP hD hS 0 rfl rfl in_X1 tyX1_ok nmX1 0 (by decide) w_218 rfl rfl rfl rfl (Nat.le_of_ble_eq_true rfl) dX1_init_9 (fun H locs hP hD hS => ?_)
  have hP : va_P G.1 wcls ([(h0, .inr (1, [.ref q1, .int 0])), (q1, .inl (G.2.1 1, 40, .inl (fun _ => 0)))] ++ []) H := hP
  have hD : va_D (iA h0 s.heap.size) ([(h0, .inr (1, [.ref q1, .int 0])), (q1, .inl (G.2.1 1, 40, .inl (fun _ => 0)))] ++ []) := hD
  exact i_ret (h0 := h0) (X := fun a => (teW G (a 0 0))) (fun _ _ j => match j with | 0 => h0 | _ => q1) C0 hr rfl hP hD hS dX1_init_12
theorem pi_X6_init : yX6_init.cls ≠ "java/lang/invoke/MethodHandle" ∧ yX6_init.cls ≠ "java/lang/invoke/VarHandle" ∧ (parseMethodDescriptor yX6_init.desc).map (fun d => d.parameters.length) = some 1 := ⟨by decide +kernel, by decide +kernel, by decide +kernel⟩
set_option maxHeartbeats 4000000 in
set_option maxRecDepth 100000 in
theorem c_X6_init (l : Launch) (G : wG) (h0 sz : Nat) (n : Nat) (hn : 1 ≤ n ∧ n ≤ 32) : iMt l yX6_init cX6_init 2 1 1 n G h0 sz (.inr (6, [.null, .int 0, .int 0])) [.ref h0, .int (nI n)] (fun a => [(a 0 0 0, .inr (6, [.ref (a 0 0 1), .int 0, .int 0])), (a 0 0 1, .inl (G.2.1 0, n, .inl (fun _ => 0)))]) := by
  refine iMt_of (by decide +kernel) rfl (Nat.le_of_ble_eq_true rfl) ?_
  intro p e s m args below meth c C0 hO hI hr ls hl hsz hP
  have hx := C0.1
  have hb := C0.2.1
  subst hsz
  have hA : ∀ q, s.heap.size ≤ q → iA h0 s.heap.size q := fun q h => Or.inr h
  have hS : va_S (iA h0 s.heap.size) s.heap s.heap [] := va_S.rf
  have hD : va_D (iA h0 s.heap.size) ([(h0, .inr (6, [.null, .int 0, .int 0]))] ++ []) := i_one
  have hP : va_P G.1 wcls ([(h0, .inr (6, [.null, .int 0, .int 0]))] ++ []) s.heap := hP
  have hl : lv_has ls 2 [(0, .ref h0), (1, .int (nI n))] := hl
  refine lv_aload_n hx hb dX6_init_0 rfl (lv_at hl 0 rfl) ?_
  refine i_obj C0 hl.1 w_106 w_23 w_24 (Nat.le_of_ble_eq_true rfl) (Nat.le_of_ble_eq_true rfl) dX6_init_1 ?_
  refine lv_aload_n hx hb dX6_init_4 rfl (lv_at hl 0 rfl) ?_
  refine lv_iload_n hx hb dX6_init_5 rfl (lv_at hl 1 rfl) ?_
  refine lv_iconst (v := 1) hx hb dX6_init_6 (by decide) ?_
  refine w_max C0 hl.1 w_107 w_108 w_12 w_109 (Nat.le_of_ble_eq_true rfl) (Nat.le_of_ble_eq_true rfl) (Nat.zero_le _) (Nat.zero_le _) dX6_init_7 ?_
  refine w_top (show (if nI n < 1 then 1 else nI n) = nI n from if_neg (by rw [i_lt, i1, nI_toInt (by omega)]; omega)) ?_
  refine i_newa (atype := .int) (x := (n, .inl (fun _ => 0))) C0 hP hD hS hA rfl w_120 0 rfl (fun _ => rfl) (nI_pos (by omega)) (nI_clamp (by omega)) (by show n * 4 ≤ 536870912; omega) (Nat.le_of_ble_eq_true rfl) (show 0 + n ≤ n by omega) dX6_init_10 (fun q1 H hP hD hS => ?_)
  have hP : va_P G.1 wcls ([(h0, .inr (6, [.null, .int 0, .int 0])), (q1, .inl (G.2.1 0, n, .inl (fun _ => 0)))] ++ []) H := hP.swap
  have hD : va_D (iA h0 s.heap.size) ([(h0, .inr (6, [.null, .int 0, .int 0])), (q1, .inl (G.2.1 0, n, .inl (fun _ => 0)))] ++ []) := hD.swap
  refine i_putF (v := .ref q1) C0 hI hP hD hS 0 rfl rfl in_X6 tyX6_ok nmX6 0 (by decide) w_110 rfl rfl rfl rfl (Nat.le_of_ble_eq_true rfl) dX6_init_12 (fun H locs hP hD hS => ?_)
  have hP : va_P G.1 wcls ([(h0, .inr (6, [.ref q1, .int 0, .int 0])), (q1, .inl (G.2.1 0, n, .inl (fun _ => 0)))] ++ []) H := hP
  have hD : va_D (iA h0 s.heap.size) ([(h0, .inr (6, [.ref q1, .int 0, .int 0])), (q1, .inl (G.2.1 0, n, .inl (fun _ => 0)))] ++ []) := hD
  refine W.widen (k := 1) (n := n) (Nat.le_refl _) (show 0 + n ≤ n by omega) ?_
  exact i_ret (h0 := h0) (X := fun a => [(a 0 0 0, .inr (6, [.ref (a 0 0 1), .int 0, .int 0])), (a 0 0 1, .inl (G.2.1 0, n, .inl (fun _ => 0)))]) (fun _ _ j => match j with | 0 => h0 | _ => q1) C0 hr rfl hP hD hS dX6_init_15
theorem pi_X3_init : yX3_init.cls ≠ "java/lang/invoke/MethodHandle" ∧ yX3_init.cls ≠ "java/lang/invoke/VarHandle" ∧ (parseMethodDescriptor yX3_init.desc).map (fun d => d.parameters.length) = some 0 := ⟨by decide +kernel, by decide +kernel, by decide +kernel⟩
set_option maxHeartbeats 4000000 in
set_option maxRecDepth 100000 in
theorem c_X3_init (l : Launch) (G : wG) (h0 sz : Nat) : iMt l yX3_init cX3_init 1 2 6 69 G h0 sz (.inr (3, [.int 0, .null, .null, .null])) [.ref h0] (fun a => (loW G (a 0 0))) := by
  refine iMt_of (by decide +kernel) rfl (Nat.le_of_ble_eq_true rfl) ?_
  intro p e s m args below meth c C0 hO hI hr ls hl hsz hP
  have hx := C0.1
  have hb := C0.2.1
  subst hsz
  have hA : ∀ q, s.heap.size ≤ q → iA h0 s.heap.size q := fun q h => Or.inr h
  have hS : va_S (iA h0 s.heap.size) s.heap s.heap [] := va_S.rf
  have hD : va_D (iA h0 s.heap.size) ([(h0, .inr (3, [.int 0, .null, .null, .null]))] ++ []) := i_one
  have hP : va_P G.1 wcls ([(h0, .inr (3, [.int 0, .null, .null, .null]))] ++ []) s.heap := hP
  have hl : lv_has ls 1 [(0, .ref h0)] := hl
  refine lv_aload_n hx hb dX3_init_0 rfl (lv_at hl 0 rfl) ?_
  refine i_obj C0 hl.1 w_230 w_23 w_24 (Nat.le_of_ble_eq_true rfl) (Nat.le_of_ble_eq_true rfl) dX3_init_1 ?_
  refine lv_aload_n hx hb dX3_init_4 rfl (lv_at hl 0 rfl) ?_
  refine i_new (ci := 6) (fs := [.null, .int 0, .int 0]) C0 hP hD hS hA rfl in_X6 tyX6_ok w_231 w_102 w_11 (fun j hj => match j, hj with | 0, _ => rfl | 1, _ => rfl | 2, _ => rfl | j + 3, h => absurd h (by omega)) (Nat.le_of_ble_eq_true rfl) (Nat.le_of_ble_eq_true rfl) dX3_init_5 (fun q1 H hP hD hS => ?_)
  refine W.widen (k := 1) (n := 3) (Nat.le_of_ble_eq_true rfl) (Nat.le_of_ble_eq_true rfl) ?_
  refine lv_dup hx hb dX3_init_8 rfl ?_
  refine lv_bipush (v := 20) hx hb dX3_init_9 (by decide) ?_
  refine i_call hP hD hS hA (i_runI (As := [.int 20]) (rest := [.ref q1, .ref h0]) C0 hO hP (c_X6_init l G q1 _ 20 ⟨by omega, by omega⟩) ⟨⟨w_232, w_11, w_105⟩, pi_X6_init, ⟨(Nat.le_of_ble_eq_true rfl), (Nat.le_of_ble_eq_true rfl)⟩, ⟨(Nat.le_of_ble_eq_true rfl), (Nat.le_of_ble_eq_true rfl)⟩, rfl, w_104⟩ rfl hl.1 rfl (Nat.le_of_ble_eq_true rfl) dX3_init_11) (fun a1 H locs ha hP hD hS => ?_)
  rw [← ha]
  refine W.widen (k := 2) (n := 23) (Nat.le_of_ble_eq_true rfl) (Nat.le_of_ble_eq_true rfl) ?_
  have hP : va_P G.1 wcls ([(h0, .inr (3, [.int 0, .null, .null, .null]))] ++ ([] ++ [(a1 0 0 0, .inr (6, [.ref (a1 0 0 1), .int 0, .int 0])), (a1 0 0 1, .inl (G.2.1 0, 20, .inl (fun _ => 0)))])) H := i_aP hP
  have hD : va_D (iA h0 s.heap.size) ([(h0, .inr (3, [.int 0, .null, .null, .null]))] ++ ([] ++ [(a1 0 0 0, .inr (6, [.ref (a1 0 0 1), .int 0, .int 0])), (a1 0 0 1, .inl (G.2.1 0, 20, .inl (fun _ => 0)))])) := i_aD hD
  refine i_putF (v := .ref (a1 0 0 0)) C0 hI hP hD hS 0 rfl rfl in_X3 tyX3_ok nmX3 1 (by decide) w_235 rfl rfl rfl rfl (Nat.le_of_ble_eq_true rfl) dX3_init_14 (fun H locs hP hD hS => ?_)
  have hP : va_P G.1 wcls ([(h0, .inr (3, [.int 0, .ref (a1 0 0 0), .null, .null]))] ++ ([] ++ [(a1 0 0 0, .inr (6, [.ref (a1 0 0 1), .int 0, .int 0])), (a1 0 0 1, .inl (G.2.1 0, 20, .inl (fun _ => 0)))])) H := hP
  have hD : va_D (iA h0 s.heap.size) ([(h0, .inr (3, [.int 0, .ref (a1 0 0 0), .null, .null]))] ++ ([] ++ [(a1 0 0 0, .inr (6, [.ref (a1 0 0 1), .int 0, .int 0])), (a1 0 0 1, .inl (G.2.1 0, 20, .inl (fun _ => 0)))])) := hD
  refine lv_aload_n hx hb dX3_init_17 rfl (lv_at hl 0 rfl) ?_
  refine i_new (ci := 6) (fs := [.null, .int 0, .int 0]) C0 hP hD hS hA rfl in_X6 tyX6_ok w_231 w_102 w_11 (fun j hj => match j, hj with | 0, _ => rfl | 1, _ => rfl | 2, _ => rfl | j + 3, h => absurd h (by omega)) (Nat.le_of_ble_eq_true rfl) (Nat.le_of_ble_eq_true rfl) dX3_init_18 (fun q2 H hP hD hS => ?_)
  refine W.widen (k := 3) (n := 26) (Nat.le_of_ble_eq_true rfl) (Nat.le_of_ble_eq_true rfl) ?_
  refine lv_dup hx hb dX3_init_21 rfl ?_
  refine lv_bipush (v := 20) hx hb dX3_init_22 (by decide) ?_
  refine i_call hP hD hS hA (i_runI (As := [.int 20]) (rest := [.ref q2, .ref h0]) C0 hO hP (c_X6_init l G q2 _ 20 ⟨by omega, by omega⟩) ⟨⟨w_232, w_11, w_105⟩, pi_X6_init, ⟨(Nat.le_of_ble_eq_true rfl), (Nat.le_of_ble_eq_true rfl)⟩, ⟨(Nat.le_of_ble_eq_true rfl), (Nat.le_of_ble_eq_true rfl)⟩, rfl, w_104⟩ rfl hl.1 rfl (Nat.le_of_ble_eq_true rfl) dX3_init_24) (fun a2 H locs ha hP hD hS => ?_)
  rw [← ha]
  refine W.widen (k := 4) (n := 46) (Nat.le_of_ble_eq_true rfl) (Nat.le_of_ble_eq_true rfl) ?_
  have hP : va_P G.1 wcls ([(h0, .inr (3, [.int 0, .ref (a1 0 0 0), .null, .null]))] ++ (([] ++ [(a1 0 0 0, .inr (6, [.ref (a1 0 0 1), .int 0, .int 0])), (a1 0 0 1, .inl (G.2.1 0, 20, .inl (fun _ => 0)))]) ++ [(a2 0 0 0, .inr (6, [.ref (a2 0 0 1), .int 0, .int 0])), (a2 0 0 1, .inl (G.2.1 0, 20, .inl (fun _ => 0)))])) H := i_aP hP
  have hD : va_D (iA h0 s.heap.size) ([(h0, .inr (3, [.int 0, .ref (a1 0 0 0), .null, .null]))] ++ (([] ++ [(a1 0 0 0, .inr (6, [.ref (a1 0 0 1), .int 0, .int 0])), (a1 0 0 1, .inl (G.2.1 0, 20, .inl (fun _ => 0)))]) ++ [(a2 0 0 0, .inr (6, [.ref (a2 0 0 1), .int 0, .int 0])), (a2 0 0 1, .inl (G.2.1 0, 20, .inl (fun _ => 0)))])) := i_aD hD
  refine i_putF (v := .ref (a2 0 0 0)) C0 hI hP hD hS 0 rfl rfl in_X3 tyX3_ok nmX3 2 (by decide) w_237 rfl rfl rfl rfl (Nat.le_of_ble_eq_true rfl) dX3_init_27 (fun H locs hP hD hS => ?_)
  have hP : va_P G.1 wcls ([(h0, .inr (3, [.int 0, .ref (a1 0 0 0), .ref (a2 0 0 0), .null]))] ++ (([] ++ [(a1 0 0 0, .inr (6, [.ref (a1 0 0 1), .int 0, .int 0])), (a1 0 0 1, .inl (G.2.1 0, 20, .inl (fun _ => 0)))]) ++ [(a2 0 0 0, .inr (6, [.ref (a2 0 0 1), .int 0, .int 0])), (a2 0 0 1, .inl (G.2.1 0, 20, .inl (fun _ => 0)))])) H := hP
  have hD : va_D (iA h0 s.heap.size) ([(h0, .inr (3, [.int 0, .ref (a1 0 0 0), .ref (a2 0 0 0), .null]))] ++ (([] ++ [(a1 0 0 0, .inr (6, [.ref (a1 0 0 1), .int 0, .int 0])), (a1 0 0 1, .inl (G.2.1 0, 20, .inl (fun _ => 0)))]) ++ [(a2 0 0 0, .inr (6, [.ref (a2 0 0 1), .int 0, .int 0])), (a2 0 0 1, .inl (G.2.1 0, 20, .inl (fun _ => 0)))])) := hD
  refine lv_aload_n hx hb dX3_init_30 rfl (lv_at hl 0 rfl) ?_
  refine i_new (ci := 6) (fs := [.null, .int 0, .int 0]) C0 hP hD hS hA rfl in_X6 tyX6_ok w_231 w_102 w_11 (fun j hj => match j, hj with | 0, _ => rfl | 1, _ => rfl | 2, _ => rfl | j + 3, h => absurd h (by omega)) (Nat.le_of_ble_eq_true rfl) (Nat.le_of_ble_eq_true rfl) dX3_init_31 (fun q3 H hP hD hS => ?_)
  refine W.widen (k := 5) (n := 49) (Nat.le_of_ble_eq_true rfl) (Nat.le_of_ble_eq_true rfl) ?_
  refine lv_dup hx hb dX3_init_34 rfl ?_
  refine lv_bipush (v := 20) hx hb dX3_init_35 (by decide) ?_
  refine i_call hP hD hS hA (i_runI (As := [.int 20]) (rest := [.ref q3, .ref h0]) C0 hO hP (c_X6_init l G q3 _ 20 ⟨by omega, by omega⟩) ⟨⟨w_232, w_11, w_105⟩, pi_X6_init, ⟨(Nat.le_of_ble_eq_true rfl), (Nat.le_of_ble_eq_true rfl)⟩, ⟨(Nat.le_of_ble_eq_true rfl), (Nat.le_of_ble_eq_true rfl)⟩, rfl, w_104⟩ rfl hl.1 rfl (Nat.le_of_ble_eq_true rfl) dX3_init_37) (fun a3 H locs ha hP hD hS => ?_)
  rw [← ha]
  refine W.widen (k := 6) (n := 69) (Nat.le_of_ble_eq_true rfl) (Nat.le_of_ble_eq_true rfl) ?_
  have hP : va_P G.1 wcls ([(h0, .inr (3, [.int 0, .ref (a1 0 0 0), .ref (a2 0 0 0), .null]))] ++ ((([] ++ [(a1 0 0 0, .inr (6, [.ref (a1 0 0 1), .int 0, .int 0])), (a1 0 0 1, .inl (G.2.1 0, 20, .inl (fun _ => 0)))]) ++ [(a2 0 0 0, .inr (6, [.ref (a2 0 0 1), .int 0, .int 0])), (a2 0 0 1, .inl (G.2.1 0, 20, .inl (fun _ => 0)))]) ++ [(a3 0 0 0, .inr (6, [.ref (a3 0 0 1), .int 0, .int 0])), (a3 0 0 1, .inl (G.2.1 0, 20, .inl (fun _ => 0)))])) H := i_aP hP
  have hD : va_D (iA h0 s.heap.size) ([(h0, .inr (3, [.int 0, .ref (a1 0 0 0), .ref (a2 0 0 0), .null]))] ++ ((([] ++ [(a1 0 0 0, .inr (6, [.ref (a1 0 0 1), .int 0, .int 0])), (a1 0 0 1, .inl (G.2.1 0, 20, .inl (fun _ => 0)))]) ++ [(a2 0 0 0, .inr (6, [.ref (a2 0 0 1), .int 0, .int 0])), (a2 0 0 1, .inl (G.2.1 0, 20, .inl (fun _ => 0)))]) ++ [(a3 0 0 0, .inr (6, [.ref (a3 0 0 1), .int 0, .int 0])), (a3 0 0 1, .inl (G.2.1 0, 20, .inl (fun _ => 0)))])) := i_aD hD
  refine i_putF (v := .ref (a3 0 0 0)) C0 hI hP hD hS 0 rfl rfl in_X3 tyX3_ok nmX3 3 (by decide) w_239 rfl rfl rfl rfl (Nat.le_of_ble_eq_true rfl) dX3_init_40 (fun H locs hP hD hS => ?_)
  have hP : va_P G.1 wcls ([(h0, .inr (3, [.int 0, .ref (a1 0 0 0), .ref (a2 0 0 0), .ref (a3 0 0 0)]))] ++ ((([] ++ [(a1 0 0 0, .inr (6, [.ref (a1 0 0 1), .int 0, .int 0])), (a1 0 0 1, .inl (G.2.1 0, 20, .inl (fun _ => 0)))]) ++ [(a2 0 0 0, .inr (6, [.ref (a2 0 0 1), .int 0, .int 0])), (a2 0 0 1, .inl (G.2.1 0, 20, .inl (fun _ => 0)))]) ++ [(a3 0 0 0, .inr (6, [.ref (a3 0 0 1), .int 0, .int 0])), (a3 0 0 1, .inl (G.2.1 0, 20, .inl (fun _ => 0)))])) H := hP
  have hD : va_D (iA h0 s.heap.size) ([(h0, .inr (3, [.int 0, .ref (a1 0 0 0), .ref (a2 0 0 0), .ref (a3 0 0 0)]))] ++ ((([] ++ [(a1 0 0 0, .inr (6, [.ref (a1 0 0 1), .int 0, .int 0])), (a1 0 0 1, .inl (G.2.1 0, 20, .inl (fun _ => 0)))]) ++ [(a2 0 0 0, .inr (6, [.ref (a2 0 0 1), .int 0, .int 0])), (a2 0 0 1, .inl (G.2.1 0, 20, .inl (fun _ => 0)))]) ++ [(a3 0 0 0, .inr (6, [.ref (a3 0 0 1), .int 0, .int 0])), (a3 0 0 1, .inl (G.2.1 0, 20, .inl (fun _ => 0)))])) := hD
  simp only [List.nil_append, List.append_assoc] at hP hD
  exact i_ret (h0 := h0) (X := fun a => (loW G (a 0 0))) (fun _ _ j => match j with | 0 => h0 | 1 => a1 0 0 0 | 2 => a1 0 0 1 | 3 => a2 0 0 0 | 4 => a2 0 0 1 | 5 => a3 0 0 0 | _ => a3 0 0 1) C0 hr rfl hP hD hS dX3_init_43
theorem pi_X4_init : yX4_init.cls ≠ "java/lang/invoke/MethodHandle" ∧ yX4_init.cls ≠ "java/lang/invoke/VarHandle" ∧ (parseMethodDescriptor yX4_init.desc).map (fun d => d.parameters.length) = some 5 := ⟨by decide +kernel, by decide +kernel, by decide +kernel⟩
set_option maxHeartbeats 4000000 in
set_option maxRecDepth 100000 in
theorem c_X4_init (l : Launch) (G : wG) (h0 sz : Nat) (x0 x1 x2 x3 x4 : Int32) : iMt l yX4_init cX4_init 6 2 6 65 G h0 sz (.inr (4, [.int 0, .int 0, .int 0, .int 0, .int 0, .int 0, .int 0, .int 0, .int 0, .int 0, .int 0, .int 0, .int 0, .null, .null, .null, .null])) [.ref h0, .int x0, .int x1, .int x2, .int x3, .int x4] (fun a => (puW G x0 x1 x2 x3 x4 (a 0 0))) := by
  refine iMt_of (by decide +kernel) rfl (Nat.le_of_ble_eq_true rfl) ?_
  intro p e s m args below meth c C0 hO hI hr ls hl hsz hP
  have hx := C0.1
  have hb := C0.2.1
  subst hsz
  have hA : ∀ q, s.heap.size ≤ q → iA h0 s.heap.size q := fun q h => Or.inr h
  have hS : va_S (iA h0 s.heap.size) s.heap s.heap [] := va_S.rf
  have hD : va_D (iA h0 s.heap.size) ([(h0, .inr (4, [.int 0, .int 0, .int 0, .int 0, .int 0, .int 0, .int 0, .int 0, .int 0, .int 0, .int 0, .int 0, .int 0, .null, .null, .null, .null]))] ++ []) := i_one
  have hP : va_P G.1 wcls ([(h0, .inr (4, [.int 0, .int 0, .int 0, .int 0, .int 0, .int 0, .int 0, .int 0, .int 0, .int 0, .int 0, .int 0, .int 0, .null, .null, .null, .null]))] ++ []) s.heap := hP
  have hl : lv_has ls 6 [(0, .ref h0), (1, .int x0), (2, .int x1), (3, .int x2), (4, .int x3), (5, .int x4)] := hl
  refine lv_aload_n hx hb dX4_init_0 rfl (lv_at hl 0 rfl) ?_
  refine i_obj C0 hl.1 w_37 w_23 w_24 (Nat.le_of_ble_eq_true rfl) (Nat.le_of_ble_eq_true rfl) dX4_init_1 ?_
  refine lv_aload_n hx hb dX4_init_4 rfl (lv_at hl 0 rfl) ?_
  refine lv_bipush (v := 60) hx hb dX4_init_5 (by decide) ?_
  refine i_put (v := .int 60) C0 hP hD hS 0 rfl rfl in_X4 tyX4_ok nmX4 10 (by decide) w_137 rfl rfl rfl (Nat.le_of_ble_eq_true rfl) dX4_init_7 (fun H locs hP hD hS => ?_)
  have hP : va_P G.1 wcls ([(h0, .inr (4, [.int 0, .int 0, .int 0, .int 0, .int 0, .int 0, .int 0, .int 0, .int 0, .int 0, .int 60, .int 0, .int 0, .null, .null, .null, .null]))] ++ []) H := hP
  have hD : va_D (iA h0 s.heap.size) ([(h0, .inr (4, [.int 0, .int 0, .int 0, .int 0, .int 0, .int 0, .int 0, .int 0, .int 0, .int 0, .int 60, .int 0, .int 0, .null, .null, .null, .null]))] ++ []) := hD
  refine lv_aload_n hx hb dX4_init_10 rfl (lv_at hl 0 rfl) ?_
  refine i_new (ci := 0) (fs := [.int 0, .int 0, .int 0, .int 0, .int 0]) C0 hP hD hS hA rfl in_X0 tyX0_ok w_38 w_39 w_9 (fun j hj => match j, hj with | 0, _ => rfl | 1, _ => rfl | 2, _ => rfl | 3, _ => rfl | 4, _ => rfl | j + 5, h => absurd h (by omega)) (Nat.le_of_ble_eq_true rfl) (Nat.le_of_ble_eq_true rfl) dX4_init_11 (fun q1 H hP hD hS => ?_)
  refine W.widen (k := 1) (n := 5) (Nat.le_of_ble_eq_true rfl) (Nat.le_of_ble_eq_true rfl) ?_
  refine lv_dup hx hb dX4_init_14 rfl ?_
  refine i_call hP hD hS hA (i_runN (As := []) (rest := [.ref q1, .ref h0]) C0 hO hP (c_X0_init l G q1 _) (C0.2.2.2.2.2.1.2.2.2.1) ⟨⟨w_9, w_42⟩, pi_X0_init, ⟨(Nat.le_of_ble_eq_true rfl), (Nat.le_of_ble_eq_true rfl)⟩, ⟨(Nat.le_of_ble_eq_true rfl), (Nat.le_of_ble_eq_true rfl)⟩, rfl, w_41⟩ rfl hl.1 rfl (Nat.le_of_ble_eq_true rfl) dX4_init_15) (fun a1 H locs ha hP hD hS => ?_)
  rw [← ha]
  refine W.widen (k := 1) (n := 5) (Nat.le_of_ble_eq_true rfl) (Nat.le_of_ble_eq_true rfl) ?_
  have hP : va_P G.1 wcls ([(h0, .inr (4, [.int 0, .int 0, .int 0, .int 0, .int 0, .int 0, .int 0, .int 0, .int 0, .int 0, .int 60, .int 0, .int 0, .null, .null, .null, .null]))] ++ ([] ++ [(a1 0 0 0, .inr (0, [.int 400, .int 40, .int 0, .int 0, .int 400]))])) H := i_aP hP
  have hD : va_D (iA h0 s.heap.size) ([(h0, .inr (4, [.int 0, .int 0, .int 0, .int 0, .int 0, .int 0, .int 0, .int 0, .int 0, .int 0, .int 60, .int 0, .int 0, .null, .null, .null, .null]))] ++ ([] ++ [(a1 0 0 0, .inr (0, [.int 400, .int 40, .int 0, .int 0, .int 400]))])) := i_aD hD
  refine i_putF (v := .ref (a1 0 0 0)) C0 hI hP hD hS 0 rfl rfl in_X4 tyX4_ok nmX4 13 (by decide) w_143 rfl rfl rfl rfl (Nat.le_of_ble_eq_true rfl) dX4_init_18 (fun H locs hP hD hS => ?_)
  have hP : va_P G.1 wcls ([(h0, .inr (4, [.int 0, .int 0, .int 0, .int 0, .int 0, .int 0, .int 0, .int 0, .int 0, .int 0, .int 60, .int 0, .int 0, .ref (a1 0 0 0), .null, .null, .null]))] ++ ([] ++ [(a1 0 0 0, .inr (0, [.int 400, .int 40, .int 0, .int 0, .int 400]))])) H := hP
  have hD : va_D (iA h0 s.heap.size) ([(h0, .inr (4, [.int 0, .int 0, .int 0, .int 0, .int 0, .int 0, .int 0, .int 0, .int 0, .int 0, .int 60, .int 0, .int 0, .ref (a1 0 0 0), .null, .null, .null]))] ++ ([] ++ [(a1 0 0 0, .inr (0, [.int 400, .int 40, .int 0, .int 0, .int 400]))])) := hD
  refine lv_aload_n hx hb dX4_init_21 rfl (lv_at hl 0 rfl) ?_
  refine i_new (ci := 2) (fs := [.int 0, .int 0, .int 0, .int 0, .int 0, .int 0]) C0 hP hD hS hA rfl in_X2 tyX2_ok w_64 w_65 w_10 (fun j hj => match j, hj with | 0, _ => rfl | 1, _ => rfl | 2, _ => rfl | 3, _ => rfl | 4, _ => rfl | 5, _ => rfl | j + 6, h => absurd h (by omega)) (Nat.le_of_ble_eq_true rfl) (Nat.le_of_ble_eq_true rfl) dX4_init_22 (fun q2 H hP hD hS => ?_)
  refine W.widen (k := 2) (n := 11) (Nat.le_of_ble_eq_true rfl) (Nat.le_of_ble_eq_true rfl) ?_
  refine lv_dup hx hb dX4_init_25 rfl ?_
  refine i_call hP hD hS hA (i_runN (As := []) (rest := [.ref q2, .ref h0]) C0 hO hP (c_X2_init l G q2 _) (C0.2.2.2.2.2.1.2.2.2.2.1) ⟨⟨w_10, w_68⟩, pi_X2_init, ⟨(Nat.le_of_ble_eq_true rfl), (Nat.le_of_ble_eq_true rfl)⟩, ⟨(Nat.le_of_ble_eq_true rfl), (Nat.le_of_ble_eq_true rfl)⟩, rfl, w_67⟩ rfl hl.1 rfl (Nat.le_of_ble_eq_true rfl) dX4_init_26) (fun a2 H locs ha hP hD hS => ?_)
  rw [← ha]
  refine W.widen (k := 2) (n := 11) (Nat.le_of_ble_eq_true rfl) (Nat.le_of_ble_eq_true rfl) ?_
  have hP : va_P G.1 wcls ([(h0, .inr (4, [.int 0, .int 0, .int 0, .int 0, .int 0, .int 0, .int 0, .int 0, .int 0, .int 0, .int 60, .int 0, .int 0, .ref (a1 0 0 0), .null, .null, .null]))] ++ (([] ++ [(a1 0 0 0, .inr (0, [.int 400, .int 40, .int 0, .int 0, .int 400]))]) ++ [(a2 0 0 0, .inr (2, [.int 0, .int 0, .int 0, .int 0, .int 0, .int 0]))])) H := i_aP hP
  have hD : va_D (iA h0 s.heap.size) ([(h0, .inr (4, [.int 0, .int 0, .int 0, .int 0, .int 0, .int 0, .int 0, .int 0, .int 0, .int 0, .int 60, .int 0, .int 0, .ref (a1 0 0 0), .null, .null, .null]))] ++ (([] ++ [(a1 0 0 0, .inr (0, [.int 400, .int 40, .int 0, .int 0, .int 400]))]) ++ [(a2 0 0 0, .inr (2, [.int 0, .int 0, .int 0, .int 0, .int 0, .int 0]))])) := i_aD hD
  refine i_putF (v := .ref (a2 0 0 0)) C0 hI hP hD hS 0 rfl rfl in_X4 tyX4_ok nmX4 14 (by decide) w_145 rfl rfl rfl rfl (Nat.le_of_ble_eq_true rfl) dX4_init_29 (fun H locs hP hD hS => ?_)
  have hP : va_P G.1 wcls ([(h0, .inr (4, [.int 0, .int 0, .int 0, .int 0, .int 0, .int 0, .int 0, .int 0, .int 0, .int 0, .int 60, .int 0, .int 0, .ref (a1 0 0 0), .ref (a2 0 0 0), .null, .null]))] ++ (([] ++ [(a1 0 0 0, .inr (0, [.int 400, .int 40, .int 0, .int 0, .int 400]))]) ++ [(a2 0 0 0, .inr (2, [.int 0, .int 0, .int 0, .int 0, .int 0, .int 0]))])) H := hP
  have hD : va_D (iA h0 s.heap.size) ([(h0, .inr (4, [.int 0, .int 0, .int 0, .int 0, .int 0, .int 0, .int 0, .int 0, .int 0, .int 0, .int 60, .int 0, .int 0, .ref (a1 0 0 0), .ref (a2 0 0 0), .null, .null]))] ++ (([] ++ [(a1 0 0 0, .inr (0, [.int 400, .int 40, .int 0, .int 0, .int 400]))]) ++ [(a2 0 0 0, .inr (2, [.int 0, .int 0, .int 0, .int 0, .int 0, .int 0]))])) := hD
  refine lv_aload_n hx hb dX4_init_32 rfl (lv_at hl 0 rfl) ?_
  refine i_new (ci := 6) (fs := [.null, .int 0, .int 0]) C0 hP hD hS hA rfl in_X6 tyX6_ok w_101 w_102 w_11 (fun j hj => match j, hj with | 0, _ => rfl | 1, _ => rfl | 2, _ => rfl | j + 3, h => absurd h (by omega)) (Nat.le_of_ble_eq_true rfl) (Nat.le_of_ble_eq_true rfl) dX4_init_33 (fun q3 H hP hD hS => ?_)
  refine W.widen (k := 3) (n := 14) (Nat.le_of_ble_eq_true rfl) (Nat.le_of_ble_eq_true rfl) ?_
  refine lv_dup hx hb dX4_init_36 rfl ?_
  refine lv_bipush (v := 16) hx hb dX4_init_37 (by decide) ?_
  refine i_call hP hD hS hA (i_runI (As := [.int 16]) (rest := [.ref q3, .ref h0]) C0 hO hP (c_X6_init l G q3 _ 16 ⟨by omega, by omega⟩) ⟨⟨w_103, w_11, w_105⟩, pi_X6_init, ⟨(Nat.le_of_ble_eq_true rfl), (Nat.le_of_ble_eq_true rfl)⟩, ⟨(Nat.le_of_ble_eq_true rfl), (Nat.le_of_ble_eq_true rfl)⟩, rfl, w_104⟩ rfl hl.1 rfl (Nat.le_of_ble_eq_true rfl) dX4_init_39) (fun a3 H locs ha hP hD hS => ?_)
  rw [← ha]
  refine W.widen (k := 4) (n := 30) (Nat.le_of_ble_eq_true rfl) (Nat.le_of_ble_eq_true rfl) ?_
  have hP : va_P G.1 wcls ([(h0, .inr (4, [.int 0, .int 0, .int 0, .int 0, .int 0, .int 0, .int 0, .int 0, .int 0, .int 0, .int 60, .int 0, .int 0, .ref (a1 0 0 0), .ref (a2 0 0 0), .null, .null]))] ++ ((([] ++ [(a1 0 0 0, .inr (0, [.int 400, .int 40, .int 0, .int 0, .int 400]))]) ++ [(a2 0 0 0, .inr (2, [.int 0, .int 0, .int 0, .int 0, .int 0, .int 0]))]) ++ [(a3 0 0 0, .inr (6, [.ref (a3 0 0 1), .int 0, .int 0])), (a3 0 0 1, .inl (G.2.1 0, 16, .inl (fun _ => 0)))])) H := i_aP hP
  have hD : va_D (iA h0 s.heap.size) ([(h0, .inr (4, [.int 0, .int 0, .int 0, .int 0, .int 0, .int 0, .int 0, .int 0, .int 0, .int 0, .int 60, .int 0, .int 0, .ref (a1 0 0 0), .ref (a2 0 0 0), .null, .null]))] ++ ((([] ++ [(a1 0 0 0, .inr (0, [.int 400, .int 40, .int 0, .int 0, .int 400]))]) ++ [(a2 0 0 0, .inr (2, [.int 0, .int 0, .int 0, .int 0, .int 0, .int 0]))]) ++ [(a3 0 0 0, .inr (6, [.ref (a3 0 0 1), .int 0, .int 0])), (a3 0 0 1, .inl (G.2.1 0, 16, .inl (fun _ => 0)))])) := i_aD hD
  refine i_putF (v := .ref (a3 0 0 0)) C0 hI hP hD hS 0 rfl rfl in_X4 tyX4_ok nmX4 15 (by decide) w_147 rfl rfl rfl rfl (Nat.le_of_ble_eq_true rfl) dX4_init_42 (fun H locs hP hD hS => ?_)
  have hP : va_P G.1 wcls ([(h0, .inr (4, [.int 0, .int 0, .int 0, .int 0, .int 0, .int 0, .int 0, .int 0, .int 0, .int 0, .int 60, .int 0, .int 0, .ref (a1 0 0 0), .ref (a2 0 0 0), .ref (a3 0 0 0), .null]))] ++ ((([] ++ [(a1 0 0 0, .inr (0, [.int 400, .int 40, .int 0, .int 0, .int 400]))]) ++ [(a2 0 0 0, .inr (2, [.int 0, .int 0, .int 0, .int 0, .int 0, .int 0]))]) ++ [(a3 0 0 0, .inr (6, [.ref (a3 0 0 1), .int 0, .int 0])), (a3 0 0 1, .inl (G.2.1 0, 16, .inl (fun _ => 0)))])) H := hP
  have hD : va_D (iA h0 s.heap.size) ([(h0, .inr (4, [.int 0, .int 0, .int 0, .int 0, .int 0, .int 0, .int 0, .int 0, .int 0, .int 0, .int 60, .int 0, .int 0, .ref (a1 0 0 0), .ref (a2 0 0 0), .ref (a3 0 0 0), .null]))] ++ ((([] ++ [(a1 0 0 0, .inr (0, [.int 400, .int 40, .int 0, .int 0, .int 400]))]) ++ [(a2 0 0 0, .inr (2, [.int 0, .int 0, .int 0, .int 0, .int 0, .int 0]))]) ++ [(a3 0 0 0, .inr (6, [.ref (a3 0 0 1), .int 0, .int 0])), (a3 0 0 1, .inl (G.2.1 0, 16, .inl (fun _ => 0)))])) := hD
  refine lv_aload_n hx hb dX4_init_45 rfl (lv_at hl 0 rfl) ?_
  refine i_new (ci := 6) (fs := [.null, .int 0, .int 0]) C0 hP hD hS hA rfl in_X6 tyX6_ok w_101 w_102 w_11 (fun j hj => match j, hj with | 0, _ => rfl | 1, _ => rfl | 2, _ => rfl | j + 3, h => absurd h (by omega)) (Nat.le_of_ble_eq_true rfl) (Nat.le_of_ble_eq_true rfl) dX4_init_46 (fun q4 H hP hD hS => ?_)
  refine W.widen (k := 5) (n := 33) (Nat.le_of_ble_eq_true rfl) (Nat.le_of_ble_eq_true rfl) ?_
  refine lv_dup hx hb dX4_init_49 rfl ?_
  refine lv_bipush (v := 32) hx hb dX4_init_50 (by decide) ?_
  refine i_call hP hD hS hA (i_runI (As := [.int 32]) (rest := [.ref q4, .ref h0]) C0 hO hP (c_X6_init l G q4 _ 32 ⟨by omega, by omega⟩) ⟨⟨w_103, w_11, w_105⟩, pi_X6_init, ⟨(Nat.le_of_ble_eq_true rfl), (Nat.le_of_ble_eq_true rfl)⟩, ⟨(Nat.le_of_ble_eq_true rfl), (Nat.le_of_ble_eq_true rfl)⟩, rfl, w_104⟩ rfl hl.1 rfl (Nat.le_of_ble_eq_true rfl) dX4_init_52) (fun a4 H locs ha hP hD hS => ?_)
  rw [← ha]
  refine W.widen (k := 6) (n := 65) (Nat.le_of_ble_eq_true rfl) (Nat.le_of_ble_eq_true rfl) ?_
  have hP : va_P G.1 wcls ([(h0, .inr (4, [.int 0, .int 0, .int 0, .int 0, .int 0, .int 0, .int 0, .int 0, .int 0, .int 0, .int 60, .int 0, .int 0, .ref (a1 0 0 0), .ref (a2 0 0 0), .ref (a3 0 0 0), .null]))] ++ (((([] ++ [(a1 0 0 0, .inr (0, [.int 400, .int 40, .int 0, .int 0, .int 400]))]) ++ [(a2 0 0 0, .inr (2, [.int 0, .int 0, .int 0, .int 0, .int 0, .int 0]))]) ++ [(a3 0 0 0, .inr (6, [.ref (a3 0 0 1), .int 0, .int 0])), (a3 0 0 1, .inl (G.2.1 0, 16, .inl (fun _ => 0)))]) ++ [(a4 0 0 0, .inr (6, [.ref (a4 0 0 1), .int 0, .int 0])), (a4 0 0 1, .inl (G.2.1 0, 32, .inl (fun _ => 0)))])) H := i_aP hP
  have hD : va_D (iA h0 s.heap.size) ([(h0, .inr (4, [.int 0, .int 0, .int 0, .int 0, .int 0, .int 0, .int 0, .int 0, .int 0, .int 0, .int 60, .int 0, .int 0, .ref (a1 0 0 0), .ref (a2 0 0 0), .ref (a3 0 0 0), .null]))] ++ (((([] ++ [(a1 0 0 0, .inr (0, [.int 400, .int 40, .int 0, .int 0, .int 400]))]) ++ [(a2 0 0 0, .inr (2, [.int 0, .int 0, .int 0, .int 0, .int 0, .int 0]))]) ++ [(a3 0 0 0, .inr (6, [.ref (a3 0 0 1), .int 0, .int 0])), (a3 0 0 1, .inl (G.2.1 0, 16, .inl (fun _ => 0)))]) ++ [(a4 0 0 0, .inr (6, [.ref (a4 0 0 1), .int 0, .int 0])), (a4 0 0 1, .inl (G.2.1 0, 32, .inl (fun _ => 0)))])) := i_aD hD
  refine i_putF (v := .ref (a4 0 0 0)) C0 hI hP hD hS 0 rfl rfl in_X4 tyX4_ok nmX4 16 (by decide) w_149 rfl rfl rfl rfl (Nat.le_of_ble_eq_true rfl) dX4_init_55 (fun H locs hP hD hS => ?_)
  have hP : va_P G.1 wcls ([(h0, .inr (4, [.int 0, .int 0, .int 0, .int 0, .int 0, .int 0, .int 0, .int 0, .int 0, .int 0, .int 60, .int 0, .int 0, .ref (a1 0 0 0), .ref (a2 0 0 0), .ref (a3 0 0 0), .ref (a4 0 0 0)]))] ++ (((([] ++ [(a1 0 0 0, .inr (0, [.int 400, .int 40, .int 0, .int 0, .int 400]))]) ++ [(a2 0 0 0, .inr (2, [.int 0, .int 0, .int 0, .int 0, .int 0, .int 0]))]) ++ [(a3 0 0 0, .inr (6, [.ref (a3 0 0 1), .int 0, .int 0])), (a3 0 0 1, .inl (G.2.1 0, 16, .inl (fun _ => 0)))]) ++ [(a4 0 0 0, .inr (6, [.ref (a4 0 0 1), .int 0, .int 0])), (a4 0 0 1, .inl (G.2.1 0, 32, .inl (fun _ => 0)))])) H := hP
  have hD : va_D (iA h0 s.heap.size) ([(h0, .inr (4, [.int 0, .int 0, .int 0, .int 0, .int 0, .int 0, .int 0, .int 0, .int 0, .int 0, .int 60, .int 0, .int 0, .ref (a1 0 0 0), .ref (a2 0 0 0), .ref (a3 0 0 0), .ref (a4 0 0 0)]))] ++ (((([] ++ [(a1 0 0 0, .inr (0, [.int 400, .int 40, .int 0, .int 0, .int 400]))]) ++ [(a2 0 0 0, .inr (2, [.int 0, .int 0, .int 0, .int 0, .int 0, .int 0]))]) ++ [(a3 0 0 0, .inr (6, [.ref (a3 0 0 1), .int 0, .int 0])), (a3 0 0 1, .inl (G.2.1 0, 16, .inl (fun _ => 0)))]) ++ [(a4 0 0 0, .inr (6, [.ref (a4 0 0 1), .int 0, .int 0])), (a4 0 0 1, .inl (G.2.1 0, 32, .inl (fun _ => 0)))])) := hD
  refine lv_aload_n hx hb dX4_init_58 rfl (lv_at hl 0 rfl) ?_
  refine lv_iload_n hx hb dX4_init_59 rfl (lv_at hl 1 rfl) ?_
  refine i_put (v := .int x0) C0 hP hD hS 0 rfl rfl in_X4 tyX4_ok nmX4 0 (by decide) w_121 rfl rfl rfl (Nat.le_of_ble_eq_true rfl) dX4_init_60 (fun H locs hP hD hS => ?_)
  have hP : va_P G.1 wcls ([(h0, .inr (4, [.int x0, .int 0, .int 0, .int 0, .int 0, .int 0, .int 0, .int 0, .int 0, .int 0, .int 60, .int 0, .int 0, .ref (a1 0 0 0), .ref (a2 0 0 0), .ref (a3 0 0 0), .ref (a4 0 0 0)]))] ++ (((([] ++ [(a1 0 0 0, .inr (0, [.int 400, .int 40, .int 0, .int 0, .int 400]))]) ++ [(a2 0 0 0, .inr (2, [.int 0, .int 0, .int 0, .int 0, .int 0, .int 0]))]) ++ [(a3 0 0 0, .inr (6, [.ref (a3 0 0 1), .int 0, .int 0])), (a3 0 0 1, .inl (G.2.1 0, 16, .inl (fun _ => 0)))]) ++ [(a4 0 0 0, .inr (6, [.ref (a4 0 0 1), .int 0, .int 0])), (a4 0 0 1, .inl (G.2.1 0, 32, .inl (fun _ => 0)))])) H := hP
  have hD : va_D (iA h0 s.heap.size) ([(h0, .inr (4, [.int x0, .int 0, .int 0, .int 0, .int 0, .int 0, .int 0, .int 0, .int 0, .int 0, .int 60, .int 0, .int 0, .ref (a1 0 0 0), .ref (a2 0 0 0), .ref (a3 0 0 0), .ref (a4 0 0 0)]))] ++ (((([] ++ [(a1 0 0 0, .inr (0, [.int 400, .int 40, .int 0, .int 0, .int 400]))]) ++ [(a2 0 0 0, .inr (2, [.int 0, .int 0, .int 0, .int 0, .int 0, .int 0]))]) ++ [(a3 0 0 0, .inr (6, [.ref (a3 0 0 1), .int 0, .int 0])), (a3 0 0 1, .inl (G.2.1 0, 16, .inl (fun _ => 0)))]) ++ [(a4 0 0 0, .inr (6, [.ref (a4 0 0 1), .int 0, .int 0])), (a4 0 0 1, .inl (G.2.1 0, 32, .inl (fun _ => 0)))])) := hD
  refine lv_aload_n hx hb dX4_init_63 rfl (lv_at hl 0 rfl) ?_
  refine lv_iload_n hx hb dX4_init_64 rfl (lv_at hl 2 rfl) ?_
  refine i_put (v := .int x1) C0 hP hD hS 0 rfl rfl in_X4 tyX4_ok nmX4 1 (by decide) w_122 rfl rfl rfl (Nat.le_of_ble_eq_true rfl) dX4_init_65 (fun H locs hP hD hS => ?_)
  have hP : va_P G.1 wcls ([(h0, .inr (4, [.int x0, .int x1, .int 0, .int 0, .int 0, .int 0, .int 0, .int 0, .int 0, .int 0, .int 60, .int 0, .int 0, .ref (a1 0 0 0), .ref (a2 0 0 0), .ref (a3 0 0 0), .ref (a4 0 0 0)]))] ++ (((([] ++ [(a1 0 0 0, .inr (0, [.int 400, .int 40, .int 0, .int 0, .int 400]))]) ++ [(a2 0 0 0, .inr (2, [.int 0, .int 0, .int 0, .int 0, .int 0, .int 0]))]) ++ [(a3 0 0 0, .inr (6, [.ref (a3 0 0 1), .int 0, .int 0])), (a3 0 0 1, .inl (G.2.1 0, 16, .inl (fun _ => 0)))]) ++ [(a4 0 0 0, .inr (6, [.ref (a4 0 0 1), .int 0, .int 0])), (a4 0 0 1, .inl (G.2.1 0, 32, .inl (fun _ => 0)))])) H := hP
  have hD : va_D (iA h0 s.heap.size) ([(h0, .inr (4, [.int x0, .int x1, .int 0, .int 0, .int 0, .int 0, .int 0, .int 0, .int 0, .int 0, .int 60, .int 0, .int 0, .ref (a1 0 0 0), .ref (a2 0 0 0), .ref (a3 0 0 0), .ref (a4 0 0 0)]))] ++ (((([] ++ [(a1 0 0 0, .inr (0, [.int 400, .int 40, .int 0, .int 0, .int 400]))]) ++ [(a2 0 0 0, .inr (2, [.int 0, .int 0, .int 0, .int 0, .int 0, .int 0]))]) ++ [(a3 0 0 0, .inr (6, [.ref (a3 0 0 1), .int 0, .int 0])), (a3 0 0 1, .inl (G.2.1 0, 16, .inl (fun _ => 0)))]) ++ [(a4 0 0 0, .inr (6, [.ref (a4 0 0 1), .int 0, .int 0])), (a4 0 0 1, .inl (G.2.1 0, 32, .inl (fun _ => 0)))])) := hD
  refine lv_aload_n hx hb dX4_init_68 rfl (lv_at hl 0 rfl) ?_
  refine lv_iload_n hx hb dX4_init_69 rfl (lv_at hl 3 rfl) ?_
  refine i_put (v := .int x2) C0 hP hD hS 0 rfl rfl in_X4 tyX4_ok nmX4 2 (by decide) w_123 rfl rfl rfl (Nat.le_of_ble_eq_true rfl) dX4_init_70 (fun H locs hP hD hS => ?_)
  have hP : va_P G.1 wcls ([(h0, .inr (4, [.int x0, .int x1, .int x2, .int 0, .int 0, .int 0, .int 0, .int 0, .int 0, .int 0, .int 60, .int 0, .int 0, .ref (a1 0 0 0), .ref (a2 0 0 0), .ref (a3 0 0 0), .ref (a4 0 0 0)]))] ++ (((([] ++ [(a1 0 0 0, .inr (0, [.int 400, .int 40, .int 0, .int 0, .int 400]))]) ++ [(a2 0 0 0, .inr (2, [.int 0, .int 0, .int 0, .int 0, .int 0, .int 0]))]) ++ [(a3 0 0 0, .inr (6, [.ref (a3 0 0 1), .int 0, .int 0])), (a3 0 0 1, .inl (G.2.1 0, 16, .inl (fun _ => 0)))]) ++ [(a4 0 0 0, .inr (6, [.ref (a4 0 0 1), .int 0, .int 0])), (a4 0 0 1, .inl (G.2.1 0, 32, .inl (fun _ => 0)))])) H := hP
  have hD : va_D (iA h0 s.heap.size) ([(h0, .inr (4, [.int x0, .int x1, .int x2, .int 0, .int 0, .int 0, .int 0, .int 0, .int 0, .int 0, .int 60, .int 0, .int 0, .ref (a1 0 0 0), .ref (a2 0 0 0), .ref (a3 0 0 0), .ref (a4 0 0 0)]))] ++ (((([] ++ [(a1 0 0 0, .inr (0, [.int 400, .int 40, .int 0, .int 0, .int 400]))]) ++ [(a2 0 0 0, .inr (2, [.int 0, .int 0, .int 0, .int 0, .int 0, .int 0]))]) ++ [(a3 0 0 0, .inr (6, [.ref (a3 0 0 1), .int 0, .int 0])), (a3 0 0 1, .inl (G.2.1 0, 16, .inl (fun _ => 0)))]) ++ [(a4 0 0 0, .inr (6, [.ref (a4 0 0 1), .int 0, .int 0])), (a4 0 0 1, .inl (G.2.1 0, 32, .inl (fun _ => 0)))])) := hD
  refine lv_aload_n hx hb dX4_init_73 rfl (lv_at hl 0 rfl) ?_
  refine lv_iload hx hb dX4_init_74 (lv_at hl 4 rfl) ?_
  refine i_put (v := .int x3) C0 hP hD hS 0 rfl rfl in_X4 tyX4_ok nmX4 3 (by decide) w_124 rfl rfl rfl (Nat.le_of_ble_eq_true rfl) dX4_init_76 (fun H locs hP hD hS => ?_)
  have hP : va_P G.1 wcls ([(h0, .inr (4, [.int x0, .int x1, .int x2, .int x3, .int 0, .int 0, .int 0, .int 0, .int 0, .int 0, .int 60, .int 0, .int 0, .ref (a1 0 0 0), .ref (a2 0 0 0), .ref (a3 0 0 0), .ref (a4 0 0 0)]))] ++ (((([] ++ [(a1 0 0 0, .inr (0, [.int 400, .int 40, .int 0, .int 0, .int 400]))]) ++ [(a2 0 0 0, .inr (2, [.int 0, .int 0, .int 0, .int 0, .int 0, .int 0]))]) ++ [(a3 0 0 0, .inr (6, [.ref (a3 0 0 1), .int 0, .int 0])), (a3 0 0 1, .inl (G.2.1 0, 16, .inl (fun _ => 0)))]) ++ [(a4 0 0 0, .inr (6, [.ref (a4 0 0 1), .int 0, .int 0])), (a4 0 0 1, .inl (G.2.1 0, 32, .inl (fun _ => 0)))])) H := hP
  have hD : va_D (iA h0 s.heap.size) ([(h0, .inr (4, [.int x0, .int x1, .int x2, .int x3, .int 0, .int 0, .int 0, .int 0, .int 0, .int 0, .int 60, .int 0, .int 0, .ref (a1 0 0 0), .ref (a2 0 0 0), .ref (a3 0 0 0), .ref (a4 0 0 0)]))] ++ (((([] ++ [(a1 0 0 0, .inr (0, [.int 400, .int 40, .int 0, .int 0, .int 400]))]) ++ [(a2 0 0 0, .inr (2, [.int 0, .int 0, .int 0, .int 0, .int 0, .int 0]))]) ++ [(a3 0 0 0, .inr (6, [.ref (a3 0 0 1), .int 0, .int 0])), (a3 0 0 1, .inl (G.2.1 0, 16, .inl (fun _ => 0)))]) ++ [(a4 0 0 0, .inr (6, [.ref (a4 0 0 1), .int 0, .int 0])), (a4 0 0 1, .inl (G.2.1 0, 32, .inl (fun _ => 0)))])) := hD
  refine lv_aload_n hx hb dX4_init_79 rfl (lv_at hl 0 rfl) ?_
  refine lv_iload hx hb dX4_init_80 (lv_at hl 5 rfl) ?_
  refine i_put (v := .int x4) C0 hP hD hS 0 rfl rfl in_X4 tyX4_ok nmX4 4 (by decide) w_125 rfl rfl rfl (Nat.le_of_ble_eq_true rfl) dX4_init_82 (fun H locs hP hD hS => ?_)
  have hP : va_P G.1 wcls ([(h0, .inr (4, [.int x0, .int x1, .int x2, .int x3, .int x4, .int 0, .int 0, .int 0, .int 0, .int 0, .int 60, .int 0, .int 0, .ref (a1 0 0 0), .ref (a2 0 0 0), .ref (a3 0 0 0), .ref (a4 0 0 0)]))] ++ (((([] ++ [(a1 0 0 0, .inr (0, [.int 400, .int 40, .int 0, .int 0, .int 400]))]) ++ [(a2 0 0 0, .inr (2, [.int 0, .int 0, .int 0, .int 0, .int 0, .int 0]))]) ++ [(a3 0 0 0, .inr (6, [.ref (a3 0 0 1), .int 0, .int 0])), (a3 0 0 1, .inl (G.2.1 0, 16, .inl (fun _ => 0)))]) ++ [(a4 0 0 0, .inr (6, [.ref (a4 0 0 1), .int 0, .int 0])), (a4 0 0 1, .inl (G.2.1 0, 32, .inl (fun _ => 0)))])) H := hP
  have hD : va_D (iA h0 s.heap.size) ([(h0, .inr (4, [.int x0, .int x1, .int x2, .int x3, .int x4, .int 0, .int 0, .int 0, .int 0, .int 0, .int 60, .int 0, .int 0, .ref (a1 0 0 0), .ref (a2 0 0 0), .ref (a3 0 0 0), .ref (a4 0 0 0)]))] ++ (((([] ++ [(a1 0 0 0, .inr (0, [.int 400, .int 40, .int 0, .int 0, .int 400]))]) ++ [(a2 0 0 0, .inr (2, [.int 0, .int 0, .int 0, .int 0, .int 0, .int 0]))]) ++ [(a3 0 0 0, .inr (6, [.ref (a3 0 0 1), .int 0, .int 0])), (a3 0 0 1, .inl (G.2.1 0, 16, .inl (fun _ => 0)))]) ++ [(a4 0 0 0, .inr (6, [.ref (a4 0 0 1), .int 0, .int 0])), (a4 0 0 1, .inl (G.2.1 0, 32, .inl (fun _ => 0)))])) := hD
  simp only [List.nil_append, List.append_assoc] at hP hD
  exact i_ret (h0 := h0) (X := fun a => (puW G x0 x1 x2 x3 x4 (a 0 0))) (fun _ _ j => match j with | 0 => h0 | 1 => a1 0 0 0 | 2 => a2 0 0 0 | 3 => a3 0 0 0 | 4 => a3 0 0 1 | 5 => a4 0 0 0 | _ => a4 0 0 1) C0 hr rfl hP hD hS dX4_init_85
