/-! Constructors: a state. -/
theorem pi_X7_init : yX7_init.cls ≠ "java/lang/invoke/MethodHandle" ∧ yX7_init.cls ≠ "java/lang/invoke/VarHandle" ∧ (parseMethodDescriptor yX7_init.desc).map (fun d => d.parameters.length) = some 0 := ⟨by decide +kernel, by decide +kernel, by decide +kernel⟩
set_option maxHeartbeats 4000000 in
set_option maxRecDepth 100000 in
theorem c_X7_init (l : Launch) (G : wG) (h0 sz : Nat) : iMt l yX7_init cX7_init 2 3 29 332 G h0 sz (.inr (7, [.int 0, .int 0, .int 0, .int 0, .int 0, .null])) [.ref h0] (fun a => (stW G (a 0))) := by
  refine iMt_of (by decide +kernel) rfl (Nat.le_of_ble_eq_true rfl) ?_
  intro p e s m args below meth c C0 hO hI hr ls hl hsz hP
  have hx := C0.1
  have hb := C0.2.1
  subst hsz
  have hA : ∀ q, s.heap.size ≤ q → iA h0 s.heap.size q := fun q h => Or.inr h
  have hS : va_S (iA h0 s.heap.size) s.heap s.heap [] := va_S.rf
  have hD : va_D (iA h0 s.heap.size) ([(h0, .inr (7, [.int 0, .int 0, .int 0, .int 0, .int 0, .null]))] ++ []) := i_one
  have hP : va_P G.1 wcls ([(h0, .inr (7, [.int 0, .int 0, .int 0, .int 0, .int 0, .null]))] ++ []) s.heap := hP
  have hl : lv_has ls 2 [(0, .ref h0)] := hl
  refine lv_aload_n hx hb dX7_init_0 rfl (lv_at hl 0 rfl) ?_
  refine i_obj C0 hl.1 w_30 w_23 w_24 (Nat.le_of_ble_eq_true rfl) (Nat.le_of_ble_eq_true rfl) dX7_init_1 ?_
  refine lv_aload_n hx hb dX7_init_4 rfl (lv_at hl 0 rfl) ?_
  refine lv_sipush (v := 5000) hx hb dX7_init_5 (by decide) ?_
  refine i_put (v := .int 5000) C0 hP hD hS 0 rfl rfl in_X7 tyX7_ok nmX7 1 (by decide) w_188 rfl rfl rfl (Nat.le_of_ble_eq_true rfl) dX7_init_8 (fun H locs hP hD hS => ?_)
  have hP : va_P G.1 wcls ([(h0, .inr (7, [.int 0, .int 5000, .int 0, .int 0, .int 0, .null]))] ++ []) H := hP
  have hD : va_D (iA h0 s.heap.size) ([(h0, .inr (7, [.int 0, .int 5000, .int 0, .int 0, .int 0, .null]))] ++ []) := hD
  refine lv_aload_n hx hb dX7_init_11 rfl (lv_at hl 0 rfl) ?_
  refine lv_bipush (v := 100) hx hb dX7_init_12 (by decide) ?_
  refine i_put (v := .int 100) C0 hP hD hS 0 rfl rfl in_X7 tyX7_ok nmX7 3 (by decide) w_192 rfl rfl rfl (Nat.le_of_ble_eq_true rfl) dX7_init_14 (fun H locs hP hD hS => ?_)
  have hP : va_P G.1 wcls ([(h0, .inr (7, [.int 0, .int 5000, .int 0, .int 100, .int 0, .null]))] ++ []) H := hP
  have hD : va_D (iA h0 s.heap.size) ([(h0, .inr (7, [.int 0, .int 5000, .int 0, .int 100, .int 0, .null]))] ++ []) := hD
  refine lv_aload_n hx hb dX7_init_17 rfl (lv_at hl 0 rfl) ?_
  refine lv_iconst (v := 4) hx hb dX7_init_18 (by decide) ?_
  refine i_newq C0 hP hD hS hA w_31 hO.1 3 rfl (by decide) (by decide +kernel : Int32.toNatClampNeg 4 = 4) (Nat.le_of_ble_eq_true rfl) (Nat.le_of_ble_eq_true rfl) (Nat.le_of_ble_eq_true rfl) dX7_init_19 (fun q1 H hP hD hS => ?_)
  refine W.widen (k := 1) (n := 4) (Nat.le_of_ble_eq_true rfl) (Nat.le_of_ble_eq_true rfl) ?_
  have hP : va_P G.1 wcls ([(h0, .inr (7, [.int 0, .int 5000, .int 0, .int 100, .int 0, .null])), (q1, .inl (G.2.1 3, 4, .inr (.inr (.inr (.inr (fun _ => none))))))] ++ []) H := hP.swap
  have hD : va_D (iA h0 s.heap.size) ([(h0, .inr (7, [.int 0, .int 5000, .int 0, .int 100, .int 0, .null])), (q1, .inl (G.2.1 3, 4, .inr (.inr (.inr (.inr (fun _ => none))))))] ++ []) := hD.swap
  refine i_putF (v := .ref q1) C0 hI hP hD hS 0 rfl rfl in_X7 tyX7_ok nmX7 5 (by decide) w_196 rfl rfl rfl rfl (Nat.le_of_ble_eq_true rfl) dX7_init_22 (fun H locs hP hD hS => ?_)
  have hP : va_P G.1 wcls ([(h0, .inr (7, [.int 0, .int 5000, .int 0, .int 100, .int 0, .ref q1])), (q1, .inl (G.2.1 3, 4, .inr (.inr (.inr (.inr (fun _ => none))))))] ++ []) H := hP
  have hD : va_D (iA h0 s.heap.size) ([(h0, .inr (7, [.int 0, .int 5000, .int 0, .int 100, .int 0, .ref q1])), (q1, .inl (G.2.1 3, 4, .inr (.inr (.inr (.inr (fun _ => none))))))] ++ []) := hD
  refine lv_iconst (v := 0) hx hb dX7_init_25 (by decide) ?_
  refine lv_istore_n (lv' := [(1, .int 0), (0, .ref h0)]) hx hb dX7_init_26 rfl hl (by decide) rfl (fun ls hl => ?_)
  refine lv_iload_n hx hb dX7_init_27 rfl (lv_at hl 0 rfl) ?_
  refine lv_aload_n hx hb dX7_init_28 rfl (lv_at hl 1 rfl) ?_
  refine i_get (v := .ref q1) C0 hP 0 rfl rfl in_X7 5 (by decide) w_196 rfl dX7_init_29 ?_
  refine i_alen (v := 4) C0 hP 1 3 rfl rfl rfl dX7_init_32 ?_
  refine lv_icmp_ge (tgt := 60) hx hb dX7_init_33 (by decide) (fun c => absurd c (by decide)) (fun _ => ?_)
  refine lv_aload_n hx hb dX7_init_36 rfl (lv_at hl 1 rfl) ?_
  refine i_get (v := .ref q1) C0 hP 0 rfl rfl in_X7 5 (by decide) w_196 rfl dX7_init_37 ?_
  refine lv_iload_n hx hb dX7_init_40 rfl (lv_at hl 0 rfl) ?_
  refine i_new (ci := 4) (fs := [.int 0, .int 0, .int 0, .int 0, .int 0, .int 0, .int 0, .int 0, .int 0, .int 0, .int 0, .int 0, .int 0, .null, .null, .null, .null]) C0 hP hD hS hA rfl in_X4 tyX4_ok w_31 w_33 w_8 (fun j hj => match j, hj with | 0, _ => rfl | 1, _ => rfl | 2, _ => rfl | 3, _ => rfl | 4, _ => rfl | 5, _ => rfl | 6, _ => rfl | 7, _ => rfl | 8, _ => rfl | 9, _ => rfl | 10, _ => rfl | 11, _ => rfl | 12, _ => rfl | 13, _ => rfl | 14, _ => rfl | 15, _ => rfl | 16, _ => rfl | j + 17, h => absurd h (by omega)) (Nat.le_of_ble_eq_true rfl) (Nat.le_of_ble_eq_true rfl) dX7_init_41 (fun q2 H hP hD hS => ?_)
  refine W.widen (k := 2) (n := 21) (Nat.le_of_ble_eq_true rfl) (Nat.le_of_ble_eq_true rfl) ?_
  refine lv_dup hx hb dX7_init_44 rfl ?_
  refine lv_iconst (v := 0) hx hb dX7_init_45 (by decide) ?_
  refine lv_iconst (v := 1) hx hb dX7_init_46 (by decide) ?_
  refine lv_iconst (v := 0) hx hb dX7_init_47 (by decide) ?_
  refine lv_iconst (v := 0) hx hb dX7_init_48 (by decide) ?_
  refine lv_iconst (v := 0) hx hb dX7_init_49 (by decide) ?_
  refine i_call hP hD hS hA (i_runI (As := [.int 0, .int 1, .int 0, .int 0, .int 0]) (rest := [.ref q2, .int 0, .ref q1]) C0 hO hP (c_X4_init l G q2 _ 0 1 0 0 0) ⟨⟨w_34, w_8, w_36⟩, pi_X4_init, ⟨(Nat.le_of_ble_eq_true rfl), (Nat.le_of_ble_eq_true rfl)⟩, ⟨(Nat.le_of_ble_eq_true rfl), (Nat.le_of_ble_eq_true rfl)⟩, rfl, w_35⟩ rfl hl.1 rfl (Nat.le_of_ble_eq_true rfl) dX7_init_50) (fun a2 H locs ha hP hD hS => ?_)
  rw [← ha]
  refine W.widen (k := 8) (n := 86) (Nat.le_of_ble_eq_true rfl) (Nat.le_of_ble_eq_true rfl) ?_
  refine i_aast (i := 0) C0 hP hD hS 1 3 _ 4 rfl rfl i_end rfl (by unfold vp_in; decide) dX7_init_53 (fun H locs hP hD hS => ?_)
  have hP : va_P G.1 wcls (([(h0, .inr (7, [.int 0, .int 5000, .int 0, .int 100, .int 0, .ref q1])), (q1, .inl (G.2.1 3, 4, .inr (.inr (.inr (.inr (va_up (fun _ => none) (Int32.toNatClampNeg 0) (some (a2 0 0 0))))))))] ++ []) ++ (puW G 0 1 0 0 0 (a2 0 0))) H := hP
  have hD : va_D (iA h0 s.heap.size) (([(h0, .inr (7, [.int 0, .int 5000, .int 0, .int 100, .int 0, .ref q1])), (q1, .inl (G.2.1 3, 4, .inr (.inr (.inr (.inr (va_up (fun _ => none) (Int32.toNatClampNeg 0) (some (a2 0 0 0))))))))] ++ []) ++ (puW G 0 1 0 0 0 (a2 0 0))) := hD
  have hP : va_P G.1 wcls ([(h0, .inr (7, [.int 0, .int 5000, .int 0, .int 100, .int 0, .ref q1])), (q1, .inl (G.2.1 3, 4, .inr (.inr (.inr (.inr (va_up (fun _ => none) (Int32.toNatClampNeg 0) (some (a2 0 0 0))))))))] ++ ([] ++ (puW G 0 1 0 0 0 (a2 0 0)))) H := i_aP hP
  have hD : va_D (iA h0 s.heap.size) ([(h0, .inr (7, [.int 0, .int 5000, .int 0, .int 100, .int 0, .ref q1])), (q1, .inl (G.2.1 3, 4, .inr (.inr (.inr (.inr (va_up (fun _ => none) (Int32.toNatClampNeg 0) (some (a2 0 0 0))))))))] ++ ([] ++ (puW G 0 1 0 0 0 (a2 0 0)))) := i_aD hD
  refine lv_iinc (v := 1) (lv' := [(1, .int 1), (0, .ref h0)]) hx hb dX7_init_54 hl (k := 0) rfl (by decide) (by decide) rfl (fun ls hl => ?_)
  refine lv_goto (tgt := 27) hx hb dX7_init_57 (by decide) ?_
  refine lv_iload_n hx hb dX7_init_27 rfl (lv_at hl 0 rfl) ?_
  refine lv_aload_n hx hb dX7_init_28 rfl (lv_at hl 1 rfl) ?_
  refine i_get (v := .ref q1) C0 hP 0 rfl rfl in_X7 5 (by decide) w_196 rfl dX7_init_29 ?_
  refine i_alen (v := 4) C0 hP 1 3 rfl rfl rfl dX7_init_32 ?_
  refine lv_icmp_ge (tgt := 60) hx hb dX7_init_33 (by decide) (fun c => absurd c (by decide)) (fun _ => ?_)
  refine lv_aload_n hx hb dX7_init_36 rfl (lv_at hl 1 rfl) ?_
  refine i_get (v := .ref q1) C0 hP 0 rfl rfl in_X7 5 (by decide) w_196 rfl dX7_init_37 ?_
  refine lv_iload_n hx hb dX7_init_40 rfl (lv_at hl 0 rfl) ?_
  refine i_new (ci := 4) (fs := [.int 0, .int 0, .int 0, .int 0, .int 0, .int 0, .int 0, .int 0, .int 0, .int 0, .int 0, .int 0, .int 0, .null, .null, .null, .null]) C0 hP hD hS hA rfl in_X4 tyX4_ok w_31 w_33 w_8 (fun j hj => match j, hj with | 0, _ => rfl | 1, _ => rfl | 2, _ => rfl | 3, _ => rfl | 4, _ => rfl | 5, _ => rfl | 6, _ => rfl | 7, _ => rfl | 8, _ => rfl | 9, _ => rfl | 10, _ => rfl | 11, _ => rfl | 12, _ => rfl | 13, _ => rfl | 14, _ => rfl | 15, _ => rfl | 16, _ => rfl | j + 17, h => absurd h (by omega)) (Nat.le_of_ble_eq_true rfl) (Nat.le_of_ble_eq_true rfl) dX7_init_41 (fun q3 H hP hD hS => ?_)
  refine W.widen (k := 9) (n := 103) (Nat.le_of_ble_eq_true rfl) (Nat.le_of_ble_eq_true rfl) ?_
  refine lv_dup hx hb dX7_init_44 rfl ?_
  refine lv_iconst (v := 0) hx hb dX7_init_45 (by decide) ?_
  refine lv_iconst (v := 1) hx hb dX7_init_46 (by decide) ?_
  refine lv_iconst (v := 0) hx hb dX7_init_47 (by decide) ?_
  refine lv_iconst (v := 0) hx hb dX7_init_48 (by decide) ?_
  refine lv_iconst (v := 0) hx hb dX7_init_49 (by decide) ?_
  refine i_call hP hD hS hA (i_runI (As := [.int 0, .int 1, .int 0, .int 0, .int 0]) (rest := [.ref q3, .int 1, .ref q1]) C0 hO hP (c_X4_init l G q3 _ 0 1 0 0 0) ⟨⟨w_34, w_8, w_36⟩, pi_X4_init, ⟨(Nat.le_of_ble_eq_true rfl), (Nat.le_of_ble_eq_true rfl)⟩, ⟨(Nat.le_of_ble_eq_true rfl), (Nat.le_of_ble_eq_true rfl)⟩, rfl, w_35⟩ rfl hl.1 rfl (Nat.le_of_ble_eq_true rfl) dX7_init_50) (fun a3 H locs ha hP hD hS => ?_)
  rw [← ha]
  refine W.widen (k := 15) (n := 168) (Nat.le_of_ble_eq_true rfl) (Nat.le_of_ble_eq_true rfl) ?_
  refine i_aast (i := 1) C0 hP hD hS 1 3 _ 4 rfl rfl i_end rfl (by unfold vp_in; decide) dX7_init_53 (fun H locs hP hD hS => ?_)
  have hP : va_P G.1 wcls (([(h0, .inr (7, [.int 0, .int 5000, .int 0, .int 100, .int 0, .ref q1])), (q1, .inl (G.2.1 3, 4, .inr (.inr (.inr (.inr (va_up (va_up (fun _ => none) (Int32.toNatClampNeg 0) (some (a2 0 0 0))) (Int32.toNatClampNeg 1) (some (a3 0 0 0))))))))] ++ ([] ++ (puW G 0 1 0 0 0 (a2 0 0)))) ++ (puW G 0 1 0 0 0 (a3 0 0))) H := hP
  have hD : va_D (iA h0 s.heap.size) (([(h0, .inr (7, [.int 0, .int 5000, .int 0, .int 100, .int 0, .ref q1])), (q1, .inl (G.2.1 3, 4, .inr (.inr (.inr (.inr (va_up (va_up (fun _ => none) (Int32.toNatClampNeg 0) (some (a2 0 0 0))) (Int32.toNatClampNeg 1) (some (a3 0 0 0))))))))] ++ ([] ++ (puW G 0 1 0 0 0 (a2 0 0)))) ++ (puW G 0 1 0 0 0 (a3 0 0))) := hD
  have hP : va_P G.1 wcls ([(h0, .inr (7, [.int 0, .int 5000, .int 0, .int 100, .int 0, .ref q1])), (q1, .inl (G.2.1 3, 4, .inr (.inr (.inr (.inr (va_up (va_up (fun _ => none) (Int32.toNatClampNeg 0) (some (a2 0 0 0))) (Int32.toNatClampNeg 1) (some (a3 0 0 0))))))))] ++ (([] ++ (puW G 0 1 0 0 0 (a2 0 0))) ++ (puW G 0 1 0 0 0 (a3 0 0)))) H := i_aP hP
  have hD : va_D (iA h0 s.heap.size) ([(h0, .inr (7, [.int 0, .int 5000, .int 0, .int 100, .int 0, .ref q1])), (q1, .inl (G.2.1 3, 4, .inr (.inr (.inr (.inr (va_up (va_up (fun _ => none) (Int32.toNatClampNeg 0) (some (a2 0 0 0))) (Int32.toNatClampNeg 1) (some (a3 0 0 0))))))))] ++ (([] ++ (puW G 0 1 0 0 0 (a2 0 0))) ++ (puW G 0 1 0 0 0 (a3 0 0)))) := i_aD hD
  refine lv_iinc (v := 2) (lv' := [(1, .int 2), (0, .ref h0)]) hx hb dX7_init_54 hl (k := 0) rfl (by decide) (by decide) rfl (fun ls hl => ?_)
  refine lv_goto (tgt := 27) hx hb dX7_init_57 (by decide) ?_
  refine lv_iload_n hx hb dX7_init_27 rfl (lv_at hl 0 rfl) ?_
  refine lv_aload_n hx hb dX7_init_28 rfl (lv_at hl 1 rfl) ?_
  refine i_get (v := .ref q1) C0 hP 0 rfl rfl in_X7 5 (by decide) w_196 rfl dX7_init_29 ?_
  refine i_alen (v := 4) C0 hP 1 3 rfl rfl rfl dX7_init_32 ?_
  refine lv_icmp_ge (tgt := 60) hx hb dX7_init_33 (by decide) (fun c => absurd c (by decide)) (fun _ => ?_)
  refine lv_aload_n hx hb dX7_init_36 rfl (lv_at hl 1 rfl) ?_
  refine i_get (v := .ref q1) C0 hP 0 rfl rfl in_X7 5 (by decide) w_196 rfl dX7_init_37 ?_
  refine lv_iload_n hx hb dX7_init_40 rfl (lv_at hl 0 rfl) ?_
  refine i_new (ci := 4) (fs := [.int 0, .int 0, .int 0, .int 0, .int 0, .int 0, .int 0, .int 0, .int 0, .int 0, .int 0, .int 0, .int 0, .null, .null, .null, .null]) C0 hP hD hS hA rfl in_X4 tyX4_ok w_31 w_33 w_8 (fun j hj => match j, hj with | 0, _ => rfl | 1, _ => rfl | 2, _ => rfl | 3, _ => rfl | 4, _ => rfl | 5, _ => rfl | 6, _ => rfl | 7, _ => rfl | 8, _ => rfl | 9, _ => rfl | 10, _ => rfl | 11, _ => rfl | 12, _ => rfl | 13, _ => rfl | 14, _ => rfl | 15, _ => rfl | 16, _ => rfl | j + 17, h => absurd h (by omega)) (Nat.le_of_ble_eq_true rfl) (Nat.le_of_ble_eq_true rfl) dX7_init_41 (fun q4 H hP hD hS => ?_)
  refine W.widen (k := 16) (n := 185) (Nat.le_of_ble_eq_true rfl) (Nat.le_of_ble_eq_true rfl) ?_
  refine lv_dup hx hb dX7_init_44 rfl ?_
  refine lv_iconst (v := 0) hx hb dX7_init_45 (by decide) ?_
  refine lv_iconst (v := 1) hx hb dX7_init_46 (by decide) ?_
  refine lv_iconst (v := 0) hx hb dX7_init_47 (by decide) ?_
  refine lv_iconst (v := 0) hx hb dX7_init_48 (by decide) ?_
  refine lv_iconst (v := 0) hx hb dX7_init_49 (by decide) ?_
  refine i_call hP hD hS hA (i_runI (As := [.int 0, .int 1, .int 0, .int 0, .int 0]) (rest := [.ref q4, .int 2, .ref q1]) C0 hO hP (c_X4_init l G q4 _ 0 1 0 0 0) ⟨⟨w_34, w_8, w_36⟩, pi_X4_init, ⟨(Nat.le_of_ble_eq_true rfl), (Nat.le_of_ble_eq_true rfl)⟩, ⟨(Nat.le_of_ble_eq_true rfl), (Nat.le_of_ble_eq_true rfl)⟩, rfl, w_35⟩ rfl hl.1 rfl (Nat.le_of_ble_eq_true rfl) dX7_init_50) (fun a4 H locs ha hP hD hS => ?_)
  rw [← ha]
  refine W.widen (k := 22) (n := 250) (Nat.le_of_ble_eq_true rfl) (Nat.le_of_ble_eq_true rfl) ?_
  refine i_aast (i := 2) C0 hP hD hS 1 3 _ 4 rfl rfl i_end rfl (by unfold vp_in; decide) dX7_init_53 (fun H locs hP hD hS => ?_)
  have hP : va_P G.1 wcls (([(h0, .inr (7, [.int 0, .int 5000, .int 0, .int 100, .int 0, .ref q1])), (q1, .inl (G.2.1 3, 4, .inr (.inr (.inr (.inr (va_up (va_up (va_up (fun _ => none) (Int32.toNatClampNeg 0) (some (a2 0 0 0))) (Int32.toNatClampNeg 1) (some (a3 0 0 0))) (Int32.toNatClampNeg 2) (some (a4 0 0 0))))))))] ++ (([] ++ (puW G 0 1 0 0 0 (a2 0 0))) ++ (puW G 0 1 0 0 0 (a3 0 0)))) ++ (puW G 0 1 0 0 0 (a4 0 0))) H := hP
  have hD : va_D (iA h0 s.heap.size) (([(h0, .inr (7, [.int 0, .int 5000, .int 0, .int 100, .int 0, .ref q1])), (q1, .inl (G.2.1 3, 4, .inr (.inr (.inr (.inr (va_up (va_up (va_up (fun _ => none) (Int32.toNatClampNeg 0) (some (a2 0 0 0))) (Int32.toNatClampNeg 1) (some (a3 0 0 0))) (Int32.toNatClampNeg 2) (some (a4 0 0 0))))))))] ++ (([] ++ (puW G 0 1 0 0 0 (a2 0 0))) ++ (puW G 0 1 0 0 0 (a3 0 0)))) ++ (puW G 0 1 0 0 0 (a4 0 0))) := hD
  have hP : va_P G.1 wcls ([(h0, .inr (7, [.int 0, .int 5000, .int 0, .int 100, .int 0, .ref q1])), (q1, .inl (G.2.1 3, 4, .inr (.inr (.inr (.inr (va_up (va_up (va_up (fun _ => none) (Int32.toNatClampNeg 0) (some (a2 0 0 0))) (Int32.toNatClampNeg 1) (some (a3 0 0 0))) (Int32.toNatClampNeg 2) (some (a4 0 0 0))))))))] ++ ((([] ++ (puW G 0 1 0 0 0 (a2 0 0))) ++ (puW G 0 1 0 0 0 (a3 0 0))) ++ (puW G 0 1 0 0 0 (a4 0 0)))) H := i_aP hP
  have hD : va_D (iA h0 s.heap.size) ([(h0, .inr (7, [.int 0, .int 5000, .int 0, .int 100, .int 0, .ref q1])), (q1, .inl (G.2.1 3, 4, .inr (.inr (.inr (.inr (va_up (va_up (va_up (fun _ => none) (Int32.toNatClampNeg 0) (some (a2 0 0 0))) (Int32.toNatClampNeg 1) (some (a3 0 0 0))) (Int32.toNatClampNeg 2) (some (a4 0 0 0))))))))] ++ ((([] ++ (puW G 0 1 0 0 0 (a2 0 0))) ++ (puW G 0 1 0 0 0 (a3 0 0))) ++ (puW G 0 1 0 0 0 (a4 0 0)))) := i_aD hD
  refine lv_iinc (v := 3) (lv' := [(1, .int 3), (0, .ref h0)]) hx hb dX7_init_54 hl (k := 0) rfl (by decide) (by decide) rfl (fun ls hl => ?_)
  refine lv_goto (tgt := 27) hx hb dX7_init_57 (by decide) ?_
  refine lv_iload_n hx hb dX7_init_27 rfl (lv_at hl 0 rfl) ?_
  refine lv_aload_n hx hb dX7_init_28 rfl (lv_at hl 1 rfl) ?_
  refine i_get (v := .ref q1) C0 hP 0 rfl rfl in_X7 5 (by decide) w_196 rfl dX7_init_29 ?_
  refine i_alen (v := 4) C0 hP 1 3 rfl rfl rfl dX7_init_32 ?_
  refine lv_icmp_ge (tgt := 60) hx hb dX7_init_33 (by decide) (fun c => absurd c (by decide)) (fun _ => ?_)
  refine lv_aload_n hx hb dX7_init_36 rfl (lv_at hl 1 rfl) ?_
  refine i_get (v := .ref q1) C0 hP 0 rfl rfl in_X7 5 (by decide) w_196 rfl dX7_init_37 ?_
  refine lv_iload_n hx hb dX7_init_40 rfl (lv_at hl 0 rfl) ?_
  refine i_new (ci := 4) (fs := [.int 0, .int 0, .int 0, .int 0, .int 0, .int 0, .int 0, .int 0, .int 0, .int 0, .int 0, .int 0, .int 0, .null, .null, .null, .null]) C0 hP hD hS hA rfl in_X4 tyX4_ok w_31 w_33 w_8 (fun j hj => match j, hj with | 0, _ => rfl | 1, _ => rfl | 2, _ => rfl | 3, _ => rfl | 4, _ => rfl | 5, _ => rfl | 6, _ => rfl | 7, _ => rfl | 8, _ => rfl | 9, _ => rfl | 10, _ => rfl | 11, _ => rfl | 12, _ => rfl | 13, _ => rfl | 14, _ => rfl | 15, _ => rfl | 16, _ => rfl | j + 17, h => absurd h (by omega)) (Nat.le_of_ble_eq_true rfl) (Nat.le_of_ble_eq_true rfl) dX7_init_41 (fun q5 H hP hD hS => ?_)
  refine W.widen (k := 23) (n := 267) (Nat.le_of_ble_eq_true rfl) (Nat.le_of_ble_eq_true rfl) ?_
  refine lv_dup hx hb dX7_init_44 rfl ?_
  refine lv_iconst (v := 0) hx hb dX7_init_45 (by decide) ?_
  refine lv_iconst (v := 1) hx hb dX7_init_46 (by decide) ?_
  refine lv_iconst (v := 0) hx hb dX7_init_47 (by decide) ?_
  refine lv_iconst (v := 0) hx hb dX7_init_48 (by decide) ?_
  refine lv_iconst (v := 0) hx hb dX7_init_49 (by decide) ?_
  refine i_call hP hD hS hA (i_runI (As := [.int 0, .int 1, .int 0, .int 0, .int 0]) (rest := [.ref q5, .int 3, .ref q1]) C0 hO hP (c_X4_init l G q5 _ 0 1 0 0 0) ⟨⟨w_34, w_8, w_36⟩, pi_X4_init, ⟨(Nat.le_of_ble_eq_true rfl), (Nat.le_of_ble_eq_true rfl)⟩, ⟨(Nat.le_of_ble_eq_true rfl), (Nat.le_of_ble_eq_true rfl)⟩, rfl, w_35⟩ rfl hl.1 rfl (Nat.le_of_ble_eq_true rfl) dX7_init_50) (fun a5 H locs ha hP hD hS => ?_)
  rw [← ha]
  refine W.widen (k := 29) (n := 332) (Nat.le_of_ble_eq_true rfl) (Nat.le_of_ble_eq_true rfl) ?_
  refine i_aast (i := 3) C0 hP hD hS 1 3 _ 4 rfl rfl i_end rfl (by unfold vp_in; decide) dX7_init_53 (fun H locs hP hD hS => ?_)
  have hP : va_P G.1 wcls (([(h0, .inr (7, [.int 0, .int 5000, .int 0, .int 100, .int 0, .ref q1])), (q1, .inl (G.2.1 3, 4, .inr (.inr (.inr (.inr (va_up (va_up (va_up (va_up (fun _ => none) (Int32.toNatClampNeg 0) (some (a2 0 0 0))) (Int32.toNatClampNeg 1) (some (a3 0 0 0))) (Int32.toNatClampNeg 2) (some (a4 0 0 0))) (Int32.toNatClampNeg 3) (some (a5 0 0 0))))))))] ++ ((([] ++ (puW G 0 1 0 0 0 (a2 0 0))) ++ (puW G 0 1 0 0 0 (a3 0 0))) ++ (puW G 0 1 0 0 0 (a4 0 0)))) ++ (puW G 0 1 0 0 0 (a5 0 0))) H := hP
  have hD : va_D (iA h0 s.heap.size) (([(h0, .inr (7, [.int 0, .int 5000, .int 0, .int 100, .int 0, .ref q1])), (q1, .inl (G.2.1 3, 4, .inr (.inr (.inr (.inr (va_up (va_up (va_up (va_up (fun _ => none) (Int32.toNatClampNeg 0) (some (a2 0 0 0))) (Int32.toNatClampNeg 1) (some (a3 0 0 0))) (Int32.toNatClampNeg 2) (some (a4 0 0 0))) (Int32.toNatClampNeg 3) (some (a5 0 0 0))))))))] ++ ((([] ++ (puW G 0 1 0 0 0 (a2 0 0))) ++ (puW G 0 1 0 0 0 (a3 0 0))) ++ (puW G 0 1 0 0 0 (a4 0 0)))) ++ (puW G 0 1 0 0 0 (a5 0 0))) := hD
  have hP : va_P G.1 wcls ([(h0, .inr (7, [.int 0, .int 5000, .int 0, .int 100, .int 0, .ref q1])), (q1, .inl (G.2.1 3, 4, .inr (.inr (.inr (.inr (va_up (va_up (va_up (va_up (fun _ => none) (Int32.toNatClampNeg 0) (some (a2 0 0 0))) (Int32.toNatClampNeg 1) (some (a3 0 0 0))) (Int32.toNatClampNeg 2) (some (a4 0 0 0))) (Int32.toNatClampNeg 3) (some (a5 0 0 0))))))))] ++ (((([] ++ (puW G 0 1 0 0 0 (a2 0 0))) ++ (puW G 0 1 0 0 0 (a3 0 0))) ++ (puW G 0 1 0 0 0 (a4 0 0))) ++ (puW G 0 1 0 0 0 (a5 0 0)))) H := i_aP hP
  have hD : va_D (iA h0 s.heap.size) ([(h0, .inr (7, [.int 0, .int 5000, .int 0, .int 100, .int 0, .ref q1])), (q1, .inl (G.2.1 3, 4, .inr (.inr (.inr (.inr (va_up (va_up (va_up (va_up (fun _ => none) (Int32.toNatClampNeg 0) (some (a2 0 0 0))) (Int32.toNatClampNeg 1) (some (a3 0 0 0))) (Int32.toNatClampNeg 2) (some (a4 0 0 0))) (Int32.toNatClampNeg 3) (some (a5 0 0 0))))))))] ++ (((([] ++ (puW G 0 1 0 0 0 (a2 0 0))) ++ (puW G 0 1 0 0 0 (a3 0 0))) ++ (puW G 0 1 0 0 0 (a4 0 0))) ++ (puW G 0 1 0 0 0 (a5 0 0)))) := i_aD hD
  refine lv_iinc (v := 4) (lv' := [(1, .int 4), (0, .ref h0)]) hx hb dX7_init_54 hl (k := 0) rfl (by decide) (by decide) rfl (fun ls hl => ?_)
  refine lv_goto (tgt := 27) hx hb dX7_init_57 (by decide) ?_
  refine lv_iload_n hx hb dX7_init_27 rfl (lv_at hl 0 rfl) ?_
  refine lv_aload_n hx hb dX7_init_28 rfl (lv_at hl 1 rfl) ?_
  refine i_get (v := .ref q1) C0 hP 0 rfl rfl in_X7 5 (by decide) w_196 rfl dX7_init_29 ?_
  refine i_alen (v := 4) C0 hP 1 3 rfl rfl rfl dX7_init_32 ?_
  refine lv_icmp_ge (tgt := 60) hx hb dX7_init_33 (by decide) (fun _ => ?_) (fun c => absurd (by decide) c)
  simp only [List.nil_append, List.append_assoc] at hP hD
  refine i_ret (h0 := h0) (X := fun a => (stW G (a 0))) (fun _ x => match x with | 0 => (fun j => match j with | 0 => h0 | _ => q1) | 1 => a2 0 0 | 2 => a3 0 0 | 3 => a4 0 0 | _ => a5 0 0) C0 hr rfl (i_cP (fun j hj => ?_) hP) (i_cD hD) hS dX7_init_60
  exact (match j, hj with | 0, _ => rfl | 1, _ => rfl | 2, _ => rfl | 3, _ => rfl | j + 4, h => absurd h (by omega))
