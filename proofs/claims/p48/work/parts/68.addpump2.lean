/-! addPump of the class: its walk. -/
def qA (G : wG) (A : Nat → Prop) (post : Int32 → HV → Prop) : Array Value → State → Outcome → State → Prop := va_Qi (fun r (u : wG × HV) => (u.1.1 = G.1 ∧ u.1.2.1 = G.2.1 ∧ ad u.1 8 0 = ad G 8 0 ∧ ad u.1 9 0 = ad G 9 0) ∧ post r u.2) (fun (u : wG × HV) t => wd u.1 A u.2 t.heap) A
def aPc (G : wG) (A : Nat → Prop) (hv : HV) (av : List Value) : Array Value → State → Prop := va_Pc av (fun U => wd G A hv U.heap ∧ wK G U ∧ iAO U ∧ ∀ q, U.heap.size ≤ q → A q)
theorem aPc_blind {G : wG} {A : Nat → Prop} {hv : HV} {av : List Value} : FrameBlind (aPc G A hv av) := fun a U g mk q => ⟨q.1, q.2.1, ⟨va_K.moved (u := U) (U := U.calling g mk a) (Vm.Alike.refl U.vm) q.2.2.1.1, wN.same (u := U) rfl q.2.2.1.2⟩, iAO.moved (u := U) (U := U.calling g mk a) (Vm.Alike.refl U.vm) q.2.2.2.1, q.2.2.2.2⟩
theorem aM_of {l : Launch} {y : MethodName} {cc : ByteArray} {nL d mc ms : Nat} {ret : Option FieldType} {G : wG} {A : Nat → Prop} {hv : HV} {av : List Value} {Qc : Array Value → State → Outcome → State → Prop} (hy : plainName y.cls = true) (hn : (lg_sl av).length ≤ nL)
    (body : ∀ p e s m args below meth c, cx p s m args meth c y.cls cc nL G → meth.sig.returnType = ret → iAO s → (∀ q, s.heap.size ≤ q → A q) → ∀ ls : Array Slot, lv_has ls nL (lv_args 0 av) → wd G A hv s.heap → va_S A s.heap s.heap [] → W p l e (irm d mc ms) s m args below meth c s.heap [] 0 0 (MQ below Qc args s mc ms A) (F0 m 0 ls [])) : Met l y (wsy y cc nL ret) (irm d mc ms) (aPc G A hv av) Qc mc ms A := by
  refine Met.ofW (cc := cc) (maxL := nL) (ret := ret) hy rfl ?_
  intro p e s m args below meth c s₁ B hml hv
  obtain ⟨rfl, hW, hK, hO, hA⟩ := hv
  have hts := atoms_spec (ws := wsy y cc nL ret) B.pre
  have hl := lv_entry av (n := nL) hn
  rw [lg_entry_eq]
  exact body p e s m _ below meth c ⟨B.exec, B.bytes, hml, findClass_of_methodNamed B.named, fun w h => hts w (List.mem_cons_of_mem _ h), hK, B.notSynchronized⟩ B.returns hO hA _ hl hW va_S.rf
theorem a_iret {p : Program} {l : Launch} {e : Env} {R : Room} {s : State} {m : MethodId} {args : Array Value} {below : List Frame} {meth : Method} {c : Code} {H : Heap} {locs : List Loc} {cells slots : Nat} {own : String} {cc : ByteArray} {nL : Nat} {G G' : wG} {A : Nat → Prop} {hv : HV} {pc : Nat} {ls : Array Slot} {post : Int32 → HV → Prop} {v : Int32}
    (C0 : cx p s m args meth c own cc nL G) (hr : meth.sig.returnType = some .int) (hg : G'.1 = G.1 ∧ G'.2.1 = G.2.1 ∧ ad G' 8 0 = ad G 8 0 ∧ ad G' 9 0 = ad G 9 0) (hW : wd G' A hv H) (hS : va_S A s.heap H locs) (hp : post v hv) (hdg : decode cc pc = .ok (.ireturn, 1)) : W p l e R s m args below meth c H locs cells slots (MQ below (qA G A post) args s cells slots A) (F0 m pc ls [.int v]) :=
  W.iret C0.1 C0.2.1 hr (fun t ht _ => ⟨⟨v, (G', hv), rfl, ⟨hg, hp⟩, by show wd G' A hv t.heap; rw [ht]; exact hW⟩, hS.F ht⟩) hS.2.2 hdg C0.2.2.2.2.2.2
def V_X8_addPump (a1 a2 a3 a4 a5 : Int32) (hv : HV) (post : Int32 → HV → Prop) : Prop :=
  V_X8_outside a1 10 99 hv (fun r1 hv1 => (r1 = 0 → V_X8_outside a2 10 400 hv1 (fun r2 hv2 => (r2 = 0 → V_X8_outside a3 1 20 hv2 (fun r3 hv3 => (r3 = 0 → V_X8_outside a4 0 100 hv3 (fun r4 hv4 => (r4 = 0 → V_X8_outside a5 (a1 + 1) 500 hv4 (fun r5 hv5 => (r5 = 0 → ∀ x6 : Int32, x6 = hv5 7 0 4 → V_X8_outside x6 0 (4 - 1) hv5 (fun r7 hv7 => (r7 = 0 → V_X8_keepState hv7 (fun hv8 => vp_in x6 4 ∧ ∀ hv9 : HV, hv9 = npH hv8 x6.toNatClampNeg a1 a2 a3 a4 a5 → ∀ hv10 : HV, hv10 = up hv9 7 0 (upd (hv9 7 0) 4 (x6 + 1)) → post x6 hv10)) ∧ (¬ r7 = 0 → post (-1004) hv7))) ∧ (¬ r5 = 0 → post (-1002) hv5))) ∧ (¬ r4 = 0 → post (-1002) hv4))) ∧ (¬ r3 = 0 → post (-1002) hv3))) ∧ (¬ r2 = 0 → post (-1002) hv2))) ∧ (¬ r1 = 0 → post (-1002) hv1))
theorem pl_X8_addPump : yX8_addPump.cls ≠ "java/lang/invoke/MethodHandle" ∧ yX8_addPump.cls ≠ "java/lang/invoke/VarHandle" ∧ (parseMethodDescriptor yX8_addPump.desc).map (fun d => d.parameters.length) = some 5 := ⟨by decide +kernel, by decide +kernel, by decide +kernel⟩
set_option maxHeartbeats 4000000 in
set_option maxRecDepth 100000 in
theorem c_X8_addPump (l : Launch) (G : wG) (A : Nat → Prop) (a1 a2 a3 a4 a5 : Int32) (hv : HV) (post : Int32 → HV → Prop) (h : V_X8_addPump a1 a2 a3 a4 a5 hv post) : Met l yX8_addPump (wsy yX8_addPump cX8_addPump 7 (some .int)) (irm 5 7 82) (aPc G A hv [.ref (ad G 8 0), .int a1, .int a2, .int a3, .int a4, .int a5]) (qA G A post) 7 82 A := by
  refine aM_of (by decide +kernel) (Nat.le_of_ble_eq_true rfl) ?_
  intro p e s m args below meth c C0 hr hO hA ls hl hW hS
  have hx := C0.1
  have hb := C0.2.1
  have hl : lv_has ls 7 [(0, .ref (ad G 8 0)), (1, .int a1), (2, .int a2), (3, .int a3), (4, .int a4), (5, .int a5)] := hl
  unfold V_X8_addPump at h
  have bad : ∀ (H : Heap) (locs : List Loc) (ls : Array Slot) (hv : HV), wd G A hv H → va_S A s.heap H locs → post (-1002) hv → W p l e (irm 5 7 82) s m args below meth c H locs 0 0 (MQ below (qA G A post) args s 7 82 A) (F0 m 58 ls []) := by
    intro H locs ls hv hW hS hp
    refine W.widen (k := 7) (n := 82) (Nat.zero_le _) (Nat.zero_le _) ?_
    refine lv_sipush (v := (-1002)) hx hb dX8_addPump_58 (by decide) ?_
    exact a_iret (G' := G) C0 hr ⟨rfl, rfl, rfl, rfl⟩ hW hS hp dX8_addPump_61
  refine lv_iload_n hx hb dX8_addPump_0 rfl (lv_at hl 1 rfl) ?_
  refine lv_bipush (v := 10) hx hb dX8_addPump_1 (by decide) ?_
  refine lv_bipush (v := 99) hx hb dX8_addPump_3 (by decide) ?_
  refine w_ci hS (w_runS (As := [.int a1, .int 10, .int 99]) C0 hW (c_X8_outside l G A a1 10 99 hv _ h) ⟨⟨w_373, w_6, w_337⟩, pl_X8_outside, ⟨Nat.le_of_ble_eq_true rfl, Nat.le_of_ble_eq_true rfl⟩, ⟨Nat.zero_le _, Nat.zero_le _⟩⟩ w_336 rfl hl.1 rfl (Nat.le_of_ble_eq_true rfl) dX8_addPump_5) (fun r1 hv1 h H locs hW hS => ?_)
  refine lv_if_ne (tgt := 58) hx hb dX8_addPump_8 (by decide) (fun c1 => bad _ _ _ _ hW hS (h.2 c1)) (fun c1 => ?_)
  have h := h.1 c1
  refine lv_iload_n hx hb dX8_addPump_11 rfl (lv_at hl 2 rfl) ?_
  refine lv_bipush (v := 10) hx hb dX8_addPump_12 (by decide) ?_
  refine lv_sipush (v := 400) hx hb dX8_addPump_14 (by decide) ?_
  refine w_ci hS (w_runS (As := [.int a2, .int 10, .int 400]) C0 hW (c_X8_outside l G A a2 10 400 hv1 _ h) ⟨⟨w_373, w_6, w_337⟩, pl_X8_outside, ⟨Nat.le_of_ble_eq_true rfl, Nat.le_of_ble_eq_true rfl⟩, ⟨Nat.zero_le _, Nat.zero_le _⟩⟩ w_336 rfl hl.1 rfl (Nat.le_of_ble_eq_true rfl) dX8_addPump_17) (fun r2 hv2 h H locs hW hS => ?_)
  refine lv_if_ne (tgt := 58) hx hb dX8_addPump_20 (by decide) (fun c1 => bad _ _ _ _ hW hS (h.2 c1)) (fun c1 => ?_)
  have h := h.1 c1
  refine lv_iload_n hx hb dX8_addPump_23 rfl (lv_at hl 3 rfl) ?_
  refine lv_iconst (v := 1) hx hb dX8_addPump_24 (by decide) ?_
  refine lv_bipush (v := 20) hx hb dX8_addPump_25 (by decide) ?_
  refine w_ci hS (w_runS (As := [.int a3, .int 1, .int 20]) C0 hW (c_X8_outside l G A a3 1 20 hv2 _ h) ⟨⟨w_373, w_6, w_337⟩, pl_X8_outside, ⟨Nat.le_of_ble_eq_true rfl, Nat.le_of_ble_eq_true rfl⟩, ⟨Nat.zero_le _, Nat.zero_le _⟩⟩ w_336 rfl hl.1 rfl (Nat.le_of_ble_eq_true rfl) dX8_addPump_27) (fun r3 hv3 h H locs hW hS => ?_)
  refine lv_if_ne (tgt := 58) hx hb dX8_addPump_30 (by decide) (fun c1 => bad _ _ _ _ hW hS (h.2 c1)) (fun c1 => ?_)
  have h := h.1 c1
  refine lv_iload hx hb dX8_addPump_33 (lv_at hl 4 rfl) ?_
  refine lv_iconst (v := 0) hx hb dX8_addPump_35 (by decide) ?_
  refine lv_bipush (v := 100) hx hb dX8_addPump_36 (by decide) ?_
  refine w_ci hS (w_runS (As := [.int a4, .int 0, .int 100]) C0 hW (c_X8_outside l G A a4 0 100 hv3 _ h) ⟨⟨w_373, w_6, w_337⟩, pl_X8_outside, ⟨Nat.le_of_ble_eq_true rfl, Nat.le_of_ble_eq_true rfl⟩, ⟨Nat.zero_le _, Nat.zero_le _⟩⟩ w_336 rfl hl.1 rfl (Nat.le_of_ble_eq_true rfl) dX8_addPump_38) (fun r4 hv4 h H locs hW hS => ?_)
  refine lv_if_ne (tgt := 58) hx hb dX8_addPump_41 (by decide) (fun c1 => bad _ _ _ _ hW hS (h.2 c1)) (fun c1 => ?_)
  have h := h.1 c1
  refine lv_iload hx hb dX8_addPump_44 (lv_at hl 5 rfl) ?_
  refine lv_iload_n hx hb dX8_addPump_46 rfl (lv_at hl 1 rfl) ?_
  refine lv_iconst (v := 1) hx hb dX8_addPump_47 (by decide) ?_
  refine lv_iadd hx hb dX8_addPump_48 ?_
  refine lv_sipush (v := 500) hx hb dX8_addPump_49 (by decide) ?_
  refine w_ci hS (w_runS (As := [.int a5, .int (a1 + 1), .int 500]) C0 hW (c_X8_outside l G A a5 (a1 + 1) 500 hv4 _ h) ⟨⟨w_373, w_6, w_337⟩, pl_X8_outside, ⟨Nat.le_of_ble_eq_true rfl, Nat.le_of_ble_eq_true rfl⟩, ⟨Nat.zero_le _, Nat.zero_le _⟩⟩ w_336 rfl hl.1 rfl (Nat.le_of_ble_eq_true rfl) dX8_addPump_52) (fun r5 hv5 h H locs hW hS => ?_)
  refine lv_if_eq (tgt := 62) hx hb dX8_addPump_55 (by decide) (fun c1 => ?_) (fun c1 => bad _ _ _ _ hW hS (h.2 c1))
  have h := h.1 c1
  refine lv_aload_n hx hb dX8_addPump_62 rfl (lv_at hl 0 rfl) ?_
  refine w_get (v := .ref (ad G 7 0)) C0 hW 8 0 (by decide) (by decide) rfl rfl in_X8 0 (by decide) w_284 rfl dX8_addPump_63 ?_
  refine w_get (v := .int (hv5 7 0 4)) C0 hW 7 0 (by decide) (by decide) rfl rfl in_X7 4 (by decide) w_195 rfl dX8_addPump_66 ?_
  refine lv_topi (fun x6 ex6 => ?_)
  have h := h x6 ex6
  refine lv_istore (lv' := [(6, .int x6), (0, .ref (ad G 8 0)), (1, .int a1), (2, .int a2), (3, .int a3), (4, .int a4), (5, .int a5)]) hx hb dX8_addPump_69 hl (by decide) rfl (fun ls hl => ?_)
  refine lv_iload hx hb dX8_addPump_71 (lv_at hl 0 rfl) ?_
  refine lv_iconst (v := 0) hx hb dX8_addPump_73 (by decide) ?_
  refine lv_aload_n hx hb dX8_addPump_74 rfl (lv_at hl 1 rfl) ?_
  refine w_get (v := .ref (ad G 7 0)) C0 hW 8 0 (by decide) (by decide) rfl rfl in_X8 0 (by decide) w_284 rfl dX8_addPump_75 ?_
  refine w_get (v := .ref (ad G 11 0)) C0 hW 7 0 (by decide) (by decide) rfl rfl in_X7 5 (by decide) w_197 rfl dX8_addPump_78 ?_
  refine w_alen (v := 4) C0 hW 11 0 (by decide) (by decide) rfl 3 rfl rfl dX8_addPump_81 ?_
  refine lv_iconst (v := 1) hx hb dX8_addPump_82 (by decide) ?_
  refine lv_isub hx hb dX8_addPump_83 ?_
  refine w_ci hS (w_runS (As := [.int x6, .int 0, .int (4 - 1)]) C0 hW (c_X8_outside l G A x6 0 (4 - 1) hv5 _ h) ⟨⟨w_373, w_6, w_337⟩, pl_X8_outside, ⟨Nat.le_of_ble_eq_true rfl, Nat.le_of_ble_eq_true rfl⟩, ⟨Nat.zero_le _, Nat.zero_le _⟩⟩ w_336 rfl hl.1 rfl (Nat.le_of_ble_eq_true rfl) dX8_addPump_84) (fun r7 hv7 h H locs hW hS => ?_)
  refine lv_if_eq (tgt := 94) hx hb dX8_addPump_87 (by decide) (fun c1 => ?_) (fun c1 => ?_)
  · have h := h.1 c1
    refine lv_aload_n hx hb dX8_addPump_94 rfl (lv_at hl 1 rfl) ?_
    refine w_cv hS (w_runV (As := []) C0 hW 8 0 (by decide) (by decide) rfl rfl (c_X8_keepState l G A hv7 _ h) ⟨⟨w_374, w_6, w_377⟩, pl_X8_keepState, ⟨Nat.le_of_ble_eq_true rfl, Nat.le_of_ble_eq_true rfl⟩, ⟨Nat.zero_le _, Nat.zero_le _⟩⟩ ⟨w_376, w_0⟩ rfl hl.1 rfl (Nat.le_of_ble_eq_true rfl) dX8_addPump_95) (fun hv8 h H locs hW hS => ?_)
    obtain ⟨hin, h⟩ := h
    have hp4 : x6.toNatClampNeg < 4 := Nat.not_le.mp fun q => hin (Or.inr q)
    refine lv_aload_n hx hb dX8_addPump_98 rfl (lv_at hl 1 rfl) ?_
    refine w_get (v := .ref (ad G 7 0)) C0 hW 8 0 (by decide) (by decide) rfl rfl in_X8 0 (by decide) w_284 rfl dX8_addPump_99 ?_
    refine w_get (v := .ref (ad G 11 0)) C0 hW 7 0 (by decide) (by decide) rfl rfl in_X7 5 (by decide) w_197 rfl dX8_addPump_102 ?_
    refine lv_iload hx hb dX8_addPump_105 (lv_at hl 0 rfl) ?_
    refine i_new (ci := 4) (fs := [.int 0, .int 0, .int 0, .int 0, .int 0, .int 0, .int 0, .int 0, .int 0, .int 0, .int 0, .int 0, .int 0, .null, .null, .null, .null]) C0 hW.1 hW.2 hS hA rfl in_X4 tyX4_ok w_282 w_33 w_8 (fun j hj => match j, hj with | 0, _ => rfl | 1, _ => rfl | 2, _ => rfl | 3, _ => rfl | 4, _ => rfl | 5, _ => rfl | 6, _ => rfl | 7, _ => rfl | 8, _ => rfl | 9, _ => rfl | 10, _ => rfl | 11, _ => rfl | 12, _ => rfl | 13, _ => rfl | 14, _ => rfl | 15, _ => rfl | 16, _ => rfl | j + 17, h => absurd h (by omega)) (Nat.le_of_ble_eq_true rfl) (Nat.le_of_ble_eq_true rfl) dX8_addPump_107 (fun q H hP hD hS => ?_)
    refine W.widen (k := 1) (n := 17) (Nat.le_of_ble_eq_true rfl) (Nat.le_of_ble_eq_true rfl) ?_
    refine lv_dup hx hb dX8_addPump_110 rfl ?_
    refine lv_iload_n hx hb dX8_addPump_111 rfl (lv_at hl 2 rfl) ?_
    refine lv_iload_n hx hb dX8_addPump_112 rfl (lv_at hl 3 rfl) ?_
    refine lv_iload_n hx hb dX8_addPump_113 rfl (lv_at hl 4 rfl) ?_
    refine lv_iload hx hb dX8_addPump_114 (lv_at hl 5 rfl) ?_
    refine lv_iload hx hb dX8_addPump_116 (lv_at hl 6 rfl) ?_
    refine i_call hP hD hS hA (i_runI (As := [.int a1, .int a2, .int a3, .int a4, .int a5]) (rest := [.ref q, .int x6, .ref (ad G 11 0)]) C0 hO hP (c_X4_init l G q _ a1 a2 a3 a4 a5) ⟨⟨w_283, w_8, w_36⟩, pi_X4_init, ⟨Nat.le_of_ble_eq_true rfl, Nat.le_of_ble_eq_true rfl⟩, ⟨Nat.le_of_ble_eq_true rfl, Nat.le_of_ble_eq_true rfl⟩, rfl, w_35⟩ rfl hl.1 rfl (Nat.le_of_ble_eq_true rfl) dX8_addPump_118) (fun a H locs ha hP hD hS => ?_)
    rw [← ha]
    refine W.widen (k := 7) (n := 82) (Nat.le_of_ble_eq_true rfl) (Nat.le_of_ble_eq_true rfl) ?_
    refine i_aast (i := x6) C0 hP hD hS 279 3 _ 4 (by rw [List.getElem?_append_left (by rw [wl_len]; omega)]; exact wl_at (c := 11) (i := 0) (by decide) (by decide)) rfl i_end rfl hin dX8_addPump_121 (fun H locs hP hD hS => ?_)
    have hW : wd (setG G x6.toNatClampNeg (a 0 0)) A (npH hv8 x6.toNatClampNeg a1 a2 a3 a4 a5) H := w_newpump hp4 hP hD
    have h := h _ rfl
    generalize x6.toNatClampNeg = n at hW h hp4
    generalize npH hv8 n a1 a2 a3 a4 a5 = hv9 at hW h
    have e8 : ad (setG G n (a 0 0)) 8 0 = ad G 8 0 := adS (by unfold nkp; omega)
    have C1 : cx p s m args meth c "RamStation" cX8_addPump 7 (setG G n (a 0 0)) := C0
    have hg : (setG G n (a 0 0)).1 = G.1 ∧ (setG G n (a 0 0)).2.1 = G.2.1 ∧ ad (setG G n (a 0 0)) 8 0 = ad G 8 0 ∧ ad (setG G n (a 0 0)) 9 0 = ad G 9 0 := ⟨rfl, rfl, e8, adS (by unfold nkp; omega)⟩
    rw [← e8] at hl
    clear e8
    generalize setG G n (a 0 0) = G' at hW hl C1 hg
    refine lv_aload_n hx hb dX8_addPump_122 rfl (lv_at hl 1 rfl) ?_
    refine w_get (v := .ref (ad G' 7 0)) C1 hW 8 0 (by decide) (by decide) rfl rfl in_X8 0 (by decide) w_284 rfl dX8_addPump_123 ?_
    refine lv_iload hx hb dX8_addPump_126 (lv_at hl 0 rfl) ?_
    refine lv_iconst (v := 1) hx hb dX8_addPump_128 (by decide) ?_
    refine lv_iadd hx hb dX8_addPump_129 ?_
    refine w_put (v := x6 + 1) C1 hW hS 7 0 (by decide) (by decide) rfl rfl in_X7 tyX7_ok nmX7 4 (by decide) w_195 rfl rfl rfl (Nat.le_of_ble_eq_true rfl) rfl dX8_addPump_130 (fun hv10 e10 H locs hW hS => ?_)
    have h := h hv10 e10
    refine lv_iload hx hb dX8_addPump_133 (lv_at hl 0 rfl) ?_
    exact a_iret (G' := G') C0 hr hg hW hS h dX8_addPump_135
  · have h := h.2 c1
    refine W.widen (k := 7) (n := 82) (Nat.zero_le _) (Nat.zero_le _) ?_
    refine lv_sipush (v := (-1004)) hx hb dX8_addPump_90 (by decide) ?_
    exact a_iret (G' := G) C0 hr ⟨rfl, rfl, rfl, rfl⟩ hW hS h dX8_addPump_93

