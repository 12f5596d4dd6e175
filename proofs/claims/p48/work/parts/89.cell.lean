/-! cell: some number of the script, or beyond it. -/
def xPc (G : wG) (A : Nat → Prop) (hv : HV) (b L : Nat) (xs : Nat → Int32) (av : List Value) : Array Value → State → Prop := va_Pc av (fun U => wd G A hv U.heap ∧ wK G U ∧ va_X b L xs U U.heap ∧ b < U.heap.size)
theorem xPc_blind {G : wG} {A : Nat → Prop} {hv : HV} {b L : Nat} {xs : Nat → Int32} {av : List Value} : FrameBlind (xPc G A hv b L xs av) := fun a U g mk q => ⟨q.1, q.2.1, ⟨va_K.moved (u := U) (U := U.calling g mk a) (Vm.Alike.refl U.vm) q.2.2.1.1, wN.same (u := U) rfl q.2.2.1.2⟩, va_X.moved (u := U) (U := U.calling g mk a) (Vm.Alike.refl U.vm) q.2.2.2.1, q.2.2.2.2⟩
theorem pl_L_cell : yL_cell.cls ≠ "java/lang/invoke/MethodHandle" ∧ yL_cell.cls ≠ "java/lang/invoke/VarHandle" ∧ (parseMethodDescriptor yL_cell.desc).map (fun d => d.parameters.length) = some 2 := ⟨by decide +kernel, by decide +kernel, by decide +kernel⟩
set_option maxHeartbeats 4000000 in
theorem c_L_cell (l : Launch) (G : wG) (A : Nat → Prop) (b L : Nat) (xs : Nat → Int32) (k : Nat) (hv : HV) (hbA : ¬ A b) (hL : L < 2 ^ 31) (hk : k < 2 ^ 31) : Met l yL_cell (wsy yL_cell cL_cell 2 (some .int)) (wrm 0) (xPc G A hv b L xs [.ref b, .int (nI k)]) (qI G A (fun _ hv' => hv' = hv)) 0 0 A := by
  refine Met.ofW (cc := cL_cell) (maxL := 2) (ret := some .int) (by decide +kernel) rfl ?_
  intro p e s m args below meth c s₁ B hml hvv
  obtain ⟨rfl, hW, hK, hX, hbl⟩ := hvv
  have hts0 := atoms_spec (ws := wsy yL_cell cL_cell 2 (some .int)) B.pre
  have hl := lv_entry ([.ref b, .int (nI k)]) (n := 2) (Nat.le_of_ble_eq_true rfl)
  rw [lg_entry_eq]
  have C0 : cx p s m ([.ref b, .int (nI k)] : List Value).toArray meth c "RamStationLaw" cL_cell 2 G := ⟨B.exec, B.bytes, hml, findClass_of_methodNamed B.named, fun w h => hts0 w (List.mem_cons_of_mem _ h), hK, B.notSynchronized⟩
  have hr : meth.sig.returnType = some .int := B.returns
  have hS : va_S A s.heap s.heap [] := va_S.rf
  have hx := C0.1
  have hb := C0.2.1
  have hown := C0.2.2.2.1
  have hts := C0.2.2.2.2.1
  generalize (lg_sl ([.ref b, .int (nI k)])  ++ List.replicate (2 - (lg_sl ([.ref b, .int (nI k)])).length) Slot.unset).toArray = ls at hl ⊢
  have hl : lv_has ls 2 [(0, .ref b), (1, .int (nI k))] := hl
  refine lv_iload_n hx hb dL_cell_0 rfl (lv_at hl 1 rfl) ?_
  refine lv_aload_n hx hb dL_cell_1 rfl (lv_at hl 0 rfl) ?_
  refine va_slen hx hb hX hbl hbA hS dL_cell_2 ?_
  refine lv_icmp_ge (tgt := 12) hx hb dL_cell_3 (by decide) (fun c1 => ?_) (fun c1 => ?_)
  · refine lv_ldc (v := 747796405) hx hb hown (hts _ w_358) dL_cell_12 ?_
    refine lv_iload_n hx hb dL_cell_14 rfl (lv_at hl 1 rfl) ?_
    refine lv_iconst (v := 1) hx hb dL_cell_15 (by decide) ?_
    refine lv_iadd hx hb dL_cell_16 ?_
    refine lv_imul hx hb dL_cell_17 ?_
    exact w_iret C0 hr hW hS rfl dL_cell_18
  · have hkL : k < L := by
      have c2 : ¬ nI L ≤ nI k := c1
      rw [nI_leI hL hk] at c2
      omega
    refine lv_aload_n hx hb dL_cell_6 rfl (lv_at hl 0 rfl) ?_
    refine lv_iload_n hx hb dL_cell_7 rfl (lv_at hl 1 rfl) ?_
    refine va_sld hx hb hX hbl hbA hS (vp_in_nI hkL hL) dL_cell_8 ?_
    refine lv_goto (tgt := 18) hx hb dL_cell_9 (by decide) ?_
    exact w_iret C0 hr hW hS rfl dL_cell_18
theorem x_runS {p : Program} {l : Launch} {e : Env} {R : Room} {s : State} {m : MethodId} {args : Array Value} {below : List Frame} {meth : Method} {c : Code} {H : Heap} {locs : List Loc} {cells slots : Nat} {own : String} {cc : ByteArray} {nL : Nat} {G : wG} {A : Nat → Prop} {hv : HV} {pc : Nat} {ls : Array Slot} {rest : List Value} {b L : Nat} {xs : Nat → Int32}
    {index : Nat} {y : MethodName} {cb : ByteArray} {nLc d n : Nat} {ret : Option FieldType} {As : List Value} {Qc : Array Value → State → Outcome → State → Prop} (C0 : cx p s m args meth c own cc nL G) (hX : va_X b L xs s s.heap) (hbl : b < s.heap.size) (hbA : ¬ A b) (hS : va_S A s.heap H locs) (hW : wd G A hv H)
    (hM : Met l y (wsy y cb nLc ret) (wrm d) (xPc G A hv b L xs As) Qc 0 0 A)
    (hw : wcall R own index y cb nLc ret d n cells slots) (hw2 : Cond.static y ∈ TB) (hn : As.length = n) (hls : ls.size = nL) {st : List Value} (hst : st = As.reverse ++ rest) (hcat : (rest.map fun v => v.category).sum ≤ 8) (hdg : decode cc pc = .ok (.invokestatic index, 3)) :
    va_Run p l e R s m args below meth c H locs cells slots 0 0 (F0 m pc ls st) rest (Qc As.toArray) A :=
  va_runS (As := As) (rest := rest) ⟨C0.1, C0.2.1, C0.2.2.1, C0.2.2.2.1, C0.2.2.2.2.1⟩ hM ⟨w_callB C0 hw, C0.2.2.2.2.1 _ hw2⟩
    ⟨xPc_blind, fun U hU hwarm => ⟨rfl, by rw [hU]; exact hW, C0.2.2.2.2.2.1.warm hwarm, by rw [hU]; exact va_X.moved hwarm.alike (hX.kept (hS.2.1 b hbl hbA)), by rw [hU]; exact Nat.lt_of_lt_of_le hbl hS.1⟩⟩ rfl hn hls hst (lv_room hcat) hdg hw.2.2.2
