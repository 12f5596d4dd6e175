/-! Calls that change the world's addresses (addPump, the law's change). -/
def lA (s : State) : Nat → Prop := fun q => s.heap.size ≤ q
theorem wK_cg {G G' : wG} {U : State} (h1 : G'.1 = G.1) (h2 : G'.2.1 = G.2.1) (h : wK G U) : wK G' U := by
  unfold wK at h ⊢
  unfold wtys at h ⊢
  rw [h1, h2]; exact h
theorem cx_cg {p : Program} {s : State} {m : MethodId} {args : Array Value} {meth : Method} {c : Code} {own : String} {cc : ByteArray} {nL : Nat} {G G' : wG} (h1 : G'.1 = G.1) (h2 : G'.2.1 = G.2.1) (h : cx p s m args meth c own cc nL G) : cx p s m args meth c own cc nL G' :=
  ⟨h.1, h.2.1, h.2.2.1, h.2.2.2.1, h.2.2.2.2.1, wK_cg h1 h2 h.2.2.2.2.2.1, h.2.2.2.2.2.2⟩
section LAW
variable {p : Program} {l : Launch} {e : Env} {R : Room} {s : State} {m : MethodId} {args : Array Value} {below : List Frame} {meth : Method} {c : Code} {H : Heap} {locs : List Loc} {cells slots : Nat} {Q : State → Prop}
variable {own : String} {cc : ByteArray} {nL : Nat} {G : wG} {A : Nat → Prop} {hv : HV} {H0 : Heap} {pc : Nat} {ls : Array Slot} {rest : List Value}
abbrev wcallA (R : Room) (own : String) (index : Nat) (y : MethodName) (cb : ByteArray) (nLc : Nat) (d n : Nat) (cells slots mc ms : Nat) : Prop :=
  (Cond.methodLink own index y ∈ TB ∧ Cond.initialized y.cls ∈ TB ∧ Cond.code y cb nLc (some .int) ∈ TB) ∧ (y.cls ≠ "java/lang/invoke/MethodHandle" ∧ y.cls ≠ "java/lang/invoke/VarHandle" ∧ (parseMethodDescriptor y.desc).map (fun d => d.parameters.length) = some n) ∧ (d + 1 ≤ R.frames ∧ 8 + (nLc + 11) + 32 * d ≤ R.locals) ∧ (cells + mc ≤ R.cells ∧ slots + ms ≤ R.slots)
theorem a_run {index : Nat} {y : MethodName} {cb : ByteArray} {nLc d n mc ms : Nat} {As : List Value} {Qc : Array Value → State → Outcome → State → Prop} (C0 : cx p s m args meth c own cc nL G) (hO : iAO s) (hA : ∀ q, H.size ≤ q → A q) (hW : wd G A hv H)
    (hM : Met l y (wsy y cb nLc (some .int)) (irm d mc ms) (aPc G A hv (.ref (ad G 8 0) :: As)) Qc mc ms A) (hw : wcallA R own index y cb nLc d n cells slots mc ms) (hw2 : Cond.instanceMethod y ∈ TB ∧ Cond.selects "RamStation" y y ∈ TB) (hn : As.length = n) (hls : ls.size = nL) {st : List Value} (hst : st = As.reverse ++ .ref (ad G 8 0) :: rest) (hcat : (rest.map fun v => v.category).sum ≤ 8) (hdg : decode cc pc = .ok (.invokevirtual index, 3)) :
    va_Run p l e R s m args below meth c H locs cells slots mc ms (F0 m pc ls st) rest (Qc (Value.ref (ad G 8 0) :: As).toArray) A :=
  va_runV (As := As) (rest := rest) ⟨C0.1, C0.2.1, C0.2.2.1, C0.2.2.2.1, C0.2.2.2.2.1⟩ hM ⟨callB_of n C0.2.2.2.2.1 (tb_goodIn hw.1.2.2) rfl rfl rfl (C0.2.2.2.2.1 _ hw.1.2.1) (C0.2.2.2.2.1 _ hw.1.1) hw.2.1 hw.2.2.1, C0.2.2.2.2.1 _ hw2.1, C0.2.2.2.2.1 _ hw2.2⟩
    ⟨aPc_blind, va_recv C0.2.2.2.2.2.1.1 hW.1 (ci := 8) (q := ("RamStation", TX8, 11)) rfl (q0 := bas 8 + 0) (by rw [wl_at (c := 8) (i := 0) (by decide) (by decide)]; rfl), fun U hU hwarm => ⟨rfl, by rw [hU]; exact hW, C0.2.2.2.2.2.1.warm hwarm, hO.moved hwarm.alike, by rw [hU]; exact hA⟩⟩ rfl hn hls hst (lv_room hcat) hdg hw.2.2.2
theorem a_call {st : List Value} {av : Array Value} {post : Int32 → HV → Prop} {mc ms : Nat} (hS : va_S A H0 H locs) (hr : va_Run p l e R s m args below meth c H locs cells slots mc ms (F0 m pc ls st) rest (qA G A post av) A)
    (kk : ∀ (r : Int32) (G1 : wG) (hv1 : HV), G1.1 = G.1 → G1.2.1 = G.2.1 → ad G1 8 0 = ad G 8 0 → ad G1 9 0 = ad G 9 0 → post r hv1 → ∀ (H1 : Heap) (locs1 : List Loc), wd G1 A hv1 H1 → va_S A H0 H1 locs1 → W p l e R s m args below meth c H1 locs1 (cells + mc) (slots + ms) Q (F0 m (pc + 3) ls (.int r :: rest))) : W p l e R s m args below meth c H locs cells slots Q (F0 m pc ls st) :=
  va_calli hr hS (fun _ _ h => h) (fun _ h => h) fun r u t H1 locs1 ht _ hp hb _ _ hS1 => kk r u.1 u.2 hp.1.1 hp.1.2.1 hp.1.2.2.1 hp.1.2.2.2 hp.2 H1 locs1 (by rw [← ht]; exact hb) hS1
theorem a_runS {index : Nat} {y : MethodName} {cb : ByteArray} {nLc d n mc ms : Nat} {ret : Option FieldType} {As : List Value} {Qc : Array Value → State → Outcome → State → Prop} (C0 : cx p s m args meth c own cc nL G) (hO : iAO s) (hA : ∀ q, H.size ≤ q → A q) (hW : wd G A hv H)
    (hM : Met l y (wsy y cb nLc ret) (irm d mc ms) (aPc G A hv As) Qc mc ms A)
    (hw : (Cond.methodLink own index y ∈ TB ∧ Cond.initialized y.cls ∈ TB ∧ Cond.code y cb nLc ret ∈ TB) ∧ (y.cls ≠ "java/lang/invoke/MethodHandle" ∧ y.cls ≠ "java/lang/invoke/VarHandle" ∧ (parseMethodDescriptor y.desc).map (fun d => d.parameters.length) = some n) ∧ (d + 1 ≤ R.frames ∧ 8 + (nLc + 11) + 32 * d ≤ R.locals) ∧ (cells + mc ≤ R.cells ∧ slots + ms ≤ R.slots)) (hw2 : Cond.static y ∈ TB) (hn : As.length = n) (hls : ls.size = nL) {st : List Value} (hst : st = As.reverse ++ rest) (hcat : (rest.map fun v => v.category).sum ≤ 8) (hdg : decode cc pc = .ok (.invokestatic index, 3)) :
    va_Run p l e R s m args below meth c H locs cells slots mc ms (F0 m pc ls st) rest (Qc As.toArray) A :=
  va_runS (As := As) (rest := rest) ⟨C0.1, C0.2.1, C0.2.2.1, C0.2.2.2.1, C0.2.2.2.2.1⟩ hM ⟨callB_of n C0.2.2.2.2.1 (tb_goodIn hw.1.2.2) rfl rfl rfl (C0.2.2.2.2.1 _ hw.1.2.1) (C0.2.2.2.2.1 _ hw.1.1) hw.2.1 hw.2.2.1, C0.2.2.2.2.1 _ hw2⟩
    ⟨aPc_blind, fun U hU hwarm => ⟨rfl, by rw [hU]; exact hW, C0.2.2.2.2.2.1.warm hwarm, hO.moved hwarm.alike, by rw [hU]; exact hA⟩⟩ rfl hn hls hst (lv_room hcat) hdg hw.2.2.2
theorem a_zret {G' : wG} {post : Int32 → HV → Prop} {v : Int32} {ty : FieldType}
    (C0 : cx p s m args meth c own cc nL G) (hr : meth.sig.returnType = some ty) (hn : narrow ty (.int v) = .int v) (hg : G'.1 = G.1 ∧ G'.2.1 = G.2.1 ∧ ad G' 8 0 = ad G 8 0 ∧ ad G' 9 0 = ad G 9 0) (hW : wd G' A hv H) (hS : va_S A s.heap H locs) (hp : post v hv) (hdg : decode cc pc = .ok (.ireturn, 1)) : W p l e R s m args below meth c H locs cells slots (MQ below (qA G A post) args s cells slots A) (F0 m pc ls [.int v]) :=
  W.zret C0.1 C0.2.1 hr hn (fun t ht _ => ⟨⟨v, (G', hv), rfl, ⟨hg, hp⟩, by show wd G' A hv t.heap; rw [ht]; exact hW⟩, hS.F ht⟩) hS.2.2 hdg C0.2.2.2.2.2.2
end LAW
