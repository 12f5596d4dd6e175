/-! Worlds that grow: the constructors' rows. A world is (F ++ T): F the cells that are still written, T the others. -/
abbrev AD3 : Type := Nat → Nat → Nat → Nat
def iAO (U : State) : Prop := va_AO "RamStation$Pump" U ∧ va_AO "RamStation$State" U
def iA (h0 sz : Nat) : Nat → Prop := fun q => q = h0 ∨ sz ≤ q
abbrev irm (d mc ms : Nat) : Room := { frames := d, cells := mc, slots := ms, locals := 32 * d }
def iQ (G : wG) (h0 sz : Nat) (X : AD3 → va_W) : Array Value → State → Outcome → State → Prop := va_Qv (fun a : AD3 => a 0 0 0 = h0) (fun a t => va_P G.1 wcls (X a) t.heap ∧ va_D (iA h0 sz) (X a)) (iA h0 sz)
def iPc (G : wG) (h0 sz : Nat) (e0 : va_E) (av : List Value) : Array Value → State → Prop := va_Pc av (fun U => U.heap.size = sz ∧ va_P G.1 wcls [(h0, e0)] U.heap ∧ wK G U ∧ iAO U)
def iMt (l : Launch) (y : MethodName) (cc : ByteArray) (nL d mc ms : Nat) (G : wG) (h0 sz : Nat) (e0 : va_E) (av : List Value) (X : AD3 → va_W) : Prop :=
  Met l y (wsy y cc nL none) (irm d mc ms) (iPc G h0 sz e0 av) (iQ G h0 sz X) mc ms (iA h0 sz)
theorem iAO.moved {u U : State} (hvm : u.vm.Alike U.vm) (h : iAO u) : iAO U := ⟨va_AO.moved hvm h.1, va_AO.moved hvm h.2⟩
theorem iPc_blind {G : wG} {h0 sz : Nat} {e0 : va_E} {av : List Value} : FrameBlind (iPc G h0 sz e0 av) := fun a U g mk q => ⟨q.1, q.2.1, q.2.2.1, ⟨va_K.moved (u := U) (U := U.calling g mk a) (Vm.Alike.refl U.vm) q.2.2.2.1.1, wN.same (u := U) rfl q.2.2.2.1.2⟩, iAO.moved (u := U) (U := U.calling g mk a) (Vm.Alike.refl U.vm) q.2.2.2.2⟩
theorem iMt_of {l : Launch} {y : MethodName} {cc : ByteArray} {nL d mc ms : Nat} {G : wG} {h0 sz : Nat} {e0 : va_E} {av : List Value} {X : AD3 → va_W} (hy : plainName y.cls = true) (hi : y.name = "<init>") (hn : (lg_sl av).length ≤ nL)
    (body : ∀ p e s m args below meth c, cx p s m args meth c y.cls cc nL G → iAO s → meth.name = "<init>" → meth.sig.returnType = none → ∀ ls : Array Slot, lv_has ls nL (lv_args 0 av) → s.heap.size = sz → va_P G.1 wcls [(h0, e0)] s.heap → W p l e (irm d mc ms) s m args below meth c s.heap [] 0 0 (MQ below (iQ G h0 sz X) args s mc ms (iA h0 sz)) (F0 m 0 ls [])) : iMt l y cc nL d mc ms G h0 sz e0 av X := by
  refine Met.ofW (cc := cc) (maxL := nL) (ret := none) hy rfl ?_
  intro p e s m args below meth c s₁ B hml hv
  obtain ⟨rfl, hsz, hP, hK, hO⟩ := hv
  have hts := atoms_spec (ws := wsy y cc nL none) B.pre
  have hl := lv_entry av (n := nL) hn
  rw [lg_entry_eq]
  exact body p e s m _ below meth c ⟨B.exec, B.bytes, hml, findClass_of_methodNamed B.named, fun w h => hts w (List.mem_cons_of_mem _ h), hK, B.notSynchronized⟩ hO ((name_of_methodNamed B.named B.method).1.trans hi) B.returns _ hl hsz hP
theorem i_one {h0 sz : Nat} {e0 : va_E} : va_D (iA h0 sz) [(h0, e0)] := by
  refine ⟨fun i j x y hi hj _ => ?_, fun k q hk => ?_⟩
  · have h1 := (List.getElem?_eq_some_iff.mp hi).1
    have h2 := (List.getElem?_eq_some_iff.mp hj).1
    simp at h1 h2
    omega
  · have h1 := (List.getElem?_eq_some_iff.mp hk).1
    simp at h1
    subst h1
    cases hk
    exact Or.inl rfl
theorem RA_eq {U : State} {cA cB : ClassId} {ty : FieldType} (h1 : va_RA U cA ty) (h2 : va_RA U cB ty) : cA = cB := by
  cases ty with
  | object C =>
    obtain ⟨_, _, _, _, _, a⟩ := h1
    obtain ⟨_, _, _, _, _, b⟩ := h2
    exact Option.some.inj (a.symm.trans b)
  | _ => exact Option.some.inj (Eq.trans (Eq.symm h1) h2)
/-- an array of references: what lies behind its length doesn't count -/
theorem cell_cg {cA : ClassId} {n : Nat} {f g : Nat → Option Nat} (h : ∀ j, j < n → f j = g j) : vp_cell cA (n, .inr (.inr (.inr (.inr f)))) = vp_cell cA (n, .inr (.inr (.inr (.inr g)))) := by
  rw [vp_cell_q, vp_cell_q]
  unfold arrV
  congr 2
  funext j
  show va_rf (f j.1) = va_rf (g j.1)
  rw [h j.1 j.2]
theorem i_aP {D : va_G} {cl : List vw_C} {a b c : va_W} {H : Heap} (h : va_P D cl ((a ++ b) ++ c) H) : va_P D cl (a ++ (b ++ c)) H := by rw [← List.append_assoc]; exact h
theorem i_aD {A : Nat → Prop} {a b c : va_W} (h : va_D A ((a ++ b) ++ c)) : va_D A (a ++ (b ++ c)) := by rw [← List.append_assoc]; exact h
/-- the second cell, an array of references, under another function -/
theorem i_cP {D : va_G} {cl : List vw_C} {x : Nat × va_E} {q : Nat} {cA : ClassId} {n : Nat} {f g : Nat → Option Nat} {r : va_W} {H : Heap} (h : ∀ j, j < n → f j = g j) (hP : va_P D cl (x :: (q, .inl (cA, n, .inr (.inr (.inr (.inr f))))) :: r) H) : va_P D cl (x :: (q, .inl (cA, n, .inr (.inr (.inr (.inr g))))) :: r) H := by
  intro k y hk
  match k, hk with
  | 0, hk => exact hP 0 y hk
  | 1, hk =>
    cases hk
    have z := hP 1 _ rfl
    unfold va_at at z ⊢
    dsimp only at z ⊢
    rw [← cell_cg h]
    exact z
  | k + 2, hk => exact hP (k + 2) y hk
theorem i_cD {A : Nat → Prop} {x : Nat × va_E} {q : Nat} {e e2 : va_E} {r : va_W} (hD : va_D A (x :: (q, e) :: r)) : va_D A (x :: (q, e2) :: r) := hD.set (p := 1) (a := q) (e0 := e) (e := e2) rfl
theorem i_end {ws : va_W} {x : Nat × va_E} {r : va_W} : (ws ++ (x :: r))[ws.length]? = some x := by
  rw [List.getElem?_append_right (Nat.le_refl _), Nat.sub_self]; rfl
section IROWS
variable {p : Program} {l : Launch} {e : Env} {R : Room} {s : State} {m : MethodId} {args : Array Value} {below : List Frame} {meth : Method} {c : Code} {H : Heap} {locs : List Loc} {cells slots : Nat} {Q : State → Prop}
variable {own : String} {cc : ByteArray} {nL : Nat} {G : wG} {A : Nat → Prop} {H0 : Heap} {pc : Nat} {ls : Array Slot} {rest : List Value} {ws : va_W} {a0 : Nat}
theorem i_get (C0 : cx p s m args meth c own cc nL G) (hP : va_P G.1 wcls ws H) (q0 : Nat) {C : String} {T : u_T} {N ci index : Nat} {fs : List Value} (he : ws[q0]? = some (a0, .inr (ci, fs))) (hcl : wcls[ci]? = some (C, T, N)) (hin : ∀ w ∈ u_ws C T N, w ∈ TB) (k : Nat) (hk : k < N)
    (hlink : Cond.fieldLink own index (T k).1 (T k).2.1 (T k).2.2.1 ∈ TB) {v : Value} (hv : fs[k]? = some v) (hdg : decode cc pc = .ok (.getfield index, 3))
    (kk : W p l e R s m args below meth c H locs cells slots Q (F0 m (pc + 3) ls (v :: rest))) : W p l e R s m args below meth c H locs cells slots Q (F0 m pc ls (.ref a0 :: rest)) :=
  va_get C0.1 C0.2.1 C0.2.2.2.2.1 hin C0.2.2.2.1 C0.2.2.2.2.2.1.1 hP q0 he hcl k hk (C0.2.2.2.2.1 _ hlink) (fun _ h => h) hv hdg kk
theorem i_put (C0 : cx p s m args meth c own cc nL G) (hP : va_P G.1 wcls ws H) (hD : va_D A ws) (hS : va_S A H0 H locs) (q0 : Nat) {C : String} {T : u_T} {N ci index : Nat} {fs : List Value} (he : ws[q0]? = some (a0, .inr (ci, fs))) (hcl : wcls[ci]? = some (C, T, N)) (hin : ∀ w ∈ u_ws C T N, w ∈ TB) {ty0 : Nat → FieldType} (hty : ∀ k, k < N → parseFieldDescriptor (T k).2.2.1 = some (ty0 k)) (hnm : ∀ a, a < N → ∀ b, b < N → a ≠ b → (T a).2.1 ≠ (T b).2.1) (k : Nat) (hk : k < N)
    (hlink : Cond.fieldLink own index (T k).1 (T k).2.1 (T k).2.2.1 ∈ TB) (hfin : (T k).2.2.2 = false) {v : Value} (hn : narrow (ty0 k) v = v) (hfit : fits (ty0 k) v = true) (hl : k < fs.length) (hdg : decode cc pc = .ok (.putfield index, 3))
    (kk : ∀ (H1 : Heap) (locs1 : List Loc), va_P G.1 wcls (ws.set q0 (a0, .inr (ci, fs.set k v))) H1 → va_D A (ws.set q0 (a0, .inr (ci, fs.set k v))) → va_S A H0 H1 locs1 → W p l e R s m args below meth c H1 locs1 cells slots Q (F0 m (pc + 3) ls rest)) : W p l e R s m args below meth c H locs cells slots Q (F0 m pc ls (v :: .ref a0 :: rest)) :=
  va_put C0.1 C0.2.1 C0.2.2.2.2.1 hin ty0 hty hnm C0.2.2.2.1 C0.2.2.2.2.2.1.1 hP hD hS q0 he hcl k hk (C0.2.2.2.2.1 _ hlink) (fun _ h => h) hfin (hty k hk) hn hfit hl hdg kk
theorem i_putF (C0 : cx p s m args meth c own cc nL G) (hI : meth.name = "<init>") (hP : va_P G.1 wcls ws H) (hD : va_D A ws) (hS : va_S A H0 H locs) (q0 : Nat) {C : String} {T : u_T} {N ci index : Nat} {fs : List Value} (he : ws[q0]? = some (a0, .inr (ci, fs))) (hcl : wcls[ci]? = some (C, T, N)) (hin : ∀ w ∈ u_ws C T N, w ∈ TB) {ty0 : Nat → FieldType} (hty : ∀ k, k < N → parseFieldDescriptor (T k).2.2.1 = some (ty0 k)) (hnm : ∀ a, a < N → ∀ b, b < N → a ≠ b → (T a).2.1 ≠ (T b).2.1) (k : Nat) (hk : k < N)
    (hlink : Cond.fieldLink own index (T k).1 (T k).2.1 (T k).2.2.1 ∈ TB) (hfin : (T k).2.2.2 = true) (hdecl : (T k).1 = own) {v : Value} (hn : narrow (ty0 k) v = v) (hfit : fits (ty0 k) v = true) (hl : k < fs.length) (hdg : decode cc pc = .ok (.putfield index, 3))
    (kk : ∀ (H1 : Heap) (locs1 : List Loc), va_P G.1 wcls (ws.set q0 (a0, .inr (ci, fs.set k v))) H1 → va_D A (ws.set q0 (a0, .inr (ci, fs.set k v))) → va_S A H0 H1 locs1 → W p l e R s m args below meth c H1 locs1 cells slots Q (F0 m (pc + 3) ls rest)) : W p l e R s m args below meth c H locs cells slots Q (F0 m pc ls (v :: .ref a0 :: rest)) :=
  va_putF C0.1 C0.2.1 C0.2.2.2.2.1 hin ty0 hty hnm C0.2.2.2.1 C0.2.2.2.2.2.1.1 hP hD hS q0 he hcl k hk (C0.2.2.2.2.1 _ hlink) (fun _ h => h) hfin hI hdecl (hty k hk) hn hfit hl hdg kk
theorem i_new (C0 : cx p s m args meth c own cc nL G) (hP : va_P G.1 wcls ws H) (hD : va_D A ws) (hS : va_S A H0 H locs) (hA : ∀ q, H0.size ≤ q → A q) {C : String} {T : u_T} {N ci index : Nat} (hcl : wcls[ci]? = some (C, T, N)) (hin : ∀ w ∈ u_ws C T N, w ∈ TB) {ty : Nat → FieldType} (hty : ∀ k, k < N → parseFieldDescriptor (T k).2.2.1 = some (ty k))
    (hlk : Cond.classLink own index C ∈ TB) (hinst : Cond.instantiable C N ∈ TB) (hini : Cond.initialized C ∈ TB) {fs : List Value} (hfs : ∀ j, j < N → defaultValue (ty j) = vp_V fs j) (hcells : cells + 1 ≤ R.cells) (hslots : slots + N ≤ R.slots) (hdg : decode cc pc = .ok (.new index, 3))
    (kk : ∀ (q : Nat) (H1 : Heap), va_P G.1 wcls (ws ++ [(q, .inr (ci, fs))]) H1 → va_D A (ws ++ [(q, .inr (ci, fs))]) → va_S A H0 H1 locs → W p l e R s m args below meth c H1 locs (cells + 1) (slots + N) Q (F0 m (pc + 3) ls (.ref q :: rest))) : W p l e R s m args below meth c H locs cells slots Q (F0 m pc ls rest) :=
  va_new C0.1 C0.2.1 C0.2.2.2.2.1 hin ty hty C0.2.2.2.1 (C0.2.2.2.2.1 _ hlk) (C0.2.2.2.2.1 _ hinst) (C0.2.2.2.2.1 _ hini) C0.2.2.2.2.2.1.1 hP hD hS hA hcl hfs hcells hslots hdg kk
theorem i_newa (C0 : cx p s m args meth c own cc nL G) (hP : va_P G.1 wcls ws H) (hD : va_D A ws) (hS : va_S A H0 H locs) (hA : ∀ q, H0.size ≤ q → A q) {atype : ArrayType} {ty : FieldType} (hty : newarray.typeOf atype = ty) (harr : Cond.arrayClass (newarray.typeOf atype) ∈ TB) (t : Nat) {cA : ClassId} (ht : (wtys G)[t]? = some (cA, ty))
    {n : Int32} {N' : Nat} {x : vp_A} (ha : ∀ cA : ClassId, vp_cell cA x = arrV cA N' (fun _ => defaultValue ty)) (hn : ¬ n < 0) (hN : n.toNatClampNeg = N') (hbytes : N' * componentBytes ty ≤ 536870912) (hcells : cells + 1 ≤ R.cells) (hslots : slots + N' ≤ R.slots) (hdg : decode cc pc = .ok (.newarray atype, 2))
    (kk : ∀ (q : Nat) (H1 : Heap), va_P G.1 wcls (ws ++ [(q, .inl (cA, x))]) H1 → va_D A (ws ++ [(q, .inl (cA, x))]) → va_S A H0 H1 locs → W p l e R s m args below meth c H1 locs (cells + 1) (slots + N') Q (F0 m (pc + 2) ls (.ref q :: rest))) : W p l e R s m args below meth c H locs cells slots Q (F0 m pc ls (.int n :: rest)) := by
  refine va_newa C0.1 C0.2.1 (C0.2.2.2.2.1 _ harr) hty C0.2.2.2.2.2.1.1 hP hD hS hA ha hn hN hbytes hcells hslots hdg fun q cB H1 hK1 hP1 hD1 hS1 => ?_
  have e1 := (hK1.2 (wtys G).length (cB, ty) (by rw [List.getElem?_append_right (Nat.le_refl _), Nat.sub_self]; rfl)).2
  have e2 := (C0.2.2.2.2.2.1.1.2 t (cA, ty) ht).2
  have e3 : cB = cA := RA_eq e1 e2
  rw [e3] at hP1 hD1
  exact kk q H1 hP1 hD1 hS1
theorem i_newq (C0 : cx p s m args meth c own cc nL G) (hP : va_P G.1 wcls ws H) (hD : va_D A ws) (hS : va_S A H0 H locs) (hA : ∀ q, H0.size ≤ q → A q) {C : String} {index : Nat} (hlk : Cond.classLink own index C ∈ TB) (hover : va_AO C s) (t : Nat) {cA : ClassId} (ht : (wtys G)[t]? = some (cA, .object C))
    {n : Int32} {N' : Nat} (hn : ¬ n < 0) (hN : n.toNatClampNeg = N') (hbytes : N' * 4 ≤ 536870912) (hcells : cells + 1 ≤ R.cells) (hslots : slots + N' ≤ R.slots) (hdg : decode cc pc = .ok (.anewarray index, 3))
    (kk : ∀ (q : Nat) (H1 : Heap), va_P G.1 wcls (ws ++ [(q, .inl (cA, N', .inr (.inr (.inr (.inr (fun _ => none))))))]) H1 → va_D A (ws ++ [(q, .inl (cA, N', .inr (.inr (.inr (.inr (fun _ => none))))))]) → va_S A H0 H1 locs → W p l e R s m args below meth c H1 locs (cells + 1) (slots + N') Q (F0 m (pc + 3) ls (.ref q :: rest))) : W p l e R s m args below meth c H locs cells slots Q (F0 m pc ls (.int n :: rest)) := by
  refine va_newq C0.1 C0.2.1 C0.2.2.2.1 (C0.2.2.2.2.1 _ hlk) hover C0.2.2.2.2.2.1.1 hP hD hS hA hn hN hbytes hcells hslots hdg fun q cB H1 hK1 hP1 hD1 hS1 => ?_
  have e1 := (hK1.2 (wtys G).length (cB, .object C) (by rw [List.getElem?_append_right (Nat.le_refl _), Nat.sub_self]; rfl)).2
  have e2 := (C0.2.2.2.2.2.1.1.2 t (cA, .object C) ht).2
  have e3 : cB = cA := RA_eq e1 e2
  rw [e3] at hP1 hD1
  exact kk q H1 hP1 hD1 hS1
theorem i_obj (C0 : cx p s m args meth c own cc nL G) (hls : ls.size = nL) {idx : Nat} (hlink : Cond.methodLink own idx Lib.objectInit ∈ TB) (hinst : Cond.instanceMethod Lib.objectInit ∈ TB) (hcode : Cond.code Lib.objectInit ⟨#[0xb1]⟩ 1 none ∈ TB) (hfr : 1 ≤ R.frames) (hlo : (rest.map fun v => v.category).sum + 12 ≤ R.locals) (hdg : decode cc pc = .ok (.invokespecial idx, 3))
    (kk : W p l e R s m args below meth c H locs cells slots Q (F0 m (pc + 3) ls rest)) : W p l e R s m args below meth c H locs cells slots Q (F0 m pc ls (.ref a0 :: rest)) := by
  refine W.objInit C0.1 C0.2.1 C0.2.2.2.1 (C0.2.2.2.2.1 _ hlink) (C0.2.2.2.2.1 _ hinst) (C0.2.2.2.2.1 _ hcode) rfl (by rw [C0.2.2.1]; exact hls) rfl hdg hfr (by show 2 * 0 + _ + 12 ≤ _; omega) ?_
  exact W.eq (g2 := F0 m (pc + 3) ls rest) rfl kk
abbrev wcallI (R : Room) (own : String) (index : Nat) (y : MethodName) (cb : ByteArray) (nLc : Nat) (d n : Nat) (cells slots mc ms : Nat) : Prop :=
  (Cond.methodLink own index y ∈ TB ∧ Cond.initialized y.cls ∈ TB ∧ Cond.code y cb nLc none ∈ TB) ∧ (y.cls ≠ "java/lang/invoke/MethodHandle" ∧ y.cls ≠ "java/lang/invoke/VarHandle" ∧ (parseMethodDescriptor y.desc).map (fun d => d.parameters.length) = some n) ∧ (d + 1 ≤ R.frames ∧ 8 + (nLc + 11) + 32 * d ≤ R.locals) ∧ (cells + mc ≤ R.cells ∧ slots + ms ≤ R.slots) ∧ y.name = "<init>" ∧ Cond.instanceMethod y ∈ TB
theorem i_runI {index : Nat} {y : MethodName} {cb : ByteArray} {nLc d n mc ms : Nat} {h1 : Nat} {e1 : va_E} {As : List Value} {X : AD3 → va_W} (C0 : cx p s m args meth c own cc nL G) (hO : iAO s) (hP : va_P G.1 wcls (ws ++ [(h1, e1)]) H) (hM : iMt l y cb nLc d mc ms G h1 H.size e1 (.ref h1 :: As) X)
    (hw : wcallI R own index y cb nLc d n cells slots mc ms) (hn : As.length = n) (hls : ls.size = nL) {st : List Value} (hst : st = As.reverse ++ .ref h1 :: rest) (hcat : (rest.map fun v => v.category).sum ≤ 8) (hdg : decode cc pc = .ok (.invokespecial index, 3)) :
    va_Run p l e R s m args below meth c H locs cells slots mc ms (F0 m pc ls st) rest (iQ G h1 H.size X (Value.ref h1 :: As).toArray) (iA h1 H.size) :=
  va_runI (As := As) (rest := rest) ⟨C0.1, C0.2.1, C0.2.2.1, C0.2.2.2.1, C0.2.2.2.2.1⟩ hM ⟨callB_of n C0.2.2.2.2.1 (tb_goodIn hw.1.2.2) rfl rfl rfl (C0.2.2.2.2.1 _ hw.1.2.1) (C0.2.2.2.2.1 _ hw.1.1) hw.2.1 hw.2.2.1, hw.2.2.2.2.1, C0.2.2.2.2.1 _ hw.2.2.2.2.2⟩
    ⟨iPc_blind, fun U hU hwarm => ⟨rfl, by rw [hU], fun k q hk => by
      have hl := (List.getElem?_eq_some_iff.mp hk).1
      have hk0 : k = 0 := by simp at hl; exact hl
      subst hk0
      cases hk
      rw [hU]
      exact hP ws.length _ i_end, C0.2.2.2.2.2.1.warm hwarm, hO.moved hwarm.alike⟩⟩ rfl hn hls hst (lv_room hcat) hdg hw.2.2.2.1
abbrev wcallN (R : Room) (y : MethodName) (cb : ByteArray) (nLc : Nat) (d n : Nat) (cells slots mc ms : Nat) : Prop :=
  (Cond.initialized y.cls ∈ TB ∧ Cond.code y cb nLc none ∈ TB) ∧ (y.cls ≠ "java/lang/invoke/MethodHandle" ∧ y.cls ≠ "java/lang/invoke/VarHandle" ∧ (parseMethodDescriptor y.desc).map (fun d => d.parameters.length) = some n) ∧ (d + 1 ≤ R.frames ∧ 8 + (nLc + 11) + 32 * d ≤ R.locals) ∧ (cells + mc ≤ R.cells ∧ slots + ms ≤ R.slots) ∧ y.name = "<init>" ∧ Cond.instanceMethod y ∈ TB
theorem i_runN {index : Nat} {y : MethodName} {cb : ByteArray} {nLc d n mc ms : Nat} {h1 : Nat} {e1 : va_E} {As : List Value} {X : AD3 → va_W} {host : String} (C0 : cx p s m args meth c own cc nL G) (hO : iAO s) (hP : va_P G.1 wcls (ws ++ [(h1, e1)]) H) (hM : iMt l y cb nLc d mc ms G h1 H.size e1 (.ref h1 :: As) X) (hnw : va_Nw (.methodLinkNest own index y host) s)
    (hw : wcallN R y cb nLc d n cells slots mc ms) (hn : As.length = n) (hls : ls.size = nL) {st : List Value} (hst : st = As.reverse ++ .ref h1 :: rest) (hcat : (rest.map fun v => v.category).sum ≤ 8) (hdg : decode cc pc = .ok (.invokespecial index, 3)) :
    va_Run p l e R s m args below meth c H locs cells slots mc ms (F0 m pc ls st) rest (iQ G h1 H.size X (Value.ref h1 :: As).toArray) (iA h1 H.size) :=
  va_runIN (As := As) (rest := rest) ⟨C0.1, C0.2.1, C0.2.2.1, C0.2.2.2.1, C0.2.2.2.2.1⟩ hM ⟨va_cnB n C0.2.2.2.2.1 (tb_goodIn hw.1.2) rfl rfl rfl hnw (C0.2.2.2.2.1 _ hw.1.1) hw.2.1 hw.2.2.1, hw.2.2.2.2.1, C0.2.2.2.2.1 _ hw.2.2.2.2.2⟩
    ⟨iPc_blind, fun U hU hwarm => ⟨rfl, by rw [hU], fun k q hk => by
      have hl := (List.getElem?_eq_some_iff.mp hk).1
      have hk0 : k = 0 := by simp at hl; exact hl
      subst hk0
      cases hk
      rw [hU]
      exact hP ws.length _ i_end, C0.2.2.2.2.2.1.warm hwarm, hO.moved hwarm.alike⟩⟩ rfl hn hls hst (lv_room hcat) hdg hw.2.2.2.1
/-- behind a constructor: its cells beside the others -/
theorem i_call {mc ms : Nat} {h1 : Nat} {e1 : va_E} {st : List Value} {av : Array Value} {X : AD3 → va_W} (hP : va_P G.1 wcls (ws ++ [(h1, e1)]) H) (hD : va_D A (ws ++ [(h1, e1)])) (hS : va_S A H0 H locs) (hA : ∀ q, H0.size ≤ q → A q)
    (hr : va_Run p l e R s m args below meth c H locs cells slots mc ms (F0 m pc ls st) rest (iQ G h1 H.size X av) (iA h1 H.size))
    (kk : ∀ (a : AD3) (H1 : Heap) (locs1 : List Loc), a 0 0 0 = h1 → va_P G.1 wcls (ws ++ X a) H1 → va_D A (ws ++ X a) → va_S A H0 H1 locs1 → W p l e R s m args below meth c H1 locs1 (cells + mc) (slots + ms) Q (F0 m (pc + 3) ls rest)) : W p l e R s m args below meth c H locs cells slots Q (F0 m pc ls st) := by
  have hF : ∀ q, iA h1 H.size q → A q := fun q h => by
    rcases h with h | h
    · rw [h]; exact hD.2 ws.length _ i_end
    · exact hA q (Nat.le_trans hS.1 h)
  have left : ∀ (k : Nat) (q : Nat × va_E), ws[k]? = some q → (ws ++ [(h1, e1)])[k]? = some q := fun k q hk => by
    rw [List.getElem?_append_left (List.getElem?_eq_some_iff.mp hk).1]; exact hk
  have apart : ∀ (k : Nat) (q : Nat × va_E), ws[k]? = some q → q.1 < H.size ∧ ¬ iA h1 H.size q.1 := fun k q hk => by
    have hlt := (hP k q (left k q hk)).lt
    refine ⟨hlt, fun h => ?_⟩
    rcases h with h | h
    · have hk2 := hD.1 k ws.length q (h1, e1) (left k q hk) i_end h
      have := (List.getElem?_eq_some_iff.mp hk).1
      omega
    · omega
  refine va_callv hr hS (fun q _ h => hF q h) hF fun a t H1 locs1 ht _ hw hB hz hk hS1 => ?_
  obtain ⟨hP1, hD1⟩ := hB
  rw [ht] at hP1
  refine kk a H1 locs1 hw (va_P.app (fun k q hq => ?_) hP1) (va_D.app ⟨fun i j x y hi hj hxy => hD.1 i j x y (left i x hi) (left j y hj) hxy, fun k q hq => hD.2 k q (left k q hq)⟩ (hD1.weaken (fun k q _ h => hF q.1 h)) (fun i j x y hx hy hxy => ?_)) hS1
  · obtain ⟨g1, g2⟩ := apart k q hq
    exact (hP k q (left k q hq)).kept (hk q.1 g1 g2)
  · exact (apart i x hx).2 (by rw [hxy]; exact hD1.2 j y hy)
theorem i_ret {h0 sz : Nat} {X : AD3 → va_W} (a : AD3) (C0 : cx p s m args meth c own cc nL G) (hr : meth.sig.returnType = none) (ha : a 0 0 0 = h0) (hP : va_P G.1 wcls (X a) H) (hD : va_D (iA h0 sz) (X a)) (hS : va_S (iA h0 sz) s.heap H locs) (hdg : decode cc pc = .ok (.return_, 1)) : W p l e R s m args below meth c H locs cells slots (MQ below (iQ G h0 sz X) args s cells slots (iA h0 sz)) (F0 m pc ls []) :=
  W.vret C0.1 C0.2.1 hr (fun t ht _ => ⟨⟨a, rfl, ha, by rw [ht]; exact hP, hD⟩, hS.F ht⟩) hS.2.2 hdg C0.2.2.2.2.2.2
theorem i_alen (C0 : cx p s m args meth c own cc nL G) (hP : va_P G.1 wcls ws H) (q0 t0 : Nat) {cA : ClassId} {x : vp_A} (ha : ws[q0]? = some (a0, .inl (cA, x))) {ty : FieldType} (ht : (wtys G)[t0]? = some (cA, ty)) {v : Int32} (hv : Int32.ofNat x.1 = v) (hdg : decode cc pc = .ok (.arraylength, 1))
    (kk : W p l e R s m args below meth c H locs cells slots Q (F0 m (pc + 1) ls (.int v :: rest))) : W p l e R s m args below meth c H locs cells slots Q (F0 m pc ls (.ref a0 :: rest)) :=
  va_alen C0.1 C0.2.1 C0.2.2.2.2.2.1.1 hP q0 t0 ha ht hv hdg kk
theorem i_aast (C0 : cx p s m args meth c own cc nL G) (hP : va_P G.1 wcls ws H) (hD : va_D A ws) (hS : va_S A H0 H locs) (q0 t0 qk ci : Nat) {cA : ClassId} {r : vw_C} {n v : Nat} {vs : List Value} {f : Nat → Option Nat} (ha : ws[q0]? = some (a0, .inl (cA, n, .inr (.inr (.inr (.inr f)))))) (ht : (wtys G)[t0]? = some (cA, .object r.1)) (hv : ws[qk]? = some (v, .inr (ci, vs))) (hc : wcls[ci]? = some r) {i : Int32} (hin : vp_in i n) (hdg : decode cc pc = .ok (.aastore, 1))
    (kk : ∀ (H1 : Heap) (locs1 : List Loc), va_P G.1 wcls (ws.set q0 (a0, .inl (cA, n, .inr (.inr (.inr (.inr (va_up f i.toNatClampNeg (some v)))))))) H1 → va_D A (ws.set q0 (a0, .inl (cA, n, .inr (.inr (.inr (.inr (va_up f i.toNatClampNeg (some v)))))))) → va_S A H0 H1 locs1 → W p l e R s m args below meth c H1 locs1 cells slots Q (F0 m (pc + 1) ls rest)) : W p l e R s m args below meth c H locs cells slots Q (F0 m pc ls (.ref v :: .int i :: .ref a0 :: rest)) :=
  va_astq C0.1 C0.2.1 C0.2.2.2.2.2.1.1 hP hD hS q0 t0 qk ci ha ht hv hc hin hdg kk
theorem i_iast (C0 : cx p s m args meth c own cc nL G) (hP : va_P G.1 wcls ws H) (hD : va_D A ws) (hS : va_S A H0 H locs) (q0 : Nat) {n : Nat} {f : Nat → Int32} (ha : ws[q0]? = some (a0, .inl (G.2.1 0, n, .inl f))) {i x : Int32} (hin : vp_in i n) (hdg : decode cc pc = .ok (.iastore, 1))
    (kk : ∀ (H1 : Heap) (locs1 : List Loc), va_P G.1 wcls (ws.set q0 (a0, .inl (G.2.1 0, n, .inl (upd f i.toNatClampNeg x)))) H1 → va_D A (ws.set q0 (a0, .inl (G.2.1 0, n, .inl (upd f i.toNatClampNeg x)))) → va_S A H0 H1 locs1 → W p l e R s m args below meth c H1 locs1 cells slots Q (F0 m (pc + 1) ls rest)) : W p l e R s m args below meth c H locs cells slots Q (F0 m pc ls (.int x :: .int i :: .ref a0 :: rest)) :=
  va_iast C0.1 C0.2.1 C0.2.2.2.2.2.1.1 hP hD hS q0 0 ha rfl hin hdg kk
end IROWS
-- the cells of each class's fresh object
def puW (G : wG) (x0 x1 x2 x3 x4 : Int32) (u : Nat → Nat) : va_W :=
  [(u 0, .inr (4, [.int x0, .int x1, .int x2, .int x3, .int x4, .int 0, .int 0, .int 0, .int 0, .int 0, .int 60, .int 0, .int 0, .ref (u 1), .ref (u 2), .ref (u 3), .ref (u 5)])),
   (u 1, .inr (0, [.int 400, .int 40, .int 0, .int 0, .int 400])), (u 2, .inr (2, [.int 0, .int 0, .int 0, .int 0, .int 0, .int 0])),
   (u 3, .inr (6, [.ref (u 4), .int 0, .int 0])), (u 4, .inl (G.2.1 0, 16, .inl (fun _ => 0))), (u 5, .inr (6, [.ref (u 6), .int 0, .int 0])), (u 6, .inl (G.2.1 0, 32, .inl (fun _ => 0)))]
def stW (G : wG) (u : Nat → Nat → Nat) : va_W :=
  [(u 0 0, .inr (7, [.int 0, .int 5000, .int 0, .int 100, .int 0, .ref (u 0 1)])), (u 0 1, .inl (G.2.1 3, 4, .inr (.inr (.inr (.inr (fun j => some (u (j + 1) 0)))))))]
  ++ (puW G 0 1 0 0 0 (u 1) ++ (puW G 0 1 0 0 0 (u 2) ++ (puW G 0 1 0 0 0 (u 3) ++ puW G 0 1 0 0 0 (u 4))))
def teW (G : wG) (u : Nat → Nat) : va_W := [(u 0, .inr (1, [.ref (u 1), .int 0])), (u 1, .inl (G.2.1 1, 40, .inl (fun _ => 0)))]
def loW (G : wG) (u : Nat → Nat) : va_W :=
  [(u 0, .inr (3, [.int 0, .ref (u 1), .ref (u 3), .ref (u 5)])), (u 1, .inr (6, [.ref (u 2), .int 0, .int 0])), (u 2, .inl (G.2.1 0, 20, .inl (fun _ => 0))), (u 3, .inr (6, [.ref (u 4), .int 0, .int 0])), (u 4, .inl (G.2.1 0, 20, .inl (fun _ => 0))), (u 5, .inr (6, [.ref (u 6), .int 0, .int 0])), (u 6, .inl (G.2.1 0, 20, .inl (fun _ => 0)))]
def reW (u : Nat → Nat) : va_W := [(u 0, .inr (5, [.int 0, .int 0, .int 0, .int 0, .int 0]))]
def saW (G : wG) (a : AD3) : va_W :=
  [(a 0 0 0, .inr (8, [.ref (a 1 0 0), .ref (a 0 0 1), .int 0, .int 0, .int 0, .int (-1005), .ref (a 2 0 0), .ref (a 3 0 0), .ref (a 4 0 0), .ref (a 5 0 0), .ref (a 0 0 2)])),
   (a 0 0 1, .inl (G.2.1 4, 8, .inr (.inr (.inr (.inr (fun j => some (a (6 + j) 0 0))))))), (a 0 0 2, .inl (G.2.1 2, 2000, .inr (.inl (fun _ => 0))))]
  ++ (stW G (a 1) ++ (teW G (a 2 0) ++ (loW G (a 3 0) ++ (reW (a 4 0) ++ (puW G 0 1 0 0 0 (a 5 0) ++ (stW G (a 6) ++ (stW G (a 7) ++ (stW G (a 8) ++ (stW G (a 9) ++ (stW G (a 10) ++ (stW G (a 11) ++ (stW G (a 12) ++ stW G (a 13)))))))))))))
def moN : Nat → Int32 := upd (upd (fun _ => 0) 0 5000) 1 100
def moW (G : wG) (u : Nat → Nat) : va_W := [(u 0, .inl (G.2.1 0, 6, .inl (fun _ => 0)))]

