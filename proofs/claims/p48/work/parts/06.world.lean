/-! THE WORLD: every cell of the class's station and of the reference, by kind and number; what the cells hold is one function hv: kind, number, field (or place). -/
abbrev HV : Type := Nat → Nat → Nat → Int32
/-- what stays: the tables' numbers, the array classes, the addresses -/
abbrev wG : Type := va_G × (Nat → ClassId) × (Nat → Nat → Nat)
abbrev ad (G : wG) (c i : Nat) : Nat := G.2.2 c i
-- a long as two ints, high and low
def mkL (h l : Int32) : Int64 := Int64.ofInt (h.toInt * 4294967296 + l.toInt % 4294967296)
def hiL (x : Int64) : Int32 := Int32.ofInt (x.toInt / 4294967296)
def loL (x : Int64) : Int32 := Int32.ofInt (x.toInt % 4294967296)
theorem mkL_hl (x : Int64) : mkL (hiL x) (loL x) = x := by
  have hb : -9223372036854775808 ≤ x.toInt ∧ x.toInt < 9223372036854775808 := ⟨Int64.le_toInt x, Int64.toInt_lt x⟩
  have h1 : (hiL x).toInt = x.toInt / 4294967296 := by
    unfold hiL
    have e : Int32.size = 4294967296 := rfl
    rw [Int32.toInt_ofInt, e, Int.bmod_eq_of_le (by omega) (by omega)]
  have h2 : (loL x).toInt % 4294967296 = x.toInt % 4294967296 := by
    unfold loL
    rw [Int32.toInt_ofInt]
    have e : (Int.bmod (x.toInt % 4294967296) (2 ^ 32)) % ((2 ^ 32 : Nat) : Int) = (x.toInt % 4294967296) % ((2 ^ 32 : Nat) : Int) := Int.bmod_emod
    have e2 : ((2 ^ 32 : Nat) : Int) = 4294967296 := by decide
    rw [e2] at e
    rw [e]
    omega
  unfold mkL
  rw [h1, h2]
  have h3 : x.toInt / 4294967296 * 4294967296 + x.toInt % 4294967296 = x.toInt := by omega
  rw [h3, Int64.ofInt_toInt]
def lgv (f : Nat → Int32) (j : Nat) : Int64 := mkL (f (2 * j)) (f (2 * j + 1))
def lgu (f : Nat → Int32) (j : Nat) (v : Int64) : Nat → Int32 := fun k => if k = 2 * j then hiL v else if k = 2 * j + 1 then loL v else f k
theorem lgv_u (f : Nat → Int32) (j : Nat) (v : Int64) : vp_updL (lgv f) j v = lgv (lgu f j v) := by
  funext q
  unfold vp_updL
  by_cases h : q = j
  · subst h
    rw [if_pos rfl]
    unfold lgv lgu
    rw [if_pos rfl, if_neg (by omega), if_pos rfl, mkL_hl]
  · rw [if_neg h]
    unfold lgv lgu
    rw [if_neg (by omega), if_neg (by omega), if_neg (by omega), if_neg (by omega)]
def wcls : List vw_C := [(RX0, TX0, 5), (RX1, TX1, 2), (RX2, TX2, 6), (RX3, TX3, 4), (RX4, TX4, 17), (RX5, TX5, 5), (RX6, TX6, 3), (RX7, TX7, 6), (RX8, TX8, 11)]
def cnt : Nat → Nat := fun c => match c with
  | 0 => 37 | 1 => 1 | 2 => 37 | 3 => 1 | 4 => 37 | 5 => 1 | 6 => 77 | 7 => 9 | 8 => 1 | 9 => 1 | 10 => 77 | 11 => 9 | _ => 1
def bas : Nat → Nat := fun c => match c with
  | 0 => 0 | 1 => 37 | 2 => 38 | 3 => 75 | 4 => 76 | 5 => 113 | 6 => 114 | 7 => 191 | 8 => 200 | 9 => 201 | 10 => 202 | 11 => 279 | c => c + 276
def kc (k : Nat) : Nat :=
  if k < 114 then (if k < 75 then (if k < 37 then 0 else if k < 38 then 1 else 2) else (if k < 76 then 3 else if k < 113 then 4 else 5))
  else (if k < 202 then (if k < 191 then 6 else if k < 200 then 7 else if k < 201 then 8 else 9) else (if k < 279 then 10 else if k < 288 then 11 else k - 276))
def ki (k : Nat) : Nat := k - bas (kc k)
/-- the places of a ring -/
def rl (i : Nat) : Nat := if i < 74 then (if i % 2 = 0 then 16 else 32) else 20
def enc (G : wG) (f : Nat → Int32) (c i : Nat) : va_E := match c with
  | 0 => .inr (0, [.int (f 0), .int (f 1), .int (f 2), .int (f 3), .int (f 4)])
  | 1 => .inr (1, [.ref (ad G 13 0), .int (f 1)])
  | 2 => .inr (2, [.int (f 0), .int (f 1), .int (f 2), .int (f 3), .int (f 4), .int (f 5)])
  | 3 => .inr (3, [.int (f 0), .ref (ad G 6 74), .ref (ad G 6 75), .ref (ad G 6 76)])
  | 4 => .inr (4, [.int (f 0), .int (f 1), .int (f 2), .int (f 3), .int (f 4), .int (f 5), .int (f 6), .int (f 7), .int (f 8), .int (f 9), .int (f 10), .int (f 11), .int (f 12), .ref (ad G 0 i), .ref (ad G 2 i), .ref (ad G 6 (2 * i)), .ref (ad G 6 (2 * i + 1))])
  | 5 => .inr (5, [.int (f 0), .int (f 1), .int (f 2), .int (f 3), .int (f 4)])
  | 6 => .inr (6, [.ref (ad G 10 i), .int (f 1), .int (f 2)])
  | 7 => .inr (7, [.int (f 0), .int (f 1), .int (f 2), .int (f 3), .int (f 4), .ref (ad G 11 i)])
  | 8 => .inr (8, [.ref (ad G 7 0), .ref (ad G 12 0), .int (f 2), .int (f 3), .int (f 4), .int (f 5), .ref (ad G 1 0), .ref (ad G 3 0), .ref (ad G 5 0), .ref (ad G 4 36), .ref (ad G 14 0)])
  | 9 => .inl (G.2.1 0, 6, .inl f)
  | 10 => .inl (G.2.1 0, rl i, .inl f)
  | 11 => .inl (G.2.1 3, 4, .inr (.inr (.inr (.inr (fun j => some (ad G 4 (4 * i + j)))))))
  | 12 => .inl (G.2.1 4, 8, .inr (.inr (.inr (.inr (fun j => some (ad G 7 (1 + j)))))))
  | 13 => .inl (G.2.1 1, 40, .inl f)
  | _ => .inl (G.2.1 2, 2000, .inr (.inl (lgv f)))
def wl (G : wG) (hv : HV) : va_W := (List.range 291).map (fun k => (ad G (kc k) (ki k), enc G (hv (kc k) (ki k)) (kc k) (ki k)))
def wd (G : wG) (A : Nat → Prop) (hv : HV) (H : Heap) : Prop := va_P G.1 wcls (wl G hv) H ∧ va_D A (wl G hv)
abbrev wtys (G : wG) : List (ClassId × FieldType) := [(G.2.1 0, .int), (G.2.1 1, .char), (G.2.1 2, .long), (G.2.1 3, .object "RamStation$Pump"), (G.2.1 4, .object "RamStation$State")]
def wN (U : State) : Prop := va_Nw (.methodLinkNest "RamStation$Ring" 28 yX8_outside "RamStation") U ∧ va_Nw (.methodLinkNest "RamStation$State" 30 yX8_outside "RamStation") U
  ∧ va_Nw (.methodLinkNest "RamStation$Pump" 17 yX0_init "RamStation") U ∧ va_Nw (.methodLinkNest "RamStation$Pump" 24 yX2_init "RamStation") U ∧ va_Nw (.methodLinkNest "RamStation" 26 yX1_init "RamStation") U ∧ va_Nw (.methodLinkNest "RamStation" 33 yX3_init "RamStation") U ∧ va_Nw (.methodLinkNest "RamStation" 40 yX5_init "RamStation") U
def wK (G : wG) (U : State) : Prop := va_K G.1 wcls (wtys G) U ∧ wN U
theorem wN.warm {s U : State} (hW : s.WarmedH U.vm) (h : wN s) : wN U := ⟨va_Nw.warmM hW h.1, va_Nw.warmM hW h.2.1, va_Nw.warmM hW h.2.2.1, va_Nw.warmM hW h.2.2.2.1, va_Nw.warmM hW h.2.2.2.2.1, va_Nw.warmM hW h.2.2.2.2.2.1, va_Nw.warmM hW h.2.2.2.2.2.2⟩
theorem wN.same {u U : State} (e : u.vm = U.vm) (h : wN u) : wN U := ⟨va_Nw.same rfl e h.1, va_Nw.same rfl e h.2.1, va_Nw.same rfl e h.2.2.1, va_Nw.same rfl e h.2.2.2.1, va_Nw.same rfl e h.2.2.2.2.1, va_Nw.same rfl e h.2.2.2.2.2.1, va_Nw.same rfl e h.2.2.2.2.2.2⟩
theorem wK.warm {G : wG} {s U : State} (hW : s.WarmedH U.vm) (h : wK G s) : wK G U := ⟨va_K.moved hW.alike h.1, h.2.warm hW⟩
/-- one cell's numbers put anew -/
def up (hv : HV) (c i : Nat) (g : Nat → Int32) : HV := fun c' i' => if c' = c ∧ i' = i then g else hv c' i'
theorem up_s (hv : HV) (c i : Nat) (g : Nat → Int32) : up hv c i g c i = g := if_pos ⟨rfl, rfl⟩
theorem up_n (hv : HV) {c i c' i' : Nat} (g : Nat → Int32) (h : ¬ (c' = c ∧ i' = i)) : up hv c i g c' i' = hv c' i' := if_neg h
theorem k_ix0 : ∀ c, c < 15 → ∀ i, i < 77 → i < cnt c → kc (bas c + i) = c ∧ ki (bas c + i) = i ∧ bas c + i < 291 := by decide +kernel
theorem k_cnt : ∀ c, c < 15 → cnt c ≤ 77 := by decide +kernel
theorem k_ix {c i : Nat} (hc : c < 15) (hi : i < cnt c) : kc (bas c + i) = c ∧ ki (bas c + i) = i ∧ bas c + i < 291 := k_ix0 c hc i (Nat.lt_of_lt_of_le hi (k_cnt c hc)) hi
theorem k_xi : ∀ k, k < 291 → kc k < 15 ∧ ki k < cnt (kc k) ∧ bas (kc k) + ki k = k := by decide +kernel
theorem wl_get {G : wG} {hv : HV} {k : Nat} (h : k < 291) : (wl G hv)[k]? = some (ad G (kc k) (ki k), enc G (hv (kc k) (ki k)) (kc k) (ki k)) := by simp [wl, h]
theorem wl_len {G : wG} {hv : HV} : (wl G hv).length = 291 := by simp [wl]
theorem wl_at {G : wG} {hv : HV} {c i : Nat} (hc : c < 15) (hi : i < cnt c) : (wl G hv)[bas c + i]? = some (ad G c i, enc G (hv c i) c i) := by
  obtain ⟨h1, h2, h3⟩ := k_ix hc hi
  rw [wl_get h3, h1, h2]
theorem wl_set {G : wG} {hv : HV} {c i : Nat} (hc : c < 15) (hi : i < cnt c) (g : Nat → Int32) : (wl G hv).set (bas c + i) (ad G c i, enc G g c i) = wl G (up hv c i g) := by
  obtain ⟨h1, h2, h3⟩ := k_ix hc hi
  apply List.ext_getElem?
  intro k
  by_cases hk : k < 291
  · by_cases he : bas c + i = k
    · subst he
      rw [List.getElem?_set_self (by rw [wl_len]; exact h3), wl_get h3, h1, h2, up_s]
    · rw [List.getElem?_set_ne he, wl_get hk, wl_get hk, up_n]
      intro q
      obtain ⟨-, -, e⟩ := k_xi k hk
      rw [q.1, q.2] at e
      exact he e
  · rw [List.getElem?_eq_none (by rw [List.length_set, wl_len]; omega), List.getElem?_eq_none (by rw [wl_len]; omega)]
/-- what a walk stands on -/
def cx (p : Program) (s : State) (m : MethodId) (args : Array Value) (meth : Method) (c : Code) (own : String) (cc : ByteArray) (nL : Nat) (G : wG) : Prop :=
  p.tables.exec = Jvm.exec ∧ c.code = cc ∧ c.maxLocals = nL ∧ s.vm.findClass own = some m.cls ∧ (∀ w ∈ TB, w.before args s = true) ∧ wK G s ∧ meth.locks = false
def wPc (G : wG) (A : Nat → Prop) (hv : HV) (av : List Value) : Array Value → State → Prop := va_Pc av (fun U => wd G A hv U.heap ∧ wK G U)
def wB (G : wG) (A : Nat → Prop) (hv : HV) (t : State) : Prop := wd G A hv t.heap
abbrev wrm (d : Nat) : Room := { frames := d, cells := 0, slots := 0, locals := 32 * d }
def wM (l : Launch) (y : MethodName) (cc : ByteArray) (nL : Nat) (ret : Option FieldType) (d : Nat) (G : wG) (A : Nat → Prop) (hv : HV) (av : List Value) (Qc : Array Value → State → Outcome → State → Prop) : Prop :=
  Met l y (wsy y cc nL ret) (wrm d) (wPc G A hv av) Qc 0 0 A
abbrev qI (G : wG) (A : Nat → Prop) (post : Int32 → HV → Prop) : Array Value → State → Outcome → State → Prop := va_Qi post (wB G A) A
abbrev qJ (G : wG) (A : Nat → Prop) (post : Int64 → HV → Prop) : Array Value → State → Outcome → State → Prop := va_Ql post (wB G A) A
abbrev qV (G : wG) (A : Nat → Prop) (post : HV → Prop) : Array Value → State → Outcome → State → Prop := va_Qv post (wB G A) A
/-- an answer that is a pump of a number, or none -/
abbrev qP (G : wG) (A : Nat → Prop) (post : Option Nat → HV → Prop) : Array Value → State → Outcome → State → Prop := va_Qq (fun a hv => ∃ r : Option Nat, a = r.map (fun i => ad G 4 i) ∧ (∀ i, r = some i → i < 37) ∧ post r hv) (wB G A) A
theorem wPc_blind {G : wG} {A : Nat → Prop} {hv : HV} {av : List Value} : FrameBlind (wPc G A hv av) := fun a U g mk q => ⟨q.1, q.2.1, va_K.moved (u := U) (U := U.calling g mk a) (Vm.Alike.refl U.vm) q.2.2.1, wN.same (u := U) rfl q.2.2.2⟩
theorem wM_of {l : Launch} {y : MethodName} {cc : ByteArray} {nL : Nat} {ret : Option FieldType} {d : Nat} {G : wG} {A : Nat → Prop} {hv : HV} {av : List Value} {Qc : Array Value → State → Outcome → State → Prop} (hy : plainName y.cls = true) (hn : (lg_sl av).length ≤ nL)
    (body : ∀ p e s m args below meth c, cx p s m args meth c y.cls cc nL G → meth.sig.returnType = ret → ∀ ls : Array Slot, lv_has ls nL (lv_args 0 av) → wd G A hv s.heap → va_S A s.heap s.heap [] → W p l e (wrm d) s m args below meth c s.heap [] 0 0 (MQ below Qc args s 0 0 A) (F0 m 0 ls [])) : wM l y cc nL ret d G A hv av Qc := by
  refine Met.ofW (cc := cc) (maxL := nL) (ret := ret) hy rfl ?_
  intro p e s m args below meth c s₁ B hml hv
  obtain ⟨rfl, hW, hK⟩ := hv
  have hts := atoms_spec (ws := wsy y cc nL ret) B.pre
  have hl := lv_entry av (n := nL) hn
  rw [lg_entry_eq]
  exact body p e s m _ below meth c ⟨B.exec, B.bytes, hml, findClass_of_methodNamed B.named, fun w h => hts w (List.mem_cons_of_mem _ h), hK, B.notSynchronized⟩ B.returns _ hl hW va_S.rf
section ROWS
variable {p : Program} {l : Launch} {e : Env} {R : Room} {s : State} {m : MethodId} {args : Array Value} {below : List Frame} {meth : Method} {c : Code} {H : Heap} {locs : List Loc} {cells slots : Nat} {Q : State → Prop}
variable {own : String} {cc : ByteArray} {nL : Nat} {G : wG} {A : Nat → Prop} {hv : HV} {H0 : Heap} {pc : Nat} {ls : Array Slot} {rest : List Value}
theorem w_get (C0 : cx p s m args meth c own cc nL G) (hW : wd G A hv H) (cl i : Nat) (hc : cl < 15) (hi : i < cnt cl) {C : String} {T : u_T} {N ci index : Nat} {fs : List Value} (he : enc G (hv cl i) cl i = .inr (ci, fs)) (hcl : wcls[ci]? = some (C, T, N)) (hin : ∀ w ∈ u_ws C T N, w ∈ TB) (k : Nat) (hk : k < N)
    (hlink : Cond.fieldLink own index (T k).1 (T k).2.1 (T k).2.2.1 ∈ TB) {v : Value} (hv : fs[k]? = some v) (hdg : decode cc pc = .ok (.getfield index, 3))
    (kk : W p l e R s m args below meth c H locs cells slots Q (F0 m (pc + 3) ls (v :: rest))) : W p l e R s m args below meth c H locs cells slots Q (F0 m pc ls (.ref (ad G cl i) :: rest)) :=
  va_get C0.1 C0.2.1 C0.2.2.2.2.1 hin C0.2.2.2.1 C0.2.2.2.2.2.1.1 hW.1 (bas cl + i) (by rw [wl_at hc hi, he]) hcl k hk (C0.2.2.2.2.1 _ hlink) (fun _ h => h) hv hdg kk
theorem w_put (C0 : cx p s m args meth c own cc nL G) (hW : wd G A hv H) (hS : va_S A H0 H locs) (cl i : Nat) (hc : cl < 15) (hi : i < cnt cl) {C : String} {T : u_T} {N ci index : Nat} {fs : List Value} (he : enc G (hv cl i) cl i = .inr (ci, fs)) (hcl : wcls[ci]? = some (C, T, N)) (hin : ∀ w ∈ u_ws C T N, w ∈ TB) {ty0 : Nat → FieldType} (hty : ∀ k, k < N → parseFieldDescriptor (T k).2.2.1 = some (ty0 k)) (hnm : ∀ a, a < N → ∀ b, b < N → a ≠ b → (T a).2.1 ≠ (T b).2.1) (k : Nat) (hk : k < N)
    (hlink : Cond.fieldLink own index (T k).1 (T k).2.1 (T k).2.2.1 ∈ TB) (hfin : (T k).2.2.2 = false) {v : Int32} (hn : narrow (ty0 k) (.int v) = .int v) (hfit : fits (ty0 k) (.int v) = true) (hl : k < fs.length) (he' : enc G (upd (hv cl i) k v) cl i = .inr (ci, fs.set k (.int v))) (hdg : decode cc pc = .ok (.putfield index, 3))
    (kk : ∀ hv1 : HV, hv1 = up hv cl i (upd (hv cl i) k v) → ∀ (H1 : Heap) (locs1 : List Loc), wd G A hv1 H1 → va_S A H0 H1 locs1 → W p l e R s m args below meth c H1 locs1 cells slots Q (F0 m (pc + 3) ls rest)) : W p l e R s m args below meth c H locs cells slots Q (F0 m pc ls (.int v :: .ref (ad G cl i) :: rest)) := by
  refine va_put C0.1 C0.2.1 C0.2.2.2.2.1 hin ty0 hty hnm C0.2.2.2.1 C0.2.2.2.2.2.1.1 hW.1 hW.2 hS (bas cl + i) (by rw [wl_at hc hi, he]) hcl k hk (C0.2.2.2.2.1 _ hlink) (fun _ h => h) hfin (hty k hk) hn hfit hl hdg fun H1 locs1 hP hD hS1 => ?_
  rw [← he', wl_set hc hi] at hP hD
  exact kk _ rfl H1 locs1 ⟨hP, hD⟩ hS1
theorem w_iald (C0 : cx p s m args meth c own cc nL G) (hW : wd G A hv H) (cl i : Nat) (hc : cl < 15) (hi : i < cnt cl) {n : Nat} (he : enc G (hv cl i) cl i = .inl (G.2.1 0, n, .inl (hv cl i))) {x : Int32} (hin : vp_in x n) (hdg : decode cc pc = .ok (.iaload, 1))
    (kk : W p l e R s m args below meth c H locs cells slots Q (F0 m (pc + 1) ls (.int (hv cl i x.toNatClampNeg) :: rest))) : W p l e R s m args below meth c H locs cells slots Q (F0 m pc ls (.int x :: .ref (ad G cl i) :: rest)) :=
  va_iald C0.1 C0.2.1 C0.2.2.2.2.2.1.1 hW.1 (bas cl + i) 0 (by rw [wl_at hc hi, he]) rfl hin hdg kk
theorem w_ialdN (C0 : cx p s m args meth c own cc nL G) (hW : wd G A hv H) (cl i : Nat) (hc : cl < 15) (hi : i < cnt cl) {n : Nat} (he : enc G (hv cl i) cl i = .inl (G.2.1 0, n, .inl (hv cl i))) {x : Int32} {j : Nat} (hx : x = nI j) (hj : j < n) (hn : n < 2 ^ 31) (hdg : decode cc pc = .ok (.iaload, 1))
    (kk : W p l e R s m args below meth c H locs cells slots Q (F0 m (pc + 1) ls (.int (hv cl i j) :: rest))) : W p l e R s m args below meth c H locs cells slots Q (F0 m pc ls (.int x :: .ref (ad G cl i) :: rest)) := by
  subst hx
  refine w_iald C0 hW cl i hc hi he (vp_in_nI hj hn) hdg ?_
  rw [nI_clamp (by omega)]
  exact kk
theorem w_cald (C0 : cx p s m args meth c own cc nL G) (hW : wd G A hv H) {x : Int32} (hin : vp_in x 40) (hdg : decode cc pc = .ok (.caload, 1))
    (kk : W p l e R s m args below meth c H locs cells slots Q (F0 m (pc + 1) ls (.int (hv 13 0 x.toNatClampNeg) :: rest))) : W p l e R s m args below meth c H locs cells slots Q (F0 m pc ls (.int x :: .ref (ad G 13 0) :: rest)) :=
  va_cald C0.1 C0.2.1 C0.2.2.2.2.2.1.1 hW.1 (bas 13 + 0) 1 (wl_at (c := 13) (i := 0) (by decide) (by decide)) rfl hin hdg kk
theorem w_lald (C0 : cx p s m args meth c own cc nL G) (hW : wd G A hv H) {x : Int32} (hin : vp_in x 2000) (hdg : decode cc pc = .ok (.laload, 1))
    (kk : W p l e R s m args below meth c H locs cells slots Q (F0 m (pc + 1) ls (.long (lgv (hv 14 0) x.toNatClampNeg) :: rest))) : W p l e R s m args below meth c H locs cells slots Q (F0 m pc ls (.int x :: .ref (ad G 14 0) :: rest)) :=
  va_lald C0.1 C0.2.1 C0.2.2.2.2.2.1.1 hW.1 (bas 14 + 0) 2 (wl_at (c := 14) (i := 0) (by decide) (by decide)) rfl hin hdg kk
theorem w_last (C0 : cx p s m args meth c own cc nL G) (hW : wd G A hv H) (hS : va_S A H0 H locs) {x : Int32} {v : Int64} (hin : vp_in x 2000) (hdg : decode cc pc = .ok (.lastore, 1))
    (kk : ∀ hv1 : HV, hv1 = up hv 14 0 (lgu (hv 14 0) x.toNatClampNeg v) → ∀ (H1 : Heap) (locs1 : List Loc), wd G A hv1 H1 → va_S A H0 H1 locs1 → W p l e R s m args below meth c H1 locs1 cells slots Q (F0 m (pc + 1) ls rest)) : W p l e R s m args below meth c H locs cells slots Q (F0 m pc ls (.long v :: .int x :: .ref (ad G 14 0) :: rest)) := by
  refine va_last C0.1 C0.2.1 C0.2.2.2.2.2.1.1 hW.1 hW.2 hS (bas 14 + 0) 2 (wl_at (c := 14) (i := 0) (by decide) (by decide)) rfl hin hdg fun H1 locs1 hP hD hS1 => ?_
  rw [lgv_u] at hP hD
  have e : ∀ g, (ad G 14 0, (Sum.inl (G.2.1 2, 2000, .inr (.inl (lgv g))) : va_E)) = (ad G 14 0, enc G g 14 0) := fun _ => rfl
  rw [e, wl_set (by decide) (by decide)] at hP hD
  exact kk _ rfl H1 locs1 ⟨hP, hD⟩ hS1
theorem w_iast (C0 : cx p s m args meth c own cc nL G) (hW : wd G A hv H) (hS : va_S A H0 H locs) (cl i : Nat) (hc : cl < 15) (hi : i < cnt cl) {n : Nat} (he : ∀ f, enc G f cl i = .inl (G.2.1 0, n, .inl f)) {x v : Int32} (hin : vp_in x n) (hdg : decode cc pc = .ok (.iastore, 1))
    (kk : ∀ hv1 : HV, hv1 = up hv cl i (upd (hv cl i) x.toNatClampNeg v) → ∀ (H1 : Heap) (locs1 : List Loc), wd G A hv1 H1 → va_S A H0 H1 locs1 → W p l e R s m args below meth c H1 locs1 cells slots Q (F0 m (pc + 1) ls rest)) : W p l e R s m args below meth c H locs cells slots Q (F0 m pc ls (.int v :: .int x :: .ref (ad G cl i) :: rest)) := by
  refine va_iast C0.1 C0.2.1 C0.2.2.2.2.2.1.1 hW.1 hW.2 hS (bas cl + i) 0 (by rw [wl_at hc hi, he]) rfl hin hdg fun H1 locs1 hP hD hS1 => ?_
  rw [← he, wl_set hc hi] at hP hD
  exact kk _ rfl H1 locs1 ⟨hP, hD⟩ hS1
theorem w_iastN (C0 : cx p s m args meth c own cc nL G) (hW : wd G A hv H) (hS : va_S A H0 H locs) (cl i : Nat) (hc : cl < 15) (hi : i < cnt cl) {n : Nat} (he : ∀ f, enc G f cl i = .inl (G.2.1 0, n, .inl f)) {x v : Int32} {j : Nat} (hx : x = nI j) (hj : j < n) (hn : n < 2 ^ 31) (hdg : decode cc pc = .ok (.iastore, 1))
    (kk : ∀ hv1 : HV, hv1 = up hv cl i (upd (hv cl i) j v) → ∀ (H1 : Heap) (locs1 : List Loc), wd G A hv1 H1 → va_S A H0 H1 locs1 → W p l e R s m args below meth c H1 locs1 cells slots Q (F0 m (pc + 1) ls rest)) : W p l e R s m args below meth c H locs cells slots Q (F0 m pc ls (.int v :: .int x :: .ref (ad G cl i) :: rest)) := by
  subst hx
  refine w_iast C0 hW hS cl i hc hi he (vp_in_nI hj hn) hdg ?_
  rw [nI_clamp (by omega)]
  exact kk
theorem w_cast (C0 : cx p s m args meth c own cc nL G) (hW : wd G A hv H) (hS : va_S A H0 H locs) {x v : Int32} (hin : vp_in x 40) (hdg : decode cc pc = .ok (.castore, 1))
    (kk : ∀ hv1 : HV, hv1 = up hv 13 0 (upd (hv 13 0) x.toNatClampNeg (vp_nar .char v)) → ∀ (H1 : Heap) (locs1 : List Loc), wd G A hv1 H1 → va_S A H0 H1 locs1 → W p l e R s m args below meth c H1 locs1 cells slots Q (F0 m (pc + 1) ls rest)) : W p l e R s m args below meth c H locs cells slots Q (F0 m pc ls (.int v :: .int x :: .ref (ad G 13 0) :: rest)) := by
  refine va_cast C0.1 C0.2.1 C0.2.2.2.2.2.1.1 hW.1 hW.2 hS (bas 13 + 0) 1 (wl_at (c := 13) (i := 0) (by decide) (by decide)) rfl hin hdg fun H1 locs1 hP hD hS1 => ?_
  have e : ∀ g, (ad G 13 0, (Sum.inl (G.2.1 1, 40, .inl g) : va_E)) = (ad G 13 0, enc G g 13 0) := fun _ => rfl
  rw [e, wl_set (by decide) (by decide)] at hP hD
  exact kk _ rfl H1 locs1 ⟨hP, hD⟩ hS1
theorem w_alen (C0 : cx p s m args meth c own cc nL G) (hW : wd G A hv H) (cl i : Nat) (hc : cl < 15) (hi : i < cnt cl) {cA : ClassId} {x : vp_A} (he : enc G (hv cl i) cl i = .inl (cA, x)) (t0 : Nat) {ty : FieldType} (ht : (wtys G)[t0]? = some (cA, ty)) {v : Int32} (hv : Int32.ofNat x.1 = v) (hdg : decode cc pc = .ok (.arraylength, 1))
    (kk : W p l e R s m args below meth c H locs cells slots Q (F0 m (pc + 1) ls (.int v :: rest))) : W p l e R s m args below meth c H locs cells slots Q (F0 m pc ls (.ref (ad G cl i) :: rest)) :=
  va_alen C0.1 C0.2.1 C0.2.2.2.2.2.1.1 hW.1 (bas cl + i) t0 (by rw [wl_at hc hi, he]) ht hv hdg kk
theorem w_aaldP (C0 : cx p s m args meth c own cc nL G) (hW : wd G A hv H) (i : Nat) (hi : i < 9) {x : Int32} (hin : vp_in x 4) (hdg : decode cc pc = .ok (.aaload, 1))
    (kk : 4 * i + x.toNatClampNeg < 37 → W p l e R s m args below meth c H locs cells slots Q (F0 m (pc + 1) ls (.ref (ad G 4 (4 * i + x.toNatClampNeg)) :: rest))) : W p l e R s m args below meth c H locs cells slots Q (F0 m pc ls (.int x :: .ref (ad G 11 i) :: rest)) :=
  va_aldq C0.1 C0.2.1 C0.2.2.2.2.2.1.1 hW.1 (bas 11 + i) 3 (wl_at (c := 11) (i := i) (by decide) hi) rfl hin hdg (kk (by have : x.toNatClampNeg < 4 := Nat.not_le.mp fun q => hin (Or.inr q); omega))
theorem w_aaldS (C0 : cx p s m args meth c own cc nL G) (hW : wd G A hv H) {x : Int32} (hin : vp_in x 8) (hdg : decode cc pc = .ok (.aaload, 1))
    (kk : 1 + x.toNatClampNeg < 9 → W p l e R s m args below meth c H locs cells slots Q (F0 m (pc + 1) ls (.ref (ad G 7 (1 + x.toNatClampNeg)) :: rest))) : W p l e R s m args below meth c H locs cells slots Q (F0 m pc ls (.int x :: .ref (ad G 12 0) :: rest)) :=
  va_aldq C0.1 C0.2.1 C0.2.2.2.2.2.1.1 hW.1 (bas 12 + 0) 4 (wl_at (c := 12) (i := 0) (by decide) (by decide)) rfl hin hdg (kk (by have : x.toNatClampNeg < 8 := Nat.not_le.mp fun q => hin (Or.inr q); omega))
/-- System.arraycopy between two of the int arrays -/
theorem w_copy (C0 : cx p s m args meth c own cc nL G) (hW : wd G A hv H) (hS : va_S A H0 H locs) (hls : ls.size = nL) (c0 i0 c1 i1 : Nat) (hc0 : c0 < 15) (hi0 : i0 < cnt c0) (hc1 : c1 < 15) (hi1 : i1 < cnt c1) {n0 n1 : Nat} (he0 : enc G (hv c0 i0) c0 i0 = .inl (G.2.1 0, n0, .inl (hv c0 i0))) (he1 : ∀ f, enc G f c1 i1 = .inl (G.2.1 0, n1, .inl f)) {index : Nat} (hl : Cond.methodLink own index arraycopyName ∈ TB) (hnat : Cond.native arraycopyName ∈ TB) (hst : Cond.static arraycopyName ∈ TB) (hini : Cond.initialized "java/lang/System" ∈ TB)
    {sp dp n : Int32} (h1 : ¬ sp < 0) (h2 : ¬ dp < 0) (h3 : ¬ n < 0) (h4 : sp.toNatClampNeg + n.toNatClampNeg ≤ n0) (h5 : dp.toNatClampNeg + n.toNatClampNeg ≤ n1) (hfr : 1 ≤ R.frames) (hlo : (rest.map fun v => v.category).sum + (nativeFrameWords "java/lang/System" "arraycopy" 5 + 11) ≤ R.locals) (hdg : decode cc pc = .ok (.invokestatic index, 3))
    (kk : ∀ hv1 : HV, hv1 = up hv c1 i1 (va_cpy (hv c0 i0) (hv c1 i1) sp.toNatClampNeg dp.toNatClampNeg n.toNatClampNeg) → ∀ (H1 : Heap) (locs1 : List Loc), wd G A hv1 H1 → va_S A H0 H1 locs1 → W p l e R s m args below meth c H1 locs1 cells slots Q (F0 m (pc + 3) ls rest)) : W p l e R s m args below meth c H locs cells slots Q (F0 m pc ls (.int n :: .int dp :: .ref (ad G c1 i1) :: .int sp :: .ref (ad G c0 i0) :: rest)) := by
  refine va_copyi C0.1 C0.2.1 (C0.2.2.1.trans hls.symm) C0.2.2.2.1 (C0.2.2.2.2.1 _ hl) (C0.2.2.2.2.1 _ hnat) (C0.2.2.2.2.1 _ hst) (C0.2.2.2.2.1 _ hini) C0.2.2.2.2.2.1.1 hW.1 hW.2 hS (bas c0 + i0) (bas c1 + i1) 0 0 (by rw [wl_at hc0 hi0, he0]) (by rw [wl_at hc1 hi1, he1]) rfl rfl rfl h1 h2 h3 h4 h5 (fun _ _ => rfl) hfr hlo hdg fun H1 locs1 hP hD hS1 => ?_
  rw [← he1, wl_set hc1 hi1] at hP hD
  exact kk _ rfl H1 locs1 ⟨hP, hD⟩ hS1
theorem w_min (C0 : cx p s m args meth c own cc nL G) (hls : ls.size = nL) {index : Nat} (hl : Cond.methodLink own index Lib.Math.min.name ∈ TB) (hst : Cond.static Lib.Math.min.name ∈ TB) (hini : Cond.initialized "java/lang/Math" ∈ TB) (hcode : Cond.code Lib.Math.min.name Lib.Math.min.code 2 (some .int) ∈ TB) (hfr : 1 ≤ R.frames) (hlo : (rest.map fun v => v.category).sum + 13 ≤ R.locals) (hce : cells ≤ R.cells) (hsl : slots ≤ R.slots) {x y : Int32} (hdg : decode cc pc = .ok (.invokestatic index, 3))
    (kk : W p l e R s m args below meth c H locs cells slots Q (F0 m (pc + 3) ls (.int (if y < x then y else x) :: rest))) : W p l e R s m args below meth c H locs cells slots Q (F0 m pc ls (.int y :: .int x :: rest)) :=
  va_mmin C0.1 C0.2.1 (C0.2.2.1.trans hls.symm) C0.2.2.2.1 (C0.2.2.2.2.1 _ hl) (C0.2.2.2.2.1 _ hst) (C0.2.2.2.2.1 _ hini) (C0.2.2.2.2.1 _ hcode) hfr hlo hce hsl hdg kk
theorem w_max (C0 : cx p s m args meth c own cc nL G) (hls : ls.size = nL) {index : Nat} (hl : Cond.methodLink own index Lib.Math.max.name ∈ TB) (hst : Cond.static Lib.Math.max.name ∈ TB) (hini : Cond.initialized "java/lang/Math" ∈ TB) (hcode : Cond.code Lib.Math.max.name Lib.Math.max.code 2 (some .int) ∈ TB) (hfr : 1 ≤ R.frames) (hlo : (rest.map fun v => v.category).sum + 13 ≤ R.locals) (hce : cells ≤ R.cells) (hsl : slots ≤ R.slots) {x y : Int32} (hdg : decode cc pc = .ok (.invokestatic index, 3))
    (kk : W p l e R s m args below meth c H locs cells slots Q (F0 m (pc + 3) ls (.int (if x < y then y else x) :: rest))) : W p l e R s m args below meth c H locs cells slots Q (F0 m pc ls (.int y :: .int x :: rest)) :=
  va_mmax C0.1 C0.2.1 (C0.2.2.1.trans hls.symm) C0.2.2.2.1 (C0.2.2.2.2.1 _ hl) (C0.2.2.2.2.1 _ hst) (C0.2.2.2.2.1 _ hini) (C0.2.2.2.2.1 _ hcode) hfr hlo hce hsl hdg kk
/-- a number on the stack is another one's name -/
theorem w_top {x y : Int32} (h : x = y) (k : W p l e R s m args below meth c H locs cells slots Q (F0 m pc ls (.int y :: rest))) : W p l e R s m args below meth c H locs cells slots Q (F0 m pc ls (.int x :: rest)) := by rw [h]; exact k
-- calls
abbrev wcall (R : Room) (own : String) (index : Nat) (y : MethodName) (cb : ByteArray) (nLc : Nat) (ret : Option FieldType) (d n : Nat) (cells slots : Nat) : Prop :=
  (Cond.methodLink own index y ∈ TB ∧ Cond.initialized y.cls ∈ TB ∧ Cond.code y cb nLc ret ∈ TB) ∧ (y.cls ≠ "java/lang/invoke/MethodHandle" ∧ y.cls ≠ "java/lang/invoke/VarHandle" ∧ (parseMethodDescriptor y.desc).map (fun d => d.parameters.length) = some n) ∧ (d + 1 ≤ R.frames ∧ 8 + (nLc + 11) + 32 * d ≤ R.locals) ∧ (cells ≤ R.cells ∧ slots ≤ R.slots)
theorem w_callB {index : Nat} {y : MethodName} {cb : ByteArray} {nLc : Nat} {ret : Option FieldType} {d n : Nat} (C0 : cx p s m args meth c own cc nL G) (hw : wcall R own index y cb nLc ret d n cells slots) : CallB R s args own index y cb nLc ret (wsy y cb nLc ret) (wrm d) 0 0 n :=
  callB_of n C0.2.2.2.2.1 (tb_goodIn hw.1.2.2) rfl rfl rfl (C0.2.2.2.2.1 _ hw.1.2.1) (C0.2.2.2.2.1 _ hw.1.1) hw.2.1 hw.2.2.1
theorem w_runV {index : Nat} {y : MethodName} {cb : ByteArray} {nLc : Nat} {ret : Option FieldType} {d n : Nat} {Qc : Array Value → State → Outcome → State → Prop} (C0 : cx p s m args meth c own cc nL G) (hW : wd G A hv H) (cl i : Nat) (hc : cl < 15) (hi : i < cnt cl) {C : String} {T : u_T} {N ci : Nat} {fs : List Value} (he : enc G (hv cl i) cl i = .inr (ci, fs)) (hcl : wcls[ci]? = some (C, T, N)) {As : List Value} (hM : wM l y cb nLc ret d G A hv (.ref (ad G cl i) :: As) Qc)
    (hw : wcall R own index y cb nLc ret d n cells slots) (hw2 : Cond.instanceMethod y ∈ TB ∧ Cond.selects C y y ∈ TB) (hn : As.length = n) (hls : ls.size = nL) {st : List Value} (hst : st = As.reverse ++ .ref (ad G cl i) :: rest) (hcat : (rest.map fun v => v.category).sum ≤ 8) (hdg : decode cc pc = .ok (.invokevirtual index, 3)) :
    va_Run p l e R s m args below meth c H locs cells slots 0 0 (F0 m pc ls st) rest (Qc (Value.ref (ad G cl i) :: As).toArray) A :=
  va_runV (As := As) (rest := rest) ⟨C0.1, C0.2.1, C0.2.2.1, C0.2.2.2.1, C0.2.2.2.2.1⟩ hM ⟨w_callB C0 hw, C0.2.2.2.2.1 _ hw2.1, C0.2.2.2.2.1 _ hw2.2⟩ ⟨wPc_blind, va_recv C0.2.2.2.2.2.1.1 hW.1 hcl (q0 := bas cl + i) (by rw [wl_at hc hi, he]), fun U hU hwarm => ⟨rfl, by rw [hU]; exact hW, C0.2.2.2.2.2.1.warm hwarm⟩⟩ rfl hn hls hst (lv_room hcat) hdg hw.2.2.2
theorem w_runS {index : Nat} {y : MethodName} {cb : ByteArray} {nLc : Nat} {ret : Option FieldType} {d n : Nat} {Qc : Array Value → State → Outcome → State → Prop} (C0 : cx p s m args meth c own cc nL G) (hW : wd G A hv H) {As : List Value} (hM : wM l y cb nLc ret d G A hv As Qc)
    (hw : wcall R own index y cb nLc ret d n cells slots) (hw2 : Cond.static y ∈ TB) (hn : As.length = n) (hls : ls.size = nL) {st : List Value} (hst : st = As.reverse ++ rest) (hcat : (rest.map fun v => v.category).sum ≤ 8) (hdg : decode cc pc = .ok (.invokestatic index, 3)) :
    va_Run p l e R s m args below meth c H locs cells slots 0 0 (F0 m pc ls st) rest (Qc As.toArray) A :=
  va_runS (As := As) (rest := rest) ⟨C0.1, C0.2.1, C0.2.2.1, C0.2.2.2.1, C0.2.2.2.2.1⟩ hM ⟨w_callB C0 hw, C0.2.2.2.2.1 _ hw2⟩ ⟨wPc_blind, fun U hU hwarm => ⟨rfl, by rw [hU]; exact hW, C0.2.2.2.2.2.1.warm hwarm⟩⟩ rfl hn hls hst (lv_room hcat) hdg hw.2.2.2
/-- a private static method of the nest's host -/
theorem w_runSN {index : Nat} {y : MethodName} {cb : ByteArray} {nLc : Nat} {ret : Option FieldType} {d n : Nat} {Qc : Array Value → State → Outcome → State → Prop} (C0 : cx p s m args meth c own cc nL G) (hW : wd G A hv H) {As : List Value} (hM : wM l y cb nLc ret d G A hv As Qc) {host : String} (hnw : va_Nw (.methodLinkNest own index y host) s)
    (hw1 : Cond.initialized y.cls ∈ TB ∧ Cond.code y cb nLc ret ∈ TB) (hwn : y.cls ≠ "java/lang/invoke/MethodHandle" ∧ y.cls ≠ "java/lang/invoke/VarHandle" ∧ (parseMethodDescriptor y.desc).map (fun d => d.parameters.length) = some n) (hwr : d + 1 ≤ R.frames ∧ 8 + (nLc + 11) + 32 * d ≤ R.locals) (hwc : cells ≤ R.cells ∧ slots ≤ R.slots) (hw2 : Cond.static y ∈ TB) (hn : As.length = n) (hls : ls.size = nL) {st : List Value} (hst : st = As.reverse ++ rest) (hcat : (rest.map fun v => v.category).sum ≤ 8) (hdg : decode cc pc = .ok (.invokestatic index, 3)) :
    va_Run p l e R s m args below meth c H locs cells slots 0 0 (F0 m pc ls st) rest (Qc As.toArray) A :=
  va_runSN (As := As) (rest := rest) ⟨C0.1, C0.2.1, C0.2.2.1, C0.2.2.2.1, C0.2.2.2.2.1⟩ hM ⟨va_cnB n C0.2.2.2.2.1 (tb_goodIn hw1.2) rfl rfl rfl hnw (C0.2.2.2.2.1 _ hw1.1) hwn hwr, C0.2.2.2.2.1 _ hw2, trivial⟩ ⟨wPc_blind, fun U hU hwarm => ⟨rfl, by rw [hU]; exact hW, C0.2.2.2.2.2.1.warm hwarm⟩⟩ rfl hn hls hst (lv_room hcat) hdg hwc
theorem w_ci {st : List Value} {a : Array Value} {post : Int32 → HV → Prop} (hS : va_S A H0 H locs) (hr : va_Run p l e R s m args below meth c H locs cells slots 0 0 (F0 m pc ls st) rest (qI G A post a) A)
    (kk : ∀ (r : Int32) (hv1 : HV), post r hv1 → ∀ (H1 : Heap) (locs1 : List Loc), wd G A hv1 H1 → va_S A H0 H1 locs1 → W p l e R s m args below meth c H1 locs1 cells slots Q (F0 m (pc + 3) ls (.int r :: rest))) : W p l e R s m args below meth c H locs cells slots Q (F0 m pc ls st) :=
  va_calli hr hS (fun _ _ h => h) (fun _ h => h) fun r u t H1 locs1 ht _ hp hb _ _ hS1 => kk r u hp H1 locs1 (by rw [← ht]; exact hb) hS1
theorem w_cl {st : List Value} {a : Array Value} {post : Int64 → HV → Prop} (hS : va_S A H0 H locs) (hr : va_Run p l e R s m args below meth c H locs cells slots 0 0 (F0 m pc ls st) rest (qJ G A post a) A)
    (kk : ∀ (r : Int64) (hv1 : HV), post r hv1 → ∀ (H1 : Heap) (locs1 : List Loc), wd G A hv1 H1 → va_S A H0 H1 locs1 → W p l e R s m args below meth c H1 locs1 cells slots Q (F0 m (pc + 3) ls (.long r :: rest))) : W p l e R s m args below meth c H locs cells slots Q (F0 m pc ls st) :=
  va_calll hr hS (fun _ _ h => h) (fun _ h => h) fun r u t H1 locs1 ht _ hp hb _ _ hS1 => kk r u hp H1 locs1 (by rw [← ht]; exact hb) hS1
theorem w_cv {st : List Value} {a : Array Value} {post : HV → Prop} (hS : va_S A H0 H locs) (hr : va_Run p l e R s m args below meth c H locs cells slots 0 0 (F0 m pc ls st) rest (qV G A post a) A)
    (kk : ∀ (hv1 : HV), post hv1 → ∀ (H1 : Heap) (locs1 : List Loc), wd G A hv1 H1 → va_S A H0 H1 locs1 → W p l e R s m args below meth c H1 locs1 cells slots Q (F0 m (pc + 3) ls rest)) : W p l e R s m args below meth c H locs cells slots Q (F0 m pc ls st) :=
  va_callv hr hS (fun _ _ h => h) (fun _ h => h) fun u t H1 locs1 ht _ hp hb _ _ hS1 => kk u hp H1 locs1 (by rw [← ht]; exact hb) hS1
theorem w_cp {st : List Value} {a : Array Value} {post : Option Nat → HV → Prop} (hS : va_S A H0 H locs) (hr : va_Run p l e R s m args below meth c H locs cells slots 0 0 (F0 m pc ls st) rest (qP G A post a) A)
    (kn : ∀ (hv1 : HV), post none hv1 → ∀ (H1 : Heap) (locs1 : List Loc), wd G A hv1 H1 → va_S A H0 H1 locs1 → W p l e R s m args below meth c H1 locs1 cells slots Q (F0 m (pc + 3) ls (.null :: rest)))
    (kk : ∀ (r : Nat) (hv1 : HV), r < 37 → post (some r) hv1 → ∀ (H1 : Heap) (locs1 : List Loc), wd G A hv1 H1 → va_S A H0 H1 locs1 → W p l e R s m args below meth c H1 locs1 cells slots Q (F0 m (pc + 3) ls (.ref (ad G 4 r) :: rest))) : W p l e R s m args below meth c H locs cells slots Q (F0 m pc ls st) :=
  va_callq hr hS (fun _ _ h => h) (fun _ h => h) fun r u t H1 locs1 ht _ hp hb _ _ hS1 => by
    obtain ⟨r', rfl, hlt, hp⟩ := hp
    cases r' with
    | none => exact kn u hp H1 locs1 (by rw [← ht]; exact hb) hS1
    | some i => exact kk i u (hlt i rfl) hp H1 locs1 (by rw [← ht]; exact hb) hS1
-- ends
theorem w_iret {post : Int32 → HV → Prop} {v : Int32} (C0 : cx p s m args meth c own cc nL G) (hr : meth.sig.returnType = some .int) (hW : wd G A hv H) (hS : va_S A s.heap H locs) (hp : post v hv) (hdg : decode cc pc = .ok (.ireturn, 1)) : W p l e R s m args below meth c H locs cells slots (MQ below (qI G A post) args s cells slots A) (F0 m pc ls [.int v]) :=
  W.iret C0.1 C0.2.1 hr (fun t ht _ => ⟨⟨v, hv, rfl, hp, by show wd G A hv t.heap; rw [ht]; exact hW⟩, hS.F ht⟩) hS.2.2 hdg C0.2.2.2.2.2.2
theorem w_zret {post : Int32 → HV → Prop} {v : Int32} {ty : FieldType} (C0 : cx p s m args meth c own cc nL G) (hr : meth.sig.returnType = some ty) (hn : narrow ty (.int v) = .int v) (hW : wd G A hv H) (hS : va_S A s.heap H locs) (hp : post v hv) (hdg : decode cc pc = .ok (.ireturn, 1)) : W p l e R s m args below meth c H locs cells slots (MQ below (qI G A post) args s cells slots A) (F0 m pc ls [.int v]) :=
  W.zret C0.1 C0.2.1 hr hn (fun t ht _ => ⟨⟨v, hv, rfl, hp, by show wd G A hv t.heap; rw [ht]; exact hW⟩, hS.F ht⟩) hS.2.2 hdg C0.2.2.2.2.2.2
theorem w_lret {post : Int64 → HV → Prop} {v : Int64} (C0 : cx p s m args meth c own cc nL G) (hr : meth.sig.returnType = some .long) (hW : wd G A hv H) (hS : va_S A s.heap H locs) (hp : post v hv) (hdg : decode cc pc = .ok (.lreturn, 1)) : W p l e R s m args below meth c H locs cells slots (MQ below (qJ G A post) args s cells slots A) (F0 m pc ls [.long v]) :=
  W.lret C0.1 C0.2.1 hr (fun t ht _ => ⟨⟨v, hv, rfl, hp, by show wd G A hv t.heap; rw [ht]; exact hW⟩, hS.F ht⟩) hS.2.2 hdg C0.2.2.2.2.2.2
theorem w_vret {post : HV → Prop} (C0 : cx p s m args meth c own cc nL G) (hr : meth.sig.returnType = none) (hW : wd G A hv H) (hS : va_S A s.heap H locs) (hp : post hv) (hdg : decode cc pc = .ok (.return_, 1)) : W p l e R s m args below meth c H locs cells slots (MQ below (qV G A post) args s cells slots A) (F0 m pc ls []) :=
  W.vret C0.1 C0.2.1 hr (fun t ht _ => ⟨⟨hv, rfl, hp, by show wd G A hv t.heap; rw [ht]; exact hW⟩, hS.F ht⟩) hS.2.2 hdg C0.2.2.2.2.2.2
theorem w_pret {post : Option Nat → HV → Prop} {n : Nat} (C0 : cx p s m args meth c own cc nL G) (hr : meth.sig.returnType = some (.object "RamStation$Pump")) (hW : wd G A hv H) (hS : va_S A s.heap H locs) (hn : n < 37) (hp : post (some n) hv) (hdg : decode cc pc = .ok (.areturn, 1)) : W p l e R s m args below meth c H locs cells slots (MQ below (qP G A post) args s cells slots A) (F0 m pc ls [.ref (ad G 4 n)]) :=
  W.aret C0.1 C0.2.1 hr (Or.inl ⟨_, rfl⟩) (Or.inr ⟨_, rfl⟩) (fun t ht _ => ⟨⟨some (ad G 4 n), hv, rfl, ⟨some n, rfl, fun i h => by cases h; exact hn, hp⟩, by show wd G A hv t.heap; rw [ht]; exact hW⟩, hS.F ht⟩) hS.2.2 hdg C0.2.2.2.2.2.2
theorem w_nret {post : Option Nat → HV → Prop} (C0 : cx p s m args meth c own cc nL G) (hr : meth.sig.returnType = some (.object "RamStation$Pump")) (hW : wd G A hv H) (hS : va_S A s.heap H locs) (hp : post none hv) (hdg : decode cc pc = .ok (.areturn, 1)) : W p l e R s m args below meth c H locs cells slots (MQ below (qP G A post) args s cells slots A) (F0 m pc ls [.null]) :=
  W.aret C0.1 C0.2.1 hr (Or.inl ⟨_, rfl⟩) (Or.inl rfl) (fun t ht _ => ⟨⟨none, hv, rfl, ⟨none, rfl, (fun i h => by cases h), hp⟩, by show wd G A hv t.heap; rw [ht]; exact hW⟩, hS.F ht⟩) hS.2.2 hdg C0.2.2.2.2.2.2
end ROWS
/-- an int that a boolean's, a char's place takes as it is -/
def bOK (v : Int32) : Prop := narrow .boolean (.int v) = .int v ∧ fits .boolean (.int v) = true
def cOK (v : Int32) : Prop := narrow .char (.int v) = .int v ∧ fits .char (.int v) = true

