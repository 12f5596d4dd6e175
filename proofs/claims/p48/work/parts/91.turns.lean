/-! The law: what its walk stands on (the skeleton's first rows), its turns. -/
/-! THE CLAIM OUT OF ONE WALK OF THE LAW'S BODY. Your part is whole_start (and what it stands on); all else here is the same for every law, but numbers. -/
def R_law : String := "RamStationLaw"
def lw_P (b : Addr) (xs : List Int32) (args : Array Value) (s : State) : Prop := args = #[.ref b] ∧ s.IntsAt b xs ∧ xs.length ≤ 260 ∧ (Jvm.Cond.and given_1 narrow_1).before args s = true
def lw_Q (_ : Array Value) (s : State) (o : Outcome) (t : State) : Prop := o = .returned (some (.int 1)) ∧ Framed s o t [] 600000 7302250
def lw_Z (below : List Frame) (a : Array Value) (s : State) : State → Prop := fun t => ∃ o, t.status = .running ∧ Ended t below o ∧ lw_Q a s o t
/-- the law's own end, with 1 on the stack, nothing written that was there before, its room as the claim has it -/
theorem lw_ret {p : Program} {l : Launch} {e : Env} {s : State} {m : MethodId} {below : List Frame} {meth : Method} {c : Code} {b : Nat} (hx : p.tables.exec = Jvm.exec) (hb : c.code = code) (hr : meth.sig.returnType = ret) (hlocks : meth.locks = false) {pc : Nat} {H : Heap} {ls : Array Slot} (hdg : decode code pc = .ok (.ireturn, 1)) : W p l e room_1 s m #[Value.ref b] below meth c H [] 600000 7302250 (lw_Z below #[Value.ref b] s) (F0 m pc ls [.int 1]) := by
  intro T hT X
  obtain ⟨fs, hret, hrun, hended, hW, hframe⟩ := X.leave (v := some (.int 1)) (hlocks := hlocks) (fun h => by rw [hr] at h; cases h)
  have hmeth' : T.vm.method? m = some meth := X.method'
  refine ⟨T.setFrames fs, ?_, .returned (some (.int 1)), hrun, hended, rfl, ⟨_, rfl⟩, hW, hframe⟩
  jvm_step X.here [X.here.top, hx, hb, hdg, hmeth', hr, ret, narrow_b1]
  (try refine ⟨rfl, ?_⟩); (try refine ⟨rfl, ?_⟩)
  first | (intro acts; rw [hret _ acts rfl rfl rfl]) | rw [hret _ _ rfl rfl rfl]
  exact Steps.refl _
/-- what holds at the law's entry: the machine, the code, the tables' words (any of lw_tbl by 'hts w (by decide +kernel)'), the script of L ints xs at the cell b, what the Statement gives of the start (any of its parts by flat_of_before) -/
def lw_At (p : Program) (s : State) (m : MethodId) (meth : Method) (c : Code) (b L : Nat) (xs : Nat → Int32) : Prop :=
  p.tables.exec = Jvm.exec ∧ c.code = code ∧ meth.sig.returnType = ret ∧ c.maxLocals = 8 ∧ s.vm.findClass R_law = some m.cls ∧ (∀ w ∈ lw_tbl, w.before #[Value.ref b] s = true) ∧ va_X b L xs s s.heap ∧ b < s.heap.size ∧ meth.locks = false ∧ (Jvm.Cond.and given_1 narrow_1).before #[Value.ref b] s = true

theorem nI_mul2 (n : Nat) : (2 : Int32) * nI n = nI (2 * n) := by
  rw [show 2 * n = n + n by omega, ← nI_add]; grind
theorem incF_20 (h : Nat) (arr : Nat → Int32) : incF h arr 20 = -1005 := by
  unfold incF
  rw [if_pos (by decide), if_pos (show nI (min h 20) ≤ 20 from nI_le (b := 20) (by omega) (by omega))]
theorem incF_n (h : Nat) (arr : Nat → Int32) : incF h arr (-1) = -1002 := by
  unfold incF
  rw [if_neg (by decide)]
theorem incF_h {h : Nat} (arr : Nat → Int32) (hh : h < 2 ^ 31) : incF h arr (nI h) = -1005 := by
  unfold incF
  rw [if_pos (nI_pos' hh), if_pos (nI_le (by omega) hh)]
set_option maxHeartbeats 8000000 in
set_option maxRecDepth 100000 in
theorem law_turns {p : Program} {e : Env} {s : State} {m : MethodId} {below : List Frame} {meth : Method} {c : Code} (l : Launch) {b L : Nat} {xs : Nat → Int32} (hL : L ≤ 260) (hr : meth.sig.returnType = ret) (hX : va_X b L xs s s.heap) (hbl : b < s.heap.size) (hO : iAO s) : ∀ (M n : Nat) (G : wG) (hv : HV) (H : Heap) (locs : List Loc) (ls : Array Slot), n + M = 24 →
    cx p s m #[Value.ref b] meth c "RamStationLaw" code 8 G → wd G (lA s) hv H → va_S (lA s) s.heap H locs → IN (8000 * n) (70 * n) hv → lv_has ls 8 [(0, .ref b), (1, .ref (ad G 8 0)), (2, .ref (ad G 9 0)), (3, .int (nI n))] → W p l e room_1 s m #[Value.ref b] below meth c H locs (291 + 7 * n) (5269 + 82 * n) (lw_Z below #[Value.ref b] s) (F0 m 26 ls [])
  | M, n, G, hv, H, locs, ls, hn, C0, hW, hS, hN, hl => by
    have hx := C0.1
    have hb := C0.2.1
    have hbA : ¬ lA s b := Nat.not_le.mpr hbl
    obtain ⟨v, K, hN0⟩ := id hN
    obtain ⟨h1, h2, h3, h4, h5, h6⟩ := id hN0
    have hcs : 291 + 7 * n ≤ room_1.cells ∧ 5269 + 82 * n ≤ room_1.slots := ⟨show 291 + 7 * n ≤ 600000 by omega, show 5269 + 82 * n ≤ 7302250 by omega⟩
    refine lv_iload_n hx hb dL_26 rfl (lv_at hl 3 rfl) ?_
    refine lv_bipush (v := 24) hx hb dL_27 (by decide) ?_
    refine lv_icmp_ge (tgt := 236) hx hb dL_29 (by decide) (fun _ => ?_) (fun c1 => ?_)
    · refine lv_aload_n hx hb dL_236 rfl (lv_at hl 1 rfl) ?_
      refine lv_bipush (v := 20) hx hb dL_237 (by decide) ?_
      refine w_ci hS (w_runV (As := [.int 20]) C0 hW 8 0 (by decide) (by decide) rfl rfl (c_X8_incidentKind l G (lA s) 20 _ _ (g_incidentKind (post := fun r hv' => r = incF K.1.1 K.1.2.1 20 ∧ hv' = _) h1 ⟨rfl, rfl⟩)) ⟨⟨w_327, w_6, w_330⟩, pl_X8_incidentKind, ⟨(Nat.le_of_ble_eq_true rfl), (Nat.le_of_ble_eq_true rfl)⟩, hcs⟩ ⟨w_328, w_329⟩ rfl hl.1 rfl (Nat.le_of_ble_eq_true rfl) dL_239) (fun r1 hv1 h H locs hW hS => ?_)
      obtain ⟨rfl, ev⟩ := h
      rw [ev] at hW
      refine lv_sipush (v := (-1005)) hx hb dL_242 (by decide) ?_
      refine lv_icmp_ne (tgt := 277) hx hb dL_245 (by decide) (fun z => absurd (incF_20 _ _) z) (fun _ => ?_)
      refine lv_aload_n hx hb dL_248 rfl (lv_at hl 1 rfl) ?_
      refine lv_iconst (v := (-1)) hx hb dL_249 (by decide) ?_
      refine w_ci hS (w_runV (As := [.int (-1)]) C0 hW 8 0 (by decide) (by decide) rfl rfl (c_X8_incidentKind l G (lA s) (-1) _ _ (g_incidentKind (post := fun r hv' => r = incF K.1.1 K.1.2.1 (-1) ∧ hv' = _) h1 ⟨rfl, rfl⟩)) ⟨⟨w_327, w_6, w_330⟩, pl_X8_incidentKind, ⟨(Nat.le_of_ble_eq_true rfl), (Nat.le_of_ble_eq_true rfl)⟩, hcs⟩ ⟨w_328, w_329⟩ rfl hl.1 rfl (Nat.le_of_ble_eq_true rfl) dL_250) (fun r2 hv1 h H locs hW hS => ?_)
      obtain ⟨rfl, ev⟩ := h
      rw [ev] at hW
      refine lv_sipush (v := (-1002)) hx hb dL_253 (by decide) ?_
      refine lv_icmp_ne (tgt := 277) hx hb dL_256 (by decide) (fun z => absurd (incF_n _ _) z) (fun _ => ?_)
      refine lv_aload_n hx hb dL_259 rfl (lv_at hl 1 rfl) ?_
      refine lv_aload_n hx hb dL_260 rfl (lv_at hl 1 rfl) ?_
      refine w_ci hS (w_runV (As := []) C0 hW 8 0 (by decide) (by decide) rfl rfl (c_X8_incidents l G (lA s) _ _ (g_incidents (post := fun r hv' => r = nI K.1.1 ∧ hv' = _) h1 ⟨rfl, rfl⟩)) ⟨⟨w_323, w_6, w_326⟩, pl_X8_incidents, ⟨(Nat.le_of_ble_eq_true rfl), (Nat.le_of_ble_eq_true rfl)⟩, hcs⟩ ⟨w_324, w_325⟩ rfl hl.1 rfl (Nat.le_of_ble_eq_true rfl) dL_261) (fun r3 hv1 h H locs hW hS => ?_)
      obtain ⟨rfl, ev⟩ := h
      rw [ev] at hW
      refine w_ci hS (w_runV (As := [.int (nI K.1.1)]) C0 hW 8 0 (by decide) (by decide) rfl rfl (c_X8_incidentPump l G (lA s) (nI K.1.1) _ _ (g_incidentPump (post := fun r hv' => r = incF K.1.1 K.1.2.2.1 (nI K.1.1) ∧ hv' = _) h1 ⟨rfl, rfl⟩)) ⟨⟨w_338, w_6, w_341⟩, pl_X8_incidentPump, ⟨(Nat.le_of_ble_eq_true rfl), (Nat.le_of_ble_eq_true rfl)⟩, hcs⟩ ⟨w_339, w_340⟩ rfl hl.1 rfl (Nat.le_of_ble_eq_true rfl) dL_264) (fun r4 hv1 h H locs hW hS => ?_)
      obtain ⟨rfl, ev⟩ := h
      rw [ev] at hW
      refine lv_sipush (v := (-1005)) hx hb dL_267 (by decide) ?_
      refine lv_icmp_ne (tgt := 277) hx hb dL_270 (by decide) (fun z => absurd (incF_h _ (by omega)) z) (fun _ => ?_)
      refine va_forget (fun q hq => hS.2.2 q hq) ?_
      refine W.widen (k := 600000) (n := 7302250) (by omega) (by omega) ?_
      refine lv_iconst (v := 1) hx hb dL_273 (by decide) ?_
      refine lv_goto (tgt := 278) hx hb dL_274 (by decide) ?_
      exact lw_ret hx hb hr C0.2.2.2.2.2.2 dL_278
    · have hn2 : n < 24 := by
        have c2 : ¬ nI 24 ≤ nI n := c1
        rw [nI_leI (by omega) (by omega)] at c2
        omega
      obtain ⟨M2, rfl⟩ : ∃ M2, M = M2 + 1 := ⟨M - 1, by omega⟩
      have hcs1 : 291 + 7 * n + 7 ≤ room_1.cells ∧ 5269 + 82 * n + 82 ≤ room_1.slots := ⟨show 291 + 7 * n + 7 ≤ 600000 by omega, show 5269 + 82 * n + 82 ≤ 7302250 by omega⟩
      refine lv_aload_n hx hb dL_32 rfl (lv_at hl 0 rfl) ?_
      refine lv_iconst (v := 2) hx hb dL_33 (by decide) ?_
      refine lv_iload_n hx hb dL_34 rfl (lv_at hl 3 rfl) ?_
      refine lv_imul hx hb dL_35 ?_
      refine w_top (nI_mul2 n) ?_
      refine w_ci hS (x_runS (As := [.ref b, .int (nI (2 * n))]) C0 hX hbl hbA hS hW (c_L_cell l G (lA s) b L xs (2 * n) hv hbA (by omega) (by omega)) ⟨⟨w_355, w_5, w_357⟩, pl_L_cell, ⟨(Nat.le_of_ble_eq_true rfl), (Nat.le_of_ble_eq_true rfl)⟩, hcs⟩ w_356 rfl hl.1 rfl (Nat.le_of_ble_eq_true rfl) dL_36) (fun r1 hv1 h H locs hW hS => ?_)
      have ev : hv1 = hv := h
      rw [ev] at hW
      refine lv_istore (lv' := [(4, .int r1), (0, .ref b), (1, .ref (ad G 8 0)), (2, .ref (ad G 9 0)), (3, .int (nI n))]) hx hb dL_39 hl (by decide) rfl (fun ls hl => ?_)
      refine lv_aload_n hx hb dL_41 rfl (lv_at hl 1 rfl) ?_
      refine lv_iconst (v := 2) hx hb dL_42 (by decide) ?_
      refine lv_iload_n hx hb dL_43 rfl (lv_at hl 4 rfl) ?_
      refine lv_imul hx hb dL_44 ?_
      refine w_top (nI_mul2 n) ?_
      refine lv_iconst (v := 1) hx hb dL_45 (by decide) ?_
      refine lv_iadd hx hb dL_46 ?_
      refine w_top (nI_1 (2 * n)) ?_
      refine w_ci hS (x_runS (As := [.ref b, .int (nI (2 * n + 1))]) C0 hX hbl hbA hS hW (c_L_cell l G (lA s) b L xs (2 * n + 1) hv hbA (by omega) (by omega)) ⟨⟨w_355, w_5, w_357⟩, pl_L_cell, ⟨(Nat.le_of_ble_eq_true rfl), (Nat.le_of_ble_eq_true rfl)⟩, hcs⟩ w_356 rfl hl.1 rfl (Nat.le_of_ble_eq_true rfl) dL_47) (fun r2 hv1 h H locs hW hS => ?_)
      have ev : hv1 = hv := h
      rw [ev] at hW
      refine lv_istore (lv' := [(5, .int r2), (4, .int r1), (0, .ref b), (1, .ref (ad G 8 0)), (2, .ref (ad G 9 0)), (3, .int (nI n))]) hx hb dL_50 hl (by decide) rfl (fun ls hl => ?_)
      refine lv_aload_n hx hb dL_52 rfl (lv_at hl 3 rfl) ?_
      refine lv_aload_n hx hb dL_53 rfl (lv_at hl 4 rfl) ?_
      refine lv_iload hx hb dL_54 (lv_at hl 1 rfl) ?_
      refine lv_iload hx hb dL_56 (lv_at hl 0 rfl) ?_
      refine a_call hS (a_runS (As := [.ref (ad G 8 0), .ref (ad G 9 0), .int r1, .int r2]) C0 hO (fun q hq => Nat.le_trans hS.1 hq) hW (c_L_change l G (lA s) r1 r2 _ _ (ch_all (post := fun r hv' => r = 1 ∧ IN (8000 * n + 1600) (70 * n + 70) hv') hN0 (by omega) (by omega) (fun hv' h => ⟨rfl, h⟩))) ⟨⟨w_366, w_5, w_368⟩, pl_L_change, ⟨(Nat.le_of_ble_eq_true rfl), (Nat.le_of_ble_eq_true rfl)⟩, hcs1⟩ w_367 rfl hl.1 rfl (Nat.le_of_ble_eq_true rfl) dL_58) (fun r G1 hv g1 g2 g8 g9 h H locs hW hS => ?_)
      obtain ⟨rfl, hN1⟩ := h
      have C1 : cx p s m #[Value.ref b] meth c "RamStationLaw" code 8 G1 := cx_cg g1 g2 C0
      rw [← g8, ← g9] at hl
      clear hN hN0 h1 h2 h3 h4 h5 h6
      obtain ⟨v, K, hN0⟩ := id hN1
      obtain ⟨h1, h2, h3, h4, h5, h6⟩ := id hN0
      have hcs := hcs1
      refine lv_if_eq (tgt := 79) hx hb dL_61 (by decide) (fun z => absurd z (by decide)) (fun _ => ?_)
      refine lv_aload_n hx hb dL_64 rfl (lv_at hl 3 rfl) ?_
      refine lv_aload_n hx hb dL_65 rfl (lv_at hl 4 rfl) ?_
      refine w_ci hS (w_runS (As := [.ref (ad G1 8 0), .ref (ad G1 9 0)]) C1 hW (c_L_isBalanced l G1 (lA s) _ _ (L_balanced (post := fun r hv' => r = 1 ∧ hv' = _) h1 h2 h3 ⟨rfl, rfl⟩)) ⟨⟨w_536, w_5, w_538⟩, pl_L_isBalanced, ⟨(Nat.le_of_ble_eq_true rfl), (Nat.le_of_ble_eq_true rfl)⟩, hcs⟩ w_537 rfl hl.1 rfl (Nat.le_of_ble_eq_true rfl) dL_66) (fun r3 hv1 h H locs hW hS => ?_)
      obtain ⟨rfl, ev⟩ := h
      rw [ev] at hW
      refine lv_if_eq (tgt := 79) hx hb dL_69 (by decide) (fun z => absurd z (by decide)) (fun _ => ?_)
      refine lv_aload_n hx hb dL_72 rfl (lv_at hl 3 rfl) ?_
      refine w_ci hS (w_runS (As := [.ref (ad G1 8 0)]) C1 hW (c_L_isBest l G1 (lA s) _ _ (L_best (post := fun r hv' => r = 1 ∧ hv' = _) h1 h2 ⟨rfl, rfl⟩)) ⟨⟨w_632, w_5, w_634⟩, pl_L_isBest, ⟨(Nat.le_of_ble_eq_true rfl), (Nat.le_of_ble_eq_true rfl)⟩, hcs⟩ w_633 rfl hl.1 rfl (Nat.le_of_ble_eq_true rfl) dL_73) (fun r4 hv1 h H locs hW hS => ?_)
      obtain ⟨rfl, ev⟩ := h
      rw [ev] at hW
      refine lv_if_ne (tgt := 81) hx hb dL_76 (by decide) (fun _ => ?_) (fun z => absurd z (by decide))
      refine lv_iconst (v := 0) hx hb dL_81 (by decide) ?_
      refine lv_istore (lv' := [(6, .int 0), (5, .int r2), (4, .int r1), (0, .ref b), (1, .ref (ad G1 8 0)), (2, .ref (ad G1 9 0)), (3, .int (nI n))]) hx hb dL_82 hl (by decide) rfl (fun ls hl => ?_)
      refine law_pumps (B := 8000 * n + 1600) (Tt := 70 * n + 70) C1 hcs (by omega) (by omega) (by omega) (fun hv H locs ls hN hW hS hl => ?_) 4 0 _ H locs ls (by omega) hN1 hW hS (lv_sub hl [0, 1, 3, 4, 5, 6] rfl)
      obtain ⟨v, K, hN0⟩ := id hN
      obtain ⟨h1, h2, h3, h4, h5, h6⟩ := id hN0
      refine lv_iconst (v := 0) hx hb dL_155 (by decide) ?_
      refine lv_istore (lv' := [(6, .int 0), (0, .ref b), (1, .ref (ad G1 8 0)), (2, .ref (ad G1 9 0)), (3, .int (nI n))]) hx hb dL_156 hl (by decide) rfl (fun ls hl => ?_)
      refine law_inc C1 hcs h1 h4 (by omega) (fun H locs ls hW hS hl => ?_) 20 0 H locs ls (by omega) hW hS hl
      refine lv_iinc (v := nI (n + 1)) (lv' := [(3, .int (nI (n + 1))), (0, .ref b), (1, .ref (ad G1 8 0)), (2, .ref (ad G1 9 0))]) hx hb dL_230 hl (k := 3) rfl (nI_1 n) (by decide) rfl (fun ls hl => ?_)
      refine lv_goto (tgt := 26) hx hb dL_233 (by decide) ?_
      refine W.widen (k := 291 + 7 * (n + 1)) (n := 5269 + 82 * (n + 1)) (by omega) (by omega) ?_
      exact law_turns l hL hr hX hbl hO M2 (n + 1) G1 _ H locs ls (by omega) C1 hW hS (IN_up (by omega) (by omega) hN) (lv_sub hl [1, 2, 3, 0] rfl)
  termination_by M => M
