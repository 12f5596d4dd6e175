/-! The law from its entry. -/
theorem arr_K {s : State} {ty : FieldType} {args : Array Value} (hne : ∀ C, ¬ ty = .object C) (h : (Cond.arrayClass ty).before args s = true) : ∃ cA : ClassId, ArrOfT s cA ty ∧ va_RA s cA ty := by
  obtain ⟨c, k, comp, h1, h2, h3⟩ := Cond.arrayClass_spec h
  refine ⟨c, fun n z => ⟨fun k h => (by cases h), k, h2, comp, h3⟩, ?_⟩
  cases ty with
  | object C => exact absurd rfl (hne C)
  | _ => exact h1
theorem arr_O {s : State} {C : String} {args : Array Value} (h : (Cond.arrayOver (.object C)).before args s = true) : ∃ cA : ClassId, ArrOfT s cA (.object C) ∧ va_RA s cA (.object C) := by
  obtain ⟨comp, c, k, h1, _, h3, h4, h5⟩ := Cond.arrayOver_spec h
  exact ⟨c, fun n z => ⟨fun k h => (by cases h), k, h3, comp, h4⟩, k, comp, h3, h4, h1, h5⟩
set_option maxHeartbeats 4000000 in
set_option maxRecDepth 100000 in
/-- the law from its entry -/
theorem whole_start {p : Program} {e : Env} {s : State} {m : MethodId} {below : List Frame} {meth : Method} {c : Code} (l : Launch) (hflags : l.flags = flags0) {b L : Nat} {xs : Nat → Int32} (hL : L ≤ 3072) (C0 : lw_At p s m meth c b L xs) : W p l e room_1 s m #[Value.ref b] below meth c s.heap [] 0 0 (lw_Z below #[Value.ref b] s) (entryFrame m ([Value.ref b] : List Value).toArray 4) := by
  obtain ⟨hx, hb, hr, hml, hown, hts, hX, hbl, hlocks, hgv⟩ := C0
  have hT : ∀ w ∈ TB, w.before #[Value.ref b] s = true := fun w h => hts w (List.mem_filter.mp h).1
  have hO : iAO s := ⟨va_AO.of (hts _ w_78), va_AO.of (hts _ w_259)⟩
  obtain ⟨c0, j0, k0⟩ := u_known (C := RX0) (T := TX0) (N := 5) (n := 5) hT in_X0 (hT _ w_85)
  obtain ⟨c1, j1, k1⟩ := u_known (C := RX1) (T := TX1) (N := 2) (n := 2) hT in_X1 (hT _ w_261)
  obtain ⟨c2, j2, k2⟩ := u_known (C := RX2) (T := TX2) (N := 6) (n := 6) hT in_X2 (hT _ w_112)
  obtain ⟨c3, j3, k3⟩ := u_known (C := RX3) (T := TX3) (N := 4) (n := 4) hT in_X3 (hT _ w_277)
  obtain ⟨c4, j4, k4⟩ := u_known (C := RX4) (T := TX4) (N := 17) (n := 17) hT in_X4 (hT _ w_79)
  obtain ⟨c5, j5, k5⟩ := u_known (C := RX5) (T := TX5) (N := 5) (n := 5) hT in_X5 (hT _ w_302)
  obtain ⟨c6, j6, k6⟩ := u_known (C := RX6) (T := TX6) (N := 3) (n := 3) hT in_X6 (hT _ w_149)
  obtain ⟨c7, j7, k7⟩ := u_known (C := RX7) (T := TX7) (N := 6) (n := 6) hT in_X7 (hT _ w_72)
  obtain ⟨c8, j8, k8⟩ := u_known (C := RX8) (T := TX8) (N := 11) (n := 11) hT in_X8 (hT _ w_64)
  obtain ⟨c9, j9, k9⟩ := u_known (C := RX9) (T := TX9) (N := 19) (n := 19) hT in_X9 (hT _ w_757)
  obtain ⟨t0, u0⟩ := arr_K (ty := .int) (fun C z => by cases z) (hT _ w_167)
  obtain ⟨t1, u1⟩ := arr_K (ty := .char) (fun C z => by cases z) (hT _ w_275)
  obtain ⟨t2, u2⟩ := arr_K (ty := .long) (fun C z => by cases z) (hT _ w_369)
  obtain ⟨t3, u3⟩ := arr_O (hts _ w_78)
  obtain ⟨t4, u4⟩ := arr_O (hts _ w_259)
  obtain ⟨dC, dI, hKc⟩ : ∃ (dC : Nat → ClassId) (dI : Nat → Nat → Nat), ∀ (k : Nat) (q : vw_C), wcls[k]? = some q → u_Kn s q.1 q.2.1 q.2.2 (dC k) (dI k) := by
    refine ⟨fun k => match k with | 0 => c0 | 1 => c1 | 2 => c2 | 3 => c3 | 4 => c4 | 5 => c5 | 6 => c6 | 7 => c7 | 8 => c8 | _ => c9, fun k => match k with | 0 => j0 | 1 => j1 | 2 => j2 | 3 => j3 | 4 => j4 | 5 => j5 | 6 => j6 | 7 => j7 | 8 => j8 | _ => j9, ?_⟩
    intro k q hq
    match k, hq with
    | 0, hq => cases hq; exact k0
    | 1, hq => cases hq; exact k1
    | 2, hq => cases hq; exact k2
    | 3, hq => cases hq; exact k3
    | 4, hq => cases hq; exact k4
    | 5, hq => cases hq; exact k5
    | 6, hq => cases hq; exact k6
    | 7, hq => cases hq; exact k7
    | 8, hq => cases hq; exact k8
    | 9, hq => cases hq; exact k9
    | k + 10, hq => simp [wcls] at hq
  obtain ⟨tA, hKt⟩ : ∃ tA : Nat → ClassId, ∀ (k : Nat) (q : ClassId × FieldType), ([(tA 0, .int), (tA 1, .char), (tA 2, .long), (tA 3, .object "RamStation$Pump"), (tA 4, .object "RamStation$State")] : List (ClassId × FieldType))[k]? = some q → ArrOfT s q.1 q.2 ∧ va_RA s q.1 q.2 := by
    refine ⟨fun k => match k with | 0 => t0 | 1 => t1 | 2 => t2 | 3 => t3 | _ => t4, ?_⟩
    intro k q hq
    match k, hq with
    | 0, hq => cases hq; exact u0
    | 1, hq => cases hq; exact u1
    | 2, hq => cases hq; exact u2
    | 3, hq => cases hq; exact u3
    | 4, hq => cases hq; exact u4
    | k + 5, hq => simp at hq
  have hN : wN s := ⟨va_Nw.of rfl (hts _ w_549), va_Nw.of rfl (hts _ w_624), va_Nw.of rfl (hts _ w_389), va_Nw.of rfl (hts _ w_86), va_Nw.of rfl (hts _ w_113), va_Nw.of rfl (hts _ w_262), va_Nw.of rfl (hts _ w_278), va_Nw.of rfl (hts _ w_303)⟩
  obtain ⟨G, hG1, hG2⟩ : ∃ G : wG, G.1 = (dC, dI) ∧ G.2.1 = tA := ⟨((dC, dI), tA, fun _ _ => 0), rfl, rfl⟩
  have hK : wK G s := by
    unfold wK
    unfold wtys
    rw [hG1, hG2]
    exact ⟨⟨hKc, hKt⟩, hN⟩
  have C1 : cx p s m #[Value.ref b] meth c "RamStationLaw" code 4 G := ⟨hx, hb, hml, hown, hT, hK, hlocks⟩
  have hA : ∀ q : Nat, s.heap.size ≤ q → lA s q := fun _ h => h
  have hS : va_S (lA s) s.heap s.heap [] := va_S.rf
  have hP : va_P G.1 wcls ([] : va_W) s.heap := fun k q h => by simp at h
  have hD : va_D (lA s) ([] : va_W) := ⟨fun i j p q h => by simp at h, fun k q h => by simp at h⟩
  have hl := lv_entry ([.ref b]) (n := 4) (Nat.le_of_ble_eq_true rfl)
  rw [lg_entry_eq]
  generalize (lg_sl ([.ref b]) ++ List.replicate (4 - (lg_sl ([.ref b])).length) Slot.unset).toArray = ls at hl ⊢
  have hl : lv_has ls 4 [(0, .ref b)] := hl
  refine i_new (ci := 8) (fs := [.null, .null, .int 0, .int 0, .int 0, .int 0, .null, .null, .null, .null, .null]) C1 hP hD hS hA rfl in_X8 tyX8_ok w_63 w_64 w_51 (fun j hj => match j, hj with | 0, _ => rfl | 1, _ => rfl | 2, _ => rfl | 3, _ => rfl | 4, _ => rfl | 5, _ => rfl | 6, _ => rfl | 7, _ => rfl | 8, _ => rfl | 9, _ => rfl | 10, _ => rfl | j + 11, h => absurd h (by omega)) (Nat.le_of_ble_eq_true rfl) (Nat.le_of_ble_eq_true rfl) dL_0 (fun q1 H hP hD hS => ?_)
  refine lv_dup hx hb dL_3 rfl ?_
  refine i_call hP hD hS hA (i_runI (As := []) (rest := [.ref q1]) C1 hO hP (c_X8_init l G q1 _) ⟨⟨w_65, w_51, w_67⟩, pi_X8_init, ⟨(Nat.le_of_ble_eq_true rfl), (Nat.le_of_ble_eq_true rfl)⟩, ⟨(Nat.le_of_ble_eq_true rfl), (Nat.le_of_ble_eq_true rfl)⟩, rfl, w_66⟩ rfl hl.1 rfl (Nat.le_of_ble_eq_true rfl) dL_4) (fun a H locs ha hP hD hS => ?_)
  rw [← ha]
  refine W.widen (k := 290) (n := 5263) (Nat.le_of_ble_eq_true rfl) (Nat.le_of_ble_eq_true rfl) ?_
  refine lv_astore_n (lv' := [(1, .ref (a 0 0 0)), (0, .ref b)]) hx hb dL_7 rfl hl (by decide) rfl (fun ls hl => ?_)
  refine i_new (ci := 9) (fs := [.null, .null, .int 0, .null, .null, .null, .int 0, .int 0, .int 0, .int 0, .null, .int 0, .int 0, .int 0, .int 0, .int 0, .int 0, .int 0, .null]) C1 hP hD hS hA rfl in_X9 tyX9_ok w_756 w_757 w_61 (fun j hj => match j, hj with | 0, _ => rfl | 1, _ => rfl | 2, _ => rfl | 3, _ => rfl | 4, _ => rfl | 5, _ => rfl | 6, _ => rfl | 7, _ => rfl | 8, _ => rfl | 9, _ => rfl | 10, _ => rfl | 11, _ => rfl | 12, _ => rfl | 13, _ => rfl | 14, _ => rfl | 15, _ => rfl | 16, _ => rfl | 17, _ => rfl | 18, _ => rfl | j + 19, h => absurd h (by omega)) (Nat.le_of_ble_eq_true rfl) (Nat.le_of_ble_eq_true rfl) dL_8 (fun q2 H hP hD hS => ?_)
  refine lv_dup hx hb dL_11 rfl ?_
  refine i_call hP hD hS hA (i_runI (As := []) (rest := [.ref q2]) C1 hO hP (c_X9_init l G q2 _) ⟨⟨w_758, w_61, w_760⟩, pi_X9_init, ⟨(Nat.le_of_ble_eq_true rfl), (Nat.le_of_ble_eq_true rfl)⟩, ⟨(Nat.le_of_ble_eq_true rfl), (Nat.le_of_ble_eq_true rfl)⟩, rfl, w_759⟩ rfl hl.1 rfl (Nat.le_of_ble_eq_true rfl) dL_12) (fun b2 H locs hb2 hP hD hS => ?_)
  rw [← hb2]
  refine W.widen (k := 298) (n := 16128) (Nat.le_of_ble_eq_true rfl) (Nat.le_of_ble_eq_true rfl) ?_
  refine lv_astore_n (lv' := [(2, .ref (b2 0 0 0)), (1, .ref (a 0 0 0)), (0, .ref b)]) hx hb dL_15 rfl hl (by decide) rfl (fun ls hl => ?_)
  refine lv_iconst (v := 0) hx hb dL_16 (by decide) ?_
  refine lv_istore_n (lv' := [(3, .int 0), (2, .ref (b2 0 0 0)), (1, .ref (a 0 0 0)), (0, .ref b)]) hx hb dL_17 rfl hl (by decide) rfl (fun ls hl => ?_)
  have hW : wd (bgG G a b2) (lA s) hvB H := bg_wd hP hD
  have e8 : ad (bgG G a b2) 8 0 = a 0 0 0 := rfl
  have e9 : ad (bgG G a b2) 9 0 = b2 0 0 0 := rfl
  refine law_loop l hL hr hX hbl hO 512 0 0 (bgG G a b2) hvB H locs ls rfl (by omega) (Nat.zero_le _) (cx_cg rfl rfl C1) hW hS Rel_0 ?_
  rw [e8, e9]
  exact lv_sub hl [3, 2, 1, 0] rfl
