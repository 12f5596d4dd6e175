/-! The law from its entry. -/
theorem arr_K {s : State} {ty : FieldType} {args : Array Value} (hne : ∀ C, ¬ ty = .object C) (h : (Cond.arrayClass ty).before args s = true) : ∃ cA : ClassId, ArrOfT s cA ty ∧ va_RA s cA ty := by
  obtain ⟨c, k, comp, h1, h2, h3⟩ := Cond.arrayClass_spec h
  refine ⟨c, fun n z => ⟨fun k h => (by cases h), k, h2, comp, h3⟩, ?_⟩
  cases ty with
  | object C => exact absurd rfl (hne C)
  | _ => exact h1
theorem arr_O {s : State} {C : String} {args : Array Value} (h : (Cond.arrayOver (.object C)).before args s = true) : ∃ cA : ClassId, ArrOfT s cA (.object C) ∧ va_RA s cA (.object C) := by
  obtain ⟨comp, c, k, h1, _, h3, h4, h5⟩ := Cond.arrayOver_spec h
  exact ⟨c, fun n z => ⟨fun k h => (by cases h), k, h3, comp, h4⟩, k, comp, h3, h4, h1, h5⟩
theorem IN_0 {hv : HV} {X : Nat → Int32} (e : hv = up hvB 9 0 X) (hX : ∀ k, X k = if k = 1 then 5000 else if k = 0 then 100 else 0) : IN (8000 * 0) (70 * 0) hv := by
  have hI : IV moN K00 := by
    refine ⟨⟨⟨by decide, rfl⟩, fun p hp => absurd hp (Nat.not_lt_zero p), ?_, ?_, ?_⟩, ⟨by show 0 ≤ 8; omega, fun j hj => absurd hj (Nat.not_lt_zero j)⟩, ⟨by show 0 ≤ 40; omega, fun j hj => absurd hj (Nat.not_lt_zero j)⟩⟩
    · exact ⟨by decide, by decide⟩
    · exact ⟨by decide, by decide⟩
    · exact ⟨by decide, by decide⟩
  have hC : CR hvB 0 moN K00 := ⟨⟨⟨rfl, rfl, rfl, rfl, rfl⟩, fun p hp => absurd hp (Nat.not_lt_zero p)⟩, ⟨rfl, RR_0 _ _, RR_0 _ _, RR_0 _ _⟩, ⟨0, by omega, rfl, rfl, fun j hj => absurd hj (Nat.not_lt_zero j)⟩, ⟨rfl, fun j hj => absurd hj (Nat.not_lt_zero j)⟩, rfl, rfl⟩
  have e9 : hv 9 0 = X := by rw [e, up_s]
  refine ⟨moN, K00, by rw [e]; exact CR_fr hI (rfr_9 _) hC, hI, ⟨?_, ?_, fun q hq => absurd hq (Nat.not_lt_zero q), fun q h1 h2 => ?_⟩, fun j hj => absurd hj (Nat.not_lt_zero j), Nat.le_refl _, ?_⟩
  · rw [e9, hX 0, if_neg (by decide), if_pos rfl]; rfl
  · rw [e9, hX 1, if_pos rfl]; rfl
  · rw [e9, hX (2 + q), if_neg (by omega), if_neg (by omega)]
  · show (moN 2).toInt ≤ 0
    decide
set_option maxHeartbeats 4000000 in
set_option maxRecDepth 100000 in
/-- the law from its entry -/
theorem whole_start {p : Program} {e : Env} {s : State} {m : MethodId} {below : List Frame} {meth : Method} {c : Code} (l : Launch) (hflags : l.flags = flags0) {b L : Nat} {xs : Nat → Int32} (hL : L ≤ 260) (C0 : lw_At p s m meth c b L xs) : W p l e room_1 s m #[Value.ref b] below meth c s.heap [] 0 0 (lw_Z below #[Value.ref b] s) (entryFrame m ([Value.ref b] : List Value).toArray 8) := by
  obtain ⟨hx, hb, hr, hml, hown, hts, hX, hbl, hlocks, hgv⟩ := C0
  have hT : ∀ w ∈ TB, w.before #[Value.ref b] s = true := fun w h => hts w (List.mem_filter.mp h).1
  have hO : iAO s := ⟨va_AO.of (hts _ w_32), va_AO.of (hts _ w_211)⟩
  obtain ⟨c0, j0, k0⟩ := u_known (C := RX0) (T := TX0) (N := 5) (n := 5) hT in_X0 (hT _ w_39)
  obtain ⟨c1, j1, k1⟩ := u_known (C := RX1) (T := TX1) (N := 2) (n := 2) hT in_X1 (hT _ w_213)
  obtain ⟨c2, j2, k2⟩ := u_known (C := RX2) (T := TX2) (N := 6) (n := 6) hT in_X2 (hT _ w_65)
  obtain ⟨c3, j3, k3⟩ := u_known (C := RX3) (T := TX3) (N := 4) (n := 4) hT in_X3 (hT _ w_226)
  obtain ⟨c4, j4, k4⟩ := u_known (C := RX4) (T := TX4) (N := 17) (n := 17) hT in_X4 (hT _ w_33)
  obtain ⟨c5, j5, k5⟩ := u_known (C := RX5) (T := TX5) (N := 5) (n := 5) hT in_X5 (hT _ w_251)
  obtain ⟨c6, j6, k6⟩ := u_known (C := RX6) (T := TX6) (N := 3) (n := 3) hT in_X6 (hT _ w_102)
  obtain ⟨c7, j7, k7⟩ := u_known (C := RX7) (T := TX7) (N := 6) (n := 6) hT in_X7 (hT _ w_26)
  obtain ⟨c8, j8, k8⟩ := u_known (C := RX8) (T := TX8) (N := 11) (n := 11) hT in_X8 (hT _ w_18)
  obtain ⟨t0, u0⟩ := arr_K (ty := .int) (fun C z => by cases z) (hT _ w_120)
  obtain ⟨t1, u1⟩ := arr_K (ty := .char) (fun C z => by cases z) (hT _ w_224)
  obtain ⟨t2, u2⟩ := arr_K (ty := .long) (fun C z => by cases z) (hT _ w_318)
  obtain ⟨t3, u3⟩ := arr_O (hts _ w_32)
  obtain ⟨t4, u4⟩ := arr_O (hts _ w_211)
  obtain ⟨dC, dI, hKc⟩ : ∃ (dC : Nat → ClassId) (dI : Nat → Nat → Nat), ∀ (k : Nat) (q : vw_C), wcls[k]? = some q → u_Kn s q.1 q.2.1 q.2.2 (dC k) (dI k) := by
    refine ⟨fun k => match k with | 0 => c0 | 1 => c1 | 2 => c2 | 3 => c3 | 4 => c4 | 5 => c5 | 6 => c6 | 7 => c7 | _ => c8, fun k => match k with | 0 => j0 | 1 => j1 | 2 => j2 | 3 => j3 | 4 => j4 | 5 => j5 | 6 => j6 | 7 => j7 | _ => j8, ?_⟩
    intro k q hq
    match k, hq with
    | 0, hq => cases hq; exact k0
    | 1, hq => cases hq; exact k1
    | 2, hq => cases hq; exact k2
    | 3, hq => cases hq; exact k3
    | 4, hq => cases hq; exact k4
    | 5, hq => cases hq; exact k5
    | 6, hq => cases hq; exact k6
    | 7, hq => cases hq; exact k7
    | 8, hq => cases hq; exact k8
    | k + 9, hq => simp [wcls] at hq
  obtain ⟨tA, hKt⟩ : ∃ tA : Nat → ClassId, ∀ (k : Nat) (q : ClassId × FieldType), ([(tA 0, .int), (tA 1, .char), (tA 2, .long), (tA 3, .object "RamStation$Pump"), (tA 4, .object "RamStation$State")] : List (ClassId × FieldType))[k]? = some q → ArrOfT s q.1 q.2 ∧ va_RA s q.1 q.2 := by
    refine ⟨fun k => match k with | 0 => t0 | 1 => t1 | 2 => t2 | 3 => t3 | _ => t4, ?_⟩
    intro k q hq
    match k, hq with
    | 0, hq => cases hq; exact u0
    | 1, hq => cases hq; exact u1
    | 2, hq => cases hq; exact u2
    | 3, hq => cases hq; exact u3
    | 4, hq => cases hq; exact u4
    | k + 5, hq => simp at hq
  have hN : wN s := ⟨va_Nw.of rfl (hts _ w_335), va_Nw.of rfl (hts _ w_354), va_Nw.of rfl (hts _ w_40), va_Nw.of rfl (hts _ w_66), va_Nw.of rfl (hts _ w_214), va_Nw.of rfl (hts _ w_227), va_Nw.of rfl (hts _ w_252)⟩
  obtain ⟨G, hG1, hG2⟩ : ∃ G : wG, G.1 = (dC, dI) ∧ G.2.1 = tA := ⟨((dC, dI), tA, fun _ _ => 0), rfl, rfl⟩
  have hK : wK G s := by
    unfold wK
    unfold wtys
    rw [hG1, hG2]
    exact ⟨⟨hKc, hKt⟩, hN⟩
  have C1 : cx p s m #[Value.ref b] meth c "RamStationLaw" code 8 G := ⟨hx, hb, hml, hown, hT, hK, hlocks⟩
  have hA : ∀ q : Nat, s.heap.size ≤ q → lA s q := fun _ h => h
  have hS : va_S (lA s) s.heap s.heap [] := va_S.rf
  have hP : va_P G.1 wcls ([] : va_W) s.heap := fun k q h => by simp at h
  have hD : va_D (lA s) ([] : va_W) := ⟨fun i j p q h => by simp at h, fun k q h => by simp at h⟩
  have hl := lv_entry ([.ref b]) (n := 8) (Nat.le_of_ble_eq_true rfl)
  rw [lg_entry_eq]
  generalize (lg_sl ([.ref b]) ++ List.replicate (8 - (lg_sl ([.ref b])).length) Slot.unset).toArray = ls at hl ⊢
  have hl : lv_has ls 8 [(0, .ref b)] := hl
  refine i_new (ci := 8) (fs := [.null, .null, .int 0, .int 0, .int 0, .int 0, .null, .null, .null, .null, .null]) C1 hP hD hS hA rfl in_X8 tyX8_ok w_17 w_18 w_6 (fun j hj => match j, hj with | 0, _ => rfl | 1, _ => rfl | 2, _ => rfl | 3, _ => rfl | 4, _ => rfl | 5, _ => rfl | 6, _ => rfl | 7, _ => rfl | 8, _ => rfl | 9, _ => rfl | 10, _ => rfl | j + 11, h => absurd h (by omega)) (Nat.le_of_ble_eq_true rfl) (Nat.le_of_ble_eq_true rfl) dL_0 (fun q1 H hP hD hS => ?_)
  refine lv_dup hx hb dL_3 rfl ?_
  refine i_call hP hD hS hA (i_runI (As := []) (rest := [.ref q1]) C1 hO hP (c_X8_init l G q1 _) ⟨⟨w_19, w_6, w_21⟩, pi_X8_init, ⟨(Nat.le_of_ble_eq_true rfl), (Nat.le_of_ble_eq_true rfl)⟩, ⟨(Nat.le_of_ble_eq_true rfl), (Nat.le_of_ble_eq_true rfl)⟩, rfl, w_20⟩ rfl hl.1 rfl (Nat.le_of_ble_eq_true rfl) dL_4) (fun a H locs ha hP hD hS => ?_)
  rw [← ha]
  refine W.widen (k := 290) (n := 5263) (Nat.le_of_ble_eq_true rfl) (Nat.le_of_ble_eq_true rfl) ?_
  refine lv_astore_n (lv' := [(1, .ref (a 0 0 0)), (0, .ref b)]) hx hb dL_7 rfl hl (by decide) rfl (fun ls hl => ?_)
  refine lv_bipush (v := 6) hx hb dL_8 (by decide) ?_
  refine i_newa (atype := .int) (x := (6, .inl (fun _ => 0))) C1 hP hD hS hA rfl w_120 0 rfl (fun _ => rfl) (by decide) (by decide +kernel) (Nat.le_of_ble_eq_true rfl) (Nat.le_of_ble_eq_true rfl) (Nat.le_of_ble_eq_true rfl) dL_10 (fun q2 H hP hD hS => ?_)
  refine W.widen (k := 291) (n := 5269) (Nat.le_of_ble_eq_true rfl) (Nat.le_of_ble_eq_true rfl) ?_
  refine lv_astore_n (lv' := [(2, .ref q2), (1, .ref (a 0 0 0)), (0, .ref b)]) hx hb dL_12 rfl hl (by decide) rfl (fun ls hl => ?_)
  have hW : wd (bgG G a (fun _ _ _ => q2)) (lA s) hvB H := bg_wd (b := fun _ _ _ => q2) hP hD
  have hl : lv_has ls 8 [(2, .ref (ad (bgG G a (fun _ _ _ => q2)) 9 0)), (1, .ref (ad (bgG G a (fun _ _ _ => q2)) 8 0)), (0, .ref b)] := hl
  have C2 : cx p s m #[Value.ref b] meth c "RamStationLaw" code 8 (bgG G a (fun _ _ _ => q2)) := cx_cg rfl rfl C1
  generalize bgG G a (fun _ _ _ => q2) = G2 at hW hl C2
  refine lv_aload_n hx hb dL_13 rfl (lv_at hl 0 rfl) ?_
  refine lv_iconst (v := 0) hx hb dL_14 (by decide) ?_
  refine lv_bipush (v := 100) hx hb dL_15 (by decide) ?_
  refine w_iastN C2 hW hS 9 0 (by decide) (by decide) (n := 6) (fun _ => rfl) (j := 0) rfl (by omega) (by omega) dL_17 (fun hv1 e1 H locs hW hS => ?_)
  refine lv_aload_n hx hb dL_18 rfl (lv_at hl 0 rfl) ?_
  refine lv_iconst (v := 1) hx hb dL_19 (by decide) ?_
  refine lv_sipush (v := 5000) hx hb dL_20 (by decide) ?_
  refine w_iastN C2 hW hS 9 0 (by decide) (by decide) (n := 6) (fun _ => rfl) (j := 1) rfl (by omega) (by omega) dL_23 (fun hv2 e2 H locs hW hS => ?_)
  refine lv_iconst (v := 0) hx hb dL_24 (by decide) ?_
  refine lv_istore_n (lv' := [(3, .int 0), (2, .ref (ad G2 9 0)), (1, .ref (ad G2 8 0)), (0, .ref b)]) hx hb dL_25 rfl hl (by decide) rfl (fun ls hl => ?_)
  have e3 : hv2 = up hvB 9 0 (upd (upd (hvB 9 0) 0 100) 1 5000) := by rw [e2, e1, up_s, up_up]
  exact law_turns l hL hr hX hbl hO 24 0 G2 hv2 H locs ls rfl C2 hW hS (IN_0 e3 (fun k => by rw [upd_r, upd_r]; rfl)) (lv_sub hl [3, 2, 1, 0] rfl)
