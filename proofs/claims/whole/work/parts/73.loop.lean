/-! The law: its loop. -/
theorem Rel_up {B : Nat} {hv : HV} (h : Rel B hv) : Rel (B + 64000) hv := by
  obtain ⟨v, K, h1, h2, h3, h4⟩ := h
  exact ⟨v, K, h1, h2, h3, by omega⟩
set_option maxHeartbeats 8000000 in
set_option maxRecDepth 100000 in
theorem law_loop {p : Program} {e : Env} {s : State} {m : MethodId} {below : List Frame} {meth : Method} {c : Code} (l : Launch) {b L : Nat} {xs : Nat → Int32} (hL : L ≤ 3072) (hr : meth.sig.returnType = ret) (hX : va_X b L xs s s.heap) (hbl : b < s.heap.size) (hO : iAO s) : ∀ (M n i : Nat) (G : wG) (hv : HV) (H : Heap) (locs : List Loc) (ls : Array Slot), i = 6 * n → L ≤ i + 6 * M + 5 → i ≤ L →
    cx p s m #[Value.ref b] meth c "RamStationLaw" code 4 G → wd G (lA s) hv H → va_S (lA s) s.heap H locs → Rel (64000 * n) hv → lv_has ls 4 [(0, .ref b), (1, .ref (ad G 8 0)), (2, .ref (ad G 9 0)), (3, .int (nI i))] → W p l e room_1 s m #[Value.ref b] below meth c H locs (298 + 7 * n) (16128 + 82 * n) (lw_Z below #[Value.ref b] s) (F0 m 18 ls [])
  | M, n, i, G, hv, H, locs, ls, hin, hM, hiL, C0, hW, hS, hRel, hl => by
    have hx := C0.1
    have hb := C0.2.1
    have hbA : ¬ lA s b := Nat.not_le.mpr hbl
    have hn : n ≤ 512 := by omega
    refine lv_iload_n hx hb dL_18 rfl (lv_at hl 3 rfl) ?_
    refine lv_aload_n hx hb dL_19 rfl (lv_at hl 0 rfl) ?_
    refine va_slen hx hb hX hbl hbA hS dL_20 ?_
    refine lv_bipush (v := 6) hx hb dL_21 (by decide) ?_
    refine lv_isub hx hb dL_23 ?_
    have e6 : (6 : Int32).toInt = 6 := rfl
    have eL := nI_toInt (n := L) (by omega)
    have ei := nI_toInt (n := i) (by omega)
    have es : (nI L - 6).toInt = (L : Int) - 6 := by rw [i_sub (by rw [eL, e6]; omega) (by rw [eL, e6]; omega), eL, e6]
    refine lv_icmp_gt (tgt := 1315) hx hb dL_24 (by decide) (fun _ => ?_) (fun hc => ?_)
    · refine va_forget (fun q hq => hS.2.2 q hq) ?_
      refine W.widen (k := 600000) (n := 7302250) (by omega) (by omega) ?_
      refine lv_iconst (v := 1) hx hb dL_1315 (by decide) ?_
      exact lw_ret hx hb hr C0.2.2.2.2.2.2 dL_1316
    · have hi6 : i + 6 ≤ L := by
        have hc2 : ¬ (nI L - 6 < nI i) := hc
        rw [i_lt, es, ei] at hc2
        omega
      obtain ⟨M2, rfl⟩ : ∃ M2, M = M2 + 1 := ⟨M - 1, by omega⟩
      have hB : 64000 * n + 65000 < 2 ^ 31 := by omega
      have eB : 64000 * n + 64000 = 64000 * (n + 1) := by omega
      have next : ∀ (G' : wG) (hv' : HV) (H1 : Heap) (locs1 : List Loc), G'.1 = G.1 → G'.2.1 = G.2.1 → ad G' 8 0 = ad G 8 0 → ad G' 9 0 = ad G 9 0 → Rel (64000 * n + 64000) hv' → wd G' (lA s) hv' H1 → va_S (lA s) s.heap H1 locs1 → W p l e room_1 s m #[Value.ref b] below meth c H1 locs1 (298 + 7 * n + 7) (16128 + 82 * n + 82) (lw_Z below #[Value.ref b] s) (F0 m 1309 ls []) := by
        intro G' hv' H1 locs1 g1 g2 g8 g9 r w1 s1
        refine lv_iinc (v := nI (i + 6)) (lv' := [(3, .int (nI (i + 6))), (0, .ref b), (1, .ref (ad G 8 0)), (2, .ref (ad G 9 0))]) hx hb dL_1309 hl (k := 3) rfl (nI_add i 6) (by decide) rfl (fun ls hl => ?_)
        refine lv_goto (tgt := 18) hx hb dL_1312 (by decide) ?_
        refine W.widen (k := 298 + 7 * (n + 1)) (n := 16128 + 82 * (n + 1)) (by omega) (by omega) ?_
        rw [eB] at r
        refine law_loop l hL hr hX hbl hO M2 (n + 1) (i + 6) G' hv' H1 locs1 ls (by omega) (by omega) (by omega) (cx_cg g1 g2 C0) w1 s1 r ?_
        rw [g8, g9]
        exact lv_sub hl [1, 2, 3, 0] rfl
      have same : ∀ (hv' : HV) (H1 : Heap) (locs1 : List Loc), Rel (64000 * n + 64000) hv' → wd G (lA s) hv' H1 → va_S (lA s) s.heap H1 locs1 → W p l e room_1 s m #[Value.ref b] below meth c H1 locs1 (298 + 7 * n) (16128 + 82 * n) (lw_Z below #[Value.ref b] s) (F0 m 1309 ls []) := by
        intro hv' H1 locs1 r w1 s1
        refine W.widen (k := 298 + 7 * n + 7) (n := 16128 + 82 * n + 82) (by omega) (by omega) ?_
        exact next G hv' H1 locs1 rfl rfl rfl rfl r w1 s1
      have hcs : 298 + 7 * n + 7 ≤ room_1.cells ∧ 16128 + 82 * n + 82 ≤ room_1.slots := ⟨show 298 + 7 * n + 7 ≤ 600000 by omega, show 16128 + 82 * n + 82 ≤ 7302250 by omega⟩
      have hcs0 : 298 + 7 * n ≤ room_1.cells ∧ 16128 + 82 * n ≤ room_1.slots := ⟨show 298 + 7 * n ≤ 600000 by omega, show 16128 + 82 * n ≤ 7302250 by omega⟩
      refine lv_aload_n hx hb dL_27 rfl (lv_at hl 0 rfl) ?_
      refine lv_iload_n hx hb dL_28 rfl (lv_at hl 3 rfl) ?_
      refine va_sld hx hb hX hbl hbA hS (vp_in_nI (by omega) (by omega)) dL_29 ?_
      refine lv_bipush (v := 63) hx hb dL_30 (by decide) ?_
      refine lv_iand hx hb dL_32 ?_
      refine lv_topi (fun x _ => ?_)
      by_cases hx1 : x.toInt < 0 ∨ 44 < x.toInt
      · refine lv_tableOut (tgt := 1309) hx hb dL_33 hx1 (by decide) ?_
        exact same hv H locs (Rel_up hRel) hW hS
      · have h45 : x.toInt = 0 ∨ x.toInt = 1 ∨ x.toInt = 2 ∨ x.toInt = 3 ∨ x.toInt = 4 ∨ x.toInt = 5 ∨ x.toInt = 6 ∨ x.toInt = 7 ∨ x.toInt = 8 ∨ x.toInt = 9 ∨ x.toInt = 10 ∨ x.toInt = 11 ∨ x.toInt = 12 ∨ x.toInt = 13 ∨ x.toInt = 14 ∨ x.toInt = 15 ∨ x.toInt = 16 ∨ x.toInt = 17 ∨ x.toInt = 18 ∨ x.toInt = 19 ∨ x.toInt = 20 ∨ x.toInt = 21 ∨ x.toInt = 22 ∨ x.toInt = 23 ∨ x.toInt = 24 ∨ x.toInt = 25 ∨ x.toInt = 26 ∨ x.toInt = 27 ∨ x.toInt = 28 ∨ x.toInt = 29 ∨ x.toInt = 30 ∨ x.toInt = 31 ∨ x.toInt = 32 ∨ x.toInt = 33 ∨ x.toInt = 34 ∨ x.toInt = 35 ∨ x.toInt = 36 ∨ x.toInt = 37 ∨ x.toInt = 38 ∨ x.toInt = 39 ∨ x.toInt = 40 ∨ x.toInt = 41 ∨ x.toInt = 42 ∨ x.toInt = 43 ∨ x.toInt = 44 := by omega
        rcases h45 with e | e | e | e | e | e | e | e | e | e | e | e | e | e | e | e | e | e | e | e | e | e | e | e | e | e | e | e | e | e | e | e | e | e | e | e | e | e | e | e | e | e | e | e | e
        · refine lv_tableIn (off := 195) (tgt := 228) hx hb dL_33 (by omega) (by omega) (by rw [e]; rfl) (by decide) ?_
          exact law_addPump C0 hX hbl hi6 hL hB hRel hW hS hl hcs hO (fun G' hv' H1 locs1 g1 g2 g8 g9 r w1 s1 => next G' hv' H1 locs1 g1 g2 g8 g9 r w1 s1)
        · refine lv_tableIn (off := 258) (tgt := 291) hx hb dL_33 (by omega) (by omega) (by rw [e]; rfl) (by decide) ?_
          exact law_setValve C0 hX hbl hi6 hL hB hRel hW hS hl hcs0 (fun hv' H1 locs1 r w1 s1 => same hv' H1 locs1 r w1 s1)
        · refine lv_tableIn (off := 301) (tgt := 334) hx hb dL_33 (by omega) (by omega) (by rw [e]; rfl) (by decide) ?_
          exact law_setChamber C0 hX hbl hi6 hL hB hRel hW hS hl hcs0 (fun hv' H1 locs1 r w1 s1 => same hv' H1 locs1 r w1 s1)
        · refine lv_tableIn (off := 360) (tgt := 393) hx hb dL_33 (by omega) (by omega) (by rw [e]; rfl) (by decide) ?_
          exact law_setInflow C0 hX hbl hi6 hL hB hRel hW hS hl hcs0 (fun hv' H1 locs1 r w1 s1 => same hv' H1 locs1 r w1 s1)
        · refine lv_tableIn (off := 383) (tgt := 416) hx hb dL_33 (by omega) (by omega) (by rw [e]; rfl) (by decide) ?_
          exact law_start C0 hX hbl hi6 hL hB hRel hW hS hl hcs0 (fun hv' H1 locs1 r w1 s1 => same hv' H1 locs1 r w1 s1)
        · refine lv_tableIn (off := 406) (tgt := 439) hx hb dL_33 (by omega) (by omega) (by rw [e]; rfl) (by decide) ?_
          exact law_stop C0 hX hbl hi6 hL hB hRel hW hS hl hcs0 (fun hv' H1 locs1 r w1 s1 => same hv' H1 locs1 r w1 s1)
        · refine lv_tableIn (off := 429) (tgt := 462) hx hb dL_33 (by omega) (by omega) (by rw [e]; rfl) (by decide) ?_
          exact law_emptyTank C0 hX hbl hi6 hL hB hRel hW hS hl hcs0 (fun hv' H1 locs1 r w1 s1 => same hv' H1 locs1 r w1 s1)
        · refine lv_tableIn (off := 452) (tgt := 485) hx hb dL_33 (by omega) (by omega) (by rw [e]; rfl) (by decide) ?_
          exact law_pass C0 hX hbl hi6 hL hB hRel hW hS hl hcs0 (fun hv' H1 locs1 r w1 s1 => same hv' H1 locs1 r w1 s1)
        · refine lv_tableIn (off := 475) (tgt := 508) hx hb dL_33 (by omega) (by omega) (by rw [e]; rfl) (by decide) ?_
          exact law_undo C0 hX hbl hi6 hL hB hRel hW hS hl hcs0 (fun hv' H1 locs1 r w1 s1 => same hv' H1 locs1 r w1 s1)
        · refine lv_tableIn (off := 488) (tgt := 521) hx hb dL_33 (by omega) (by omega) (by rw [e]; rfl) (by decide) ?_
          exact law_type C0 hX hbl hi6 hL hB hRel hW hS hl hcs0 (fun hv' H1 locs1 r w1 s1 => same hv' H1 locs1 r w1 s1)
        · refine lv_tableIn (off := 511) (tgt := 544) hx hb dL_33 (by omega) (by omega) (by rw [e]; rfl) (by decide) ?_
          exact law_clearText C0 hX hbl hi6 hL hB hRel hW hS hl hcs0 (fun hv' H1 locs1 r w1 s1 => same hv' H1 locs1 r w1 s1)
        · refine lv_tableIn (off := 524) (tgt := 557) hx hb dL_33 (by omega) (by omega) (by rw [e]; rfl) (by decide) ?_
          exact law_syntaxError C0 hX hbl hi6 hL hB hRel hW hS hl hcs0 (fun hv' H1 locs1 r w1 s1 => same hv' H1 locs1 r w1 s1)
        · refine lv_tableIn (off := 537) (tgt := 570) hx hb dL_33 (by omega) (by omega) (by rw [e]; rfl) (by decide) ?_
          exact law_execute C0 hX hbl hi6 hL hB hRel hW hS hl hcs0 (fun hv' H1 locs1 r w1 s1 => same hv' H1 locs1 r w1 s1)
        · refine lv_tableIn (off := 550) (tgt := 583) hx hb dL_33 (by omega) (by omega) (by rw [e]; rfl) (by decide) ?_
          exact law_failure C0 hX hbl hi6 hL hB hRel hW hS hl hcs0 (fun hv' H1 locs1 r w1 s1 => same hv' H1 locs1 r w1 s1)
        · refine lv_tableIn (off := 563) (tgt := 596) hx hb dL_33 (by omega) (by omega) (by rw [e]; rfl) (by decide) ?_
          exact law_time C0 hX hbl hi6 hL hB hRel hW hS hl hcs0 (fun hv' H1 locs1 r w1 s1 => same hv' H1 locs1 r w1 s1)
        · refine lv_tableIn (off := 576) (tgt := 609) hx hb dL_33 (by omega) (by omega) (by rw [e]; rfl) (by decide) ?_
          exact law_basin C0 hX hbl hi6 hL hB hRel hW hS hl hcs0 (fun hv' H1 locs1 r w1 s1 => same hv' H1 locs1 r w1 s1)
        · refine lv_tableIn (off := 589) (tgt := 622) hx hb dL_33 (by omega) (by omega) (by rw [e]; rfl) (by decide) ?_
          exact law_spilled C0 hX hbl hi6 hL hB hRel hW hS hl hcs0 (fun hv' H1 locs1 r w1 s1 => same hv' H1 locs1 r w1 s1)
        · refine lv_tableIn (off := 602) (tgt := 635) hx hb dL_33 (by omega) (by omega) (by rw [e]; rfl) (by decide) ?_
          exact law_pumps C0 hX hbl hi6 hL hB hRel hW hS hl hcs0 (fun hv' H1 locs1 r w1 s1 => same hv' H1 locs1 r w1 s1)
        · refine lv_tableIn (off := 615) (tgt := 648) hx hb dL_33 (by omega) (by omega) (by rw [e]; rfl) (by decide) ?_
          exact law_incidents C0 hX hbl hi6 hL hB hRel hW hS hl hcs0 (fun hv' H1 locs1 r w1 s1 => same hv' H1 locs1 r w1 s1)
        · refine lv_tableIn (off := 628) (tgt := 661) hx hb dL_33 (by omega) (by omega) (by rw [e]; rfl) (by decide) ?_
          exact law_incidentKind C0 hX hbl hi6 hL hB hRel hW hS hl hcs0 (fun hv' H1 locs1 r w1 s1 => same hv' H1 locs1 r w1 s1)
        · refine lv_tableIn (off := 651) (tgt := 684) hx hb dL_33 (by omega) (by omega) (by rw [e]; rfl) (by decide) ?_
          exact law_incidentPump C0 hX hbl hi6 hL hB hRel hW hS hl hcs0 (fun hv' H1 locs1 r w1 s1 => same hv' H1 locs1 r w1 s1)
        · refine lv_tableIn (off := 674) (tgt := 707) hx hb dL_33 (by omega) (by omega) (by rw [e]; rfl) (by decide) ?_
          exact law_incidentTime C0 hX hbl hi6 hL hB hRel hW hS hl hcs0 (fun hv' H1 locs1 r w1 s1 => same hv' H1 locs1 r w1 s1)
        · refine lv_tableIn (off := 697) (tgt := 730) hx hb dL_33 (by omega) (by omega) (by rw [e]; rfl) (by decide) ?_
          exact law_phase C0 hX hbl hi6 hL hB hRel hW hS hl hcs0 (fun hv' H1 locs1 r w1 s1 => same hv' H1 locs1 r w1 s1)
        · refine lv_tableIn (off := 720) (tgt := 753) hx hb dL_33 (by omega) (by omega) (by rw [e]; rfl) (by decide) ?_
          exact law_speed C0 hX hbl hi6 hL hB hRel hW hS hl hcs0 (fun hv' H1 locs1 r w1 s1 => same hv' H1 locs1 r w1 s1)
        · refine lv_tableIn (off := 743) (tgt := 776) hx hb dL_33 (by omega) (by omega) (by rw [e]; rfl) (by decide) ?_
          exact law_openTicks C0 hX hbl hi6 hL hB hRel hW hS hl hcs0 (fun hv' H1 locs1 r w1 s1 => same hv' H1 locs1 r w1 s1)
        · refine lv_tableIn (off := 766) (tgt := 799) hx hb dL_33 (by omega) (by omega) (by rw [e]; rfl) (by decide) ?_
          exact law_chamberWater C0 hX hbl hi6 hL hB hRel hW hS hl hcs0 (fun hv' H1 locs1 r w1 s1 => same hv' H1 locs1 r w1 s1)
        · refine lv_tableIn (off := 789) (tgt := 822) hx hb dL_33 (by omega) (by omega) (by rw [e]; rfl) (by decide) ?_
          exact law_air C0 hX hbl hi6 hL hB hRel hW hS hl hcs0 (fun hv' H1 locs1 r w1 s1 => same hv' H1 locs1 r w1 s1)
        · refine lv_tableIn (off := 812) (tgt := 845) hx hb dL_33 (by omega) (by omega) (by rw [e]; rfl) (by decide) ?_
          exact law_chamberHead C0 hX hbl hi6 hL hB hRel hW hS hl hcs0 (fun hv' H1 locs1 r w1 s1 => same hv' H1 locs1 r w1 s1)
        · refine lv_tableIn (off := 835) (tgt := 868) hx hb dL_33 (by omega) (by omega) (by rw [e]; rfl) (by decide) ?_
          exact law_beats C0 hX hbl hi6 hL hB hRel hW hS hl hcs0 (fun hv' H1 locs1 r w1 s1 => same hv' H1 locs1 r w1 s1)
        · refine lv_tableIn (off := 858) (tgt := 891) hx hb dL_33 (by omega) (by omega) (by rw [e]; rfl) (by decide) ?_
          exact law_wasted C0 hX hbl hi6 hL hB hRel hW hS hl hcs0 (fun hv' H1 locs1 r w1 s1 => same hv' H1 locs1 r w1 s1)
        · refine lv_tableIn (off := 881) (tgt := 914) hx hb dL_33 (by omega) (by omega) (by rw [e]; rfl) (by decide) ?_
          exact law_relieved C0 hX hbl hi6 hL hB hRel hW hS hl hcs0 (fun hv' H1 locs1 r w1 s1 => same hv' H1 locs1 r w1 s1)
        · refine lv_tableIn (off := 904) (tgt := 937) hx hb dL_33 (by omega) (by omega) (by rw [e]; rfl) (by decide) ?_
          exact law_lifted C0 hX hbl hi6 hL hB hRel hW hS hl hcs0 (fun hv' H1 locs1 r w1 s1 => same hv' H1 locs1 r w1 s1)
        · refine lv_tableIn (off := 927) (tgt := 960) hx hb dL_33 (by omega) (by omega) (by rw [e]; rfl) (by decide) ?_
          exact law_overflowed C0 hX hbl hi6 hL hB hRel hW hS hl hcs0 (fun hv' H1 locs1 r w1 s1 => same hv' H1 locs1 r w1 s1)
        · refine lv_tableIn (off := 950) (tgt := 983) hx hb dL_33 (by omega) (by omega) (by rw [e]; rfl) (by decide) ?_
          exact law_starved C0 hX hbl hi6 hL hB hRel hW hS hl hcs0 (fun hv' H1 locs1 r w1 s1 => same hv' H1 locs1 r w1 s1)
        · refine lv_tableIn (off := 973) (tgt := 1006) hx hb dL_33 (by omega) (by omega) (by rw [e]; rfl) (by decide) ?_
          exact law_tank C0 hX hbl hi6 hL hB hRel hW hS hl hcs0 (fun hv' H1 locs1 r w1 s1 => same hv' H1 locs1 r w1 s1)
        · refine lv_tableIn (off := 996) (tgt := 1029) hx hb dL_33 (by omega) (by omega) (by rw [e]; rfl) (by decide) ?_
          exact law_interval C0 hX hbl hi6 hL hB hRel hW hS hl hcs0 (fun hv' H1 locs1 r w1 s1 => same hv' H1 locs1 r w1 s1)
        · refine lv_tableIn (off := 1029) (tgt := 1062) hx hb dL_33 (by omega) (by omega) (by rw [e]; rfl) (by decide) ?_
          exact law_trace C0 hX hbl hi6 hL hB hRel hW hS hl hcs0 (fun hv' H1 locs1 r w1 s1 => same hv' H1 locs1 r w1 s1)
        · refine lv_tableIn (off := 1062) (tgt := 1095) hx hb dL_33 (by omega) (by omega) (by rw [e]; rfl) (by decide) ?_
          exact law_efficiency C0 hX hbl hi6 hL hB hRel hW hS hl hcs0 (fun hv' H1 locs1 r w1 s1 => same hv' H1 locs1 r w1 s1)
        · refine lv_tableIn (off := 1085) (tgt := 1118) hx hb dL_33 (by omega) (by omega) (by rw [e]; rfl) (by decide) ?_
          exact law_bestPump C0 hX hbl hi6 hL hB hRel hW hS hl hcs0 (fun hv' H1 locs1 r w1 s1 => same hv' H1 locs1 r w1 s1)
        · refine lv_tableIn (off := 1098) (tgt := 1131) hx hb dL_33 (by omega) (by omega) (by rw [e]; rfl) (by decide) ?_
          exact law_ticksToSlam C0 hX hbl hi6 hL hB hRel hW hS hl hcs0 (fun hv' H1 locs1 r w1 s1 => same hv' H1 locs1 r w1 s1)
        · refine lv_tableIn (off := 1121) (tgt := 1154) hx hb dL_33 (by omega) (by omega) (by rw [e]; rfl) (by decide) ?_
          exact law_deliveredIn C0 hX hbl hi6 hL hB hRel hW hS hl hcs0 (fun hv' H1 locs1 r w1 s1 => same hv' H1 locs1 r w1 s1)
        · refine lv_tableIn (off := 1154) (tgt := 1187) hx hb dL_33 (by omega) (by omega) (by rw [e]; rfl) (by decide) ?_
          exact law_drawnIn C0 hX hbl hi6 hL hB hRel hW hS hl hcs0 (fun hv' H1 locs1 r w1 s1 => same hv' H1 locs1 r w1 s1)
        · refine lv_tableIn (off := 1187) (tgt := 1220) hx hb dL_33 (by omega) (by omega) (by rw [e]; rfl) (by decide) ?_
          exact law_period C0 hX hbl hi6 hL hB hRel hW hS hl hcs0 (fun hv' H1 locs1 r w1 s1 => same hv' H1 locs1 r w1 s1)
        · refine lv_tableIn (off := 1210) (tgt := 1243) hx hb dL_33 (by omega) (by omega) (by rw [e]; rfl) (by decide) ?_
          exact law_bestLength C0 hX hbl hi6 hL hB hRel hW hS hl hcs0 (fun hv' H1 locs1 r w1 s1 => same hv' H1 locs1 r w1 s1)
        · refine lv_tableIn (off := 1243) (tgt := 1276) hx hb dL_33 (by omega) (by omega) (by rw [e]; rfl) (by decide) ?_
          exact law_bestSetting C0 hX hbl hi6 hL hB hRel hW hS hl hcs0 (fun hv' H1 locs1 r w1 s1 => same hv' H1 locs1 r w1 s1)
  termination_by M => M
