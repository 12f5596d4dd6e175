/-! setChamber. -/
def rfCh (a s : Int32) (v : Nat → Int32) : Int32 := if pn v a = 4 then -1001 else if s < 50 then -1002 else if 2000 < s then -1002 else if sl v (pn v a) 5 = 1 then -1003 else 0
def chF (s n : Int32) (f : Nat → Int32) : Nat → Int32 := upd (upd (upd (upd f 11 s) 12 n) 13 0) 14 s
def chV (a s n : Int32) (v : Nat → Int32) : Nat → Int32 := onP (fillS (sl v (pn v a) 13) v) (pn v a) (chF s n)
theorem chF_o (s n : Int32) (f : Nat → Int32) {j : Nat} (h : ¬ (11 ≤ j ∧ j ≤ 14)) : chF s n f j = f j := by
  unfold chF; rw [upd_n _ _ (by omega), upd_n _ _ (by omega), upd_n _ _ (by omega), upd_n _ _ (by omega)]
theorem rfCh_b {a s : Int32} {v : Nat → Int32} (hV : VI v) (h : rfCh a s v = 0) : pn v a < cntN v ∧ 50 ≤ s.toInt ∧ s.toInt ≤ 2000 := by
  unfold rfCh at h
  rcases pn_cases hV a with z | z
  · rw [if_neg (by have := hV.1.1; omega)] at h
    by_cases c3 : s < 50
    · rw [if_pos c3] at h; exact absurd h (by decide)
    rw [if_neg c3] at h
    by_cases c4 : 2000 < s
    · rw [if_pos c4] at h; exact absurd h (by decide)
    have e5 : (50 : Int32).toInt = 50 := rfl
    have e2 : (2000 : Int32).toInt = 2000 := rfl
    rw [i_lt, e5] at c3
    rw [i_lt, e2] at c4
    exact ⟨z.1, by omega, by omega⟩
  · rw [if_pos z.2] at h; exact absurd h (by decide)
theorem PI_ch {s n : Int32} {f : Nat → Int32} (hs : 50 ≤ s.toInt ∧ s.toInt ≤ 2000) (hn : n = 0 ∨ n = 1) (hf : PI f) : PI (chF s n f) := by
  unfold PI chF at *
  simp (decide := true) only [upd_r, if_true, if_false, i0]
  obtain ⟨a0, a1, a2, a3, a4, a5, a6, a7, a9, a10, a11, a12, a13, a14, a15⟩ := hf
  exact ⟨a0, a1, a2, a3, a4, a5, a6, a7, a9, a10, hs, hn, ⟨by first | trivial | decide | omega, by first | trivial | omega⟩, ⟨by omega, by first | trivial | omega⟩, a15⟩
theorem fill_w {v : Nat → Int32} (hV : VI v) {p : Nat} (hp : p < cntN v) : 0 ≤ (sl v p 13).toInt ∧ (sl v p 13).toInt ≤ 2000 := by
  have h := (hV.2.1 p hp).1
  have h11 := h.h11
  have h13 := h.h13
  omega
theorem sl_fill (l : Int32) (v : Nat → Int32) (p j : Nat) : sl (fillS l v) p j = sl v p j := fillS_hi _ _ _ (by omega) (by omega)
theorem sl_fillF (l : Int32) (v : Nat → Int32) (p : Nat) : sl (fillS l v) p = sl v p := by
  funext j; exact sl_fill l v p j
theorem cnt_fill (l : Int32) (v : Nat → Int32) : cntN (fillS l v) = cntN v := by unfold cntN; rw [fillS_hi _ _ _ (by omega) (by omega)]
theorem VI_ch {a s n : Int32} {v : Nat → Int32} (hV : VI v) (hn : n = 0 ∨ n = 1) (h : rfCh a s v = 0) : VI (chV a s n v) := by
  obtain ⟨hp, h1, h2⟩ := rfCh_b hV h
  have hf := VI_fill (fill_w hV hp) hV
  exact VI_on hf (PI_ch ⟨h1, h2⟩ hn (hf.2.1 _ (by rw [cnt_fill]; exact hp)).1) (fun j a b => chF_o _ _ _ (by omega))
theorem PS_ch {hv : HV} {q : Nat} {f X : Nat → Int32} {s n : Int32} (h : PS hv q f) (hX : X = encC (chF s n f) X) : PS (up hv 0 q X) q (chF s n f) := by
  refine ⟨?_, ?_, ?_⟩
  · rw [up_n _ _ (by omega)]
    exact encP_of (fun k hk => by rw [chF_o _ _ _ (by omega)]; exact PS_4 h hk) (by rw [chF_o _ _ _ (by omega)]; exact PS_411 h) (by rw [chF_o _ _ _ (by omega), h.1]; rfl)
  · rw [up_s]; exact hX
  · rw [up_n _ _ (by omega)]
    exact encO_of (fun k hk => by rw [chF_o _ _ _ (by omega)]; exact PS_2 h hk)
theorem C_chamber {ex a s n : Int32} {hv : HV} {v : Nat → Int32} {K : KS} {post : Int32 → HV → Prop} (hb : n = 0 ∨ n = 1) (hI : IV v K) (h : CR hv ex v K) (no : ¬ rfCh a s v = 0 → post (rfCh a s v) hv)
    (yes : rfCh a s v = 0 → ∀ hv', CR hv' ex (chV a s n v) (keepK ex v K) → cfr hv hv' → post (sl v (pn v a) 13) hv') : V_X8_setChamber a s n hv post := by
  have hn := hI.1.1.1
  unfold V_X8_setChamber
  rcases pn_cases hI.1 a with ⟨hp, ea⟩ | ⟨hno, e4⟩
  · refine C_yes h hI hp ea ?_
    have hPI := (hI.1.2.1 _ hp).1
    have n4 : ¬ pn v a = 4 := by omega
    unfold rfCh at no yes
    rw [if_neg n4] at no yes
    rw [C_outside]
    by_cases c1 : s < 50
    · rw [if_pos c1] at no ⊢
      exact ⟨fun z => absurd z (by decide), fun _ => no (by decide)⟩
    rw [if_neg c1] at no yes ⊢
    by_cases c2 : 2000 < s
    · rw [if_pos c2] at no
      rw [if_neg (fun z => i_nlt.mpr z c2)]
      exact ⟨fun z => absurd z (by decide), fun _ => no (by decide)⟩
    rw [if_neg c2] at no yes
    rw [if_pos (nl_le c2)]
    refine ⟨fun _ => ?_, fun z => absurd rfl z⟩
    rw [PS_4 (CR_PS h hp) (show 5 ≤ 10 by omega)]
    refine ⟨fun c => ?_, fun c => ?_⟩
    · rw [c, if_neg (by decide)] at yes
      refine C_keepK hI h ?_
      intro hv3 k1 k2 k3 x6 e6
      have hk := IV_keep ex hI
      rw [PS_03 (CR_PS k1 hp)] at e6
      rw [e6]
      refine C_fill (fill_w hI.1 hp) hI.1.2.2.1 k1.1 ?_
      intro hv7 g1 g2
      have gC : CR hv7 ex (fillS (sl v (pn v a) 13) v) (keepK ex v K) := CR_new hk k1 g1 (fun c i z => g2 c i (fun y => z (Or.inl y)))
      have gI : IV (fillS (sl v (pn v a) 13) v) (keepK ex v K) := ⟨VI_fill (fill_w hI.1 hp) hI.1, hk.2⟩
      have hp7 : pn v a < cntN (fillS (sl v (pn v a) 13) v) := by rw [cnt_fill]; exact hp
      unfold V_X0_renew
      simp only [forall_eq, up_s, up_up]
      refine ⟨bOK_b hb, ?_⟩
      generalize eX : upd _ 4 s = X
      have hX : X = encC (chF s n (sl v (pn v a))) X := by
        rw [← eX]
        unfold chF
        refine encC_of ?_ ?_ ?_ ?_ ?_
        all_goals simp (decide := true) only [upd_r, if_true, if_false]
      have f5 : ∀ c i, ¬ ((c = 4 ∨ c = 0 ∨ c = 2) ∧ i = pn v a) → up hv7 0 (pn v a) X c i = hv7 c i := fun c i z => up_n _ _ (fun y => z ⟨Or.inr (Or.inl y.1), y.2⟩)
      refine yes rfl _ ?_ (cfr_t k2 (cfr_t (fun c i z => g2 c i (by omega)) (cfr_on f5)))
      refine CR_on gI gC hp7 (fun j a b => chF_o _ _ _ (by omega)) ?_ f5
      have hS7 := CR_PS gC hp7
      rw [sl_fillF] at hS7 ⊢
      exact PS_ch hS7 hX
    · rw [if_pos (hPI.h5.resolve_left c)] at no
      exact no (by decide)
  · have er : rfCh a s v = -1001 := if_pos e4
    rw [er] at no
    exact C_no h hI hno (no (by decide))
