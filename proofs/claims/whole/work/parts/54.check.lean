/-! The reference's check. -/
section CK
variable {t a : Nat} {tx m : Nat → Int32} {hv : HV}
theorem nl_b {i : Nat} (h : dgv (sg t tx i)) : 1 ≤ nlF t tx i ∧ i + nlF t tx i ≤ t ∧ ∀ j, i ≤ j → j < i + nlF t tx i → dgv (sg t tx j) := by
  have l0 := dgv_lt h
  unfold nlF
  by_cases d1 : dgv (sg t tx (i + 1))
  · have l1 := dgv_lt d1
    rw [if_pos d1]
    by_cases d2 : dgv (sg t tx (i + 2))
    · have l2 := dgv_lt d2
      rw [if_pos d2]
      refine ⟨by omega, by omega, fun j h1 h2 => ?_⟩
      rcases (by omega : j = i ∨ j = i + 1 ∨ j = i + 2) with e | e | e <;> rw [e] <;> assumption
    · rw [if_neg d2]
      refine ⟨by omega, by omega, fun j h1 h2 => ?_⟩
      rcases (by omega : j = i ∨ j = i + 1) with e | e <;> rw [e] <;> assumption
  · rw [if_neg d1]
    refine ⟨by omega, by omega, fun j h1 h2 => ?_⟩
    rcases (by omega : j = i) with e
    rw [e]; assumption
theorem dg_59 {c : Int32} (h : dgv c) : ¬ c = 59 := fun e => by rw [e] at h; exact dg59 h
theorem okF_fin (ha : a ≤ t) (h : okF t tx a) : a < bF t tx a ∧ bF t tx a ≤ t ∧ errF t tx 0 a = finF t tx (bF t tx a) ∧ ∀ j, a ≤ j → j < bF t tx a → ¬ sg t tx j = 59 := by
  rcases h with ⟨h, d⟩ | ⟨h, d, e, d3⟩ | ⟨h, d⟩
  · obtain ⟨n1, n2, n3⟩ := letP_n h
    have eb : bF t tx a = a + 2 := by unfold bF; rw [if_neg n1, if_neg n2, if_neg n3]
    have l1 := dgv_lt d
    rw [eb]
    refine ⟨by omega, by omega, ?_, fun j h1 h2 => ?_⟩
    · rw [(err_P ha h).2, if_pos d]
    · rcases (by omega : j = a ∨ j = a + 1) with z | z
      · rw [z]; intro y; rw [y] at h; exact absurd h (by unfold letP; decide)
      · rw [z]; exact dg_59 d
  · have eb : bF t tx a = a + 3 + nlF t tx (a + 3) := by unfold bF; rw [if_pos h]
    obtain ⟨b1, b2, b3⟩ := nl_b d3
    rw [eb]
    refine ⟨by omega, by omega, ?_, fun j h1 h2 => ?_⟩
    · rw [(err_S ha h).2, if_pos d, if_pos e, if_pos d3]
    · by_cases c : a + 3 ≤ j
      · exact dg_59 (b3 j c h2)
      · rcases (by omega : j = a ∨ j = a + 1 ∨ j = a + 2) with z | z | z
        · rw [z, h]; decide
        · rw [z]; exact dg_59 d
        · rw [z, e]; decide
  · have n1 := (letN_n h).1
    have eb : bF t tx a = a + 1 + nlF t tx (a + 1) := by
      unfold bF; rw [if_neg n1]
      have h' : sg t tx a = 105 ∨ sg t tx a = 119 := h
      rcases h' with z | z
      · rw [if_pos z]
      · rw [if_pos z]; split <;> rfl
    obtain ⟨b1, b2, b3⟩ := nl_b d
    rw [eb]
    refine ⟨by omega, by omega, ?_, fun j h1 h2 => ?_⟩
    · rw [(err_N ha h).2, if_pos d]
    · by_cases c : a + 1 ≤ j
      · exact dg_59 (b3 j c h2)
      · rw [show j = a by omega]; intro y; rw [y] at h; exact absurd h (by unfold letN; decide)
theorem ot5_t {m1 m2 m3 : Nat → Int32} (h1 : ot5 m1 m2) (h2 : ot5 m2 m3) : ot5 m1 m3 := fun k h => (h2 k h).trans (h1 k h)
theorem ot5_o {m1 m2 : Nat → Int32} (h : oth m1 m2) : ot5 m1 m2 := fun k hk => h k (by omega) (by omega)
/-- where the check ends: the text is wrong at sign b -/
theorem R_chkW {n b : Nat} {post : Int32 → HV → Prop} (h13 : m 13 = nI b) (h14 : m 14 = 1) (q : post (nI b) (up hv 9 0 m)) :
    V_X9_check_14 post (fun hv9 => (((hv9 9 0 14) = 0 → post (-1005) hv9) ∧ (¬ ((hv9 9 0 14) = 0) → post (hv9 9 0 13) hv9))) (n + 1) (up hv 9 0 m) := by
  rw [V_X9_check_14]
  rw [up_s, h14]
  refine ⟨fun z => absurd z (by decide), fun _ => ?_⟩
  show ((1 : Int32) = 0 → post (-1005) (up hv 9 0 m)) ∧ (¬ (1 : Int32) = 0 → post (m 13) (up hv 9 0 m))
  rw [h13]
  exact ⟨fun z => absurd z (by decide), fun _ => q⟩
theorem R_chkL {post : Int32 → HV → Prop} (ht : t ≤ 40) (h20 : hv 20 0 = tx) : ∀ (n b : Nat) (m : Nat → Int32), b ≤ t → t - b + 1 < n → m 11 = nI t → m 13 = nI b → m 14 = 0 → (∀ m', ot5 m m' → post (finF t tx b) (up hv 9 0 m')) →
    V_X9_check_14 post (fun hv9 => (((hv9 9 0 14) = 0 → post (-1005) hv9) ∧ (¬ ((hv9 9 0 14) = 0) → post (hv9 9 0 13) hv9))) n (up hv 9 0 m)
  | n + 1, b, m, hb, hn, h11, h13, h14, q => by
    rw [V_X9_check_14]
    refine ⟨fun _ => ⟨fun c => ?_, fun c => ?_⟩, fun c => ?_⟩
    · rw [up_s, h11, h13, nI_leI (by omega) (by omega)] at c
      have e : b = t := by omega
      have q2 := q m (fun _ _ => rfl)
      unfold finF at q2
      rw [if_pos e] at q2
      show ((up hv 9 0 m) 9 0 14 = 0 → post (-1005) (up hv 9 0 m)) ∧ (¬ (up hv 9 0 m) 9 0 14 = 0 → post ((up hv 9 0 m) 9 0 13) (up hv 9 0 m))
      rw [up_s, h14]
      exact ⟨fun _ => q2, fun z => absurd rfl z⟩
    · rw [up_s, h11, h13, nI_leI (by omega) (by omega)] at c
      have hne : ¬ b = t := by omega
      obtain ⟨n2, rfl⟩ : ∃ n2, n = n2 + 1 := ⟨n - 1, by omega⟩
      refine R_sign (by decide) ht hb h20 h11 h13 (Or.inl h14) (fun _ e m1 k13 k14 ko => ?_) (fun e m1 k13 k14 ko => ?_)
      · rw [up_s, k14]
        refine ⟨fun _ => ?_, fun z => absurd rfl z⟩
        have ef : finF t tx b = errF t tx 0 (b + 1) := by unfold finF; rw [if_neg hne, if_pos e]
        refine R_readCmd ht (a := b + 1) (by omega) h20 (by rw [ko 11 (by omega) (by omega)]; exact h11) k13 (fun ok m2 g13 g14 _ _ _ go => ?_) (fun nok m2 c2 hc2 he g13 g14 go => ?_)
        · obtain ⟨o1, o2, o3, _⟩ := okF_fin (by omega) ok
          refine R_chkL ht h20 (n2 + 1) (bF t tx (b + 1)) m2 o2 (by omega) (by rw [go 11 (by omega), ko 11 (by omega) (by omega)]; exact h11) g13 g14 (fun m' ho => ?_)
          rw [← o3, ← ef]
          exact q m' (ot5_t (ot5_t (ot5_o ko) go) ho)
        · refine R_chkW g13 g14 ?_
          rw [← he, ← ef]
          exact q m2 (ot5_t (ot5_o ko) go)
      · rw [up_s, k14]
        refine ⟨fun z => absurd z (by decide), fun _ => R_chkW k13 k14 ?_⟩
        have ef : finF t tx b = nI b := by unfold finF; rw [if_neg hne, if_neg (fun z => e ⟨h14, z⟩)]
        rw [← ef]
        exact q m1 (ot5_o ko)
    · rw [up_s] at c; exact absurd h14 c
theorem R_check {post : Int32 → HV → Prop} (ht : t ≤ 40) (h20 : hv 20 0 = tx) (h11 : m 11 = nI t) (q : ∀ m', ot5 m m' → post (errF t tx 0 0) (up hv 9 0 m')) : V_X9_check (up hv 9 0 m) post := by
  unfold V_X9_check
  intro hv1 e1 hv2 e2
  rw [up_s, up_up] at e1
  rw [e1, up_s, up_up] at e2
  rw [e2]
  have o0 : ot5 m (upd (upd m 13 0) 14 0) := fun k hk => by rw [upd_n _ _ (by omega), upd_n _ _ (by omega)]
  refine R_readCmd ht (a := 0) (by omega) h20 (by rw [upd_n _ _ (by omega), upd_n _ _ (by omega)]; exact h11) (by rw [upd_n _ _ (by omega), upd_s]; rfl) (fun ok m2 g13 g14 _ _ _ go => ⟨t + 2, ?_⟩) (fun nok m2 c2 hc2 he g13 g14 go => ⟨1, ?_⟩)
  · obtain ⟨o1, o2, o3, _⟩ := okF_fin (by omega) ok
    refine R_chkL ht h20 (t + 2) (bF t tx 0) m2 o2 (by omega) (by rw [go 11 (by omega), o0 11 (by omega)]; exact h11) g13 g14 (fun m' ho => ?_)
    rw [← o3]
    exact q m' (ot5_t (ot5_t o0 go) ho)
  · refine R_chkW g13 g14 ?_
    rw [← he]
    exact q m2 (ot5_t o0 go)
end CK
theorem RX_ot {hv : HV} {v : Nat → Int32} {K : KS} {m' : Nat → Int32} (h : RX hv v K) (ho : ot5 (hv 9 0) m') : RX (up hv 9 0 m') v K := by
  unfold RX RH RLm HRr at h ⊢
  rw [up_s, ho 2 (by omega), ho 6 (by omega), ho 11 (by omega), ho 12 (by omega), up_n _ _ (show ¬ (15 = 9 ∧ 0 = 0) by omega), up_n _ _ (show ¬ (17 = 9 ∧ 0 = 0) by omega), up_n _ _ (show ¬ (18 = 9 ∧ 0 = 0) by omega), up_n _ _ (show ¬ (19 = 9 ∧ 0 = 0) by omega), up_n _ _ (show ¬ (16 = 9 ∧ 0 = 0) by omega), up_n _ _ (show ¬ (20 = 9 ∧ 0 = 0) by omega)]
  exact h
theorem rfr_9 {hv : HV} (m' : Nat → Int32) : rfr hv (up hv 9 0 m') := fun c i h => up_n _ _ (fun z => h (Or.inl z.1))
theorem R_check2 {hv : HV} {v : Nat → Int32} {K : KS} {post : Int32 → HV → Prop} (hI : IV v K) (h : RX hv v K) (q : ∀ m', ot5 (hv 9 0) m' → post (errF K.2.2.1.1 K.2.2.1.2 0 0) (up hv 9 0 m')) : V_X9_check hv post := by
  have z := R_check (m := hv 9 0) (post := post) hI.2.2.1 h.2.2.2.1.2 h.2.2.2.1.1 q
  rwa [up_id] at z
theorem J_syntaxError : JJ V_X8_syntaxError V_X9_syntaxError := by
  intro B hv hB hRel
  obtain ⟨v, K, h1, h2, h3, h4⟩ := hRel
  unfold V_X8_syntaxError
  refine C_err (CR_CT h1 h3) ?_
  show V_X9_syntaxError hv (fun r2 hv2 => errF K.2.2.1.1 K.2.2.1.2 0 0 = r2 ∧ Rel (B + 64000) hv2)
  unfold V_X9_syntaxError
  exact R_check2 h3 h2 (fun m' ho => ⟨rfl, v, K, CR_fr h3 (rfr_9 m') h1, RX_ot h2 ho, h3, by omega⟩)
