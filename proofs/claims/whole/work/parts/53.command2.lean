/-! The reference's readCommand as a whole. -/
section RC2
variable {t a : Nat} {tx m : Nat → Int32} {hv : HV}
theorem R_28 {post : HV → Prop} (y : letP (m 15) ∨ m 15 = 115 → V_X9_readCommand_70 post 1 (up hv 9 0 m)) (n : ¬ letP (m 15) → ¬ m 15 = 115 → V_X9_readCommand_70 post 0 (up hv 9 0 m)) : V_X9_readCommand_28 post (up hv 9 0 m) := by
  unfold V_X9_readCommand_28
  rw [up_s]
  exact ⟨fun c => y (Or.inl (Or.inl c)), fun c => ⟨fun d => y (Or.inl (Or.inr (Or.inl d))), fun d => ⟨fun e => y (Or.inl (Or.inr (Or.inr e))), fun e => ⟨fun f => y (Or.inr f), fun f => n (fun z => by
    rcases z with z | z | z
    · exact c z
    · exact d z
    · exact e z) f⟩⟩⟩⟩
theorem R_101p {post : HV → Prop} (ht : t ≤ 40) (ha : a < t) (h20 : hv 20 0 = tx) (h11 : m 11 = nI t) (h13 : m 13 = nI a) (h14 : m 14 = 0)
    (yes : dgv (sg t tx (a + 1)) → ∀ m', m' 13 = nI (a + 2) → m' 14 = 0 → m' 16 = sg t tx (a + 1) - 48 → (∀ k, ¬ k = 13 → ¬ k = 14 → ¬ k = 16 → m' k = m k) → V_X9_readCommand_138 post (up hv 9 0 m'))
    (no : ¬ dgv (sg t tx (a + 1)) → ∀ m', m' 13 = nI (a + 1) → m' 14 = 1 → (∀ k, ¬ k = 13 → ¬ k = 14 → ¬ k = 16 → m' k = m k) → V_X9_readCommand_138 post (up hv 9 0 m')) : V_X9_readCommand_101 post 1 (up hv 9 0 m) := by
  unfold V_X9_readCommand_101
  rw [up_s]
  refine ⟨fun _ hv7 e7 => ?_, fun c => absurd h14 c⟩
  rw [up_up, h13, nI_1] at e7
  rw [e7]
  unfold V_X9_readCommand_122
  refine ⟨fun c => absurd c (by decide), fun _ => ?_⟩
  refine R_digit ht (a := a + 1) (by omega) h20 (by rw [upd_n _ _ (by omega)]; exact h11) (upd_s _ _ _) (by rw [upd_n _ _ (by omega)]; exact Or.inl h14) (fun c d m1 k13 k14 ko hv2 e2 => ?_) (fun c m1 k13 k14 ko hv2 e2 => ?_)
  · rw [e2, up_s, up_up]
    exact yes d _ (by rw [upd_n _ _ (by omega)]; exact k13) (by rw [upd_n _ _ (by omega)]; exact k14) (upd_s _ _ _) (fun k k1 k2 k3 => by rw [upd_n _ _ k3, ko k k1 k2, upd_n _ _ k1])
  · rw [e2, up_s, up_up]
    refine no (fun d => c ⟨by rw [upd_n _ _ (by omega)]; exact h14, d⟩) _ (by rw [upd_n _ _ (by omega)]; exact k13) (by rw [upd_n _ _ (by omega)]; exact k14) (fun k k1 k2 k3 => by rw [upd_n _ _ k3, ko k k1 k2, upd_n _ _ k1])
theorem letP_n {c : Int32} (h : letP c) : ¬ c = 115 ∧ ¬ c = 105 ∧ ¬ c = 119 := by
  rcases h with e | e | e <;> rw [e] <;> decide
theorem letN_n {c : Int32} (h : letN c) : ¬ c = 115 ∧ ¬ letP c := by
  rcases h with e | e <;> rw [e] <;> unfold letP <;> decide
theorem R_readCmd {post : HV → Prop} (ht : t ≤ 40) (ha : a ≤ t) (h20 : hv 20 0 = tx) (h11 : m 11 = nI t) (h13 : m 13 = nI a)
    (yes : okF t tx a → ∀ m', m' 13 = nI (bF t tx a) → m' 14 = 0 → m' 15 = sg t tx a → m' 16 = whF t tx a → m' 17 = vaF t tx a → ot5 m m' → post (up hv 9 0 m'))
    (no : ¬ okF t tx a → ∀ m' b, b ≤ t → errF t tx 0 a = nI b → m' 13 = nI b → m' 14 = 1 → ot5 m m' → post (up hv 9 0 m')) : V_X9_readCommand (up hv 9 0 m) post := by
  have s1 : ∀ m1 : Nat → Int32, m1 15 = sg t tx a → m1 13 = nI a → m1 11 = nI t → ot5 m m1 → V_X9_readCommand_28 post (up hv 9 0 m1) := by
    intro m1 q15 q13 q11 qo
    refine R_28 (fun hl => ?_) (fun hl1 hl2 => ?_)
    · rw [q15] at hl
      unfold V_X9_readCommand_70
      refine ⟨fun c => absurd c (by decide), fun _ hv5 e5 => ?_⟩
      rw [up_s, up_up] at e5
      rw [e5]
      have hat : a < t := by
        rcases hl with h | h
        · exact (err_P ha h).1
        · exact (err_S ha h).1
      refine R_101p ht hat h20 (by rw [upd_n _ _ (by omega)]; exact q11) (by rw [upd_n _ _ (by omega)]; exact q13) (upd_s _ _ _) (fun d m2 k13 k14 k16 ko => ?_) (fun d m2 k13 k14 ko => ?_)
      · have g15 : m2 15 = sg t tx a := by rw [ko 15 (by omega) (by omega) (by omega), upd_n _ _ (by omega)]; exact q15
        have g11 : m2 11 = nI t := by rw [ko 11 (by omega) (by omega) (by omega), upd_n _ _ (by omega)]; exact q11
        have go : ot5 m m2 := fun k hk => by rw [ko k (by omega) (by omega) (by omega), upd_n _ _ (by omega)]; exact qo k hk
        have l1 := dgv_lt d
        unfold V_X9_readCommand_138
        rw [up_s, g15]
        rcases hl with h | h
        · obtain ⟨n1, n2, n3⟩ := letP_n h
          refine ⟨fun c => absurd c n1, fun _ => ?_⟩
          refine R_153 ht (a := a + 2) (by omega) h20 g11 k13 (Or.inl k14) (fun z => ?_) (fun z => ?_) (fun _ _ _ m3 f17 fo => ?_)
          · rw [g15] at z; rcases z with z | z | z
            · exact absurd z n1
            · exact absurd z n2
            · exact absurd z n3
          · rw [g15] at z; rcases z with z | z | z
            · exact absurd z n1
            · exact absurd z n2
            · exact absurd z n3
          · refine yes (Or.inl ⟨h, d⟩) m3 ?_ ?_ ?_ ?_ ?_ (fun k hk => by rw [fo k (by omega)]; exact go k hk)
            · rw [fo 13 (by omega), k13]; unfold bF; rw [if_neg n1, if_neg n2, if_neg n3]
            · rw [fo 14 (by omega)]; exact k14
            · rw [fo 15 (by omega)]; exact g15
            · rw [fo 16 (by omega), k16]; unfold whF; rw [if_neg n2, if_neg n3]
            · rw [f17]; unfold vaF; rw [if_neg n1, if_neg n2, if_neg n3]
        · refine ⟨fun _ => ?_, fun c => absurd h c⟩
          have n2 : ¬ sg t tx a = 105 := by rw [h]; decide
          have n3 : ¬ sg t tx a = 119 := by rw [h]; decide
          refine R_sign (by decide) ht (a := a + 2) (by omega) h20 g11 k13 (Or.inl k14) (fun c e m3 f13 f14 fo => ?_) (fun c m3 f13 f14 fo => ?_)
          · have l2 : a + 2 < t := sg_lt (fun z => by rw [z] at e; exact absurd e (by decide))
            have p15 : m3 15 = sg t tx a := by rw [fo 15 (by omega) (by omega)]; exact g15
            refine R_153 ht (a := a + 3) (by omega) h20 (by rw [fo 11 (by omega) (by omega)]; exact g11) f13 (Or.inl f14) (fun _ _ d3 m4 y13 y14 y17 yo => ?_) (fun _ c3 m4 y13 y14 yo => ?_) (fun z => absurd (p15.trans h) z)
            · refine yes (Or.inr (Or.inl ⟨h, d, e, d3⟩)) m4 ?_ y14 ?_ ?_ ?_ (fun k hk => by rw [yo k (by omega) (by omega) (by omega), fo k (by omega) (by omega)]; exact go k hk)
              · rw [y13]; unfold bF; rw [if_pos h]
              · rw [yo 15 (by omega) (by omega) (by omega)]; exact p15
              · rw [yo 16 (by omega) (by omega) (by omega), fo 16 (by omega) (by omega), k16]; unfold whF; rw [if_neg n2, if_neg n3]
              · rw [y17]; unfold vaF; rw [if_pos h]
            · have d3 : ¬ dgv (sg t tx (a + 3)) := fun z => c3 ⟨f14, z⟩
              refine no (fun z => ?_) m4 (a + 3) (by omega) ?_ y13 y14 (fun k hk => by rw [yo k (by omega) (by omega) (by omega), fo k (by omega) (by omega)]; exact go k hk)
              · rcases z with z | z | z
                · exact (letP_n z.1).1 h
                · exact d3 z.2.2.2
                · exact (letN_n z.1).1 h
              · rw [(err_S ha h).2, if_pos d, if_pos e, if_neg d3]
          · have e : ¬ sg t tx (a + 2) = 61 := fun z => c ⟨k14, z⟩
            have p15 : m3 15 = sg t tx a := by rw [fo 15 (by omega) (by omega)]; exact g15
            refine R_153 ht (a := a + 2) (by omega) h20 (by rw [fo 11 (by omega) (by omega)]; exact g11) f13 (Or.inr f14) (fun _ z => absurd (f14.symm.trans z) (by decide)) (fun _ c3 m4 y13 y14 yo => ?_) (fun z => absurd (p15.trans h) z)
            refine no (fun z => ?_) m4 (a + 2) (by omega) ?_ y13 y14 (fun k hk => by rw [yo k (by omega) (by omega) (by omega), fo k (by omega) (by omega)]; exact go k hk)
            · rcases z with z | z | z
              · exact (letP_n z.1).1 h
              · exact e z.2.2.1
              · exact (letN_n z.1).1 h
            · rw [(err_S ha h).2, if_pos d, if_neg e]
      · have g15 : m2 15 = sg t tx a := by rw [ko 15 (by omega) (by omega) (by omega), upd_n _ _ (by omega)]; exact q15
        have g11 : m2 11 = nI t := by rw [ko 11 (by omega) (by omega) (by omega), upd_n _ _ (by omega)]; exact q11
        have go : ot5 m m2 := fun k hk => by rw [ko k (by omega) (by omega) (by omega), upd_n _ _ (by omega)]; exact qo k hk
        have hb : ¬ okF t tx a := fun z => by
          rcases z with z | z | z
          · exact d z.2
          · exact d z.2.1
          · exact d z.2
        have he : errF t tx 0 a = nI (a + 1) := by
          rcases hl with h | h
          · rw [(err_P ha h).2, if_neg d]
          · rw [(err_S ha h).2, if_neg d]
        have tail : ∀ m3 : Nat → Int32, m3 13 = nI (a + 1) → m3 14 = 1 → m3 11 = nI t → ot5 m m3 → V_X9_readCommand_153 post (up hv 9 0 m3) := fun m3 x13 x14 x11 xo =>
          R_153 ht (a := a + 1) (by omega) h20 x11 x13 (Or.inr x14) (fun _ z => absurd (x14.symm.trans z) (by decide)) (fun _ _ m4 y13 y14 yo => no hb m4 (a + 1) (by omega) he y13 y14 (fun k hk => by rw [yo k (by omega) (by omega) (by omega)]; exact xo k hk))
            (fun _ _ _ m4 _ yo => no hb m4 (a + 1) (by omega) he (by rw [yo 13 (by omega)]; exact x13) (by rw [yo 14 (by omega)]; exact x14) (fun k hk => by rw [yo k (by omega)]; exact xo k hk))
        unfold V_X9_readCommand_138
        rw [up_s, g15]
        refine ⟨fun c => ?_, fun c => tail m2 k13 k14 g11 go⟩
        refine R_sign (by decide) ht (a := a + 1) (by omega) h20 g11 k13 (Or.inr k14) (fun z => absurd (k14.symm.trans z) (by decide)) (fun _ m3 f13 f14 fo => ?_)
        exact tail m3 f13 f14 (by rw [fo 11 (by omega) (by omega)]; exact g11) (fun k hk => by rw [fo k (by omega) (by omega)]; exact go k hk)
    · rw [q15] at hl1 hl2
      unfold V_X9_readCommand_70
      refine ⟨fun _ => ?_, fun c => absurd rfl c⟩
      rw [up_s, q15]
      -- a letter of a number, or none
      have good : letN (sg t tx a) → ∀ hw, hw = up (up hv 9 0 m1) 9 0 (upd m1 14 0) → V_X9_readCommand_101 post 0 hw := by
        intro h hw ew
        rw [up_up] at ew
        rw [ew]
        have hat := (err_N ha h).1
        unfold V_X9_readCommand_101
        rw [up_s, upd_s]
        refine ⟨fun _ hv7 e7 => ?_, fun c => absurd rfl c⟩
        rw [up_up, upd_n _ _ (show ¬ 13 = 14 by omega), q13, nI_1] at e7
        rw [e7]
        unfold V_X9_readCommand_122
        refine ⟨fun _ hv9 e9 => ?_, fun c => absurd rfl c⟩
        rw [up_s, up_up] at e9
        rw [e9]
        unfold V_X9_readCommand_138
        have p15 : (upd (upd (upd m1 14 0) 13 (nI (a + 1))) 16 0) 15 = sg t tx a := by rw [upd_n _ _ (by omega), upd_n _ _ (by omega), upd_n _ _ (by omega)]; exact q15
        rw [up_s, p15]
        refine ⟨fun c => absurd c hl2, fun _ => ?_⟩
        refine R_153 ht (a := a + 1) (by omega) h20 (by rw [upd_n _ _ (by omega), upd_n _ _ (by omega), upd_n _ _ (by omega)]; exact q11) (by rw [upd_n _ _ (by omega), upd_s]) (Or.inl (by rw [upd_n _ _ (by omega), upd_n _ _ (by omega), upd_s])) (fun _ _ d m4 y13 y14 y17 yo => ?_) (fun _ c3 m4 y13 y14 yo => ?_) (fun _ z1 z2 => ?_)
        · have n1 : sg t tx a = 105 ∨ sg t tx a = 119 := h
          refine yes (Or.inr (Or.inr ⟨h, d⟩)) m4 ?_ y14 ?_ ?_ ?_ (fun k hk => by rw [yo k (by omega) (by omega) (by omega), upd_n _ _ (by omega), upd_n _ _ (by omega), upd_n _ _ (by omega)]; exact qo k hk)
          · rw [y13]; unfold bF; rw [if_neg hl2]
            rcases n1 with z | z
            · rw [if_pos z]
            · rw [if_pos z]; split <;> rfl
          · rw [yo 15 (by omega) (by omega) (by omega)]; exact p15
          · rw [yo 16 (by omega) (by omega) (by omega), upd_s]; unfold whF
            rcases n1 with z | z
            · rw [if_pos z]
            · rw [if_pos z]; split <;> rfl
          · rw [y17]; unfold vaF; rw [if_neg hl2]
            rcases n1 with z | z
            · rw [if_pos z]
            · rw [if_pos z]; split <;> rfl
        · have d : ¬ dgv (sg t tx (a + 1)) := fun z => c3 ⟨by rw [upd_n _ _ (by omega), upd_n _ _ (by omega), upd_s], z⟩
          refine no (fun z => ?_) m4 (a + 1) (by omega) ?_ y13 y14 (fun k hk => by rw [yo k (by omega) (by omega) (by omega), upd_n _ _ (by omega), upd_n _ _ (by omega), upd_n _ _ (by omega)]; exact qo k hk)
          · rcases z with z | z | z
            · exact d z.2
            · exact d z.2.1
            · exact d z.2
          · rw [(err_N ha h).2, if_neg d]
        · rw [p15] at z1 z2
          rcases h with h | h
          · exact absurd h z1
          · exact absurd h z2
      refine ⟨fun c => good (Or.inl c), fun c => ⟨fun d => good (Or.inr d), fun d hw ew => ?_⟩⟩
      rw [up_up] at ew
      rw [ew]
      have hp : pl (sg t tx a) = -1 := pl_no (fun z => hl1 (Or.inl z)) (fun z => hl1 (Or.inr (Or.inl z))) (fun z => hl1 (Or.inr (Or.inr z))) hl2 c d
      have he : errF t tx 0 a = nI a := by rw [err_0 ha, if_pos hp]
      unfold V_X9_readCommand_101
      rw [up_s, upd_s]
      refine ⟨fun z => absurd z (by decide), fun _ hv7 e7 => ?_⟩
      rw [up_up, upd_n _ _ (show ¬ 13 = 14 by omega), q13, Int32.add_zero] at e7
      rw [e7]
      unfold V_X9_readCommand_122
      refine ⟨fun _ hv9 e9 => ?_, fun c => absurd rfl c⟩
      rw [up_s, up_up] at e9
      rw [e9]
      unfold V_X9_readCommand_138
      have p15 : (upd (upd (upd m1 14 1) 13 (nI a)) 16 0) 15 = sg t tx a := by rw [upd_n _ _ (by omega), upd_n _ _ (by omega), upd_n _ _ (by omega)]; exact q15
      rw [up_s, p15]
      refine ⟨fun c => absurd c hl2, fun _ => ?_⟩
      refine R_153 ht (a := a) ha h20 (by rw [upd_n _ _ (by omega), upd_n _ _ (by omega), upd_n _ _ (by omega)]; exact q11) (by rw [upd_n _ _ (by omega), upd_s]) (Or.inr (by rw [upd_n _ _ (by omega), upd_n _ _ (by omega), upd_s])) (fun z => ?_) (fun z => ?_) (fun _ _ _ m4 _ yo => ?_)
      · rw [p15] at z; rcases z with z | z | z
        · exact absurd z hl2
        · exact absurd z c
        · exact absurd z d
      · rw [p15] at z; rcases z with z | z | z
        · exact absurd z hl2
        · exact absurd z c
        · exact absurd z d
      · refine no (fun z => ?_) m4 a ha he (by rw [yo 13 (by omega), upd_n _ _ (by omega), upd_s]) (by rw [yo 14 (by omega), upd_n _ _ (by omega), upd_n _ _ (by omega), upd_s]) (fun k hk => by rw [yo k (by omega), upd_n _ _ (by omega), upd_n _ _ (by omega), upd_n _ _ (by omega)]; exact qo k hk)
        rcases z with z | z | z
        · exact hl1 z.1
        · exact hl2 z.1
        · rcases z.1 with z | z
          · exact c z
          · exact d z
  unfold V_X9_readCommand
  rw [up_s, h11, h13, nI_leI (by omega) (by omega), up_n _ _ (show ¬ (20 = 9 ∧ 0 = 0) by omega), h20, nI_clamp (by omega), up_up]
  refine ⟨fun c hv2 e2 => ?_, fun c => ⟨vp_in_nI (by omega) (by omega), fun hv2 e2 => ?_⟩⟩
  · have : a = t := by omega
    subst this
    rw [e2]
    exact s1 _ (by rw [upd_s, sg_t]) (by rw [upd_n _ _ (by omega)]; exact h13) (by rw [upd_n _ _ (by omega)]; exact h11) (fun k hk => upd_n _ _ (by omega))
  · rw [e2, up_up, ← sg_i (tx := tx) (show a < t by omega)]
    exact s1 _ (upd_s _ _ _) (by rw [upd_n _ _ (by omega)]; exact h13) (by rw [upd_n _ _ (by omega)]; exact h11) (fun k hk => upd_n _ _ (by omega))
end RC2
