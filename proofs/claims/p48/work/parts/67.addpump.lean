/-! addPump of the class: a new pump's cells take the places of an old one's. -/
def puN (x0 x1 x2 x3 x4 : Int32) : Nat → Int32 := fun k => match k with | 0 => x0 | 1 => x1 | 2 => x2 | 3 => x3 | 4 => x4 | 10 => 60 | _ => 0
def chN : Nat → Int32 := fun k => match k with | 0 => 400 | 1 => 40 | 4 => 400 | _ => 0
/-- a world whose pump p is new -/
def npH (hv : HV) (p : Nat) (x0 x1 x2 x3 x4 : Int32) : HV := fun c i => if c = 4 ∧ i = p then puN x0 x1 x2 x3 x4 else if c = 0 ∧ i = p then chN else if c = 2 ∧ i = p then (fun _ => 0) else if (c = 6 ∨ c = 10) ∧ (i = 2 * p ∨ i = 2 * p + 1) then (fun _ => 0) else hv c i
def nkp (p c i : Nat) : Prop := ((c = 4 ∨ c = 0 ∨ c = 2) ∧ i = p) ∨ ((c = 6 ∨ c = 10) ∧ (i = 2 * p ∨ i = 2 * p + 1))
def setG (G : wG) (p : Nat) (b : Nat → Nat) : wG := (G.1, G.2.1, fun c i => if c = 4 ∧ i = p then b 0 else if c = 0 ∧ i = p then b 1 else if c = 2 ∧ i = p then b 2 else if c = 6 ∧ i = 2 * p then b 3 else if c = 10 ∧ i = 2 * p then b 4 else if c = 6 ∧ i = 2 * p + 1 then b 5 else if c = 10 ∧ i = 2 * p + 1 then b 6 else G.2.2 c i)
section NP
variable {G : wG} {p : Nat} {b : Nat → Nat} {hv : HV} {x0 x1 x2 x3 x4 : Int32} {A : Nat → Prop} {H : Heap}
theorem adS {c i : Nat} (h : ¬ nkp p c i) : ad (setG G p b) c i = ad G c i := by
  unfold nkp at h
  show (if c = 4 ∧ i = p then b 0 else if c = 0 ∧ i = p then b 1 else if c = 2 ∧ i = p then b 2 else if c = 6 ∧ i = 2 * p then b 3 else if c = 10 ∧ i = 2 * p then b 4 else if c = 6 ∧ i = 2 * p + 1 then b 5 else if c = 10 ∧ i = 2 * p + 1 then b 6 else G.2.2 c i) = G.2.2 c i
  rw [if_neg (by omega), if_neg (by omega), if_neg (by omega), if_neg (by omega), if_neg (by omega), if_neg (by omega), if_neg (by omega)]
theorem npH_o {c i : Nat} (h : ¬ nkp p c i) : npH hv p x0 x1 x2 x3 x4 c i = hv c i := by
  unfold nkp at h
  unfold npH
  rw [if_neg (by omega), if_neg (by omega), if_neg (by omega), if_neg (by omega)]
theorem adS_4 : ad (setG G p b) 4 p = b 0 := if_pos ⟨rfl, rfl⟩
theorem adS_0 : ad (setG G p b) 0 p = b 1 := by
  show (if (0 : Nat) = 4 ∧ p = p then b 0 else if (0 : Nat) = 0 ∧ p = p then b 1 else _) = _
  rw [if_neg (by omega), if_pos ⟨rfl, rfl⟩]
theorem adS_2 : ad (setG G p b) 2 p = b 2 := by
  show (if (2 : Nat) = 4 ∧ p = p then b 0 else if (2 : Nat) = 0 ∧ p = p then b 1 else if (2 : Nat) = 2 ∧ p = p then b 2 else _) = _
  rw [if_neg (by omega), if_neg (by omega), if_pos ⟨rfl, rfl⟩]
theorem adS_6 : ad (setG G p b) 6 (2 * p) = b 3 := by
  show (if (6 : Nat) = 4 ∧ 2 * p = p then b 0 else if (6 : Nat) = 0 ∧ 2 * p = p then b 1 else if (6 : Nat) = 2 ∧ 2 * p = p then b 2 else if (6 : Nat) = 6 ∧ 2 * p = 2 * p then b 3 else _) = _
  rw [if_neg (by omega), if_neg (by omega), if_neg (by omega), if_pos ⟨rfl, rfl⟩]
theorem adS_10 : ad (setG G p b) 10 (2 * p) = b 4 := by
  show (if (10 : Nat) = 4 ∧ 2 * p = p then b 0 else if (10 : Nat) = 0 ∧ 2 * p = p then b 1 else if (10 : Nat) = 2 ∧ 2 * p = p then b 2 else if (10 : Nat) = 6 ∧ 2 * p = 2 * p then b 3 else if (10 : Nat) = 10 ∧ 2 * p = 2 * p then b 4 else _) = _
  rw [if_neg (by omega), if_neg (by omega), if_neg (by omega), if_neg (by omega), if_pos ⟨rfl, rfl⟩]
theorem adS_6t : ad (setG G p b) 6 (2 * p + 1) = b 5 := by
  show (if (6 : Nat) = 4 ∧ 2 * p + 1 = p then b 0 else if (6 : Nat) = 0 ∧ 2 * p + 1 = p then b 1 else if (6 : Nat) = 2 ∧ 2 * p + 1 = p then b 2 else if (6 : Nat) = 6 ∧ 2 * p + 1 = 2 * p then b 3 else if (6 : Nat) = 10 ∧ 2 * p + 1 = 2 * p then b 4 else if (6 : Nat) = 6 ∧ 2 * p + 1 = 2 * p + 1 then b 5 else _) = _
  rw [if_neg (by omega), if_neg (by omega), if_neg (by omega), if_neg (by omega), if_neg (by omega), if_pos ⟨rfl, rfl⟩]
theorem adS_10t : ad (setG G p b) 10 (2 * p + 1) = b 6 := by
  show (if (10 : Nat) = 4 ∧ 2 * p + 1 = p then b 0 else if (10 : Nat) = 0 ∧ 2 * p + 1 = p then b 1 else if (10 : Nat) = 2 ∧ 2 * p + 1 = p then b 2 else if (10 : Nat) = 6 ∧ 2 * p + 1 = 2 * p then b 3 else if (10 : Nat) = 10 ∧ 2 * p + 1 = 2 * p then b 4 else if (10 : Nat) = 6 ∧ 2 * p + 1 = 2 * p + 1 then b 5 else if (10 : Nat) = 10 ∧ 2 * p + 1 = 2 * p + 1 then b 6 else _) = _
  rw [if_neg (by omega), if_neg (by omega), if_neg (by omega), if_neg (by omega), if_neg (by omega), if_neg (by omega), if_pos ⟨rfl, rfl⟩]
theorem encS (hp : p < 4) (f : Nat → Int32) : ∀ (c i : Nat), c < 15 → i < cnt c → ¬ nkp p c i → ¬ (c = 11 ∧ i = 0) → enc (setG G p b) f c i = enc G f c i
  | 0, i, _, _, _, _ => rfl
  | 1, i, _, _, _, _ => by simp only [enc]; rw [adS (c := 13) (i := 0) (by unfold nkp; omega)]
  | 2, i, _, _, _, _ => rfl
  | 3, i, _, _, _, _ => by simp only [enc]; rw [adS (c := 6) (i := 74) (by unfold nkp; omega), adS (c := 6) (i := 75) (by unfold nkp; omega), adS (c := 6) (i := 76) (by unfold nkp; omega)]
  | 4, i, _, _, h, _ => by
    unfold nkp at h
    simp only [enc]; rw [adS (c := 0) (i := i) (by unfold nkp; omega), adS (c := 2) (i := i) (by unfold nkp; omega), adS (c := 6) (i := 2 * i) (by unfold nkp; omega), adS (c := 6) (i := 2 * i + 1) (by unfold nkp; omega)]
  | 5, i, _, _, _, _ => rfl
  | 6, i, _, _, h, _ => by
    unfold nkp at h
    simp only [enc]; rw [adS (c := 10) (i := i) (by unfold nkp; omega)]
  | 7, i, _, _, _, _ => by simp only [enc]; rw [adS (c := 11) (i := i) (by unfold nkp; omega)]
  | 8, i, _, _, _, _ => by simp only [enc]; rw [adS (c := 7) (i := 0) (by unfold nkp; omega), adS (c := 12) (i := 0) (by unfold nkp; omega), adS (c := 1) (i := 0) (by unfold nkp; omega), adS (c := 3) (i := 0) (by unfold nkp; omega), adS (c := 5) (i := 0) (by unfold nkp; omega), adS (c := 4) (i := 36) (by unfold nkp; omega), adS (c := 14) (i := 0) (by unfold nkp; omega)]
  | 9, i, _, _, _, _ => rfl
  | 10, i, _, _, _, _ => rfl
  | 11, i, _, _, _, h => by
    simp only [enc]
    have e : ∀ j, ad (setG G p b) 4 (4 * i + j) = ad G 4 (4 * i + j) := fun j => adS (by unfold nkp; omega)
    simp only [e]; rfl
  | 12, i, _, _, _, _ => by
    simp only [enc]
    have e : ∀ j, ad (setG G p b) 7 (1 + j) = ad G 7 (1 + j) := fun j => adS (by unfold nkp; omega)
    simp only [e]; rfl
  | 13, i, _, _, _, _ => rfl
  | 14, i, _, _, _, _ => rfl
  | 15, i, _, _, _, _ => rfl
  | 16, i, _, _, _, _ => rfl
  | 17, i, _, _, _, _ => rfl
  | 18, i, _, _, _, _ => rfl
  | 19, i, _, _, _, _ => rfl
  | 20, i, _, _, _, _ => rfl
  | 21, i, _, _, _, _ => rfl
  | c + 22, i, h, _, _, _ => absurd h (by omega)
def gP (p k : Nat) : Nat := if k = 76 + p then 291 else if k = p then 292 else if k = 38 + p then 293 else if k = 114 + 2 * p then 294 else if k = 202 + 2 * p then 295 else if k = 115 + 2 * p then 296 else if k = 203 + 2 * p then 297 else k
theorem gP_c (p k : Nat) : (gP p k = 291 ∧ k = 76 + p) ∨ (gP p k = 292 ∧ k = p) ∨ (gP p k = 293 ∧ k = 38 + p) ∨ (gP p k = 294 ∧ k = 114 + 2 * p) ∨ (gP p k = 295 ∧ k = 202 + 2 * p) ∨ (gP p k = 296 ∧ k = 115 + 2 * p) ∨ (gP p k = 297 ∧ k = 203 + 2 * p) ∨ gP p k = k := by
  unfold gP
  by_cases a1 : k = 76 + p
  · rw [if_pos a1]; exact Or.inl ⟨rfl, a1⟩
  rw [if_neg a1]
  by_cases a2 : k = p
  · rw [if_pos a2]; exact Or.inr (Or.inl ⟨rfl, a2⟩)
  rw [if_neg a2]
  by_cases a3 : k = 38 + p
  · rw [if_pos a3]; exact Or.inr (Or.inr (Or.inl ⟨rfl, a3⟩))
  rw [if_neg a3]
  by_cases a4 : k = 114 + 2 * p
  · rw [if_pos a4]; exact Or.inr (Or.inr (Or.inr (Or.inl ⟨rfl, a4⟩)))
  rw [if_neg a4]
  by_cases a5 : k = 202 + 2 * p
  · rw [if_pos a5]; exact Or.inr (Or.inr (Or.inr (Or.inr (Or.inl ⟨rfl, a5⟩))))
  rw [if_neg a5]
  by_cases a6 : k = 115 + 2 * p
  · rw [if_pos a6]; exact Or.inr (Or.inr (Or.inr (Or.inr (Or.inr (Or.inl ⟨rfl, a6⟩)))))
  rw [if_neg a6]
  by_cases a7 : k = 203 + 2 * p
  · rw [if_pos a7]; exact Or.inr (Or.inr (Or.inr (Or.inr (Or.inr (Or.inr (Or.inl ⟨rfl, a7⟩))))))
  rw [if_neg a7]
  exact Or.inr (Or.inr (Or.inr (Or.inr (Or.inr (Or.inr (Or.inr rfl))))))
theorem gP_inj {k k2 : Nat} (hp : p < 4) (h1 : k < 291) (h2 : k2 < 291) (h : gP p k = gP p k2) : k = k2 := by
  rcases gP_c p k with z | z | z | z | z | z | z | z <;> rcases gP_c p k2 with y | y | y | y | y | y | y | y <;> omega
def newL (G : wG) (p : Nat) (b : Nat → Nat) (hv : HV) (x0 x1 x2 x3 x4 : Int32) : va_W := (wl G hv ++ puW G x0 x1 x2 x3 x4 b).set 279 (ad G 11 0, .inl (G.2.1 3, 4, .inr (.inr (.inr (.inr (va_up (fun j => some (ad G 4 (4 * 0 + j))) p (some (b 0))))))))
theorem nl_len : (newL G p b hv x0 x1 x2 x3 x4).length = 298 := by
  unfold newL
  rw [List.length_set, List.length_append, wl_len]; rfl
theorem nl_new {n : Nat} {y : Nat × va_E} (hn : n < 7) (h : (puW G x0 x1 x2 x3 x4 b)[n]? = some y) : (newL G p b hv x0 x1 x2 x3 x4)[291 + n]? = some y := by
  unfold newL
  rw [List.getElem?_set_ne (by omega), List.getElem?_append_right (by rw [wl_len]; omega), wl_len, Nat.add_sub_cancel_left]; exact h
theorem nl_old {k : Nat} (hk : k < 291) (h : ¬ k = 279) : (newL G p b hv x0 x1 x2 x3 x4)[k]? = some (ad G (kc k) (ki k), enc G (hv (kc k) (ki k)) (kc k) (ki k)) := by
  unfold newL
  rw [List.getElem?_set_ne (by omega), List.getElem?_append_left (by rw [wl_len]; exact hk)]; exact wl_get hk
theorem nl_arr : (newL G p b hv x0 x1 x2 x3 x4)[279]? = some (ad G 11 0, .inl (G.2.1 3, 4, .inr (.inr (.inr (.inr (va_up (fun j => some (ad G 4 (4 * 0 + j))) p (some (b 0)))))))) := by
  unfold newL
  rw [List.getElem?_set_self (by rw [List.length_append, wl_len]; omega)]
theorem w_newg (hp : p < 4) (k : Nat) (y : Nat × va_E) (hk : (wl (setG G p b) (npH hv p x0 x1 x2 x3 x4))[k]? = some y) : (newL G p b hv x0 x1 x2 x3 x4)[gP p k]? = some y := by
  have hk2 : k < 291 := by
    have := (List.getElem?_eq_some_iff.mp hk).1
    rwa [wl_len] at this
  rw [wl_get hk2] at hk
  have hy := Option.some.inj hk
  subst hy
  have ix : ∀ c i, c < 15 → i < cnt c → k = bas c + i → kc k = c ∧ ki k = i := fun c i hc hi e => by
    obtain ⟨z1, z2, _⟩ := k_ix hc hi
    rw [e]; exact ⟨z1, z2⟩
  unfold gP
  by_cases a1 : k = 76 + p
  · obtain ⟨e1, e2⟩ := ix 4 p (by decide) (by show p < 37; omega) a1
    rw [if_pos a1, e1, e2, nl_new (n := 0) (by omega) rfl, adS_4]
    have eh : npH hv p x0 x1 x2 x3 x4 4 p = puN x0 x1 x2 x3 x4 := if_pos ⟨rfl, rfl⟩
    simp only [enc]
    rw [eh, adS_0, adS_2, adS_6, adS_6t]; rfl
  rw [if_neg a1]
  by_cases a2 : k = p
  · obtain ⟨e1, e2⟩ := ix 0 p (by decide) (by show p < 37; omega) (by rw [a2]; show p = 0 + p; omega)
    rw [if_pos a2, e1, e2, nl_new (n := 1) (by omega) rfl, adS_0]
    have eh : npH hv p x0 x1 x2 x3 x4 0 p = chN := by unfold npH; rw [if_neg (by omega), if_pos ⟨rfl, rfl⟩]
    simp only [enc]
    rw [eh]; rfl
  rw [if_neg a2]
  by_cases a3 : k = 38 + p
  · obtain ⟨e1, e2⟩ := ix 2 p (by decide) (by show p < 37; omega) a3
    rw [if_pos a3, e1, e2, nl_new (n := 2) (by omega) rfl, adS_2]
    have eh : npH hv p x0 x1 x2 x3 x4 2 p = (fun _ => 0) := by unfold npH; rw [if_neg (by omega), if_neg (by omega), if_pos ⟨rfl, rfl⟩]
    simp only [enc]
    rw [eh]
  rw [if_neg a3]
  have er : ∀ c i, (c = 6 ∨ c = 10) → (i = 2 * p ∨ i = 2 * p + 1) → npH hv p x0 x1 x2 x3 x4 c i = (fun _ => 0) := fun c i z1 z2 => by
    unfold npH; rw [if_neg (by omega), if_neg (by omega), if_neg (by omega), if_pos ⟨z1, z2⟩]
  by_cases a4 : k = 114 + 2 * p
  · obtain ⟨e1, e2⟩ := ix 6 (2 * p) (by decide) (by show 2 * p < 77; omega) a4
    rw [if_pos a4, e1, e2, nl_new (n := 3) (by omega) rfl, adS_6]
    simp only [enc]
    rw [er 6 _ (Or.inl rfl) (Or.inl rfl), adS_10]
  rw [if_neg a4]
  by_cases a5 : k = 202 + 2 * p
  · obtain ⟨e1, e2⟩ := ix 10 (2 * p) (by decide) (by show 2 * p < 77; omega) a5
    rw [if_pos a5, e1, e2, nl_new (n := 4) (by omega) rfl, adS_10]
    simp only [enc]
    rw [er 10 _ (Or.inr rfl) (Or.inl rfl), rl_i (by omega)]; rfl
  rw [if_neg a5]
  by_cases a6 : k = 115 + 2 * p
  · obtain ⟨e1, e2⟩ := ix 6 (2 * p + 1) (by decide) (by show 2 * p + 1 < 77; omega) (by rw [a6]; show _ = 114 + (2 * p + 1); omega)
    rw [if_pos a6, e1, e2, nl_new (n := 5) (by omega) rfl, adS_6t]
    simp only [enc]
    rw [er 6 _ (Or.inl rfl) (Or.inr rfl), adS_10t]
  rw [if_neg a6]
  by_cases a7 : k = 203 + 2 * p
  · obtain ⟨e1, e2⟩ := ix 10 (2 * p + 1) (by decide) (by show 2 * p + 1 < 77; omega) (by rw [a7]; show _ = 202 + (2 * p + 1); omega)
    rw [if_pos a7, e1, e2, nl_new (n := 6) (by omega) rfl, adS_10t]
    simp only [enc]
    rw [er 10 _ (Or.inr rfl) (Or.inr rfl), rl_t (by omega)]; rfl
  rw [if_neg a7]
  by_cases a8 : k = 279
  · obtain ⟨e1, e2⟩ := ix 11 0 (by decide) (by decide) a8
    rw [e1, e2, a8, nl_arr, adS (by unfold nkp; omega)]
    simp only [enc]
    have ef : va_up (fun j => some (ad G 4 (4 * 0 + j))) p (some (b 0)) = fun j => some (ad (setG G p b) 4 (4 * 0 + j)) := by
      funext j
      unfold va_up
      by_cases c : j = p
      · rw [if_pos c, c, show 4 * 0 + p = p by omega, adS_4]
      · rw [if_neg c, adS (by unfold nkp; omega)]
    rw [ef]; rfl
  · obtain ⟨z1, z2, z3⟩ := k_xi k hk2
    have nn : ¬ nkp p (kc k) (ki k) := fun z => by
      unfold nkp at z
      have hb : bas (kc k) + ki k = k := z3
      rcases z with ⟨y | y | y, y2⟩ | ⟨y | y, y2⟩
      · rw [y, y2] at hb; exact a1 hb.symm
      · rw [y, y2] at hb; exact a2 (by have : 0 + p = k := hb; omega)
      · rw [y, y2] at hb; exact a3 hb.symm
      · rw [y] at hb
        have : 114 + ki k = k := hb
        omega
      · rw [y] at hb
        have : 202 + ki k = k := hb
        omega
    have nz : ¬ (kc k = 11 ∧ ki k = 0) := fun z => by
      rw [z.1, z.2] at z3
      exact a8 z3.symm
    rw [nl_old hk2 a8, adS nn, npH_o nn, encS hp _ _ _ z1 z2 nn nz]
theorem w_newpump (hp : p < 4) (hP : va_P G.1 wcls (newL G p b hv x0 x1 x2 x3 x4) H) (hD : va_D A (newL G p b hv x0 x1 x2 x3 x4)) : wd (setG G p b) A (npH hv p x0 x1 x2 x3 x4) H :=
  ⟨hP.by (gP p) (w_newg hp), hD.by (gP p) (w_newg hp) (fun i j hi hj h => by rw [wl_len] at hi hj; exact gP_inj hp hi hj h)⟩
end NP

