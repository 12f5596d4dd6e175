/-! The world behind the two constructors, as the world of all cells; the first relation. -/
def stB (s : Nat) : Nat := if s = 0 then 1 else 5 + s
def pq (q j : Nat) : Nat × Nat × Nat := if q = 36 then (5, 0, j) else (stB (q / 4), q % 4 + 1, j)
def cod (c i : Nat) : Nat × Nat × Nat := match c with
  | 0 => pq i 1 | 1 => (2, 0, 0) | 2 => pq i 2 | 3 => (3, 0, 0) | 4 => pq i 0 | 5 => (4, 0, 0)
  | 6 => if i < 74 then pq (i / 2) (3 + 2 * (i % 2)) else (3, 0, 1 + 2 * (i - 74))
  | 7 => (stB i, 0, 0) | 8 => (0, 0, 0) | 9 => (100, 0, 0)
  | 10 => if i < 74 then pq (i / 2) (4 + 2 * (i % 2)) else (3, 0, 2 + 2 * (i - 74))
  | 11 => (stB i, 0, 1) | 12 => (0, 0, 1) | 13 => (2, 0, 1) | 14 => (0, 0, 2) | c => (100, 0, c - 14)
def dkP (q z : Nat) : Nat := if z = 0 then 76 + q else if z = 1 then q else if z = 2 then 38 + q else if z = 3 then 114 + 2 * q else if z = 4 then 202 + 2 * q else if z = 5 then 115 + 2 * q else 203 + 2 * q
def dk (t : Nat × Nat × Nat) : Nat :=
  if t.1 = 100 then (if t.2.2 = 0 then 201 else 290 + t.2.2)
  else if t.1 = 0 then (if t.2.2 = 0 then 200 else if t.2.2 = 1 then 288 else 290)
  else if t.1 = 2 then (if t.2.2 = 0 then 37 else 289)
  else if t.1 = 3 then (if t.2.2 = 0 then 75 else if t.2.2 % 2 = 1 then 188 + (t.2.2 - 1) / 2 else 276 + (t.2.2 - 2) / 2)
  else if t.1 = 4 then 113
  else if t.1 = 5 then dkP 36 t.2.2
  else if t.2.1 = 0 then (if t.2.2 = 0 then 191 + (if t.1 = 1 then 0 else t.1 - 5) else 279 + (if t.1 = 1 then 0 else t.1 - 5))
  else dkP (4 * (if t.1 = 1 then 0 else t.1 - 5) + (t.2.1 - 1)) t.2.2
theorem dk_cod : ∀ k, k < 291 → dk (cod (kc k) (ki k)) = k := by decide +kernel
def cdS : List (Nat × Nat) := [(0, 0), (0, 1), (1, 0), (1, 1), (1, 2), (1, 3), (1, 4), (1, 5), (1, 6), (2, 0), (2, 1), (2, 2), (2, 3), (2, 4), (2, 5), (2, 6), (3, 0), (3, 1), (3, 2), (3, 3), (3, 4), (3, 5), (3, 6), (4, 0), (4, 1), (4, 2), (4, 3), (4, 4), (4, 5), (4, 6)]
def cdT (x : Nat) : List (Nat × Nat × Nat) := cdS.map (fun t => (x, t.1, t.2))
def cd7 (x : Nat) : List (Nat × Nat × Nat) := [(x, 0, 0), (x, 0, 1), (x, 0, 2), (x, 0, 3), (x, 0, 4), (x, 0, 5), (x, 0, 6)]
def cdA : List (Nat × Nat × Nat) := [(0, 0, 0), (0, 0, 1), (0, 0, 2)] ++ (cdT 1 ++ ([(2, 0, 0), (2, 0, 1)] ++ (cd7 3 ++ ([(4, 0, 0)] ++ (cd7 5 ++ (cdT 6 ++ (cdT 7 ++ (cdT 8 ++ (cdT 9 ++ (cdT 10 ++ (cdT 11 ++ (cdT 12 ++ cdT 13))))))))))))
def cdM : List (Nat × Nat × Nat) := [(100, 0, 0)]
theorem cod_mem : ∀ k, k < 291 → cod (kc k) (ki k) ∈ cdA ++ cdM := by decide +kernel
theorem cdA_n : ∀ t ∈ cdA, ¬ t.1 = 100 := by decide +kernel
def ab (a b : AD3) (t : Nat × Nat × Nat) : Nat := if t.1 = 100 then b 0 0 t.2.2 else a t.1 t.2.1 t.2.2
section BG
variable {G : wG} {a b : AD3} {A : Nat → Prop} {H : Heap}
theorem ab_a {x y z : Nat} (h : ¬ x = 100) : ab a b (x, y, z) = a x y z := if_neg h
theorem ab_b {y z : Nat} : ab a b (100, y, z) = b 0 0 z := if_pos rfl
def aT (a : AD3) (t : Nat × Nat × Nat) : Nat := a t.1 t.2.1 t.2.2
theorem st_fst (x : Nat) : (stW G (a x)).map Prod.fst = (cdT x).map (aT a) := rfl
theorem sa_fst : (saW G a).map Prod.fst = cdA.map (aT a) := by
  unfold saW cdA
  simp only [List.map_append, st_fst]
  rfl
theorem ab_fst : (saW G a ++ moW G (b 0 0)).map Prod.fst = (cdA ++ cdM).map (ab a b) := by
  have e1 : cdA.map (aT a) = cdA.map (ab a b) := List.map_congr_left (fun t ht => (if_neg (cdA_n t ht)).symm)
  have e2 : (moW G (b 0 0)).map Prod.fst = cdM.map (ab a b) := rfl
  rw [List.map_append, List.map_append, sa_fst, e1, e2]
theorem ab_at {t : Nat × Nat × Nat} (h : t ∈ cdA ++ cdM) : ∃ (i : Nat) (e : va_E), (saW G a ++ moW G (b 0 0))[i]? = some (ab a b t, e) ∧ (cdA ++ cdM)[i]? = some t := by
  obtain ⟨i, hi⟩ := List.getElem?_of_mem h
  have z : ((saW G a ++ moW G (b 0 0)).map Prod.fst)[i]? = some (ab a b t) := by rw [ab_fst, List.getElem?_map, hi]; rfl
  rw [List.getElem?_map] at z
  cases hw : (saW G a ++ moW G (b 0 0))[i]? with
  | none => rw [hw] at z; cases z
  | some y =>
    rw [hw] at z
    have e1 : y.1 = ab a b t := Option.some.inj z
    exact ⟨i, y.2, by rw [← e1]; exact hw, hi⟩
/-- the addresses of all cells -/
def bgG (G : wG) (a b : AD3) : wG := (G.1, G.2.1, fun c i => ab a b (cod c i))
def hvB : HV := fun c _ => match c with
  | 0 => chN | 4 => puN 0 1 0 0 0 | 7 => (fun k => match k with | 1 => 5000 | 3 => 100 | _ => 0)
  | 8 => (fun k => match k with | 5 => -1005 | _ => 0) | _ => (fun _ => 0)
theorem bg_D (hD : va_D A (saW G a ++ moW G (b 0 0))) : va_D A (wl (bgG G a b) hvB) := by
  have at' : ∀ (k : Nat) (y : Nat × va_E), (wl (bgG G a b) hvB)[k]? = some y → k < 291 ∧ y.1 = ab a b (cod (kc k) (ki k)) := fun k y hk => by
    have hk2 : k < 291 := by
      have := (List.getElem?_eq_some_iff.mp hk).1
      rwa [wl_len] at this
    rw [wl_get hk2] at hk
    have e := Option.some.inj hk
    exact ⟨hk2, by rw [← e]; rfl⟩
  refine ⟨fun i j x y hi hj hxy => ?_, fun k y hk => ?_⟩
  · obtain ⟨i1, i2⟩ := at' i x hi
    obtain ⟨j1, j2⟩ := at' j y hj
    obtain ⟨n, e, n1, n2⟩ := ab_at (G := G) (a := a) (b := b) (cod_mem i i1)
    obtain ⟨n', e', n1', n2'⟩ := ab_at (G := G) (a := a) (b := b) (cod_mem j j1)
    have z := hD.1 n n' _ _ n1 n1' (by show ab a b _ = ab a b _; rw [← i2, ← j2]; exact hxy)
    subst z
    have z2 := Option.some.inj (n2.symm.trans n2')
    rw [← dk_cod i i1, ← dk_cod j j1, z2]
  · obtain ⟨k1, k2⟩ := at' k y hk
    obtain ⟨n, e, n1, _⟩ := ab_at (G := G) (a := a) (b := b) (cod_mem k k1)
    rw [k2]
    exact hD.2 n _ n1
theorem P_l {D : va_G} {cl : List vw_C} {x y : va_W} (h : va_P D cl (x ++ y) H) : va_P D cl x H := fun k q hk => h k q (by rw [List.getElem?_append_left (List.getElem?_eq_some_iff.mp hk).1]; exact hk)
theorem P_r {D : va_G} {cl : List vw_C} {x y : va_W} (h : va_P D cl (x ++ y) H) : va_P D cl y H := fun k q hk => h (x.length + k) q (by rw [List.getElem?_append_right (Nat.le_add_right _ _), Nat.add_sub_cancel_left]; exact hk)
theorem at_cg {D : va_G} {cl : List vw_C} {q : Nat} {cA : ClassId} {n : Nat} {f g : Nat → Option Nat} (hP : va_at D cl (q, .inl (cA, n, .inr (.inr (.inr (.inr f))))) H) (h : ∀ j, j < n → f j = g j) : va_at D cl (q, .inl (cA, n, .inr (.inr (.inr (.inr g))))) H := by
  unfold va_at at hP ⊢
  dsimp only at hP ⊢
  rw [← cell_cg h]
  exact hP
def uq (a : AD3) (q : Nat) : Nat → Nat := if q = 36 then a 5 0 else a (stB (q / 4)) (q % 4 + 1)
theorem stB_n {s : Nat} (h : s < 9) : ¬ stB s = 100 := by unfold stB; by_cases c : s = 0 <;> simp [c]; omega
theorem ab_pq {q : Nat} (hq : q < 37) (j : Nat) : ab a b (pq q j) = uq a q j := by
  unfold pq uq
  by_cases c : q = 36
  · rw [if_pos c, if_pos c]; exact ab_a (by omega)
  · rw [if_neg c, if_neg c]; exact ab_a (stB_n (by omega))
theorem sa_st (hP : va_P G.1 wcls (saW G a) H) : ∀ s, s < 9 → va_P G.1 wcls (stW G (a (stB s))) H
  | 0, _ => P_l (P_r hP)
  | 1, _ => P_l (P_r (P_r (P_r (P_r (P_r (P_r hP))))))
  | 2, _ => P_l (P_r (P_r (P_r (P_r (P_r (P_r (P_r hP)))))))
  | 3, _ => P_l (P_r (P_r (P_r (P_r (P_r (P_r (P_r (P_r hP))))))))
  | 4, _ => P_l (P_r (P_r (P_r (P_r (P_r (P_r (P_r (P_r (P_r hP)))))))))
  | 5, _ => P_l (P_r (P_r (P_r (P_r (P_r (P_r (P_r (P_r (P_r (P_r hP))))))))))
  | 6, _ => P_l (P_r (P_r (P_r (P_r (P_r (P_r (P_r (P_r (P_r (P_r (P_r hP)))))))))))
  | 7, _ => P_l (P_r (P_r (P_r (P_r (P_r (P_r (P_r (P_r (P_r (P_r (P_r (P_r hP))))))))))))
  | 8, _ => P_r (P_r (P_r (P_r (P_r (P_r (P_r (P_r (P_r (P_r (P_r (P_r (P_r hP))))))))))))
  | s + 9, h => absurd h (by omega)
theorem st_pu {u : Nat → Nat → Nat} (hP : va_P G.1 wcls (stW G u) H) : ∀ p, p < 4 → va_P G.1 wcls (puW G 0 1 0 0 0 (u (p + 1))) H
  | 0, _ => P_l (P_r hP)
  | 1, _ => P_l (P_r (P_r hP))
  | 2, _ => P_l (P_r (P_r (P_r hP)))
  | 3, _ => P_r (P_r (P_r (P_r hP)))
  | p + 4, h => absurd h (by omega)
theorem sa_pu (hP : va_P G.1 wcls (saW G a) H) {q : Nat} (hq : q < 37) : va_P G.1 wcls (puW G 0 1 0 0 0 (uq a q)) H := by
  unfold uq
  by_cases c : q = 36
  · rw [if_pos c]; exact P_l (P_r (P_r (P_r (P_r (P_r hP)))))
  · rw [if_neg c]; exact st_pu (sa_st hP (q / 4) (by omega)) (q % 4) (by omega)
theorem sa_te (hP : va_P G.1 wcls (saW G a) H) : va_P G.1 wcls (teW G (a 2 0)) H := P_l (P_r (P_r hP))
theorem sa_lo (hP : va_P G.1 wcls (saW G a) H) : va_P G.1 wcls (loW G (a 3 0)) H := P_l (P_r (P_r (P_r hP)))
theorem sa_re (hP : va_P G.1 wcls (saW G a) H) : va_P G.1 wcls (reW (a 4 0)) H := P_l (P_r (P_r (P_r (P_r hP))))
theorem bg_ad (c i : Nat) : ad (bgG G a b) c i = ab a b (cod c i) := rfl
theorem bg_6 {q : Nat} (hq : q < 37) : ad (bgG G a b) 6 (2 * q) = uq a q 3 := by
  rw [bg_ad]
  show ab a b (if 2 * q < 74 then pq (2 * q / 2) (3 + 2 * (2 * q % 2)) else _) = _
  rw [if_pos (by omega), show 2 * q / 2 = q by omega, show 3 + 2 * (2 * q % 2) = 3 by omega, ab_pq hq]
theorem bg_6t {q : Nat} (hq : q < 37) : ad (bgG G a b) 6 (2 * q + 1) = uq a q 5 := by
  rw [bg_ad]
  show ab a b (if 2 * q + 1 < 74 then pq ((2 * q + 1) / 2) (3 + 2 * ((2 * q + 1) % 2)) else _) = _
  rw [if_pos (by omega), show (2 * q + 1) / 2 = q by omega, show 3 + 2 * ((2 * q + 1) % 2) = 5 by omega, ab_pq hq]
theorem bg_10 {q : Nat} (hq : q < 37) : ad (bgG G a b) 10 (2 * q) = uq a q 4 := by
  rw [bg_ad]
  show ab a b (if 2 * q < 74 then pq (2 * q / 2) (4 + 2 * (2 * q % 2)) else _) = _
  rw [if_pos (by omega), show 2 * q / 2 = q by omega, show 4 + 2 * (2 * q % 2) = 4 by omega, ab_pq hq]
theorem bg_10t {q : Nat} (hq : q < 37) : ad (bgG G a b) 10 (2 * q + 1) = uq a q 6 := by
  rw [bg_ad]
  show ab a b (if 2 * q + 1 < 74 then pq ((2 * q + 1) / 2) (4 + 2 * ((2 * q + 1) % 2)) else _) = _
  rw [if_pos (by omega), show (2 * q + 1) / 2 = q by omega, show 4 + 2 * ((2 * q + 1) % 2) = 6 by omega, ab_pq hq]
theorem bg_p {q : Nat} (hq : q < 37) : ad (bgG G a b) 4 q = uq a q 0 ∧ ad (bgG G a b) 0 q = uq a q 1 ∧ ad (bgG G a b) 2 q = uq a q 2 := ⟨ab_pq hq 0, ab_pq hq 1, ab_pq hq 2⟩
theorem lg_0 : lgv (fun _ => 0) = fun _ => 0 := by
  have e : mkL 0 0 = 0 := by decide +kernel
  funext j
  exact e
theorem bg_at (hP : va_P G.1 wcls (saW G a ++ moW G (b 0 0)) H) : ∀ (c i : Nat), c < 15 → i < cnt c → va_at G.1 wcls (ad (bgG G a b) c i, enc (bgG G a b) (hvB c i) c i) H
  | 0, i, _, hi => by
    rw [(bg_p hi).2.1]; exact sa_pu (P_l hP) hi 1 _ rfl
  | 1, 0, _, _ => by
    simp only [enc]; rw [bg_ad, bg_ad]; exact sa_te (P_l hP) 0 _ rfl
  | 2, i, _, hi => by
    rw [(bg_p hi).2.2]; exact sa_pu (P_l hP) hi 2 _ rfl
  | 3, 0, _, _ => by
    simp only [enc]; rw [bg_ad, bg_ad, bg_ad, bg_ad]; exact sa_lo (P_l hP) 0 _ rfl
  | 4, i, _, hi => by
    simp only [enc]
    rw [(bg_p hi).1, (bg_p hi).2.1, (bg_p hi).2.2, bg_6 hi, bg_6t hi]; exact sa_pu (P_l hP) hi 0 _ rfl
  | 5, 0, _, _ => sa_re (P_l hP) 0 _ rfl
  | 6, i, _, hi => by
    simp only [enc]
    by_cases c : i < 74
    · rcases (by omega : i = 2 * (i / 2) ∨ i = 2 * (i / 2) + 1) with e | e
      · generalize i / 2 = q at e
        subst e
        rw [bg_6 (by omega), bg_10 (by omega)]; exact sa_pu (P_l hP) (by omega) 3 _ rfl
      · generalize i / 2 = q at e
        subst e
        rw [bg_6t (by omega), bg_10t (by omega)]; exact sa_pu (P_l hP) (by omega) 5 _ rfl
    · have hi2 : i < 77 := hi
      rcases (by omega : i = 74 ∨ i = 75 ∨ i = 76) with e | e | e
      · subst e; exact sa_lo (P_l hP) 1 _ rfl
      · subst e; exact sa_lo (P_l hP) 3 _ rfl
      · subst e; exact sa_lo (P_l hP) 5 _ rfl
  | 7, i, _, hi => by
    have hi2 : i < 9 := hi
    have e1 : ad (bgG G a b) 7 i = a (stB i) 0 0 := ab_a (stB_n hi2)
    have e2 : ad (bgG G a b) 11 i = a (stB i) 0 1 := ab_a (stB_n hi2)
    simp only [enc]
    rw [e1, e2]; exact sa_st (P_l hP) i hi2 0 _ rfl
  | 8, 0, _, _ => by
    have e4 : ad (bgG G a b) 4 36 = a 5 0 0 := rfl
    simp only [enc]
    exact P_l hP 0 _ rfl
  | 9, 0, _, _ => by
    simp only [enc]
    exact P_r hP 0 _ rfl
  | 10, i, _, hi => by
    by_cases c : i < 74
    · rcases (by omega : i = 2 * (i / 2) ∨ i = 2 * (i / 2) + 1) with e | e
      · generalize i / 2 = q at e
        subst e
        simp only [enc]
        rw [bg_10 (by omega), rl_i (by omega)]; exact sa_pu (P_l hP) (by omega) 4 _ rfl
      · generalize i / 2 = q at e
        subst e
        simp only [enc]
        rw [bg_10t (by omega), rl_t (by omega)]; exact sa_pu (P_l hP) (by omega) 6 _ rfl
    · have hi2 : i < 77 := hi
      rcases (by omega : i = 74 ∨ i = 75 ∨ i = 76) with e | e | e
      · subst e; exact sa_lo (P_l hP) 2 _ rfl
      · subst e; exact sa_lo (P_l hP) 4 _ rfl
      · subst e; exact sa_lo (P_l hP) 6 _ rfl
  | 11, i, _, hi => by
    have hi2 : i < 9 := hi
    have e2 : ad (bgG G a b) 11 i = a (stB i) 0 1 := ab_a (stB_n hi2)
    simp only [enc]
    rw [e2]
    refine at_cg (f := fun j => some (a (stB i) (j + 1) 0)) (sa_st (P_l hP) i hi2 1 _ rfl) (fun j hj => ?_)
    have e3 : ad (bgG G a b) 4 (4 * i + j) = uq a (4 * i + j) 0 := (bg_p (by omega)).1
    rw [e3]
    unfold uq
    rw [if_neg (by omega), show (4 * i + j) / 4 = i by omega, show (4 * i + j) % 4 = j by omega]
  | 12, 0, _, _ => by
    simp only [enc]
    refine at_cg (f := fun j => some (a (6 + j) 0 0)) (P_l hP 1 _ rfl) (fun j hj => ?_)
    have e1 : ad (bgG G a b) 7 (1 + j) = a (stB (1 + j)) 0 0 := ab_a (stB_n (by omega))
    rw [e1]
    unfold stB
    rw [if_neg (by omega), show 5 + (1 + j) = 6 + j by omega]
  | 13, 0, _, _ => sa_te (P_l hP) 1 _ rfl
  | 14, 0, _, _ => by
    simp only [enc]
    rw [show hvB 14 0 = fun _ => 0 from rfl, lg_0]; exact P_l hP 2 _ rfl
  | 1, i + 1, _, h | 3, i + 1, _, h | 5, i + 1, _, h | 8, i + 1, _, h | 9, i + 1, _, h | 12, i + 1, _, h | 13, i + 1, _, h | 14, i + 1, _, h => absurd (show i + 1 < 1 from h) (by omega)
  | c + 15, i, h, _ => absurd h (by omega)
theorem bg_wd (hP : va_P G.1 wcls (saW G a ++ moW G (b 0 0)) H) (hD : va_D A (saW G a ++ moW G (b 0 0))) : wd (bgG G a b) A hvB H := by
  refine ⟨fun k y hk => ?_, bg_D hD⟩
  have hk2 : k < 291 := by
    have := (List.getElem?_eq_some_iff.mp hk).1
    rwa [wl_len] at this
  rw [wl_get hk2] at hk
  have e := Option.some.inj hk
  obtain ⟨z1, z2, _⟩ := k_xi k hk2
  rw [← e]
  exact bg_at hP (kc k) (ki k) z1 z2
end BG
def K00 : KS := ((0, (fun _ => 0), (fun _ => 0), (fun _ => 0)), (0, fun _ _ => 0), (0, fun _ => 0), -1005)

