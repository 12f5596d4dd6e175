/-! PURE: the numbers alone. -/
theorem br_if {c A B : Prop} [Decidable c] : ((c → A) ∧ (¬ c → B)) ↔ (if c then A else B) := by by_cases h : c <;> simp [h]
theorem ite_app {α : Type} {c : Prop} [Decidable c] (P : α → Prop) (a b : α) : (if c then P a else P b) ↔ P (if c then a else b) := by by_cases h : c <;> simp [h]
theorem upd_r (f : Nat → Int32) (i : Nat) (v : Int32) (j : Nat) : upd f i v j = if j = i then v else f j := rfl
theorem upd_s (f : Nat → Int32) (i : Nat) (v : Int32) : upd f i v i = v := if_pos rfl
theorem upd_n (f : Nat → Int32) {i j : Nat} (v : Int32) (h : ¬ j = i) : upd f i v j = f j := if_neg h
/-- a state of the reference: where its now, its fields and the incidents are put anew -/
def mkR (hv : HV) (N m kd pu ti : Nat → Int32) : HV := fun c i => if i = 0 then (if c = 15 then N else if c = 9 then m else if c = 17 then kd else if c = 18 then pu else if c = 19 then ti else hv c i) else hv c i
section MKR
variable (hv : HV) (N m kd pu ti X : Nat → Int32)
theorem mkR_15 : mkR hv N m kd pu ti 15 0 = N := rfl
theorem mkR_9 : mkR hv N m kd pu ti 9 0 = m := rfl
theorem mkR_17 : mkR hv N m kd pu ti 17 0 = kd := rfl
theorem mkR_18 : mkR hv N m kd pu ti 18 0 = pu := rfl
theorem mkR_19 : mkR hv N m kd pu ti 19 0 = ti := rfl
theorem mkR_20 : mkR hv N m kd pu ti 20 0 = hv 20 0 := rfl
theorem mkR_16 : mkR hv N m kd pu ti 16 0 = hv 16 0 := rfl
theorem mkR_21 : mkR hv N m kd pu ti 21 0 = hv 21 0 := rfl
theorem mkR_o {c : Nat} (i : Nat) (h1 : ¬ c = 15) (h2 : ¬ c = 9) (h3 : ¬ c = 17) (h4 : ¬ c = 18) (h5 : ¬ c = 19) : mkR hv N m kd pu ti c i = hv c i := by unfold mkR; simp [h1, h2, h3, h4, h5]
theorem mkR_id : mkR hv (hv 15 0) (hv 9 0) (hv 17 0) (hv 18 0) (hv 19 0) = hv := by
  funext c i
  unfold mkR
  by_cases hi : i = 0
  · subst hi
    by_cases h1 : c = 15
    · subst h1; rfl
    by_cases h2 : c = 9
    · subst h2; rfl
    by_cases h3 : c = 17
    · subst h3; rfl
    by_cases h4 : c = 18
    · subst h4; rfl
    by_cases h5 : c = 19
    · subst h5; rfl
    simp [h1, h2, h3, h4, h5]
  · simp [hi]
theorem mkR_w15 : up (mkR hv N m kd pu ti) 15 0 X = mkR hv X m kd pu ti := by
  funext c i; unfold mkR up; by_cases hi : i = 0 <;> by_cases h : c = 15 <;> simp [hi, h]
theorem mkR_w9 : up (mkR hv N m kd pu ti) 9 0 X = mkR hv N X kd pu ti := by
  funext c i; unfold mkR up; by_cases hi : i = 0 <;> by_cases h : c = 9 <;> simp [hi, h]
theorem mkR_w17 : up (mkR hv N m kd pu ti) 17 0 X = mkR hv N m X pu ti := by
  funext c i; unfold mkR up; by_cases hi : i = 0 <;> by_cases h : c = 17 <;> simp [hi, h]
theorem mkR_w18 : up (mkR hv N m kd pu ti) 18 0 X = mkR hv N m kd X ti := by
  funext c i; unfold mkR up; by_cases hi : i = 0 <;> by_cases h : c = 18 <;> simp [hi, h]
theorem mkR_w19 : up (mkR hv N m kd pu ti) 19 0 X = mkR hv N m kd pu X := by
  funext c i; unfold mkR up; by_cases hi : i = 0 <;> by_cases h : c = 19 <;> simp [hi, h]
end MKR
/-- the 73 numbers f at the place k of a row N -/
def putW (N : Nat → Int32) (k : Nat) (f : Nat → Int32) : Nat → Int32 := fun j => if k ≤ j ∧ j < k + 73 then f (j - k) else N j
theorem pw_r (N : Nat → Int32) (k : Nat) (f : Nat → Int32) (j : Nat) (h : j < 73) : putW N k f (k + j) = f j := by
  unfold putW
  rw [if_pos ⟨by omega, by omega⟩, Nat.add_sub_cancel_left]
theorem pw_r0 (N : Nat → Int32) (k : Nat) (f : Nat → Int32) : putW N k f k = f 0 := pw_r N k f 0 (by omega)
theorem pw_w (N : Nat → Int32) (k : Nat) (f : Nat → Int32) (j : Nat) (v : Int32) (h : j < 73) : upd (putW N k f) (k + j) v = putW N k (upd f j v) := by
  funext q
  by_cases e : q = k + j
  · subst e
    rw [upd_s, pw_r _ _ _ _ h, upd_s]
  · rw [upd_n _ _ e]
    unfold putW
    by_cases z : k ≤ q ∧ q < k + 73
    · rw [if_pos z, if_pos z, upd_n _ _ (by omega)]
    · rw [if_neg z, if_neg z]
theorem pw_lo (N : Nat → Int32) (k : Nat) (f : Nat → Int32) (j : Nat) (h : j < k) : putW N k f j = N j := if_neg (by omega)
theorem pw_wlo (N : Nat → Int32) (k : Nat) (f : Nat → Int32) (j : Nat) (v : Int32) (h : j < k) : upd (putW N k f) j v = putW (upd N j v) k f := by
  funext q
  by_cases e : q = j
  · subst e
    rw [upd_s, pw_lo _ _ _ _ h, upd_s]
  · rw [upd_n _ _ e]
    unfold putW
    by_cases z : k ≤ q ∧ q < k + 73
    · rw [if_pos z, if_pos z]
    · rw [if_neg z, if_neg z, upd_n _ _ e]
theorem pw_id (N : Nat → Int32) (k : Nat) : putW N k (fun j => N (k + j)) = N := by
  funext q
  unfold putW
  by_cases z : k ≤ q ∧ q < k + 73
  · rw [if_pos z]; show N (k + (q - k)) = N q; rw [Nat.add_sub_cancel' z.1]
  · rw [if_neg z]
/-! A pump's tick on its 73 numbers, in the reference's order. st: at the station (not in a trial); t: the time. -/
def openF (f : Nat → Int32) : Nat → Int32 := upd (upd (upd f 6 0) 7 0) 8 0
def headF (f : Nat → Int32) : Int32 := if 0 ≤ 100 * f 14 / (f 11 - f 13) - 100 then 100 * f 14 / (f 11 - f 13) - 100 else 0
def slamV (f : Nat → Int32) : Int32 := if f 9 = 0 then f 6 else if f 9 = 1 then f 6 * f 6 / 100 else f 8
abbrev slamsF (f : Nat → Int32) : Prop := ¬ slamV f < f 10
def shiftF (f : Nat → Int32) (a n : Nat) : Nat → Int32 := fun j => if a < j ∧ j < a + n then f (j - 1) else f j
def ivF (t : Int32) (f : Nat → Int32) : Nat → Int32 :=
  upd (upd (upd (shiftF f 24 16) 24 (t - f 22)) 22 t) 23 (f 23 + (if 16 ≤ f 23 then 0 else 1))
def byteF (s : Int32) : Int32 := if s - s / 256 * 256 ≤ 127 then s - s / 256 * 256 else s - s / 256 * 256 - 256
def trF (f : Nat → Int32) : Nat → Int32 := upd (upd (shiftF f 41 32) 41 (byteF (f 6))) 40 (f 40 + (if 32 ≤ f 40 then 0 else 1))
def airF (f : Nat → Int32) : Int32 := if f 12 = 1 then (if f 14 + 2 ≤ f 11 then f 14 + 2 else f 11) else (if f 11 / 10 ≤ f 14 - 1 then f 14 - 1 else f 11 / 10)
/-- the air is gone at this slam -/
abbrev goneF (f : Nat → Int32) : Prop := airF f = f 11 / 10 ∧ ¬ f 14 ≤ f 11 / 10
def slamF (st : Bool) (t : Int32) (f : Nat → Int32) : Nat → Int32 :=
  upd (if st = true then ivF t (upd (upd f 7 1) 16 (f 16 + 1)) else upd (upd f 7 1) 16 (f 16 + 1)) 14 (airF f)
def spdF (f : Nat → Int32) : Int32 := f 6 + 100 * f 0 / f 1 - f 3 * f 6 * f 6 / 100000
def clampF (v : Int32) : Int32 := if 0 ≤ v then (if v ≤ 2000 then v else 2000) else 0
def gain1F (f : Nat → Int32) (w : Int32) : Nat → Int32 := upd (upd (upd f 17 (f 17 + w)) 6 (clampF (spdF f))) 8 (f 8 + 1)
def roomF (f : Nat → Int32) : Int32 := f 11 - f 11 / 10 - f 13
def takeF (f : Nat → Int32) (w : Int32) : Int32 := if roomF f ≤ w then roomF f else w
def push1F (f : Nat → Int32) (w : Int32) : Nat → Int32 := upd (upd f 13 (f 13 + takeF f w)) 18 (f 18 + (w - takeF f w))
def overF (f : Nat → Int32) : Int32 := if 0 ≤ headF f - f 0 then headF f - f 0 else 0
def push2F (f : Nat → Int32) : Nat → Int32 := if 1 ≤ f 6 - (1 + 100 * overF f / f 1) then upd f 6 (f 6 - (1 + 100 * overF f / f 1)) else openF f
def mostF (f : Nat → Int32) : Int32 := 1 + (headF f - f 4) / 10
def litF (f : Nat → Int32) : Int32 := if 0 < headF f - f 4 then (if mostF f ≤ f 13 then mostF f else f 13) else 0
def del1F (f : Nat → Int32) : Nat → Int32 := upd (upd (upd f 13 (f 13 - litF f)) 19 (f 19 + litF f)) 15 (f 15 + litF f)
def delF (f : Nat → Int32) : Nat → Int32 := if 0 < headF f - f 4 then (if f 15 + litF f ≤ 30000 then del1F f else upd (upd (del1F f) 20 (f 20 + (f 15 + litF f - 30000))) 15 30000) else f
/-- the tank runs over -/
abbrev overTF (f : Nat → Int32) : Prop := 0 < headF f - f 4 ∧ ¬ f 15 + litF f ≤ 30000
def flowF (f : Nat → Int32) : Int32 := f 2 * f 6 / 10
-- incidents by their kind, 0: none
def plI (m : Nat → Int32) : Nat := (m 6).toNatClampNeg % 20
def iM (kind : Int32) (m : Nat → Int32) : Nat → Int32 := if kind = 0 then m else upd m 6 (m 6 + 1)
def iK (kind : Int32) (m r : Nat → Int32) (v : Int32) : Nat → Int32 := if kind = 0 then r else upd r (plI m) v
def gainF (st : Bool) (t : Int32) (f : Nat → Int32) (w : Int32) : Nat → Int32 := if slamsF (gain1F f w) then slamF st t (gain1F f w) else gain1F f w
def gainI (st : Bool) (f : Nat → Int32) (w : Int32) : Int32 := if slamsF (gain1F f w) ∧ st = true ∧ goneF (gain1F f w) then 4 else 0
def pushF (f : Nat → Int32) (w : Int32) : Nat → Int32 := push2F (push1F f w)
def pushI (st : Bool) (f : Nat → Int32) (w : Int32) : Int32 := if st = true ∧ ¬ w ≤ takeF f w then 2 else 0
def delI (st : Bool) (f : Nat → Int32) : Int32 := if st = true ∧ overTF f then 3 else 0
def starveF (st : Bool) (b : Int32) (f : Nat → Int32) : Prop := st = true ∧ ¬ flowF f ≤ b
def midF (st : Bool) (t : Int32) (f : Nat → Int32) : Nat → Int32 := if f 7 = 0 then gainF st t f (flowF f) else pushF f (flowF f)
def midI (st : Bool) (f : Nat → Int32) : Int32 := if f 7 = 0 then gainI st f (flowF f) else pushI st f (flowF f)
def mS (f : Nat → Int32) (m : Nat → Int32) : Nat → Int32 := if f 7 = 0 ∧ slamsF (gain1F f (flowF f)) then upd m 7 1 else m
-- a tick at the station: b the basin's water
def st1F (t b : Int32) (f : Nat → Int32) : Nat → Int32 := if flowF f ≤ b then midF true t f else upd (openF f) 21 (f 21 + 1)
def st1I (b : Int32) (f : Nat → Int32) : Int32 := if flowF f ≤ b then midI true f else 1
def tickF (t b : Int32) (f : Nat → Int32) : Nat → Int32 := trF (delF (st1F t b f))
def basF (b : Int32) (f : Nat → Int32) : Int32 := if flowF f ≤ b then b - flowF f else b
-- the reference's own fields behind it
def st1M (b : Int32) (f m : Nat → Int32) : Nat → Int32 := if flowF f ≤ b then mS f (upd m 8 (m 8 + flowF f)) else m
def tkM (t b : Int32) (f m : Nat → Int32) : Nat → Int32 := upd (iM (st1I b f) (st1M b f m)) 9 ((iM (st1I b f) (st1M b f m)) 9 + litF (st1F t b f))
def tkK (t b : Int32) (f m r : Nat → Int32) (v w : Int32) : Nat → Int32 := iK (delI true (st1F t b f)) (tkM t b f m) (iK (st1I b f) (st1M b f m) r v) w
-- a tick in a trial
def trialF (f : Nat → Int32) : Nat → Int32 := delF (midF false 0 f)
def trialM (f m : Nat → Int32) : Nat → Int32 := upd (mS f (upd m 8 (m 8 + flowF f))) 9 ((mS f (upd m 8 (m 8 + flowF f))) 9 + litF (midF false 0 f))

