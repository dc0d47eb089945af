/-! the model's cells: one object, 21 arrays behind it, the post -/
def nM (k : Nat) : Nat := match k with
  | 1 => 200
  | 2 => 600
  | 3 => 200
  | 4 => 200
  | 5 => 1600
  | 6 => 200
  | 7 => 200
  | 8 => 200
  | 9 => 200
  | 10 => 6
  | 11 => 1200
  | 12 => 1200
  | 13 => 18
  | 14 => 18
  | 15 => 6
  | 16 => 6
  | 17 => 18
  | 18 => 48
  | 19 => 6
  | 20 => 48
  | 21 => 6
  | _ => 0
def tM (k : Nat) : Nat := if k = 8 then 1 else 0
def oM (m many wt pa : Nat) : List Value := [.int (nI many), .ref (m + 1), .ref (m + 2), .ref (m + 3), .ref (m + 4), .ref (m + 5), .ref (m + 6), .ref (m + 7), .ref (m + 8), .ref (m + 9), .ref (m + 10), .ref (m + 11), .ref (m + 12), .ref (m + 13), .ref (m + 14), .ref (m + 15), .ref (m + 16), .ref (m + 17), .ref (m + 18), .ref (m + 19), .ref (m + 20), .ref (m + 21), .int (nI wt), .ref pa]
def RepM (g : Nat → Option aE) (h : aH) (m many wt pa pl : Nat) (A : Nat → Nat → Int32) : Prop :=
  h.2.2 m = some (.inr (7, oM m many wt pa)) ∧ (∀ k, 1 ≤ k → k ≤ 21 → h.2.2 (m + k) = some (.inl (tM k, nM k, .inl (A k)))) ∧ h.2.2 pa = some (.inl (0, pl, .inl (A 23))) ∧ ((pa < m ∨ m + 21 < pa) ∧ pa < h.1 ∧ m + 21 < h.1 ∧ pl < 1000000) ∧
  (∀ a e, g a = some e → h.2.2 a = some e ∧ a < h.1) ∧ (∀ k, k ≤ 21 → g (m + k) = none) ∧ g pa = none
theorem am_in_nI {e n : Nat} (he : e < n) (hn : n < 2 ^ 31) : am_in (nI e) n = true := by
  unfold am_in
  exact decide_eq_true (nI_in he hn)
theorem am_fld_of {h : aH} {ci a : Nat} {fs : List Value} (h1 : h.2.2 a = some (.inr (ci, fs))) : (am_fld h ci a).isSome = true := by
  unfold am_fld
  rw [h1]
  dsimp only
  rw [if_pos rfl]
  rfl
section RM
variable {g : Nat → Option aE} {h : aH} {m many wt pa pl : Nat} {A : Nat → Nat → Int32} 
theorem RM_obj (hR : RepM g h m many wt pa pl A) : (am_fld h 7 m).isSome = true := am_fld_of hR.1
theorem gM_0 {F : Value → Prop} (hR : RepM g h m many wt pa pl A) : am_gf h 7 m 0 F = F (.int (nI many)) := am_gf_of hR.1 rfl
theorem gM_1 {F : Value → Prop} (hR : RepM g h m many wt pa pl A) : am_gf h 7 m 1 F = F (.ref (m + 1)) := am_gf_of hR.1 rfl
theorem gM_2 {F : Value → Prop} (hR : RepM g h m many wt pa pl A) : am_gf h 7 m 2 F = F (.ref (m + 2)) := am_gf_of hR.1 rfl
theorem gM_3 {F : Value → Prop} (hR : RepM g h m many wt pa pl A) : am_gf h 7 m 3 F = F (.ref (m + 3)) := am_gf_of hR.1 rfl
theorem gM_4 {F : Value → Prop} (hR : RepM g h m many wt pa pl A) : am_gf h 7 m 4 F = F (.ref (m + 4)) := am_gf_of hR.1 rfl
theorem gM_5 {F : Value → Prop} (hR : RepM g h m many wt pa pl A) : am_gf h 7 m 5 F = F (.ref (m + 5)) := am_gf_of hR.1 rfl
theorem gM_6 {F : Value → Prop} (hR : RepM g h m many wt pa pl A) : am_gf h 7 m 6 F = F (.ref (m + 6)) := am_gf_of hR.1 rfl
theorem gM_7 {F : Value → Prop} (hR : RepM g h m many wt pa pl A) : am_gf h 7 m 7 F = F (.ref (m + 7)) := am_gf_of hR.1 rfl
theorem gM_8 {F : Value → Prop} (hR : RepM g h m many wt pa pl A) : am_gf h 7 m 8 F = F (.ref (m + 8)) := am_gf_of hR.1 rfl
theorem gM_9 {F : Value → Prop} (hR : RepM g h m many wt pa pl A) : am_gf h 7 m 9 F = F (.ref (m + 9)) := am_gf_of hR.1 rfl
theorem gM_10 {F : Value → Prop} (hR : RepM g h m many wt pa pl A) : am_gf h 7 m 10 F = F (.ref (m + 10)) := am_gf_of hR.1 rfl
theorem gM_11 {F : Value → Prop} (hR : RepM g h m many wt pa pl A) : am_gf h 7 m 11 F = F (.ref (m + 11)) := am_gf_of hR.1 rfl
theorem gM_12 {F : Value → Prop} (hR : RepM g h m many wt pa pl A) : am_gf h 7 m 12 F = F (.ref (m + 12)) := am_gf_of hR.1 rfl
theorem gM_13 {F : Value → Prop} (hR : RepM g h m many wt pa pl A) : am_gf h 7 m 13 F = F (.ref (m + 13)) := am_gf_of hR.1 rfl
theorem gM_14 {F : Value → Prop} (hR : RepM g h m many wt pa pl A) : am_gf h 7 m 14 F = F (.ref (m + 14)) := am_gf_of hR.1 rfl
theorem gM_15 {F : Value → Prop} (hR : RepM g h m many wt pa pl A) : am_gf h 7 m 15 F = F (.ref (m + 15)) := am_gf_of hR.1 rfl
theorem gM_16 {F : Value → Prop} (hR : RepM g h m many wt pa pl A) : am_gf h 7 m 16 F = F (.ref (m + 16)) := am_gf_of hR.1 rfl
theorem gM_17 {F : Value → Prop} (hR : RepM g h m many wt pa pl A) : am_gf h 7 m 17 F = F (.ref (m + 17)) := am_gf_of hR.1 rfl
theorem gM_18 {F : Value → Prop} (hR : RepM g h m many wt pa pl A) : am_gf h 7 m 18 F = F (.ref (m + 18)) := am_gf_of hR.1 rfl
theorem gM_19 {F : Value → Prop} (hR : RepM g h m many wt pa pl A) : am_gf h 7 m 19 F = F (.ref (m + 19)) := am_gf_of hR.1 rfl
theorem gM_20 {F : Value → Prop} (hR : RepM g h m many wt pa pl A) : am_gf h 7 m 20 F = F (.ref (m + 20)) := am_gf_of hR.1 rfl
theorem gM_21 {F : Value → Prop} (hR : RepM g h m many wt pa pl A) : am_gf h 7 m 21 F = F (.ref (m + 21)) := am_gf_of hR.1 rfl
theorem gM_22 {F : Value → Prop} (hR : RepM g h m many wt pa pl A) : am_gf h 7 m 22 F = F (.int (nI wt)) := am_gf_of hR.1 rfl
theorem gM_23 {F : Value → Prop} (hR : RepM g h m many wt pa pl A) : am_gf h 7 m 23 F = F (.ref pa) := am_gf_of hR.1 rfl
theorem rM_1 {F : Int32 → Prop} {e : Nat} (hR : RepM g h m many wt pa pl A) (he : e < 200) : am_ga h (m + 1) (nI e) F = F (A 1 e) := by
  rw [am_ga_of (t := 0) (n := 200) (f := A 1) (hR.2.1 1 (by decide) (by decide)) (Or.inl rfl) (am_in_nI he (by decide)), nI_clamp (by omega)]
theorem rM_2 {F : Int32 → Prop} {e : Nat} (hR : RepM g h m many wt pa pl A) (he : e < 600) : am_ga h (m + 2) (nI e) F = F (A 2 e) := by
  rw [am_ga_of (t := 0) (n := 600) (f := A 2) (hR.2.1 2 (by decide) (by decide)) (Or.inl rfl) (am_in_nI he (by decide)), nI_clamp (by omega)]
theorem rM_3 {F : Int32 → Prop} {e : Nat} (hR : RepM g h m many wt pa pl A) (he : e < 200) : am_ga h (m + 3) (nI e) F = F (A 3 e) := by
  rw [am_ga_of (t := 0) (n := 200) (f := A 3) (hR.2.1 3 (by decide) (by decide)) (Or.inl rfl) (am_in_nI he (by decide)), nI_clamp (by omega)]
theorem rM_4 {F : Int32 → Prop} {e : Nat} (hR : RepM g h m many wt pa pl A) (he : e < 200) : am_ga h (m + 4) (nI e) F = F (A 4 e) := by
  rw [am_ga_of (t := 0) (n := 200) (f := A 4) (hR.2.1 4 (by decide) (by decide)) (Or.inl rfl) (am_in_nI he (by decide)), nI_clamp (by omega)]
theorem rM_5 {F : Int32 → Prop} {e : Nat} (hR : RepM g h m many wt pa pl A) (he : e < 1600) : am_ga h (m + 5) (nI e) F = F (A 5 e) := by
  rw [am_ga_of (t := 0) (n := 1600) (f := A 5) (hR.2.1 5 (by decide) (by decide)) (Or.inl rfl) (am_in_nI he (by decide)), nI_clamp (by omega)]
theorem rM_6 {F : Int32 → Prop} {e : Nat} (hR : RepM g h m many wt pa pl A) (he : e < 200) : am_ga h (m + 6) (nI e) F = F (A 6 e) := by
  rw [am_ga_of (t := 0) (n := 200) (f := A 6) (hR.2.1 6 (by decide) (by decide)) (Or.inl rfl) (am_in_nI he (by decide)), nI_clamp (by omega)]
theorem rM_7 {F : Int32 → Prop} {e : Nat} (hR : RepM g h m many wt pa pl A) (he : e < 200) : am_ga h (m + 7) (nI e) F = F (A 7 e) := by
  rw [am_ga_of (t := 0) (n := 200) (f := A 7) (hR.2.1 7 (by decide) (by decide)) (Or.inl rfl) (am_in_nI he (by decide)), nI_clamp (by omega)]
theorem rM_8 {F : Int32 → Prop} {e : Nat} (hR : RepM g h m many wt pa pl A) (he : e < 200) : am_gaz h (m + 8) (nI e) F = F (A 8 e) := by
  rw [am_gaz_of (n := 200) (f := A 8) (hR.2.1 8 (by decide) (by decide)) (am_in_nI he (by decide)), nI_clamp (by omega)]
theorem rM_9 {F : Int32 → Prop} {e : Nat} (hR : RepM g h m many wt pa pl A) (he : e < 200) : am_ga h (m + 9) (nI e) F = F (A 9 e) := by
  rw [am_ga_of (t := 0) (n := 200) (f := A 9) (hR.2.1 9 (by decide) (by decide)) (Or.inl rfl) (am_in_nI he (by decide)), nI_clamp (by omega)]
theorem rM_10 {F : Int32 → Prop} {e : Nat} (hR : RepM g h m many wt pa pl A) (he : e < 6) : am_ga h (m + 10) (nI e) F = F (A 10 e) := by
  rw [am_ga_of (t := 0) (n := 6) (f := A 10) (hR.2.1 10 (by decide) (by decide)) (Or.inl rfl) (am_in_nI he (by decide)), nI_clamp (by omega)]
theorem rM_11 {F : Int32 → Prop} {e : Nat} (hR : RepM g h m many wt pa pl A) (he : e < 1200) : am_ga h (m + 11) (nI e) F = F (A 11 e) := by
  rw [am_ga_of (t := 0) (n := 1200) (f := A 11) (hR.2.1 11 (by decide) (by decide)) (Or.inl rfl) (am_in_nI he (by decide)), nI_clamp (by omega)]
theorem rM_12 {F : Int32 → Prop} {e : Nat} (hR : RepM g h m many wt pa pl A) (he : e < 1200) : am_ga h (m + 12) (nI e) F = F (A 12 e) := by
  rw [am_ga_of (t := 0) (n := 1200) (f := A 12) (hR.2.1 12 (by decide) (by decide)) (Or.inl rfl) (am_in_nI he (by decide)), nI_clamp (by omega)]
theorem rM_13 {F : Int32 → Prop} {e : Nat} (hR : RepM g h m many wt pa pl A) (he : e < 18) : am_ga h (m + 13) (nI e) F = F (A 13 e) := by
  rw [am_ga_of (t := 0) (n := 18) (f := A 13) (hR.2.1 13 (by decide) (by decide)) (Or.inl rfl) (am_in_nI he (by decide)), nI_clamp (by omega)]
theorem rM_14 {F : Int32 → Prop} {e : Nat} (hR : RepM g h m many wt pa pl A) (he : e < 18) : am_ga h (m + 14) (nI e) F = F (A 14 e) := by
  rw [am_ga_of (t := 0) (n := 18) (f := A 14) (hR.2.1 14 (by decide) (by decide)) (Or.inl rfl) (am_in_nI he (by decide)), nI_clamp (by omega)]
theorem rM_15 {F : Int32 → Prop} {e : Nat} (hR : RepM g h m many wt pa pl A) (he : e < 6) : am_ga h (m + 15) (nI e) F = F (A 15 e) := by
  rw [am_ga_of (t := 0) (n := 6) (f := A 15) (hR.2.1 15 (by decide) (by decide)) (Or.inl rfl) (am_in_nI he (by decide)), nI_clamp (by omega)]
theorem rM_16 {F : Int32 → Prop} {e : Nat} (hR : RepM g h m many wt pa pl A) (he : e < 6) : am_ga h (m + 16) (nI e) F = F (A 16 e) := by
  rw [am_ga_of (t := 0) (n := 6) (f := A 16) (hR.2.1 16 (by decide) (by decide)) (Or.inl rfl) (am_in_nI he (by decide)), nI_clamp (by omega)]
theorem rM_17 {F : Int32 → Prop} {e : Nat} (hR : RepM g h m many wt pa pl A) (he : e < 18) : am_ga h (m + 17) (nI e) F = F (A 17 e) := by
  rw [am_ga_of (t := 0) (n := 18) (f := A 17) (hR.2.1 17 (by decide) (by decide)) (Or.inl rfl) (am_in_nI he (by decide)), nI_clamp (by omega)]
theorem rM_18 {F : Int32 → Prop} {e : Nat} (hR : RepM g h m many wt pa pl A) (he : e < 48) : am_ga h (m + 18) (nI e) F = F (A 18 e) := by
  rw [am_ga_of (t := 0) (n := 48) (f := A 18) (hR.2.1 18 (by decide) (by decide)) (Or.inl rfl) (am_in_nI he (by decide)), nI_clamp (by omega)]
theorem rM_19 {F : Int32 → Prop} {e : Nat} (hR : RepM g h m many wt pa pl A) (he : e < 6) : am_ga h (m + 19) (nI e) F = F (A 19 e) := by
  rw [am_ga_of (t := 0) (n := 6) (f := A 19) (hR.2.1 19 (by decide) (by decide)) (Or.inl rfl) (am_in_nI he (by decide)), nI_clamp (by omega)]
theorem rM_20 {F : Int32 → Prop} {e : Nat} (hR : RepM g h m many wt pa pl A) (he : e < 48) : am_ga h (m + 20) (nI e) F = F (A 20 e) := by
  rw [am_ga_of (t := 0) (n := 48) (f := A 20) (hR.2.1 20 (by decide) (by decide)) (Or.inl rfl) (am_in_nI he (by decide)), nI_clamp (by omega)]
theorem rM_21 {F : Int32 → Prop} {e : Nat} (hR : RepM g h m many wt pa pl A) (he : e < 6) : am_ga h (m + 21) (nI e) F = F (A 21 e) := by
  rw [am_ga_of (t := 0) (n := 6) (f := A 21) (hR.2.1 21 (by decide) (by decide)) (Or.inl rfl) (am_in_nI he (by decide)), nI_clamp (by omega)]
theorem rM_23 {F : Int32 → Prop} {e : Nat} (hR : RepM g h m many wt pa pl A) (he : e < pl) : am_ga h pa (nI e) F = F (A 23 e) := by
  have hp := hR.2.2.2.1.2.2.2
  rw [am_ga_of (t := 0) hR.2.2.1 (Or.inl rfl) (am_in_nI he (by omega)), nI_clamp (by omega)]
theorem lM_23 {F : Nat → Prop} (hR : RepM g h m many wt pa pl A) : am_gl h pa F = F pl := am_gl_of hR.2.2.1
theorem lM_18 {F : Nat → Prop} (hR : RepM g h m many wt pa pl A) : am_gl h (m + 18) F = F 48 := am_gl_of (hR.2.1 18 (by decide) (by decide))
/-- a write of an array of the model -/
theorem RM_up {k : Nat} {f : Nat → Int32} (hR : RepM g h m many wt pa pl A) (h1 : 1 ≤ k) (h2 : k ≤ 21) : RepM g (am_up h (m + k) (.inl (tM k, nM k, .inl f))) m many wt pa pl (va_up A k f) := by
  obtain ⟨r1, r2, r3, r4, r5, r6, r7⟩ := hR
  refine ⟨?_, fun j j1 j2 => ?_, ?_, r4, fun a e he => ?_, r6, r7⟩
  · show (if m = m + k then _ else h.2.2 m) = _
    rw [if_neg (by omega)]
    exact r1
  · show (if m + j = m + k then _ else h.2.2 (m + j)) = _
    unfold va_up
    by_cases hj : j = k
    · subst hj
      rw [if_pos rfl, if_pos rfl]
    · rw [if_neg (by omega), if_neg hj]
      exact r2 j j1 j2
  · show (if pa = m + k then _ else h.2.2 pa) = _
    rw [if_neg (by omega)]
    unfold va_up
    rw [if_neg (by omega)]
    exact r3
  · have hne : ¬ a = m + k := fun q => by rw [q, r6 k h2] at he; cases he
    refine ⟨?_, (r5 a e he).2⟩
    show (if a = m + k then _ else h.2.2 a) = _
    rw [if_neg hne]
    exact (r5 a e he).1
theorem RM_upP {f : Nat → Int32} (hR : RepM g h m many wt pa pl A) : RepM g (am_up h pa (.inl (0, pl, .inl f))) m many wt pa pl (va_up A 23 f) := by
  obtain ⟨r1, r2, r3, r4, r5, r6, r7⟩ := hR
  refine ⟨?_, fun j j1 j2 => ?_, ?_, r4, fun a e he => ?_, r6, r7⟩
  · show (if m = pa then _ else h.2.2 m) = _
    rw [if_neg (by omega)]
    exact r1
  · show (if m + j = pa then _ else h.2.2 (m + j)) = _
    rw [if_neg (by omega)]
    unfold va_up
    rw [if_neg (by omega)]
    exact r2 j j1 j2
  · show (if pa = pa then _ else h.2.2 pa) = _
    rw [if_pos rfl]
    unfold va_up
    rw [if_pos rfl]
  · have hne : ¬ a = pa := fun q => by rw [q, r7] at he; cases he
    refine ⟨?_, (r5 a e he).2⟩
    show (if a = pa then _ else h.2.2 a) = _
    rw [if_neg hne]
    exact (r5 a e he).1
/-- a write of a number of the model's object -/
theorem RM_upO {many' wt' : Nat} (hR : RepM g h m many wt pa pl A) : RepM g (am_up h m (.inr (7, oM m many' wt' pa))) m many' wt' pa pl A := by
  obtain ⟨r1, r2, r3, r4, r5, r6, r7⟩ := hR
  refine ⟨?_, fun j j1 j2 => ?_, ?_, r4, fun a e he => ?_, r6, r7⟩
  · show (if m = m then _ else h.2.2 m) = _
    rw [if_pos rfl]
  · show (if m + j = m then _ else h.2.2 (m + j)) = _
    rw [if_neg (by omega)]
    exact r2 j j1 j2
  · show (if pa = m then _ else h.2.2 pa) = _
    rw [if_neg (by omega)]
    exact r3
  · have hne : ¬ a = m := fun q => by have := r6 0 (by decide); rw [q] at he; rw [Nat.add_zero, he] at this; cases this
    refine ⟨?_, (r5 a e he).2⟩
    show (if a = m then _ else h.2.2 a) = _
    rw [if_neg hne]
    exact (r5 a e he).1
theorem wM_1 {F : aH → Prop} {e : Nat} {x : Int32} (hR : RepM g h m many wt pa pl A) (he : e < 200) (hF : ∀ h1 : aH, h1.1 = h.1 → h1.2.1 = h.2.1 → RepM g h1 m many wt pa pl (va_up A 1 (upd (A 1) e x)) → F h1) : am_pa h (m + 1) (nI e) x F := by
  rw [am_pa_of (n := 200) (f := A 1) (hR.2.1 1 (by decide) (by decide)) (am_in_nI he (by decide)), nI_clamp (by omega)]
  exact hF _ rfl rfl (RM_up (k := 1) hR (by decide) (by decide))
theorem wM_2 {F : aH → Prop} {e : Nat} {x : Int32} (hR : RepM g h m many wt pa pl A) (he : e < 600) (hF : ∀ h1 : aH, h1.1 = h.1 → h1.2.1 = h.2.1 → RepM g h1 m many wt pa pl (va_up A 2 (upd (A 2) e x)) → F h1) : am_pa h (m + 2) (nI e) x F := by
  rw [am_pa_of (n := 600) (f := A 2) (hR.2.1 2 (by decide) (by decide)) (am_in_nI he (by decide)), nI_clamp (by omega)]
  exact hF _ rfl rfl (RM_up (k := 2) hR (by decide) (by decide))
theorem wM_3 {F : aH → Prop} {e : Nat} {x : Int32} (hR : RepM g h m many wt pa pl A) (he : e < 200) (hF : ∀ h1 : aH, h1.1 = h.1 → h1.2.1 = h.2.1 → RepM g h1 m many wt pa pl (va_up A 3 (upd (A 3) e x)) → F h1) : am_pa h (m + 3) (nI e) x F := by
  rw [am_pa_of (n := 200) (f := A 3) (hR.2.1 3 (by decide) (by decide)) (am_in_nI he (by decide)), nI_clamp (by omega)]
  exact hF _ rfl rfl (RM_up (k := 3) hR (by decide) (by decide))
theorem wM_4 {F : aH → Prop} {e : Nat} {x : Int32} (hR : RepM g h m many wt pa pl A) (he : e < 200) (hF : ∀ h1 : aH, h1.1 = h.1 → h1.2.1 = h.2.1 → RepM g h1 m many wt pa pl (va_up A 4 (upd (A 4) e x)) → F h1) : am_pa h (m + 4) (nI e) x F := by
  rw [am_pa_of (n := 200) (f := A 4) (hR.2.1 4 (by decide) (by decide)) (am_in_nI he (by decide)), nI_clamp (by omega)]
  exact hF _ rfl rfl (RM_up (k := 4) hR (by decide) (by decide))
theorem wM_5 {F : aH → Prop} {e : Nat} {x : Int32} (hR : RepM g h m many wt pa pl A) (he : e < 1600) (hF : ∀ h1 : aH, h1.1 = h.1 → h1.2.1 = h.2.1 → RepM g h1 m many wt pa pl (va_up A 5 (upd (A 5) e x)) → F h1) : am_pa h (m + 5) (nI e) x F := by
  rw [am_pa_of (n := 1600) (f := A 5) (hR.2.1 5 (by decide) (by decide)) (am_in_nI he (by decide)), nI_clamp (by omega)]
  exact hF _ rfl rfl (RM_up (k := 5) hR (by decide) (by decide))
theorem wM_6 {F : aH → Prop} {e : Nat} {x : Int32} (hR : RepM g h m many wt pa pl A) (he : e < 200) (hF : ∀ h1 : aH, h1.1 = h.1 → h1.2.1 = h.2.1 → RepM g h1 m many wt pa pl (va_up A 6 (upd (A 6) e x)) → F h1) : am_pa h (m + 6) (nI e) x F := by
  rw [am_pa_of (n := 200) (f := A 6) (hR.2.1 6 (by decide) (by decide)) (am_in_nI he (by decide)), nI_clamp (by omega)]
  exact hF _ rfl rfl (RM_up (k := 6) hR (by decide) (by decide))
theorem wM_7 {F : aH → Prop} {e : Nat} {x : Int32} (hR : RepM g h m many wt pa pl A) (he : e < 200) (hF : ∀ h1 : aH, h1.1 = h.1 → h1.2.1 = h.2.1 → RepM g h1 m many wt pa pl (va_up A 7 (upd (A 7) e x)) → F h1) : am_pa h (m + 7) (nI e) x F := by
  rw [am_pa_of (n := 200) (f := A 7) (hR.2.1 7 (by decide) (by decide)) (am_in_nI he (by decide)), nI_clamp (by omega)]
  exact hF _ rfl rfl (RM_up (k := 7) hR (by decide) (by decide))
theorem wM_9 {F : aH → Prop} {e : Nat} {x : Int32} (hR : RepM g h m many wt pa pl A) (he : e < 200) (hF : ∀ h1 : aH, h1.1 = h.1 → h1.2.1 = h.2.1 → RepM g h1 m many wt pa pl (va_up A 9 (upd (A 9) e x)) → F h1) : am_pa h (m + 9) (nI e) x F := by
  rw [am_pa_of (n := 200) (f := A 9) (hR.2.1 9 (by decide) (by decide)) (am_in_nI he (by decide)), nI_clamp (by omega)]
  exact hF _ rfl rfl (RM_up (k := 9) hR (by decide) (by decide))
theorem wM_10 {F : aH → Prop} {e : Nat} {x : Int32} (hR : RepM g h m many wt pa pl A) (he : e < 6) (hF : ∀ h1 : aH, h1.1 = h.1 → h1.2.1 = h.2.1 → RepM g h1 m many wt pa pl (va_up A 10 (upd (A 10) e x)) → F h1) : am_pa h (m + 10) (nI e) x F := by
  rw [am_pa_of (n := 6) (f := A 10) (hR.2.1 10 (by decide) (by decide)) (am_in_nI he (by decide)), nI_clamp (by omega)]
  exact hF _ rfl rfl (RM_up (k := 10) hR (by decide) (by decide))
theorem wM_11 {F : aH → Prop} {e : Nat} {x : Int32} (hR : RepM g h m many wt pa pl A) (he : e < 1200) (hF : ∀ h1 : aH, h1.1 = h.1 → h1.2.1 = h.2.1 → RepM g h1 m many wt pa pl (va_up A 11 (upd (A 11) e x)) → F h1) : am_pa h (m + 11) (nI e) x F := by
  rw [am_pa_of (n := 1200) (f := A 11) (hR.2.1 11 (by decide) (by decide)) (am_in_nI he (by decide)), nI_clamp (by omega)]
  exact hF _ rfl rfl (RM_up (k := 11) hR (by decide) (by decide))
theorem wM_12 {F : aH → Prop} {e : Nat} {x : Int32} (hR : RepM g h m many wt pa pl A) (he : e < 1200) (hF : ∀ h1 : aH, h1.1 = h.1 → h1.2.1 = h.2.1 → RepM g h1 m many wt pa pl (va_up A 12 (upd (A 12) e x)) → F h1) : am_pa h (m + 12) (nI e) x F := by
  rw [am_pa_of (n := 1200) (f := A 12) (hR.2.1 12 (by decide) (by decide)) (am_in_nI he (by decide)), nI_clamp (by omega)]
  exact hF _ rfl rfl (RM_up (k := 12) hR (by decide) (by decide))
theorem wM_13 {F : aH → Prop} {e : Nat} {x : Int32} (hR : RepM g h m many wt pa pl A) (he : e < 18) (hF : ∀ h1 : aH, h1.1 = h.1 → h1.2.1 = h.2.1 → RepM g h1 m many wt pa pl (va_up A 13 (upd (A 13) e x)) → F h1) : am_pa h (m + 13) (nI e) x F := by
  rw [am_pa_of (n := 18) (f := A 13) (hR.2.1 13 (by decide) (by decide)) (am_in_nI he (by decide)), nI_clamp (by omega)]
  exact hF _ rfl rfl (RM_up (k := 13) hR (by decide) (by decide))
theorem wM_14 {F : aH → Prop} {e : Nat} {x : Int32} (hR : RepM g h m many wt pa pl A) (he : e < 18) (hF : ∀ h1 : aH, h1.1 = h.1 → h1.2.1 = h.2.1 → RepM g h1 m many wt pa pl (va_up A 14 (upd (A 14) e x)) → F h1) : am_pa h (m + 14) (nI e) x F := by
  rw [am_pa_of (n := 18) (f := A 14) (hR.2.1 14 (by decide) (by decide)) (am_in_nI he (by decide)), nI_clamp (by omega)]
  exact hF _ rfl rfl (RM_up (k := 14) hR (by decide) (by decide))
theorem wM_15 {F : aH → Prop} {e : Nat} {x : Int32} (hR : RepM g h m many wt pa pl A) (he : e < 6) (hF : ∀ h1 : aH, h1.1 = h.1 → h1.2.1 = h.2.1 → RepM g h1 m many wt pa pl (va_up A 15 (upd (A 15) e x)) → F h1) : am_pa h (m + 15) (nI e) x F := by
  rw [am_pa_of (n := 6) (f := A 15) (hR.2.1 15 (by decide) (by decide)) (am_in_nI he (by decide)), nI_clamp (by omega)]
  exact hF _ rfl rfl (RM_up (k := 15) hR (by decide) (by decide))
theorem wM_16 {F : aH → Prop} {e : Nat} {x : Int32} (hR : RepM g h m many wt pa pl A) (he : e < 6) (hF : ∀ h1 : aH, h1.1 = h.1 → h1.2.1 = h.2.1 → RepM g h1 m many wt pa pl (va_up A 16 (upd (A 16) e x)) → F h1) : am_pa h (m + 16) (nI e) x F := by
  rw [am_pa_of (n := 6) (f := A 16) (hR.2.1 16 (by decide) (by decide)) (am_in_nI he (by decide)), nI_clamp (by omega)]
  exact hF _ rfl rfl (RM_up (k := 16) hR (by decide) (by decide))
theorem wM_17 {F : aH → Prop} {e : Nat} {x : Int32} (hR : RepM g h m many wt pa pl A) (he : e < 18) (hF : ∀ h1 : aH, h1.1 = h.1 → h1.2.1 = h.2.1 → RepM g h1 m many wt pa pl (va_up A 17 (upd (A 17) e x)) → F h1) : am_pa h (m + 17) (nI e) x F := by
  rw [am_pa_of (n := 18) (f := A 17) (hR.2.1 17 (by decide) (by decide)) (am_in_nI he (by decide)), nI_clamp (by omega)]
  exact hF _ rfl rfl (RM_up (k := 17) hR (by decide) (by decide))
theorem wM_18 {F : aH → Prop} {e : Nat} {x : Int32} (hR : RepM g h m many wt pa pl A) (he : e < 48) (hF : ∀ h1 : aH, h1.1 = h.1 → h1.2.1 = h.2.1 → RepM g h1 m many wt pa pl (va_up A 18 (upd (A 18) e x)) → F h1) : am_pa h (m + 18) (nI e) x F := by
  rw [am_pa_of (n := 48) (f := A 18) (hR.2.1 18 (by decide) (by decide)) (am_in_nI he (by decide)), nI_clamp (by omega)]
  exact hF _ rfl rfl (RM_up (k := 18) hR (by decide) (by decide))
theorem wM_19 {F : aH → Prop} {e : Nat} {x : Int32} (hR : RepM g h m many wt pa pl A) (he : e < 6) (hF : ∀ h1 : aH, h1.1 = h.1 → h1.2.1 = h.2.1 → RepM g h1 m many wt pa pl (va_up A 19 (upd (A 19) e x)) → F h1) : am_pa h (m + 19) (nI e) x F := by
  rw [am_pa_of (n := 6) (f := A 19) (hR.2.1 19 (by decide) (by decide)) (am_in_nI he (by decide)), nI_clamp (by omega)]
  exact hF _ rfl rfl (RM_up (k := 19) hR (by decide) (by decide))
theorem wM_20 {F : aH → Prop} {e : Nat} {x : Int32} (hR : RepM g h m many wt pa pl A) (he : e < 48) (hF : ∀ h1 : aH, h1.1 = h.1 → h1.2.1 = h.2.1 → RepM g h1 m many wt pa pl (va_up A 20 (upd (A 20) e x)) → F h1) : am_pa h (m + 20) (nI e) x F := by
  rw [am_pa_of (n := 48) (f := A 20) (hR.2.1 20 (by decide) (by decide)) (am_in_nI he (by decide)), nI_clamp (by omega)]
  exact hF _ rfl rfl (RM_up (k := 20) hR (by decide) (by decide))
theorem wM_21 {F : aH → Prop} {e : Nat} {x : Int32} (hR : RepM g h m many wt pa pl A) (he : e < 6) (hF : ∀ h1 : aH, h1.1 = h.1 → h1.2.1 = h.2.1 → RepM g h1 m many wt pa pl (va_up A 21 (upd (A 21) e x)) → F h1) : am_pa h (m + 21) (nI e) x F := by
  rw [am_pa_of (n := 6) (f := A 21) (hR.2.1 21 (by decide) (by decide)) (am_in_nI he (by decide)), nI_clamp (by omega)]
  exact hF _ rfl rfl (RM_up (k := 21) hR (by decide) (by decide))
theorem wM_8 {F : aH → Prop} {e : Nat} {x : Int32} (hR : RepM g h m many wt pa pl A) (he : e < 200) (hF : ∀ h1 : aH, h1.1 = h.1 → h1.2.1 = h.2.1 → RepM g h1 m many wt pa pl (va_up A 8 (upd (A 8) e x)) → F h1) : am_paz h (m + 8) (nI e) x F := by
  rw [am_paz_of (n := 200) (f := A 8) (hR.2.1 8 (by decide) (by decide)) (am_in_nI he (by decide)), nI_clamp (by omega)]
  exact hF _ rfl rfl (RM_up (k := 8) hR (by decide) (by decide))
theorem wM_23 {F : aH → Prop} {e : Nat} {x : Int32} (hR : RepM g h m many wt pa pl A) (he : e < pl) (hF : ∀ h1 : aH, h1.1 = h.1 → h1.2.1 = h.2.1 → RepM g h1 m many wt pa pl (va_up A 23 (upd (A 23) e x)) → F h1) : am_pa h pa (nI e) x F := by
  have hp := hR.2.2.2.1.2.2.2
  rw [am_pa_of hR.2.2.1 (am_in_nI he (by omega)), nI_clamp (by omega)]
  exact hF _ rfl rfl (RM_upP hR)
theorem pM_0 {F : aH → Prop} {k : Nat} (hR : RepM g h m many wt pa pl A) (hF : ∀ h1 : aH, h1.1 = h.1 → h1.2.1 = h.2.1 → RepM g h1 m k wt pa pl A → F h1) : am_pf h 7 m 0 (.int (nI k)) F := by
  rw [am_pf_of hR.1 (Nat.le_of_ble_eq_true rfl)]
  exact hF _ rfl rfl (RM_upO (many' := k) (wt' := wt) hR)
theorem pM_22 {F : aH → Prop} {k : Nat} (hR : RepM g h m many wt pa pl A) (hF : ∀ h1 : aH, h1.1 = h.1 → h1.2.1 = h.2.1 → RepM g h1 m many k pa pl A → F h1) : am_pf h 7 m 22 (.int (nI k)) F := by
  rw [am_pf_of hR.1 (Nat.le_of_ble_eq_true rfl)]
  exact hF _ rfl rfl (RM_upO (many' := many) (wt' := k) hR)
end RM
