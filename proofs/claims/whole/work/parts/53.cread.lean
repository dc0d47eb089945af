/-! the class's readers of writes and transactions -/
def Wr (h : aH) (w : Nat) (f : Nat → Nat) (v : Nat → Int32) : Prop :=
  h.2.2 w = some (.inr (6, [.ref (w + 1), .ref (w + 2)])) ∧ h.2.2 (w + 1) = some (.inl (1, 8, .inl (fun k => nI (f k)))) ∧ h.2.2 (w + 2) = some (.inl (0, 8, .inl v)) ∧ ∀ k, f k < 2
def Tr (h : aH) (t n pl cl lt tm td : Nat) (s f : Nat → Nat) (v : Nat → Int32) : Prop :=
  h.2.2 t = some (.inr (5, [.int (nI n), .int (nI pl), .ref cl, .int (nI lt), .ref (t + 1), .ref (t + 2), .int (nI tm), .int (nI td)])) ∧ h.2.2 (t + 1) = some (.inl (0, 3, .inl (fun p => nI (s p)))) ∧ Wr h (t + 2) f v ∧ td < 2
section CR
variable {d : Nat} {g : Nat → Option aE} {h : aH} {c : Nat} {X : aX} {Q : Option Value → aH → Prop} {w : Nat} {f : Nat → Nat} {v : Nat → Int32}
theorem gW_0 {F : Value → Prop} (hw : Wr h w f v) : am_gf h 6 w 0 F = F (.ref (w + 1)) := am_gf_of hw.1 rfl
theorem gW_1 {F : Value → Prop} (hw : Wr h w f v) : am_gf h 6 w 1 F = F (.ref (w + 2)) := am_gf_of hw.1 rfl
theorem oW (hw : Wr h w f v) : (am_fld h 6 w).isSome = true := am_fld_of hw.1
theorem rW_0 {F : Int32 → Prop} {e : Nat} (hw : Wr h w f v) (he : e < 8) : am_gaz h (w + 1) (nI e) F = F (nI (f e)) := by
  rw [am_gaz_of hw.2.1 (am_in_nI he (by decide)), nI_clamp (by omega)]
theorem rW_1 {F : Int32 → Prop} {e : Nat} (hw : Wr h w f v) (he : e < 8) : am_ga h (w + 2) (nI e) F = F (v e) := by
  rw [am_ga_of hw.2.2.1 (Or.inl rfl) (am_in_nI he (by decide)), nI_clamp (by omega)]
theorem fW {k : Nat} (hw : Wr h w f v) : f k < 2 := hw.2.2.2 k
theorem n0_b {x : Nat} (hx : x < 2) : (nI x = 0) = ¬ x = 1 := by
  have : x = 0 ∨ x = 1 := by omega
  rcases this with rfl | rfl <;> simp [nI] <;> decide
theorem d67t {k : Nat} (hk : k < 8) (hw : Wr h w f v) : am_R (d + 1) 67 0 [some (.ref w), some (.int (nI k))] [] h Q = Q (some (.int (b32 (f k = 1)))) h := by
  simp (disch := first | assumption | omega | exact am_isr_ref | exact am_isr_null | exact am_isr_rf | exact am_c1_int | exact am_c1_ref | exact am_c1_null | exact am_c1_rf | exact am_b0 | exact am_b1 | exact RM_obj (by assumption) | (simp only [ne_eq]; done) | exact am_nz2 | exact am_nz3 | exact am_nz6 | exact am_lt (hB _ _) | exact am_lt (stF_lt hB) | exact b32_01) only [e67_0, e67_1, e67_4, e67_7, e67_8, e67_11, e67_12, e67_13, e67_16, e67_17, e67_20, e67_21, d22t hk, Option.toList_some, List.cons_append, List.nil_append, if_neg (show ¬ nI 1 = 0 by decide), gW_0 hw, rW_0 hw hk, n0_b (fW (k := k) hw), b32_n]
theorem d67f {x : Int32} (hx : x < 0 ∨ nI 8 ≤ x) : am_R (d + 1) 67 0 [some (.ref w), some (.int x)] [] h Q = Q (some (.int (nI 0))) h := by
  simp (disch := first | assumption | omega | exact am_isr_ref | exact am_isr_null | exact am_isr_rf | exact am_c1_int | exact am_c1_ref | exact am_c1_null | exact am_c1_rf | exact am_b0 | exact am_b1 | exact RM_obj (by assumption) | (simp only [ne_eq]; done) | exact am_nz2 | exact am_nz3 | exact am_nz6 | exact am_lt (hB _ _) | exact am_lt (stF_lt hB) | exact b32_01) only [e67_0, e67_1, e67_4, e67_20, e67_21, d22f hx, Option.toList_some, List.cons_append, List.nil_append, if_pos (show nI 0 = 0 by decide)]
theorem d68t {k : Nat} (hk : k < 8) (hw : Wr h w f v) : am_R (d + 2) 68 0 [some (.ref w), some (.int (nI k))] [] h Q = Q (some (.int (if f k = 1 then v k else nI 0))) h := by
  have ho := oW hw
  simp (disch := first | assumption | omega | exact am_isr_ref | exact am_isr_null | exact am_isr_rf | exact am_c1_int | exact am_c1_ref | exact am_c1_null | exact am_c1_rf | exact am_b0 | exact am_b1 | exact RM_obj (by assumption) | (simp only [ne_eq]; done) | exact am_nz2 | exact am_nz3 | exact am_nz6 | exact am_lt (hB _ _) | exact am_lt (stF_lt hB) | exact b32_01) only [e68_0, e68_1, e68_2, e68_5, e68_8, e68_9, e68_12, e68_13, e68_14, e68_17, e68_18, d67t hk hw, Option.toList_some, List.cons_append, List.nil_append, b32_q0, gW_1 hw, rW_1 hw hk]
  by_cases h1 : f k = 1
  · rw [if_neg (fun q => q h1), if_pos h1]
  · rw [if_pos h1, if_neg h1]
theorem d68f {x : Int32} (hx : x < 0 ∨ nI 8 ≤ x) (hw : Wr h w f v) : am_R (d + 2) 68 0 [some (.ref w), some (.int x)] [] h Q = Q (some (.int (nI 0))) h := by
  have ho := oW hw
  simp (disch := first | assumption | omega | exact am_isr_ref | exact am_isr_null | exact am_isr_rf | exact am_c1_int | exact am_c1_ref | exact am_c1_null | exact am_c1_rf | exact am_b0 | exact am_b1 | exact RM_obj (by assumption) | (simp only [ne_eq]; done) | exact am_nz2 | exact am_nz3 | exact am_nz6 | exact am_lt (hB _ _) | exact am_lt (stF_lt hB) | exact b32_01) only [e68_0, e68_1, e68_2, e68_5, e68_8, e68_9, e68_12, e68_13, e68_14, e68_17, e68_18, d67f hx, Option.toList_some, List.cons_append, List.nil_append, if_pos (show nI 0 = 0 by decide)]
theorem l69 (hw : Wr h w f v) : ∀ t k, k + t = 8 → am_R d 69 4 [some (.ref w), some (.int (nI (cntF (fun j => decide (f j = 1)) k))), some (.int (nI k))] [] h Q = Q (some (.int (nI (cntF (fun j => decide (f j = 1)) 8)))) h := by
  intro t
  induction t with
  | zero =>
    intro k hk
    obtain rfl : k = 8 := by omega
    simp (disch := first | assumption | omega | exact am_isr_ref | exact am_isr_null | exact am_isr_rf | exact am_c1_int | exact am_c1_ref | exact am_c1_null | exact am_c1_rf | exact am_b0 | exact am_b1 | exact RM_obj (by assumption) | (simp only [ne_eq]; done) | exact am_nz2 | exact am_nz3 | exact am_nz6 | exact am_lt (hB _ _) | exact am_lt (stF_lt hB) | exact b32_01) only [e69_4, e69_5, e69_7, e69_28, e69_29, nle, if_true, Nat.le_refl]
  | succ t ih =>
    intro k hk
    have hk8 : k < 8 := by omega
    have ih := ih (k + 1) (by omega)
    rw [cntF] at ih
    rw [e69_4]
    simp (disch := first | assumption | omega | exact am_isr_ref | exact am_isr_null | exact am_isr_rf | exact am_c1_int | exact am_c1_ref | exact am_c1_null | exact am_c1_rf | exact am_b0 | exact am_b1 | exact RM_obj (by assumption) | (simp only [ne_eq]; done) | exact am_nz2 | exact am_nz3 | exact am_nz6 | exact am_lt (hB _ _) | exact am_lt (stF_lt hB) | exact b32_01) only [e69_0, e69_1, e69_2, e69_3, e69_5, e69_7, e69_10, e69_11, e69_14, e69_15, e69_16, e69_19, e69_22, e69_25, e69_28, e69_29, nle, if_neg (show ¬ 8 ≤ k by omega), gW_0 hw, rW_0 hw hk8, n0_b (fW (k := k) hw), nI_add]
    by_cases h1 : f k = 1
    · simp only [h1, decide_true, if_true, not_true_eq_false, if_false] at ih ⊢
      exact ih
    · simp only [h1, decide_false, Bool.false_eq_true, if_false, not_false_eq_true, if_true] at ih ⊢
      exact ih
theorem d69 (hw : Wr h w f v) : am_R d 69 0 [some (.ref w), none, none] [] h Q = Q (some (.int (nI (cntF (fun j => decide (f j = 1)) 8)))) h := by
  rw [e69_0, e69_1, e69_2, e69_3]
  exact l69 hw 8 0 rfl
theorem d44t {s k : Nat} (hs : s < 6) (hk : k < 8) (hR : RC g h c X) : am_R (d + 1) 44 0 [some (.ref (c + 39 + 6 * s)), some (.int (nI k))] [] h Q = Q (some (.int (b32 (k % 2 = s % 2)))) h := by
  simp (disch := first | assumption | omega | exact am_isr_ref | exact am_isr_null | exact am_isr_rf | exact am_c1_int | exact am_c1_ref | exact am_c1_null | exact am_c1_rf | exact am_b0 | exact am_b1 | exact RM_obj (by assumption) | (simp only [ne_eq]; done) | exact am_nz2 | exact am_nz3 | exact am_nz6 | exact am_lt (hB _ _) | exact am_lt (stF_lt hB) | exact b32_01) only [e44_0, e44_1, e44_4, e44_7, e44_8, e44_9, e44_10, e44_11, e44_14, e44_15, e44_16, e44_19, e44_20, e44_23, e44_24, d22t hk, Option.toList_some, List.cons_append, List.nil_append, if_neg (show ¬ nI 1 = 0 by decide), gV0_0 hs hR, pk_rem (a := k) (d := 2) (by omega) (by decide) (by decide), pk_rem (a := s) (d := 2) (by omega) (by decide) (by decide), nq, b32_n]
theorem d44f {s : Nat} {x : Int32} (hx : x < 0 ∨ nI 8 ≤ x) : am_R (d + 1) 44 0 [some (.ref s), some (.int x)] [] h Q = Q (some (.int (nI 0))) h := by
  simp (disch := first | assumption | omega | exact am_isr_ref | exact am_isr_null | exact am_isr_rf | exact am_c1_int | exact am_c1_ref | exact am_c1_null | exact am_c1_rf | exact am_b0 | exact am_b1 | exact RM_obj (by assumption) | (simp only [ne_eq]; done) | exact am_nz2 | exact am_nz3 | exact am_nz6 | exact am_lt (hB _ _) | exact am_lt (stF_lt hB) | exact b32_01) only [e44_0, e44_1, e44_4, e44_23, e44_24, d22f hx, Option.toList_some, List.cons_append, List.nil_append, if_pos (show nI 0 = 0 by decide)]
def hoB (f : Nat → Nat) (s : Nat) : Nat → Bool := fun k => decide (f k = 1 ∧ k % 2 = s % 2)
theorem l70 {s : Nat} (hs : s < 6) (hw : Wr h w f v) (hR : RC g h c X) : ∀ t k, k + t = 8 → am_R (d + 2) 70 2 [some (.ref w), some (.ref (c + 39 + 6 * s)), some (.int (nI k))] [] h Q = Q (some (.int (b32 (exB (hoB f s) t k = true)))) h := by
  intro t
  induction t with
  | zero =>
    intro k hk
    obtain rfl : k = 8 := by omega
    simp (disch := first | assumption | omega | exact am_isr_ref | exact am_isr_null | exact am_isr_rf | exact am_c1_int | exact am_c1_ref | exact am_c1_null | exact am_c1_rf | exact am_b0 | exact am_b1 | exact RM_obj (by assumption) | (simp only [ne_eq]; done) | exact am_nz2 | exact am_nz3 | exact am_nz6 | exact am_lt (hB _ _) | exact am_lt (stF_lt hB) | exact b32_01) only [e70_2, e70_3, e70_5, e70_33, e70_34, nle, if_true, Nat.le_refl]
    rw [b32_f (fun q => by cases q)]
  | succ t ih =>
    intro k hk
    have hk8 : k < 8 := by omega
    have ho := oV0 hs hR
    rw [e70_2]
    simp (disch := first | assumption | omega | exact am_isr_ref | exact am_isr_null | exact am_isr_rf | exact am_c1_int | exact am_c1_ref | exact am_c1_null | exact am_c1_rf | exact am_b0 | exact am_b1 | exact RM_obj (by assumption) | (simp only [ne_eq]; done) | exact am_nz2 | exact am_nz3 | exact am_nz6 | exact am_lt (hB _ _) | exact am_lt (stF_lt hB) | exact b32_01) only [e70_0, e70_1, e70_3, e70_5, e70_8, e70_9, e70_12, e70_13, e70_14, e70_17, e70_18, e70_19, e70_22, e70_25, e70_26, e70_27, e70_30, e70_33, e70_34, nle, if_neg (show ¬ 8 ≤ k by omega), gW_0 hw, rW_0 hw hk8, n0_b (fW (k := k) hw), d44t hs hk8 hR, Option.toList_some, List.cons_append, List.nil_append, b32_q0, nI_add, ih (k + 1) (by omega)]
    rw [exB]
    by_cases h1 : f k = 1
    · by_cases h2 : k % 2 = s % 2
      · have hb : hoB f s k = true := decide_eq_true ⟨h1, h2⟩
        rw [if_neg (fun q => q h1), if_neg (fun q => q h2), b32_t (by rw [hb]; rfl)]
      · have hb : hoB f s k = false := decide_eq_false (fun q => h2 q.2)
        rw [if_neg (fun q => q h1), if_pos h2]
        simp only [hb, Bool.false_or]
    · have hb : hoB f s k = false := decide_eq_false (fun q => h1 q.1)
      rw [if_pos h1]
      simp only [hb, Bool.false_or]
def hoF (f : Nat → Nat) (s : Nat) : Bool := exB (hoB f s) 8 0
theorem d70 {s : Nat} (hs : s < 6) (hw : Wr h w f v) (hR : RC g h c X) : am_R (d + 2) 70 0 [some (.ref w), some (.ref (c + 39 + 6 * s)), none] [] h Q = Q (some (.int (b32 (hoF f s = true)))) h := by
  rw [e70_0, e70_1]
  exact l70 hs hw hR 8 0 rfl
end CR
