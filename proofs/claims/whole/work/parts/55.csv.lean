/-! the class's readers of servers -/
section CV
variable {d : Nat} {g : Nat → Option aE} {h : aH} {c : Nat} {X : aX} {Q : Option Value → aH → Prop}
theorem l51 {s w : Nat} (hs : s < 6) (hw : w < 4) (hR : RC g h c X) (hb : ∀ e, x_sg X s e < 4) : ∀ t k, k + t = 200 → am_R d 51 4 [some (.ref (c + 39 + 6 * s)), some (.int (nI w)), some (.int (nI (cntF (fun j => decide (x_sg X s j = w)) k))), some (.int (nI k))] [] h Q = Q (some (.int (nI (cntF (fun j => decide (x_sg X s j = w)) 200)))) h := by
  intro t
  induction t with
  | zero =>
    intro k hk
    obtain rfl : k = 200 := by omega
    simp (disch := first | assumption | omega | exact am_isr_ref | exact am_isr_null | exact am_isr_rf | exact am_c1_int | exact am_c1_ref | exact am_c1_null | exact am_c1_rf | exact am_b0 | exact am_b1 | exact RM_obj (by assumption) | (simp only [ne_eq]; done) | exact am_nz2 | exact am_nz3 | exact am_nz6 | exact am_lt (hB _ _) | exact am_lt (stF_lt hB) | exact b32_01) only [e51_4, e51_5, e51_8, e51_30, e51_31, nle, if_true, Nat.le_refl]
  | succ t ih =>
    intro k hk
    have hk8 : k < 200 := by omega
    have hbk := hb k
    have ih := ih (k + 1) (by omega)
    rw [cntF] at ih
    rw [e51_4]
    simp (disch := first | assumption | omega | exact am_isr_ref | exact am_isr_null | exact am_isr_rf | exact am_c1_int | exact am_c1_ref | exact am_c1_null | exact am_c1_rf | exact am_b0 | exact am_b1 | exact RM_obj (by assumption) | (simp only [ne_eq]; done) | exact am_nz2 | exact am_nz3 | exact am_nz6 | exact am_lt (hB _ _) | exact am_lt (stF_lt hB) | exact b32_01) only [e51_0, e51_1, e51_2, e51_3, e51_5, e51_8, e51_11, e51_12, e51_15, e51_16, e51_17, e51_18, e51_21, e51_24, e51_27, e51_30, e51_31, nle, if_neg (show ¬ 200 ≤ k by omega), gV0_4 hs hR, rV3 hs hR hk8, nq, nI_add]
    by_cases h1 : x_sg X s k = w
    · simp only [h1, decide_true, if_true, not_true_eq_false, if_false] at ih ⊢
      exact ih
    · simp only [h1, decide_false, Bool.false_eq_true, if_false, not_false_eq_true, if_true] at ih ⊢
      exact ih
theorem d51 {s w : Nat} (hs : s < 6) (hw : w < 4) (hR : RC g h c X) (hb : ∀ e, x_sg X s e < 4) : am_R d 51 0 [some (.ref (c + 39 + 6 * s)), some (.int (nI w)), none, none] [] h Q = Q (some (.int (nI (cntF (fun j => decide (x_sg X s j = w)) 200)))) h := by
  rw [e51_0, e51_1, e51_2, e51_3]
  exact l51 hs hw hR hb 200 0 rfl
def lmF (sg tm : Nat → Nat) (w : Nat) : Nat → Nat
  | 0 => 2147483647
  | n + 1 => if sg n = w then min (lmF sg tm w n) (tm n) else lmF sg tm w n
theorem lmF_le {sg tm : Nat → Nat} {w : Nat} : ∀ n, lmF sg tm w n ≤ 2147483647 := by
  intro n
  induction n with
  | zero => exact Nat.le_refl _
  | succ n ih => rw [lmF]; split <;> omega
theorem l52 {s w : Nat} (hs : s < 6) (hw : w < 4) (hR : RC g h c X) (hb : ∀ e, x_sg X s e < 4) (ht : ∀ e, x_tm X s e < 1000000) : ∀ t k, k + t = 200 → am_R d 52 5 [some (.ref (c + 39 + 6 * s)), some (.int (nI w)), some (.int (nI (lmF (x_sg X s) (x_tm X s) w k))), some (.int (nI k))] [] h Q = Q (some (.int (nI (lmF (x_sg X s) (x_tm X s) w 200)))) h := by
  intro t
  induction t with
  | zero =>
    intro k hk
    obtain rfl : k = 200 := by omega
    simp (disch := first | assumption | omega | exact am_isr_ref | exact am_isr_null | exact am_isr_rf | exact am_c1_int | exact am_c1_ref | exact am_c1_null | exact am_c1_rf | exact am_b0 | exact am_b1 | exact RM_obj (by assumption) | (simp only [ne_eq]; done) | exact am_nz2 | exact am_nz3 | exact am_nz6 | exact am_lt (hB _ _) | exact am_lt (stF_lt hB) | exact b32_01) only [e52_5, e52_6, e52_9, e52_39, e52_40, nle, if_true, Nat.le_refl]
  | succ t ih =>
    intro k hk
    have hk8 : k < 200 := by omega
    have hbk := hb k
    have htk := ht k
    have hlk := lmF_le (sg := x_sg X s) (tm := x_tm X s) (w := w) k
    have ih := ih (k + 1) (by omega)
    rw [lmF] at ih
    rw [e52_5]
    simp (disch := first | assumption | omega | exact am_isr_ref | exact am_isr_null | exact am_isr_rf | exact am_c1_int | exact am_c1_ref | exact am_c1_null | exact am_c1_rf | exact am_b0 | exact am_b1 | exact RM_obj (by assumption) | (simp only [ne_eq]; done) | exact am_nz2 | exact am_nz3 | exact am_nz6 | exact am_lt (hB _ _) | exact am_lt (stF_lt hB) | exact b32_01) only [e52_0, e52_2, e52_3, e52_4, e52_6, e52_9, e52_12, e52_13, e52_16, e52_17, e52_18, e52_19, e52_22, e52_23, e52_24, e52_27, e52_28, e52_29, e52_32, e52_33, e52_36, e52_39, e52_40, nle, if_neg (show ¬ 200 ≤ k by omega), gV0_4 hs hR, rV3 hs hR hk8, gV0_5 hs hR, rV4 hs hR hk8, nq, nI_add]
    by_cases h1 : x_sg X s k = w
    · rw [if_pos h1] at ih
      rw [if_neg (fun q => q h1), nI_min (by omega) (by omega)]
      exact ih
    · rw [if_neg h1] at ih
      rw [if_pos h1]
      exact ih
theorem d52 {s w : Nat} (hs : s < 6) (hw : w < 4) (hR : RC g h c X) (hb : ∀ e, x_sg X s e < 4) (ht : ∀ e, x_tm X s e < 1000000) : am_R d 52 0 [some (.ref (c + 39 + 6 * s)), some (.int (nI w)), none, none] [] h Q = Q (some (.int (nI (lmF (x_sg X s) (x_tm X s) w 200)))) h := by
  rw [e52_0, e52_2, e52_3, e52_4]
  exact l52 hs hw hR hb ht 200 0 rfl
def reF (sg tm : Nat → Nat) (ck : Nat) : Nat := if min (lmF sg tm 1 200) (lmF sg tm 2 200) = 2147483647 then ck else min (lmF sg tm 1 200) (lmF sg tm 2 200) - 1
theorem nI_sub1 {a : Nat} (h1 : 1 ≤ a) : nI a - nI 1 = nI (a - 1) := by
  obtain ⟨b, rfl⟩ : ∃ b, a = b + 1 := ⟨a - 1, by omega⟩
  rw [show b + 1 - 1 = b by omega, ← nI_add]
  exact Int32.add_sub_cancel _ _
theorem lmF_pos {sg tm : Nat → Nat} {w : Nat} (hp : ∀ e, sg e = w → 1 ≤ tm e) : ∀ n, 1 ≤ lmF sg tm w n := by
  intro n
  induction n with
  | zero => exact Nat.le_of_ble_eq_true rfl
  | succ n ih =>
    rw [lmF]
    split
    · rename_i q
      have := hp n q
      omega
    · exact ih
theorem d53 {s : Nat} (hs : s < 6) (hR : RC g h c X) (hb : ∀ e, x_sg X s e < 4) (ht : ∀ e, x_tm X s e < 1000000) (hp : ∀ e, (x_sg X s e = 1 ∨ x_sg X s e = 2) → 1 ≤ x_tm X s e) : am_R (d + 1) 53 0 [some (.ref (c + 39 + 6 * s)), none] [] h Q = Q (some (.int (nI (reF (x_sg X s) (x_tm X s) (x_ck X s))))) h := by
  have ho := oV0 hs hR
  have a1 := lmF_le (sg := x_sg X s) (tm := x_tm X s) (w := 1) 200
  have a2 := lmF_le (sg := x_sg X s) (tm := x_tm X s) (w := 2) 200
  have b1 := lmF_pos (sg := x_sg X s) (tm := x_tm X s) (w := 1) (fun e q => hp e (Or.inl q)) 200
  have b2 := lmF_pos (sg := x_sg X s) (tm := x_tm X s) (w := 2) (fun e q => hp e (Or.inr q)) 200
  simp (disch := first | assumption | omega | exact am_isr_ref | exact am_isr_null | exact am_isr_rf | exact am_c1_int | exact am_c1_ref | exact am_c1_null | exact am_c1_rf | exact am_b0 | exact am_b1 | exact RM_obj (by assumption) | (simp only [ne_eq]; done) | exact am_nz2 | exact am_nz3 | exact am_nz6 | exact am_lt (hB _ _) | exact am_lt (stF_lt hB) | exact b32_01) only [e53_0, e53_1, e53_2, e53_5, e53_6, e53_7, e53_10, d52 hs (show 1 < 4 by decide) hR hb ht, d52 hs (show 2 < 4 by decide) hR hb ht, Option.toList_some, List.cons_append, List.nil_append]
  rw [nI_min (by omega) (by omega)]
  unfold reF
  generalize lmF (x_sg X s) (x_tm X s) 1 200 = A at *
  generalize lmF (x_sg X s) (x_tm X s) 2 200 = B at *
  simp (disch := first | assumption | omega | exact am_isr_ref | exact am_isr_null | exact am_isr_rf | exact am_c1_int | exact am_c1_ref | exact am_c1_null | exact am_c1_rf | exact am_b0 | exact am_b1 | exact RM_obj (by assumption) | (simp only [ne_eq]; done) | exact am_nz2 | exact am_nz3 | exact am_nz6 | exact am_lt (hB _ _) | exact am_lt (stF_lt hB) | exact b32_01) only [e53_13, e53_14, e53_15, e53_17, e53_20, e53_21, e53_24, e53_27, e53_28, e53_29, e53_30, nq, gV0_8 hs hR]
  by_cases h1 : min A B = 2147483647
  · rw [if_neg (fun q => q h1), if_pos h1]
  · rw [if_pos h1, if_neg h1, nI_sub1 (by omega)]
/-- nextToApply: (next, least) after n -/
def naF (sg tm : Nat → Nat) (l0 : Nat) : Nat → Option Nat × Nat
  | 0 => (none, l0)
  | n + 1 => if sg n = 2 ∧ tm n < (naF sg tm l0 n).2 then (some n, tm n) else naF sg tm l0 n
theorem naF_le {sg tm : Nat → Nat} {l0 : Nat} : ∀ n, (naF sg tm l0 n).2 ≤ l0 := by
  intro n
  induction n with
  | zero => exact Nat.le_refl _
  | succ n ih =>
    rw [naF]
    split
    · rename_i q
      exact Nat.le_trans (Nat.le_of_lt q.2) ih
    · exact ih
theorem l54 {s l0 : Nat} (hs : s < 6) (hl : l0 ≤ 2147483647) (hR : RC g h c X) (hb : ∀ e, x_sg X s e < 4) (ht : ∀ e, x_tm X s e < 1000000) : ∀ t k, k + t = 200 → am_R d 54 10 [some (.ref (c + 39 + 6 * s)), some (.int (eO (naF (x_sg X s) (x_tm X s) l0 k).1)), some (.int (nI (naF (x_sg X s) (x_tm X s) l0 k).2)), some (.int (nI k))] [] h Q = Q (some (.int (eO (naF (x_sg X s) (x_tm X s) l0 200).1))) h := by
  intro t
  induction t with
  | zero =>
    intro k hk
    obtain rfl : k = 200 := by omega
    simp (disch := first | assumption | omega | exact am_isr_ref | exact am_isr_null | exact am_isr_rf | exact am_c1_int | exact am_c1_ref | exact am_c1_null | exact am_c1_rf | exact am_b0 | exact am_b1 | exact RM_obj (by assumption) | (simp only [ne_eq]; done) | exact am_nz2 | exact am_nz3 | exact am_nz6 | exact am_lt (hB _ _) | exact am_lt (stF_lt hB) | exact b32_01) only [e54_10, e54_11, e54_14, e54_52, e54_53, nle, if_true, Nat.le_refl]
  | succ t ih =>
    intro k hk
    have hk8 : k < 200 := by omega
    have hbk := hb k
    have htk := ht k
    have hlk := naF_le (sg := x_sg X s) (tm := x_tm X s) (l0 := l0) k
    have ih := ih (k + 1) (by omega)
    rw [naF] at ih
    rw [e54_10]
    simp (disch := first | assumption | omega | exact am_isr_ref | exact am_isr_null | exact am_isr_rf | exact am_c1_int | exact am_c1_ref | exact am_c1_null | exact am_c1_rf | exact am_b0 | exact am_b1 | exact RM_obj (by assumption) | (simp only [ne_eq]; done) | exact am_nz2 | exact am_nz3 | exact am_nz6 | exact am_lt (hB _ _) | exact am_lt (stF_lt hB) | exact b32_01) only [e54_0, e54_1, e54_2, e54_3, e54_4, e54_7, e54_8, e54_9, e54_11, e54_14, e54_17, e54_18, e54_21, e54_22, e54_23, e54_24, e54_27, e54_28, e54_31, e54_32, e54_33, e54_34, e54_37, e54_38, e54_39, e54_40, e54_43, e54_44, e54_45, e54_46, e54_49, e54_52, e54_53, nle, if_neg (show ¬ 200 ≤ k by omega), gV0_4 hs hR, rV3 hs hR hk8, gV0_5 hs hR, rV4 hs hR hk8, nq, nI_add]
    by_cases h1 : x_sg X s k = 2
    · rw [if_neg (fun q => q h1)]
      by_cases h2 : x_tm X s k < (naF (x_sg X s) (x_tm X s) l0 k).2
      · rw [if_pos ⟨h1, h2⟩] at ih
        rw [if_neg (by omega)]
        exact ih
      · rw [if_neg (fun q => h2 q.2)] at ih
        rw [if_pos (by omega)]
        exact ih
    · rw [if_neg (fun q => h1 q.1)] at ih
      rw [if_pos h1]
      exact ih
theorem d54 {s : Nat} (hs : s < 6) (hR : RC g h c X) (hb : ∀ e, x_sg X s e < 4) (ht : ∀ e, x_tm X s e < 1000000) : am_R (d + 1) 54 0 [some (.ref (c + 39 + 6 * s)), none, none, none] [] h Q = Q (some (.int (eO (naF (x_sg X s) (x_tm X s) (lmF (x_sg X s) (x_tm X s) 1 200) 200).1))) h := by
  have ho := oV0 hs hR
  simp (disch := first | assumption | omega | exact am_isr_ref | exact am_isr_null | exact am_isr_rf | exact am_c1_int | exact am_c1_ref | exact am_c1_null | exact am_c1_rf | exact am_b0 | exact am_b1 | exact RM_obj (by assumption) | (simp only [ne_eq]; done) | exact am_nz2 | exact am_nz3 | exact am_nz6 | exact am_lt (hB _ _) | exact am_lt (stF_lt hB) | exact b32_01) only [e54_0, e54_1, e54_2, e54_3, e54_4, e54_7, e54_8, e54_9, d52 hs (show 1 < 4 by decide) hR hb ht, Option.toList_some, List.cons_append, List.nil_append]
  exact l54 (l0 := lmF (x_sg X s) (x_tm X s) 1 200) hs (lmF_le _) hR hb ht 200 0 rfl
end CV
