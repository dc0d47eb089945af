/-! the class: messages and send -/
abbrev msC (k n t : Int32) (v w : Option Nat) : aE := .inr (3, [.int k, .int n, .int t, va_rf v, va_rf w])
section CM
variable {d : Nat} {g : Nat → Option aE} {c : Nat} {X : aX} {Q : Option Value → aH → Prop}
theorem d42 {h : aH} {a : Nat} {k n t : Int32} {v : Option Nat} (hb : x_Y X a = some (.inr (3, am_df 3))) (hR : RC g h c X) (hQ : ∀ h1 : aH, h1.1 = h.1 → h1.2.1 = h.2.1 → RC g h1 c (xs_Y X (va_up (x_Y X) a (some (msC k n t v none)))) → Q none h1) : am_R d 42 0 [some (.ref a), some (.int k), some (.int n), some (.int t), some (va_rf v)] [] h Q := by
  simp (disch := first | assumption | omega | exact am_isr_ref | exact am_isr_null | exact am_isr_rf | exact am_c1_int | exact am_c1_ref | exact am_c1_null | exact am_c1_rf | exact am_b0 | exact am_b1 | exact RM_obj (by assumption) | (simp only [ne_eq]; done) | exact am_nz2 | exact am_nz3 | exact am_nz6 | exact am_lt (hB _ _) | exact am_lt (stF_lt hB) | exact b32_01) only [e42_0, e42_1, e42_4, e42_5, e42_6]
  refine pY (fs := am_df 3) hb (Nat.le_of_ble_eq_true rfl) hR (fun h1 g1 g2 hR1 => ?_)
  simp (disch := first | assumption | omega | exact am_isr_ref | exact am_isr_null | exact am_isr_rf | exact am_c1_int | exact am_c1_ref | exact am_c1_null | exact am_c1_rf | exact am_b0 | exact am_b1 | exact RM_obj (by assumption) | (simp only [ne_eq]; done) | exact am_nz2 | exact am_nz3 | exact am_nz6 | exact am_lt (hB _ _) | exact am_lt (stF_lt hB) | exact b32_01) only [e42_9, e42_10, e42_11]
  refine pY (fs := (am_df 3).set 0 (.int k)) vu_s (Nat.le_of_ble_eq_true rfl) hR1 (fun h2 g3 g4 hR2 => ?_)
  simp (disch := first | assumption | omega | exact am_isr_ref | exact am_isr_null | exact am_isr_rf | exact am_c1_int | exact am_c1_ref | exact am_c1_null | exact am_c1_rf | exact am_b0 | exact am_b1 | exact RM_obj (by assumption) | (simp only [ne_eq]; done) | exact am_nz2 | exact am_nz3 | exact am_nz6 | exact am_lt (hB _ _) | exact am_lt (stF_lt hB) | exact b32_01) only [e42_14, e42_15, e42_16]
  refine pY (fs := ((am_df 3).set 0 (.int k)).set 1 (.int n)) vu_s (Nat.le_of_ble_eq_true rfl) hR2 (fun h3 g5 g6 hR3 => ?_)
  simp (disch := first | assumption | omega | exact am_isr_ref | exact am_isr_null | exact am_isr_rf | exact am_c1_int | exact am_c1_ref | exact am_c1_null | exact am_c1_rf | exact am_b0 | exact am_b1 | exact RM_obj (by assumption) | (simp only [ne_eq]; done) | exact am_nz2 | exact am_nz3 | exact am_nz6 | exact am_lt (hB _ _) | exact am_lt (stF_lt hB) | exact b32_01) only [e42_19, e42_20, e42_22]
  refine pY (fs := (((am_df 3).set 0 (.int k)).set 1 (.int n)).set 2 (.int t)) vu_s (Nat.le_of_ble_eq_true rfl) hR3 (fun h4 g7 g8 hR4 => ?_)
  simp (disch := first | assumption | omega | exact am_isr_ref | exact am_isr_null | exact am_isr_rf | exact am_c1_int | exact am_c1_ref | exact am_c1_null | exact am_c1_rf | exact am_b0 | exact am_b1 | exact RM_obj (by assumption) | (simp only [ne_eq]; done) | exact am_nz2 | exact am_nz3 | exact am_nz6 | exact am_lt (hB _ _) | exact am_lt (stF_lt hB) | exact b32_01) only [e42_25]
  refine hQ h4 (g7.trans (g5.trans (g3.trans g1))) (g8.trans (g6.trans (g4.trans g2))) ?_
  have e : ∀ e1 e2 e3 e4 : Option aE, va_up (va_up (va_up (va_up (x_Y X) a e1) a e2) a e3) a e4 = va_up (x_Y X) a e4 := fun e1 e2 e3 e4 => by rw [vu_u, vu_u, vu_u]
  rw [← e]
  exact hR4
/-- send over a link that is there -/
theorem d32e {h : aH} {f u a : Nat} (hf : f < 6) (hu : u < 6) (hk : lkd (6 * f + u) = true) (he : x_ll X (6 * f + u) = none) (hc : x_lc X (6 * f + u) < 512) (hR : RC g h c X) (hQ : ∀ h1 : aH, h1.1 = h.1 → h1.2.1 = h.2.1 → RC g h1 c (xs_lc (xs_ll (xs_lf X (va_up (x_lf X) (6 * f + u) (some a))) (va_up (x_ll X) (6 * f + u) (some a))) (va_up (x_lc X) (6 * f + u) (x_lc X (6 * f + u) + 1))) → Q none h1) : am_R (d + 1) 32 0 [some (.ref c), some (.int (nI f)), some (.int (nI u)), some (.ref a), none] [] h Q := by
  have ho := oA0 hR
  have ho2 := oL0 (show 6 * f + u < 36 by omega) hk hR
  simp (disch := first | assumption | omega | exact am_isr_ref | exact am_isr_null | exact am_isr_rf | exact am_c1_int | exact am_c1_ref | exact am_c1_null | exact am_c1_rf | exact am_b0 | exact am_b1 | exact RM_obj (by assumption) | (simp only [ne_eq]; done) | exact am_nz2 | exact am_nz3 | exact am_nz6 | exact am_lt (hB _ _) | exact am_lt (stF_lt hB) | exact b32_01) only [e32_0, e32_1, e32_2, e32_3, e32_6, e32_8, e32_10r, e32_10n, e32_10q, e32_13, e32_15, e32_16, d20t hf hu hR, if_pos hk, Option.toList_some, List.cons_append, List.nil_append]
  refine d40e (by omega) hk he hc hR (fun h1 g1 g2 hR1 => ?_)
  simp (disch := first | assumption | omega | exact am_isr_ref | exact am_isr_null | exact am_isr_rf | exact am_c1_int | exact am_c1_ref | exact am_c1_null | exact am_c1_rf | exact am_b0 | exact am_b1 | exact RM_obj (by assumption) | (simp only [ne_eq]; done) | exact am_nz2 | exact am_nz3 | exact am_nz6 | exact am_lt (hB _ _) | exact am_lt (stF_lt hB) | exact b32_01) only [e32_19, Option.toList_none, List.nil_append]
  exact hQ h1 g1 g2 hR1
theorem d32n {h : aH} {f u a b : Nat} {fs : List Value} (hf : f < 6) (hu : u < 6) (hk : lkd (6 * f + u) = true) (he : x_ll X (6 * f + u) = some b) (hb : x_Y X b = some (.inr (3, fs))) (hfs : fs.length = 5) (hc : x_lc X (6 * f + u) < 512) (hR : RC g h c X) (hQ : ∀ h1 : aH, h1.1 = h.1 → h1.2.1 = h.2.1 → RC g h1 c (xs_lc (xs_ll (xs_Y X (va_up (x_Y X) b (some (.inr (3, fs.set 4 (.ref a)))))) (va_up (x_ll X) (6 * f + u) (some a))) (va_up (x_lc X) (6 * f + u) (x_lc X (6 * f + u) + 1))) → Q none h1) : am_R (d + 1) 32 0 [some (.ref c), some (.int (nI f)), some (.int (nI u)), some (.ref a), none] [] h Q := by
  have ho := oA0 hR
  have ho2 := oL0 (show 6 * f + u < 36 by omega) hk hR
  simp (disch := first | assumption | omega | exact am_isr_ref | exact am_isr_null | exact am_isr_rf | exact am_c1_int | exact am_c1_ref | exact am_c1_null | exact am_c1_rf | exact am_b0 | exact am_b1 | exact RM_obj (by assumption) | (simp only [ne_eq]; done) | exact am_nz2 | exact am_nz3 | exact am_nz6 | exact am_lt (hB _ _) | exact am_lt (stF_lt hB) | exact b32_01) only [e32_0, e32_1, e32_2, e32_3, e32_6, e32_8, e32_10r, e32_10n, e32_10q, e32_13, e32_15, e32_16, d20t hf hu hR, if_pos hk, Option.toList_some, List.cons_append, List.nil_append]
  refine d40n (by omega) hk he hb hfs hc hR (fun h1 g1 g2 hR1 => ?_)
  simp (disch := first | assumption | omega | exact am_isr_ref | exact am_isr_null | exact am_isr_rf | exact am_c1_int | exact am_c1_ref | exact am_c1_null | exact am_c1_rf | exact am_b0 | exact am_b1 | exact RM_obj (by assumption) | (simp only [ne_eq]; done) | exact am_nz2 | exact am_nz3 | exact am_nz6 | exact am_lt (hB _ _) | exact am_lt (stF_lt hB) | exact b32_01) only [e32_19, Option.toList_none, List.nil_append]
  exact hQ h1 g1 g2 hR1
end CM
