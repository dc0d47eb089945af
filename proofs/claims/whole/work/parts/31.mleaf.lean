theorem am_b0 : nI 0 = 0 ∨ nI 0 = 1 := Or.inl rfl
theorem am_b1 : nI 1 = 0 ∨ nI 1 = 1 := Or.inr rfl
theorem am_nz2 : ¬ nI 2 = 0 := by decide
theorem am_nz3 : ¬ nI 3 = 0 := by decide
theorem am_nz6 : ¬ nI 6 = 0 := by decide
section ML
variable {d : Nat} {g : Nat → Option aE} {h : aH} {m many wt pa pl : Nat} {A : Nat → Nat → Int32} {Q : Option Value → aH → Prop}
theorem c72t {n : Nat} (hn : n < 6) : am_R d 72 0 [some (.int (nI n))] [] h Q = Q (some (.int (nI 1))) h := by
  simp (disch := first | assumption | omega | exact am_isr_ref | exact am_isr_null | exact am_isr_rf | exact am_c1_int | exact am_c1_ref | exact am_c1_null | exact am_c1_rf | exact am_b0 | exact am_b1 | exact RM_obj (by assumption) | (simp only [ne_eq]; done) | exact am_nz2 | exact am_nz3 | exact am_nz6) only [e72_0, e72_1, e72_4, e72_5, e72_7, e72_10, e72_11, e72_14, e72_15, if_neg (nI_pos (n := n) (by omega)), if_neg (nI_ge (a := n) (b := 6) hn (by decide))]
theorem c72f {c : Int32} (hc : c < 0 ∨ nI 6 ≤ c) : am_R d 72 0 [some (.int c)] [] h Q = Q (some (.int (nI 0))) h := by
  simp (disch := first | assumption | omega | exact am_isr_ref | exact am_isr_null | exact am_isr_rf | exact am_c1_int | exact am_c1_ref | exact am_c1_null | exact am_c1_rf | exact am_b0 | exact am_b1 | exact RM_obj (by assumption) | (simp only [ne_eq]; done) | exact am_nz2 | exact am_nz3 | exact am_nz6) only [e72_0, e72_1, e72_4, e72_5, e72_7, e72_10, e72_11, e72_14, e72_15]
  by_cases h1 : c < 0
  · rw [if_pos h1]
  · rw [if_neg h1, if_pos (hc.resolve_left h1)]
theorem c73t {n : Nat} (hn : n < 6) : am_R d 73 0 [some (.int (nI n))] [] h Q = Q (some (.int (nI 1))) h := by
  simp (disch := first | assumption | omega | exact am_isr_ref | exact am_isr_null | exact am_isr_rf | exact am_c1_int | exact am_c1_ref | exact am_c1_null | exact am_c1_rf | exact am_b0 | exact am_b1 | exact RM_obj (by assumption) | (simp only [ne_eq]; done) | exact am_nz2 | exact am_nz3 | exact am_nz6) only [e73_0, e73_1, e73_4, e73_5, e73_7, e73_10, e73_11, e73_14, e73_15, if_neg (nI_pos (n := n) (by omega)), if_neg (nI_ge (a := n) (b := 6) hn (by decide))]
theorem c73f {c : Int32} (hc : c < 0 ∨ nI 6 ≤ c) : am_R d 73 0 [some (.int c)] [] h Q = Q (some (.int (nI 0))) h := by
  simp (disch := first | assumption | omega | exact am_isr_ref | exact am_isr_null | exact am_isr_rf | exact am_c1_int | exact am_c1_ref | exact am_c1_null | exact am_c1_rf | exact am_b0 | exact am_b1 | exact RM_obj (by assumption) | (simp only [ne_eq]; done) | exact am_nz2 | exact am_nz3 | exact am_nz6) only [e73_0, e73_1, e73_4, e73_5, e73_7, e73_10, e73_11, e73_14, e73_15]
  by_cases h1 : c < 0
  · rw [if_pos h1]
  · rw [if_neg h1, if_pos (hc.resolve_left h1)]
theorem c74t {n : Nat} (hn : n < 8) : am_R d 74 0 [some (.int (nI n))] [] h Q = Q (some (.int (nI 1))) h := by
  simp (disch := first | assumption | omega | exact am_isr_ref | exact am_isr_null | exact am_isr_rf | exact am_c1_int | exact am_c1_ref | exact am_c1_null | exact am_c1_rf | exact am_b0 | exact am_b1 | exact RM_obj (by assumption) | (simp only [ne_eq]; done) | exact am_nz2 | exact am_nz3 | exact am_nz6) only [e74_0, e74_1, e74_4, e74_5, e74_7, e74_10, e74_11, e74_14, e74_15, if_neg (nI_pos (n := n) (by omega)), if_neg (nI_ge (a := n) (b := 8) hn (by decide))]
theorem c74f {c : Int32} (hc : c < 0 ∨ nI 8 ≤ c) : am_R d 74 0 [some (.int c)] [] h Q = Q (some (.int (nI 0))) h := by
  simp (disch := first | assumption | omega | exact am_isr_ref | exact am_isr_null | exact am_isr_rf | exact am_c1_int | exact am_c1_ref | exact am_c1_null | exact am_c1_rf | exact am_b0 | exact am_b1 | exact RM_obj (by assumption) | (simp only [ne_eq]; done) | exact am_nz2 | exact am_nz3 | exact am_nz6) only [e74_0, e74_1, e74_4, e74_5, e74_7, e74_10, e74_11, e74_14, e74_15]
  by_cases h1 : c < 0
  · rw [if_pos h1]
  · rw [if_neg h1, if_pos (hc.resolve_left h1)]
theorem c75 {s : Nat} (hs : s < 6) : am_R d 75 0 [some (.int (nI s))] [] h Q = Q (some (.int (nI (s / 2)))) h := by
  simp (disch := first | assumption | omega | exact am_isr_ref | exact am_isr_null | exact am_isr_rf | exact am_c1_int | exact am_c1_ref | exact am_c1_null | exact am_c1_rf | exact am_b0 | exact am_b1 | exact RM_obj (by assumption) | (simp only [ne_eq]; done) | exact am_nz2 | exact am_nz3 | exact am_nz6) only [e75_0, e75_1, e75_2, e75_3]
  rw [pk_div (by omega) (by decide) (by decide)]
theorem c78 {n : Nat} (hR : RepM g h m many wt pa pl A) (hn : n < 200) {c : Nat} (hc : A 1 n = nI c) (hc6 : c < 6) : am_R d 78 0 [some (.ref m), some (.int (nI n))] [] h Q = Q (some (.int (nI (c % 3)))) h := by
  simp (disch := first | assumption | omega | exact am_isr_ref | exact am_isr_null | exact am_isr_rf | exact am_c1_int | exact am_c1_ref | exact am_c1_null | exact am_c1_rf | exact am_b0 | exact am_b1 | exact RM_obj (by assumption) | (simp only [ne_eq]; done) | exact am_nz2 | exact am_nz3 | exact am_nz6) only [e78_0, e78_1, e78_4, e78_5, e78_6, e78_7, e78_8, gM_1 hR, rM_1 hR hn, hc]
  rw [pk_rem (by omega) (by decide) (by decide)]
end ML
