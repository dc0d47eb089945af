/-! the class: a new transaction -/
section CNT
variable {d : Nat} {g : Nat → Option aE} {c : Nat} {X : aX} {Q : Option Value → aH → Prop}
theorem d58 {h : aH} {t n i : Nat} (ht : h.1 = t + 1) (hi : i < 6) (hb : ∀ k, x_hs X i k < 2) (hy : x_Y X t = some (.inr (5, am_df 5))) (hR : RC g h c X) (hQ : ∀ (h1 : aH) (Y : Nat → Option aE), h1.1 = h.1 + 4 → h1.2.1 = h.2.1 + 21 → RC g h1 c (xs_Y X Y) → Tr (0, 0, Y) t n (i % 3) (c + 2 + 6 * i) (x_lt X i) 0 0 (x_sn X i) (thF 8 (x_hs X i) (fun _ => 0)) (thF 8 (x_iv X i) (fun _ => nI 0)) → (∀ b, b < t → Y b = x_Y X b) → Q none h1) : am_R (d + 1) 58 0 [some (.ref t), some (.int (nI n)), some (.ref (c + 2 + 6 * i))] [] h Q := by
  simp (disch := first | assumption | omega | exact am_isr_ref | exact am_isr_null | exact am_isr_rf | exact am_c1_int | exact am_c1_ref | exact am_c1_null | exact am_c1_rf | exact am_b0 | exact am_b1 | exact RM_obj (by assumption) | (simp only [ne_eq]; done) | exact am_nz2 | exact am_nz3 | exact am_nz6 | exact am_lt (hB _ _) | exact am_lt (stF_lt hB) | exact b32_01) only [e58_0, e58_1, e58_4, e58_5, e58_6]
  refine pY (fs := am_df 5) hy (Nat.le_of_ble_eq_true rfl) hR (fun h1 g1 g2 hR1 => ?_)
  simp (disch := first | assumption | omega | exact am_isr_ref | exact am_isr_null | exact am_isr_rf | exact am_c1_int | exact am_c1_ref | exact am_c1_null | exact am_c1_rf | exact am_b0 | exact am_b1 | exact RM_obj (by assumption) | (simp only [ne_eq]; done) | exact am_nz2 | exact am_nz3 | exact am_nz6 | exact am_lt (hB _ _) | exact am_lt (stF_lt hB) | exact b32_01) only [e58_9, e58_10, e58_11]
  refine pY (fs := (am_df 5).set 0 (.int (nI n))) vu_s (Nat.le_of_ble_eq_true rfl) hR1 (fun h2 g3 g4 hR2 => ?_)
  simp (disch := first | assumption | omega | exact am_isr_ref | exact am_isr_null | exact am_isr_rf | exact am_c1_int | exact am_c1_ref | exact am_c1_null | exact am_c1_rf | exact am_b0 | exact am_b1 | exact RM_obj (by assumption) | (simp only [ne_eq]; done) | exact am_nz2 | exact am_nz3 | exact am_nz6 | exact am_lt (hB _ _) | exact am_lt (stF_lt hB) | exact b32_01) only [e58_14, e58_15, e58_16, e58_19, gC0_0 hi hR2]
  refine pY (fs := ((am_df 5).set 0 (.int (nI n))).set 2 (.ref (c + 2 + 6 * i))) vu_s (Nat.le_of_ble_eq_true rfl) hR2 (fun h3 g5 g6 hR3 => ?_)
  simp (disch := first | assumption | omega | exact am_isr_ref | exact am_isr_null | exact am_isr_rf | exact am_c1_int | exact am_c1_ref | exact am_c1_null | exact am_c1_rf | exact am_b0 | exact am_b1 | exact RM_obj (by assumption) | (simp only [ne_eq]; done) | exact am_nz2 | exact am_nz3 | exact am_nz6 | exact am_lt (hB _ _) | exact am_lt (stF_lt hB) | exact b32_01) only [e58_22, e58_23, e58_24, e58_27, gC0_5 hi hR3]
  refine pY (fs := (((am_df 5).set 0 (.int (nI n))).set 2 (.ref (c + 2 + 6 * i))).set 1 (.int (nI (i % 3)))) vu_s (Nat.le_of_ble_eq_true rfl) hR3 (fun h4 g7 g8 hR4 => ?_)
  simp (disch := first | assumption | omega | exact am_isr_ref | exact am_isr_null | exact am_isr_rf | exact am_c1_int | exact am_c1_ref | exact am_c1_null | exact am_c1_rf | exact am_b0 | exact am_b1 | exact RM_obj (by assumption) | (simp only [ne_eq]; done) | exact am_nz2 | exact am_nz3 | exact am_nz6 | exact am_lt (hB _ _) | exact am_lt (stF_lt hB) | exact b32_01) only [e58_30, e58_31, e58_32, gC0_1 hi hR4]
  have n4 : h4.1 = t + 1 := by omega
  rw [e58_35 (by exact am_c1_ref) (kC1 hR4 i hi)]
  have hR5 := nY (k := 3) (e := .inl (0, 3, .inl (fun p => nI (x_sn X i p)))) hR4
  generalize hh : am_nw h4 3 (.inl (0, 3, .inl (fun p => nI (x_sn X i p)))) = h5 at hR5
  have n5 : h5.1 = h4.1 + 1 := by rw [← hh]; rfl
  have m5 : h5.2.1 = h4.2.1 + 3 := by rw [← hh]; rfl
  have k5 : h5.2.2 h4.1 = some (.inl (0, 3, .inl (fun p => nI (x_sn X i p)))) := kY hR5 vu_s
  rw [e58_38 k5, e58_41 (by exact am_isr_ref)]
  refine pY (fs := ((((am_df 5).set 0 (.int (nI n))).set 2 (.ref (c + 2 + 6 * i))).set 1 (.int (nI (i % 3)))).set 3 (.int (nI (x_lt X i)))) ((vu_n (by omega)).trans vu_s) (Nat.le_of_ble_eq_true rfl) hR5 (fun h6 g9 g10 hR6 => ?_)
  rw [e58_44 (by exact am_isr_ref), e58_45]
  have hR7 := nY (k := 2) (e := .inr (6, am_df 6)) hR6
  generalize hh7 : am_nw h6 2 (.inr (6, am_df 6)) = h7 at hR7 ⊢
  have n7 : h7.1 = h6.1 + 1 := by rw [← hh7]; rfl
  have m7 : h7.2.1 = h6.2.1 + 2 := by rw [← hh7]; rfl
  have n6 : h6.1 = t + 2 := by omega
  rw [e58_48 (by exact am_c1_ref), e58_49 (by exact am_c1_ref) (by exact am_c1_ref)]
  refine d63 (by omega) vu_s hR7 (fun h8 Y8 n8 m8 hR8 hW8 hY8 => ?_)
  simp (disch := first | assumption | omega | exact am_isr_ref | exact am_isr_null | exact am_isr_rf | exact am_c1_int | exact am_c1_ref | exact am_c1_null | exact am_c1_rf | exact am_b0 | exact am_b1 | exact RM_obj (by assumption) | (simp only [ne_eq]; done) | exact am_nz2 | exact am_nz3 | exact am_nz6 | exact am_lt (hB _ _) | exact am_lt (stF_lt hB) | exact b32_01) only [Option.toList_none, List.nil_append, e58_52]
  have y8 : Y8 t = some (.inr (5, (((((am_df 5).set 0 (.int (nI n))).set 2 (.ref (c + 2 + 6 * i))).set 1 (.int (nI (i % 3)))).set 3 (.int (nI (x_lt X i)))).set 4 (.ref h4.1))) := (hY8 t (by omega)).trans ((vu_n (by omega)).trans vu_s)
  have y81 : Y8 (t + 1) = some (.inl (0, 3, .inl (fun p => nI (x_sn X i p)))) := by
    refine (hY8 (t + 1) (by omega)).trans ((vu_n (by omega)).trans ((vu_n (by omega)).trans ?_))
    rw [← n4]
    exact vu_s
  refine pY y8 (Nat.le_of_ble_eq_true rfl) hR8 (fun h9 g11 g12 hR9 => ?_)
  rw [n6] at hW8 hR9 hY8
  have hW9 : Wr (0, 0, va_up Y8 t (some (.inr (5, ((((((am_df 5).set 0 (.int (nI n))).set 2 (.ref (c + 2 + 6 * i))).set 1 (.int (nI (i % 3)))).set 3 (.int (nI (x_lt X i)))).set 4 (.ref h4.1)).set 5 (.ref (t + 2)))))) (t + 2) (fun _ => 0) (fun _ => nI 0) := ⟨(vu_n (by omega)).trans hW8.1, (vu_n (by omega)).trans hW8.2.1, (vu_n (by omega)).trans hW8.2.2.1, hW8.2.2.2⟩
  have hWh := WrH hR9 hW9
  have ho := oW hWh
  simp (disch := first | assumption | omega | exact am_isr_ref | exact am_isr_null | exact am_isr_rf | exact am_c1_int | exact am_c1_ref | exact am_c1_null | exact am_c1_rf | exact am_b0 | exact am_b1 | exact RM_obj (by assumption) | (simp only [ne_eq]; done) | exact am_nz2 | exact am_nz3 | exact am_nz6 | exact am_lt (hB _ _) | exact am_lt (stF_lt hB) | exact b32_01) only [e58_55, e58_56, e58_59, e58_60, e58_63, gY (k := 5) vu_s rfl hR9, gC0_3 hi hR9]
  rw [e66_0, e66_1]
  refine l66 (X := xs_Y X (va_up Y8 t (some (.inr (5, ((((((am_df 5).set 0 (.int (nI n))).set 2 (.ref (c + 2 + 6 * i))).set 1 (.int (nI (i % 3)))).set 3 (.int (nI (x_lt X i)))).set 4 (.ref h4.1)).set 5 (.ref (t + 2))))))) hi hb 8 0 h9 _ rfl hR9 (by rw [th_0, th_0]; exact hW9) (fun _ _ => rfl) (fun h10 Y10 n10 m10 hR10 hW10 hY10 => ?_)
  simp (disch := first | assumption | omega | exact am_isr_ref | exact am_isr_null | exact am_isr_rf | exact am_c1_int | exact am_c1_ref | exact am_c1_null | exact am_c1_rf | exact am_b0 | exact am_b1 | exact RM_obj (by assumption) | (simp only [ne_eq]; done) | exact am_nz2 | exact am_nz3 | exact am_nz6 | exact am_lt (hB _ _) | exact am_lt (stF_lt hB) | exact b32_01) only [Option.toList_none, List.nil_append, e58_66]
  refine hQ h10 Y10 (by omega) (by omega) hR10 ⟨?_, ?_, hW10, by decide⟩ (fun b hbt => ?_)
  · refine (hY10 t (by omega)).trans (vu_s.trans ?_)
    rw [n4]
    rfl
  · exact (hY10 (t + 1) (by omega)).trans ((vu_n (by omega)).trans y81)
  · refine (hY10 b (by omega)).trans ((vu_n (by omega)).trans ((hY8 b (by omega)).trans ((vu_n (by omega)).trans ((vu_n (by omega)).trans ((vu_n (by omega)).trans ?_)))))
    exact (vu_n (by omega)).trans ((vu_n (by omega)).trans ((vu_n (by omega)).trans (vu_n (by omega))))
end CNT
