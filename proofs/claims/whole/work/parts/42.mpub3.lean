/-! the model's calls: server, transaction, version, link -/
theorem ix_of {x : Int32} {n : Nat} (hn : n < 2 ^ 31) (h : ¬ (x < 0 ∨ nI n ≤ x)) : ∃ j, j < n ∧ x = nI j := by
  rcases pk_ix x hn with q | q | q
  · exact absurd (Or.inl q) h
  · exact absurd (Or.inr q) h
  · exact q
theorem go3 {P R : Prop} [Decidable P] [Decidable R] {X Y : Prop} (h : P ∨ R) : (if P then X else if R then X else Y) = X := by
  by_cases h2 : P
  · rw [if_pos h2]
  · rw [if_neg h2, if_pos (h.resolve_left h2)]
section MV
variable {d : Nat} {g : Nat → Option aE} {h : aH} {m pl : Nat} {S : aSt} {Q : Option Value → aH → Prop}
def ansS (S : aSt) (s w : Nat) : Int32 := if 10 ≤ w ∧ w < 13 then nI (S.2.1 13 (3 * s + (w - 10))) else if 20 ≤ w ∧ w < 23 then nI (S.2.1 14 (3 * s + (w - 20))) else if 30 ≤ w ∧ w < 33 then nI (min (S.2.1 13 (3 * s + (w - 30))) (S.2.1 14 (3 * s + (w - 30)))) else if w = 0 then nI (S.2.1 10 s) else if w = 1 then nI (cntF (fun j => decide (S.2.1 11 (200 * s + j) = 1)) S.1) else if w = 2 then nI (cntF (fun j => decide (S.2.1 11 (200 * s + j) = 2)) S.1) else if w = 3 then nI (cntF (fun j => decide (S.2.1 11 (200 * s + j) = 3)) S.1) else -1
theorem c105 {s w : Nat} (hs : s < 6) (hw : w < 40) (hS : MMs g h m S pl) (hB : am_BN S.2.1) (hm : S.1 ≤ 200) (hQ : Q (some (.int (ansS S s w))) h) : am_R (d + 1) 105 0 [some (.ref m), some (.int (nI s)), some (.int (nI w))] [] h Q := by
  simp (disch := first | assumption | omega | exact am_isr_ref | exact am_isr_null | exact am_isr_rf | exact am_c1_int | exact am_c1_ref | exact am_c1_null | exact am_c1_rf | exact am_b0 | exact am_b1 | exact RM_obj (by assumption) | exact MS_obj (by assumption) | (simp only [ne_eq]; done) | exact am_nz2 | exact am_nz3 | exact am_nz6 | exact am_lt (hB _ _) | exact am_lt (stF_lt hB) | exact b32_01) only [e105_0, e105_1, e105_4, e105_7, e105_8, e105_9, e105_10, e105_12, e105_15, e105_16, e105_18, c73t hs, Option.toList_some, List.cons_append, List.nil_append, nI_z, nq, nlt, nle, if_true, not_false_eq_true, Nat.one_ne_zero]
  unfold ansS at hQ
  by_cases h1 : 10 ≤ w ∧ w < 13
  · rw [if_neg (show ¬ w < 10 by omega), if_neg (show ¬ 13 ≤ w by omega)]
    rw [if_pos h1] at hQ
    simp (disch := first | assumption | omega | exact am_isr_ref | exact am_isr_null | exact am_isr_rf | exact am_c1_int | exact am_c1_ref | exact am_c1_null | exact am_c1_rf | exact am_b0 | exact am_b1 | exact RM_obj (by assumption) | exact MS_obj (by assumption) | (simp only [ne_eq]; done) | exact am_nz2 | exact am_nz3 | exact am_nz6 | exact am_lt (hB _ _) | exact am_lt (stF_lt hB) | exact b32_01) only [e105_21, e105_22, e105_25, e105_26, e105_27, e105_28, e105_29, e105_30, e105_32, e105_33, e105_34, gS_13 hS, nI_add, pk_mul, pk_sub (show 10 ≤ 3 * s + w by omega), rS_13 hS (show 3 * s + w - 10 < 18 by omega)]
    rw [show 3 * s + w - 10 = 3 * s + (w - 10) by omega]
    exact hQ
  · rw [if_neg h1] at hQ
    rw [go3 (show w < 10 ∨ 13 ≤ w by omega)]
    simp (disch := first | assumption | omega | exact am_isr_ref | exact am_isr_null | exact am_isr_rf | exact am_c1_int | exact am_c1_ref | exact am_c1_null | exact am_c1_rf | exact am_b0 | exact am_b1 | exact RM_obj (by assumption) | exact MS_obj (by assumption) | (simp only [ne_eq]; done) | exact am_nz2 | exact am_nz3 | exact am_nz6 | exact am_lt (hB _ _) | exact am_lt (stF_lt hB) | exact b32_01) only [e105_35, e105_36, e105_38, e105_41, e105_42, e105_44, nlt, nle]
    by_cases h2 : 20 ≤ w ∧ w < 23
    · rw [if_neg (show ¬ w < 20 by omega), if_neg (show ¬ 23 ≤ w by omega)]
      rw [if_pos h2] at hQ
      simp (disch := first | assumption | omega | exact am_isr_ref | exact am_isr_null | exact am_isr_rf | exact am_c1_int | exact am_c1_ref | exact am_c1_null | exact am_c1_rf | exact am_b0 | exact am_b1 | exact RM_obj (by assumption) | exact MS_obj (by assumption) | (simp only [ne_eq]; done) | exact am_nz2 | exact am_nz3 | exact am_nz6 | exact am_lt (hB _ _) | exact am_lt (stF_lt hB) | exact b32_01) only [e105_47, e105_48, e105_51, e105_52, e105_53, e105_54, e105_55, e105_56, e105_58, e105_59, e105_60, gS_14 hS, nI_add, pk_mul, pk_sub (show 20 ≤ 3 * s + w by omega), rS_14 hS (show 3 * s + w - 20 < 18 by omega)]
      rw [show 3 * s + w - 20 = 3 * s + (w - 20) by omega]
      exact hQ
    · rw [if_neg h2] at hQ
      rw [go3 (show w < 20 ∨ 23 ≤ w by omega)]
      simp (disch := first | assumption | omega | exact am_isr_ref | exact am_isr_null | exact am_isr_rf | exact am_c1_int | exact am_c1_ref | exact am_c1_null | exact am_c1_rf | exact am_b0 | exact am_b1 | exact RM_obj (by assumption) | exact MS_obj (by assumption) | (simp only [ne_eq]; done) | exact am_nz2 | exact am_nz3 | exact am_nz6 | exact am_lt (hB _ _) | exact am_lt (stF_lt hB) | exact b32_01) only [e105_61, e105_62, e105_64, e105_67, e105_68, e105_70, nlt, nle]
      by_cases h3 : 30 ≤ w ∧ w < 33
      · rw [if_neg (show ¬ w < 30 by omega), if_neg (show ¬ 33 ≤ w by omega)]
        rw [if_pos h3] at hQ
        simp (disch := first | assumption | omega | exact am_isr_ref | exact am_isr_null | exact am_isr_rf | exact am_c1_int | exact am_c1_ref | exact am_c1_null | exact am_c1_rf | exact am_b0 | exact am_b1 | exact RM_obj (by assumption) | exact MS_obj (by assumption) | (simp only [ne_eq]; done) | exact am_nz2 | exact am_nz3 | exact am_nz6 | exact am_lt (hB _ _) | exact am_lt (stF_lt hB) | exact b32_01) only [e105_73, e105_74, e105_75, e105_76, e105_78, e105_79, e105_82, pk_sub (show 30 ≤ w by omega), s93 hS hB hs (show w - 30 < 3 by omega), Option.toList_some, List.cons_append, List.nil_append]
        exact hQ
      · rw [if_neg h3] at hQ
        rw [go3 (show w < 30 ∨ 33 ≤ w by omega)]
        rw [e105_83, e105_84]
        have i0 : (0 : Int32) = nI 0 := rfl
        have i1 : (1 : Int32) = nI 1 := rfl
        have i2 : (2 : Int32) = nI 2 := rfl
        have i3 : (3 : Int32) = nI 3 := rfl
        simp (disch := first | assumption | omega | exact am_isr_ref | exact am_isr_null | exact am_isr_rf | exact am_c1_int | exact am_c1_ref | exact am_c1_null | exact am_c1_rf | exact am_b0 | exact am_b1 | exact RM_obj (by assumption) | exact MS_obj (by assumption) | (simp only [ne_eq]; done) | exact am_nz2 | exact am_nz3 | exact am_nz6 | exact am_lt (hB _ _) | exact am_lt (stF_lt hB) | exact b32_01) only [i0, i1, i2, i3, nq]
        by_cases w0 : w = 0
        · rw [if_pos w0] at hQ ⊢
          simp (disch := first | assumption | omega | exact am_isr_ref | exact am_isr_null | exact am_isr_rf | exact am_c1_int | exact am_c1_ref | exact am_c1_null | exact am_c1_rf | exact am_b0 | exact am_b1 | exact RM_obj (by assumption) | exact MS_obj (by assumption) | (simp only [ne_eq]; done) | exact am_nz2 | exact am_nz3 | exact am_nz6 | exact am_lt (hB _ _) | exact am_lt (stF_lt hB) | exact b32_01) only [e105_116, e105_117, e105_120, e105_121, e105_122, gS_10 hS, rS_10 hS hs]
          exact hQ
        · rw [if_neg w0] at hQ ⊢
          by_cases w1 : w = 1
          · rw [if_pos w1] at hQ ⊢
            simp (disch := first | assumption | omega | exact am_isr_ref | exact am_isr_null | exact am_isr_rf | exact am_c1_int | exact am_c1_ref | exact am_c1_null | exact am_c1_rf | exact am_b0 | exact am_b1 | exact RM_obj (by assumption) | exact MS_obj (by assumption) | (simp only [ne_eq]; done) | exact am_nz2 | exact am_nz3 | exact am_nz6 | exact am_lt (hB _ _) | exact am_lt (stF_lt hB) | exact b32_01) only [e105_123, e105_124, e105_125, e105_126, e105_129, s104 hS hB hs (show 1 < 4 by decide) hm, Option.toList_some, List.cons_append, List.nil_append]
            exact hQ
          · rw [if_neg w1] at hQ ⊢
            by_cases w2 : w = 2
            · rw [if_pos w2] at hQ ⊢
              simp (disch := first | assumption | omega | exact am_isr_ref | exact am_isr_null | exact am_isr_rf | exact am_c1_int | exact am_c1_ref | exact am_c1_null | exact am_c1_rf | exact am_b0 | exact am_b1 | exact RM_obj (by assumption) | exact MS_obj (by assumption) | (simp only [ne_eq]; done) | exact am_nz2 | exact am_nz3 | exact am_nz6 | exact am_lt (hB _ _) | exact am_lt (stF_lt hB) | exact b32_01) only [e105_130, e105_131, e105_132, e105_133, e105_136, s104 hS hB hs (show 2 < 4 by decide) hm, Option.toList_some, List.cons_append, List.nil_append]
              exact hQ
            · rw [if_neg w2] at hQ ⊢
              by_cases w3 : w = 3
              · rw [if_pos w3] at hQ ⊢
                simp (disch := first | assumption | omega | exact am_isr_ref | exact am_isr_null | exact am_isr_rf | exact am_c1_int | exact am_c1_ref | exact am_c1_null | exact am_c1_rf | exact am_b0 | exact am_b1 | exact RM_obj (by assumption) | exact MS_obj (by assumption) | (simp only [ne_eq]; done) | exact am_nz2 | exact am_nz3 | exact am_nz6 | exact am_lt (hB _ _) | exact am_lt (stF_lt hB) | exact b32_01) only [e105_137, e105_138, e105_139, e105_140, e105_143, s104 hS hB hs (show 3 < 4 by decide) hm, Option.toList_some, List.cons_append, List.nil_append]
                exact hQ
              · rw [if_neg w3] at hQ ⊢
                simp (disch := first | assumption | omega | exact am_isr_ref | exact am_isr_null | exact am_isr_rf | exact am_c1_int | exact am_c1_ref | exact am_c1_null | exact am_c1_rf | exact am_b0 | exact am_b1 | exact RM_obj (by assumption) | exact MS_obj (by assumption) | (simp only [ne_eq]; done) | exact am_nz2 | exact am_nz3 | exact am_nz6 | exact am_lt (hB _ _) | exact am_lt (stF_lt hB) | exact b32_01) only [e105_144, e105_145]
                exact hQ
theorem c105f {s w : Int32} (hc : (s < 0 ∨ nI 6 ≤ s) ∨ oddQ w) (hQ : Q (some (.int (-1))) h) : am_R (d + 1) 105 0 [some (.ref m), some (.int s), some (.int w)] [] h Q := by
  by_cases h1 : s < 0 ∨ nI 6 ≤ s
  · simp (disch := first | assumption | omega | exact am_isr_ref | exact am_isr_null | exact am_isr_rf | exact am_c1_int | exact am_c1_ref | exact am_c1_null | exact am_c1_rf | exact am_b0 | exact am_b1 | exact RM_obj (by assumption) | exact MS_obj (by assumption) | (simp only [ne_eq]; done) | exact am_nz2 | exact am_nz3 | exact am_nz6 | exact am_lt (hB _ _) | exact am_lt (stF_lt hB) | exact b32_01) only [e105_0, e105_1, e105_4, e105_7, e105_8, c73f h1, Option.toList_some, List.cons_append, List.nil_append, nI_z, not_true_eq_false, if_false]
    exact hQ
  · obtain ⟨j, hj, rfl⟩ := ix_of (by decide) h1
    obtain ⟨o1, o2, o3, o4, o5, o6, o7, o8⟩ := odd_facts (hc.resolve_left h1)
    simp (disch := first | assumption | omega | exact am_isr_ref | exact am_isr_null | exact am_isr_rf | exact am_c1_int | exact am_c1_ref | exact am_c1_null | exact am_c1_rf | exact am_b0 | exact am_b1 | exact RM_obj (by assumption) | exact MS_obj (by assumption) | (simp only [ne_eq]; done) | exact am_nz2 | exact am_nz3 | exact am_nz6 | exact am_lt (hB _ _) | exact am_lt (stF_lt hB) | exact b32_01) only [e105_0, e105_1, e105_4, e105_7, e105_8, e105_9, e105_10, e105_12, e105_15, e105_16, e105_18, c73t hj, Option.toList_some, List.cons_append, List.nil_append, nI_z, nq, if_true, not_false_eq_true, Nat.one_ne_zero]
    rw [go3 o1]
    simp (disch := first | assumption | omega | exact am_isr_ref | exact am_isr_null | exact am_isr_rf | exact am_c1_int | exact am_c1_ref | exact am_c1_null | exact am_c1_rf | exact am_b0 | exact am_b1 | exact RM_obj (by assumption) | exact MS_obj (by assumption) | (simp only [ne_eq]; done) | exact am_nz2 | exact am_nz3 | exact am_nz6 | exact am_lt (hB _ _) | exact am_lt (stF_lt hB) | exact b32_01) only [e105_35, e105_36, e105_38, e105_41, e105_42, e105_44]
    rw [go3 o2]
    simp (disch := first | assumption | omega | exact am_isr_ref | exact am_isr_null | exact am_isr_rf | exact am_c1_int | exact am_c1_ref | exact am_c1_null | exact am_c1_rf | exact am_b0 | exact am_b1 | exact RM_obj (by assumption) | exact MS_obj (by assumption) | (simp only [ne_eq]; done) | exact am_nz2 | exact am_nz3 | exact am_nz6 | exact am_lt (hB _ _) | exact am_lt (stF_lt hB) | exact b32_01) only [e105_61, e105_62, e105_64, e105_67, e105_68, e105_70]
    rw [go3 o4, e105_83, e105_84, if_neg o5, if_neg o6, if_neg o7, if_neg o8]
    simp (disch := first | assumption | omega | exact am_isr_ref | exact am_isr_null | exact am_isr_rf | exact am_c1_int | exact am_c1_ref | exact am_c1_null | exact am_c1_rf | exact am_b0 | exact am_b1 | exact RM_obj (by assumption) | exact MS_obj (by assumption) | (simp only [ne_eq]; done) | exact am_nz2 | exact am_nz3 | exact am_nz6 | exact am_lt (hB _ _) | exact am_lt (stF_lt hB) | exact b32_01) only [e105_144, e105_145]
    exact hQ
def ansT (S : aSt) (n w : Nat) : Int32 := if 10 ≤ w ∧ w < 13 then nI (stF S.2.1 n (w - 10)) else if 20 ≤ w ∧ w < 28 then b32 (wF (S.2.1 4 n) (w - 20)) else if w = 0 then nI (plT S.2.1 n) else if w = 1 then (if S.2.1 8 n = 0 then -1 else nI (S.2.1 9 n)) else if w = 2 then (if S.2.1 8 n = 0 then nI 0 else nI 1) else if w = 3 then nI (cntF (fun j => decide (wF (S.2.1 4 n) j)) 8) else -1
theorem c106 {n w : Nat} (hn : n < S.1) (hw : w < 40) (hS : MMs g h m S pl) (hB : am_BN S.2.1) (hm : S.1 ≤ 200) (h8 : S.2.1 8 n < 2) (h4 : S.2.1 4 n < 256) (hQ : Q (some (.int (ansT S n w))) h) : am_R (d + 2) 106 0 [some (.ref m), some (.int (nI n)), some (.int (nI w))] [] h Q := by
  have hn2 : n < 200 := by omega
  simp (disch := first | assumption | omega | exact am_isr_ref | exact am_isr_null | exact am_isr_rf | exact am_c1_int | exact am_c1_ref | exact am_c1_null | exact am_c1_rf | exact am_b0 | exact am_b1 | exact RM_obj (by assumption) | exact MS_obj (by assumption) | (simp only [ne_eq]; done) | exact am_nz2 | exact am_nz3 | exact am_nz6 | exact am_lt (hB _ _) | exact am_lt (stF_lt hB) | exact b32_01) only [e106_0, e106_1, e106_4, e106_5, e106_6, e106_9, gS_0 hS, if_neg (nI_pos (n := n) (show n < 2 ^ 31 by omega)), nlt, if_pos hn]
  simp (disch := first | assumption | omega | exact am_isr_ref | exact am_isr_null | exact am_isr_rf | exact am_c1_int | exact am_c1_ref | exact am_c1_null | exact am_c1_rf | exact am_b0 | exact am_b1 | exact RM_obj (by assumption) | exact MS_obj (by assumption) | (simp only [ne_eq]; done) | exact am_nz2 | exact am_nz3 | exact am_nz6 | exact am_lt (hB _ _) | exact am_lt (stF_lt hB) | exact b32_01) only [e106_14, e106_15, e106_17, e106_20, e106_21, e106_23, nlt, nle]
  unfold ansT at hQ
  by_cases h1 : 10 ≤ w ∧ w < 13
  · rw [if_neg (show ¬ w < 10 by omega), if_neg (show ¬ 13 ≤ w by omega)]
    rw [if_pos h1] at hQ
    simp (disch := first | assumption | omega | exact am_isr_ref | exact am_isr_null | exact am_isr_rf | exact am_c1_int | exact am_c1_ref | exact am_c1_null | exact am_c1_rf | exact am_b0 | exact am_b1 | exact RM_obj (by assumption) | exact MS_obj (by assumption) | (simp only [ne_eq]; done) | exact am_nz2 | exact am_nz3 | exact am_nz6 | exact am_lt (hB _ _) | exact am_lt (stF_lt hB) | exact b32_01) only [e106_26, e106_27, e106_28, e106_29, e106_31, e106_32, e106_35, pk_sub (show 10 ≤ w by omega), s80 hS hB hn2 (show w - 10 < 3 by omega) h8, Option.toList_some, List.cons_append, List.nil_append]
    exact hQ
  · rw [if_neg h1] at hQ
    rw [go3 (show w < 10 ∨ 13 ≤ w by omega)]
    simp (disch := first | assumption | omega | exact am_isr_ref | exact am_isr_null | exact am_isr_rf | exact am_c1_int | exact am_c1_ref | exact am_c1_null | exact am_c1_rf | exact am_b0 | exact am_b1 | exact RM_obj (by assumption) | exact MS_obj (by assumption) | (simp only [ne_eq]; done) | exact am_nz2 | exact am_nz3 | exact am_nz6 | exact am_lt (hB _ _) | exact am_lt (stF_lt hB) | exact b32_01) only [e106_36, e106_37, e106_39, e106_42, e106_43, e106_45, nlt, nle]
    by_cases h2 : 20 ≤ w ∧ w < 28
    · rw [if_neg (show ¬ w < 20 by omega), if_neg (show ¬ 28 ≤ w by omega)]
      rw [if_pos h2] at hQ
      simp (disch := first | assumption | omega | exact am_isr_ref | exact am_isr_null | exact am_isr_rf | exact am_c1_int | exact am_c1_ref | exact am_c1_null | exact am_c1_rf | exact am_b0 | exact am_b1 | exact RM_obj (by assumption) | exact MS_obj (by assumption) | (simp only [ne_eq]; done) | exact am_nz2 | exact am_nz3 | exact am_nz6 | exact am_lt (hB _ _) | exact am_lt (stF_lt hB) | exact b32_01) only [e106_48, e106_49, e106_50, e106_51, e106_53, e106_54, e106_57, e106_60, e106_61, e106_64, e106_65, pk_sub (show 20 ≤ w by omega), s79 hS hB hn2 (show w - 20 < 8 by omega), Option.toList_some, List.cons_append, List.nil_append, b32_q0, b32_n]
      exact hQ
    · rw [if_neg h2] at hQ
      rw [go3 (show w < 20 ∨ 28 ≤ w by omega)]
      rw [e106_66, e106_67]
      have i0 : (0 : Int32) = nI 0 := rfl
      have i1 : (1 : Int32) = nI 1 := rfl
      have i2 : (2 : Int32) = nI 2 := rfl
      have i3 : (3 : Int32) = nI 3 := rfl
      simp (disch := first | assumption | omega | exact am_isr_ref | exact am_isr_null | exact am_isr_rf | exact am_c1_int | exact am_c1_ref | exact am_c1_null | exact am_c1_rf | exact am_b0 | exact am_b1 | exact RM_obj (by assumption) | exact MS_obj (by assumption) | (simp only [ne_eq]; done) | exact am_nz2 | exact am_nz3 | exact am_nz6 | exact am_lt (hB _ _) | exact am_lt (stF_lt hB) | exact b32_01) only [i0, i1, i2, i3, nq]
      by_cases w0 : w = 0
      · rw [if_pos w0] at hQ ⊢
        simp (disch := first | assumption | omega | exact am_isr_ref | exact am_isr_null | exact am_isr_rf | exact am_c1_int | exact am_c1_ref | exact am_c1_null | exact am_c1_rf | exact am_b0 | exact am_b1 | exact RM_obj (by assumption) | exact MS_obj (by assumption) | (simp only [ne_eq]; done) | exact am_nz2 | exact am_nz3 | exact am_nz6 | exact am_lt (hB _ _) | exact am_lt (stF_lt hB) | exact b32_01) only [e106_96, e106_97, e106_98, e106_101, s78 hS hB hn2, Option.toList_some, List.cons_append, List.nil_append]
        exact hQ
      · rw [if_neg w0] at hQ ⊢
        by_cases w1 : w = 1
        · rw [if_pos w1] at hQ ⊢
          simp (disch := first | assumption | omega | exact am_isr_ref | exact am_isr_null | exact am_isr_rf | exact am_c1_int | exact am_c1_ref | exact am_c1_null | exact am_c1_rf | exact am_b0 | exact am_b1 | exact RM_obj (by assumption) | exact MS_obj (by assumption) | (simp only [ne_eq]; done) | exact am_nz2 | exact am_nz3 | exact am_nz6 | exact am_lt (hB _ _) | exact am_lt (stF_lt hB) | exact b32_01) only [e106_102, e106_103, e106_106, e106_107, e106_108, e106_111, e106_112, e106_115, e106_116, e106_117, e106_120, e106_121, gS_8 hS, rS_8 hS hn2, i0, nq, gS_9 hS, rS_9 hS hn2]
          by_cases ht : S.2.1 8 n = 0
          · rw [if_pos ht] at hQ ⊢
            exact hQ
          · rw [if_neg ht] at hQ ⊢
            exact hQ
        · rw [if_neg w1] at hQ ⊢
          by_cases w2 : w = 2
          · rw [if_pos w2] at hQ ⊢
            simp (disch := first | assumption | omega | exact am_isr_ref | exact am_isr_null | exact am_isr_rf | exact am_c1_int | exact am_c1_ref | exact am_c1_null | exact am_c1_rf | exact am_b0 | exact am_b1 | exact RM_obj (by assumption) | exact MS_obj (by assumption) | (simp only [ne_eq]; done) | exact am_nz2 | exact am_nz3 | exact am_nz6 | exact am_lt (hB _ _) | exact am_lt (stF_lt hB) | exact b32_01) only [e106_122, e106_123, e106_126, e106_127, e106_128, e106_131, e106_132, e106_135, e106_136, gS_8 hS, rS_8 hS hn2, i0, nq]
            by_cases ht : S.2.1 8 n = 0
            · rw [if_pos ht] at hQ ⊢
              exact hQ
            · rw [if_neg ht] at hQ ⊢
              exact hQ
          · rw [if_neg w2] at hQ ⊢
            by_cases w3 : w = 3
            · rw [if_pos w3] at hQ ⊢
              simp (disch := first | assumption | omega | exact am_isr_ref | exact am_isr_null | exact am_isr_rf | exact am_c1_int | exact am_c1_ref | exact am_c1_null | exact am_c1_rf | exact am_b0 | exact am_b1 | exact RM_obj (by assumption) | exact MS_obj (by assumption) | (simp only [ne_eq]; done) | exact am_nz2 | exact am_nz3 | exact am_nz6 | exact am_lt (hB _ _) | exact am_lt (stF_lt hB) | exact b32_01) only [e106_137, e106_138, e106_141, e106_142, e106_143, e106_146, gS_4 hS, rS_4 hS hn2, c102 h4, Option.toList_some, List.cons_append, List.nil_append]
              exact hQ
            · rw [if_neg w3] at hQ ⊢
              simp (disch := first | assumption | omega | exact am_isr_ref | exact am_isr_null | exact am_isr_rf | exact am_c1_int | exact am_c1_ref | exact am_c1_null | exact am_c1_rf | exact am_b0 | exact am_b1 | exact RM_obj (by assumption) | exact MS_obj (by assumption) | (simp only [ne_eq]; done) | exact am_nz2 | exact am_nz3 | exact am_nz6 | exact am_lt (hB _ _) | exact am_lt (stF_lt hB) | exact b32_01) only [e106_147, e106_148]
              exact hQ
theorem c106f {n w : Int32} (hm : S.1 ≤ 200) (hS : MMs g h m S pl) (hc : (n < 0 ∨ nI S.1 ≤ n) ∨ oddQ w) (hQ : Q (some (.int (-1))) h) : am_R (d + 2) 106 0 [some (.ref m), some (.int n), some (.int w)] [] h Q := by
  by_cases h1 : n < 0 ∨ nI S.1 ≤ n
  · by_cases h2 : n < 0
    · simp (disch := first | assumption | omega | exact am_isr_ref | exact am_isr_null | exact am_isr_rf | exact am_c1_int | exact am_c1_ref | exact am_c1_null | exact am_c1_rf | exact am_b0 | exact am_b1 | exact RM_obj (by assumption) | exact MS_obj (by assumption) | (simp only [ne_eq]; done) | exact am_nz2 | exact am_nz3 | exact am_nz6 | exact am_lt (hB _ _) | exact am_lt (stF_lt hB) | exact b32_01) only [e106_0, e106_1, e106_12, e106_13, if_pos h2]
      exact hQ
    · have h3 : ¬ n < nI S.1 := by
        have := h1.resolve_left h2
        rw [Int32.le_iff_toInt_le] at this
        rw [Int32.lt_iff_toInt_lt]
        omega
      simp (disch := first | assumption | omega | exact am_isr_ref | exact am_isr_null | exact am_isr_rf | exact am_c1_int | exact am_c1_ref | exact am_c1_null | exact am_c1_rf | exact am_b0 | exact am_b1 | exact RM_obj (by assumption) | exact MS_obj (by assumption) | (simp only [ne_eq]; done) | exact am_nz2 | exact am_nz3 | exact am_nz6 | exact am_lt (hB _ _) | exact am_lt (stF_lt hB) | exact b32_01) only [e106_0, e106_1, e106_4, e106_5, e106_6, e106_9, e106_12, e106_13, gS_0 hS, if_neg h2, if_neg h3]
      exact hQ
  · obtain ⟨j, hj, rfl⟩ := ix_of (by omega) h1
    obtain ⟨o1, o2, o3, o4, o5, o6, o7, o8⟩ := odd_facts (hc.resolve_left h1)
    simp (disch := first | assumption | omega | exact am_isr_ref | exact am_isr_null | exact am_isr_rf | exact am_c1_int | exact am_c1_ref | exact am_c1_null | exact am_c1_rf | exact am_b0 | exact am_b1 | exact RM_obj (by assumption) | exact MS_obj (by assumption) | (simp only [ne_eq]; done) | exact am_nz2 | exact am_nz3 | exact am_nz6 | exact am_lt (hB _ _) | exact am_lt (stF_lt hB) | exact b32_01) only [e106_0, e106_1, e106_4, e106_5, e106_6, e106_9, gS_0 hS, if_neg (nI_pos (n := j) (show j < 2 ^ 31 by omega)), nlt, if_pos hj]
    simp (disch := first | assumption | omega | exact am_isr_ref | exact am_isr_null | exact am_isr_rf | exact am_c1_int | exact am_c1_ref | exact am_c1_null | exact am_c1_rf | exact am_b0 | exact am_b1 | exact RM_obj (by assumption) | exact MS_obj (by assumption) | (simp only [ne_eq]; done) | exact am_nz2 | exact am_nz3 | exact am_nz6 | exact am_lt (hB _ _) | exact am_lt (stF_lt hB) | exact b32_01) only [e106_14, e106_15, e106_17, e106_20, e106_21, e106_23]
    rw [go3 o1]
    simp (disch := first | assumption | omega | exact am_isr_ref | exact am_isr_null | exact am_isr_rf | exact am_c1_int | exact am_c1_ref | exact am_c1_null | exact am_c1_rf | exact am_b0 | exact am_b1 | exact RM_obj (by assumption) | exact MS_obj (by assumption) | (simp only [ne_eq]; done) | exact am_nz2 | exact am_nz3 | exact am_nz6 | exact am_lt (hB _ _) | exact am_lt (stF_lt hB) | exact b32_01) only [e106_36, e106_37, e106_39, e106_42, e106_43, e106_45]
    rw [go3 o3, e106_66, e106_67, if_neg o5, if_neg o6, if_neg o7, if_neg o8]
    simp (disch := first | assumption | omega | exact am_isr_ref | exact am_isr_null | exact am_isr_rf | exact am_c1_int | exact am_c1_ref | exact am_c1_null | exact am_c1_rf | exact am_b0 | exact am_b1 | exact RM_obj (by assumption) | exact MS_obj (by assumption) | (simp only [ne_eq]; done) | exact am_nz2 | exact am_nz3 | exact am_nz6 | exact am_lt (hB _ _) | exact am_lt (stF_lt hB) | exact b32_01) only [e106_147, e106_148]
    exact hQ
end MV
