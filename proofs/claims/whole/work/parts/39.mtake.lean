/-! prepare, take and send whole -/
def tmF (N : Nat → Nat → Nat) (s n : Nat) : Nat := max (max (max (max (N 10 s) (N 3 n)) (N 2 (3 * n + 0))) (N 2 (3 * n + 1))) (N 2 (3 * n + 2)) + 1
def prpF (S : aSt) (s n : Nat) : aSt := setN (setN (setN S 10 s (tmF S.2.1 s n)) 11 (200 * s + n) 1) 12 (200 * s + n) (tmF S.2.1 s n)
def prepF (S : aSt) (s ld n : Nat) : aSt := if s = ld then prdF (prpF S s n) ld n (tmF S.2.1 s n) else pushF (prpF S s n) (s, ld, 2, nI n, tmF S.2.1 s n, 0, 0)
section MT
variable {d : Nat} {g : Nat → Option aE} {h : aH} {m pl : Nat} {S : aSt} {Q : Option Value → aH → Prop}
theorem c87_2 {f ld n t y z : Nat} (hld : ld + 1 < 6) (hn : n < 200) (ht : t < 1000000) (hS : MMs g h m S pl) (hB : am_BN S.2.1) (hm : S.1 ≤ 200) (h6 : 1 ≤ S.2.1 6 n) (h1c : S.2.1 1 n < 6) (hL : S.2.2.2.2.length + 1300 ≤ 10000)
    (hQ : ∀ (h1 : aH) (pl1 : Nat), GR h pl h1 pl1 → MMs g h1 m (prdF S ld n t) pl1 → Q none h1) : am_R (d + 6) 87 0 [some (.ref m), some (.int (nI f)), some (.int (nI ld)), some (.int (nI 2)), some (.int (nI n)), some (.int (nI t)), some (.int (nI y)), some (.int (nI z))] [] h Q := by
  have n1 : ¬ nI 2 = 1 := by decide
  have n2 : nI 2 = 2 := rfl
  simp (disch := first | assumption | omega | exact am_isr_ref | exact am_isr_null | exact am_isr_rf | exact am_c1_int | exact am_c1_ref | exact am_c1_null | exact am_c1_rf | exact am_b0 | exact am_b1 | exact RM_obj (by assumption) | exact MS_obj (by assumption) | (simp only [ne_eq]; done) | exact am_nz2 | exact am_nz3 | exact am_nz6 | exact am_lt (hB _ _) | exact am_lt (stF_lt hB) | exact b32_01) only [e87_0, e87_1, if_neg n1, if_pos n2, e87_47, e87_48, e87_49, e87_51, e87_53]
  refine c89 hld hn ht hS hB hm h6 h1c hL (fun h1 pl1 hG hS1 => ?_)
  simp (disch := first | assumption | omega | exact am_isr_ref | exact am_isr_null | exact am_isr_rf | exact am_c1_int | exact am_c1_ref | exact am_c1_null | exact am_c1_rf | exact am_b0 | exact am_b1 | exact RM_obj (by assumption) | exact MS_obj (by assumption) | (simp only [ne_eq]; done) | exact am_nz2 | exact am_nz3 | exact am_nz6 | exact am_lt (hB _ _) | exact am_lt (stF_lt hB) | exact b32_01) only [Option.toList_none, List.nil_append, e87_56, e87_140]
  exact hQ h1 pl1 hG hS1
theorem c85_2 {ld n t : Nat} (hld : ld + 1 < 6) (hn : n < 200) (ht : t < 1000000) (hS : MMs g h m S pl) (hB : am_BN S.2.1) (hm : S.1 ≤ 200) (h6 : 1 ≤ S.2.1 6 n) (h1c : S.2.1 1 n < 6) (hL : S.2.2.2.2.length + 1300 ≤ 10000)
    (hQ : ∀ (h1 : aH) (pl1 : Nat), GR h pl h1 pl1 → MMs g h1 m (prdF S ld n t) pl1 → Q none h1) : am_R (d + 7) 85 0 [some (.ref m), some (.int (nI ld)), some (.int (nI ld)), some (.int (nI 2)), some (.int (nI n)), some (.int (nI t)), some (.int (nI 0)), some (.int (nI 0)), none, none] [] h Q := by
  simp (disch := first | assumption | omega | exact am_isr_ref | exact am_isr_null | exact am_isr_rf | exact am_c1_int | exact am_c1_ref | exact am_c1_null | exact am_c1_rf | exact am_b0 | exact am_b1 | exact RM_obj (by assumption) | exact MS_obj (by assumption) | (simp only [ne_eq]; done) | exact am_nz2 | exact am_nz3 | exact am_nz6 | exact am_lt (hB _ _) | exact am_lt (stF_lt hB) | exact b32_01) only [e85_0, e85_1, e85_2, e85_5, e85_6, e85_7, e85_8, e85_9, e85_11, e85_13, e85_15, e85_17, not_true_eq_false, if_false]
  refine c87_2 hld hn ht hS hB hm h6 h1c hL (fun h1 pl1 hG hS1 => ?_)
  simp (disch := first | assumption | omega | exact am_isr_ref | exact am_isr_null | exact am_isr_rf | exact am_c1_int | exact am_c1_ref | exact am_c1_null | exact am_c1_rf | exact am_b0 | exact am_b1 | exact RM_obj (by assumption) | exact MS_obj (by assumption) | (simp only [ne_eq]; done) | exact am_nz2 | exact am_nz3 | exact am_nz6 | exact am_lt (hB _ _) | exact am_lt (stF_lt hB) | exact b32_01) only [Option.toList_none, List.nil_append, e85_20]
  exact hQ h1 pl1 hG hS1
theorem c88 {s ld n : Nat} (hs : s < 6) (hld : ld + 1 < 6) (hn : n < 200) (ht : tmF S.2.1 s n < 1000000) (hS : MMs g h m S pl) (hB : am_BN S.2.1) (hm : S.1 ≤ 200) (h6 : 1 ≤ S.2.1 6 n) (h1c : S.2.1 1 n < 6) (hL : S.2.2.2.2.length + 1300 ≤ 10000)
    (hQ : ∀ (h1 : aH) (pl1 : Nat), GR h pl h1 pl1 → MMs g h1 m (prepF S s ld n) pl1 → Q none h1) : am_R (d + 8) 88 0 [some (.ref m), some (.int (nI s)), some (.int (nI ld)), some (.int (nI n)), none, none] [] h Q := by
  have he : 200 * s + n < 1200 := by omega
  have b10 := hB 10 s
  have b3 := hB 3 n
  have b20 := hB 2 (3 * n + 0)
  have b21 := hB 2 (3 * n + 1)
  have b22 := hB 2 (3 * n + 2)
  simp (disch := first | assumption | omega | exact am_isr_ref | exact am_isr_null | exact am_isr_rf | exact am_c1_int | exact am_c1_ref | exact am_c1_null | exact am_c1_rf | exact am_b0 | exact am_b1 | exact RM_obj (by assumption) | exact MS_obj (by assumption) | (simp only [ne_eq]; done) | exact am_nz2 | exact am_nz3 | exact am_nz6 | exact am_lt (hB _ _) | exact am_lt (stF_lt hB) | exact b32_01) only [e88_0, e88_1, e88_4, e88_5, e88_6, e88_7, e88_10, e88_11, e88_12, e88_15, e88_17, e88_18, gS_10 hS, gS_3 hS, rS_10 hS hs, rS_3 hS hn, max32]
  rw [e88_20]
  simp (disch := first | assumption | omega | exact am_isr_ref | exact am_isr_null | exact am_isr_rf | exact am_c1_int | exact am_c1_ref | exact am_c1_null | exact am_c1_rf | exact am_b0 | exact am_b1 | exact RM_obj (by assumption) | exact MS_obj (by assumption) | (simp only [ne_eq]; done) | exact am_nz2 | exact am_nz3 | exact am_nz6 | exact am_lt (hB _ _) | exact am_lt (stF_lt hB) | exact b32_01) only [e88_22, e88_23, e88_26, e88_28, e88_29, e88_32, e88_33, e88_34, e88_35, e88_37, e88_38, e88_39, e88_42, e88_44, e88_47, gS_2 hS, rS_2 hS, max32, nI_add, pk_mul, nle, if_true, if_false, Nat.reduceAdd, Nat.reduceLeDiff]
  rw [e88_20]
  simp (disch := first | assumption | omega | exact am_isr_ref | exact am_isr_null | exact am_isr_rf | exact am_c1_int | exact am_c1_ref | exact am_c1_null | exact am_c1_rf | exact am_b0 | exact am_b1 | exact RM_obj (by assumption) | exact MS_obj (by assumption) | (simp only [ne_eq]; done) | exact am_nz2 | exact am_nz3 | exact am_nz6 | exact am_lt (hB _ _) | exact am_lt (stF_lt hB) | exact b32_01) only [e88_22, e88_23, e88_26, e88_28, e88_29, e88_32, e88_33, e88_34, e88_35, e88_37, e88_38, e88_39, e88_42, e88_44, e88_47, gS_2 hS, rS_2 hS, max32, nI_add, pk_mul, nle, if_true, if_false, Nat.reduceAdd, Nat.reduceLeDiff]
  rw [e88_20]
  simp (disch := first | assumption | omega | exact am_isr_ref | exact am_isr_null | exact am_isr_rf | exact am_c1_int | exact am_c1_ref | exact am_c1_null | exact am_c1_rf | exact am_b0 | exact am_b1 | exact RM_obj (by assumption) | exact MS_obj (by assumption) | (simp only [ne_eq]; done) | exact am_nz2 | exact am_nz3 | exact am_nz6 | exact am_lt (hB _ _) | exact am_lt (stF_lt hB) | exact b32_01) only [e88_22, e88_23, e88_26, e88_28, e88_29, e88_32, e88_33, e88_34, e88_35, e88_37, e88_38, e88_39, e88_42, e88_44, e88_47, gS_2 hS, rS_2 hS, max32, nI_add, pk_mul, nle, if_true, if_false, Nat.reduceAdd, Nat.reduceLeDiff]
  rw [e88_20]
  simp (disch := first | assumption | omega | exact am_isr_ref | exact am_isr_null | exact am_isr_rf | exact am_c1_int | exact am_c1_ref | exact am_c1_null | exact am_c1_rf | exact am_b0 | exact am_b1 | exact RM_obj (by assumption) | exact MS_obj (by assumption) | (simp only [ne_eq]; done) | exact am_nz2 | exact am_nz3 | exact am_nz6 | exact am_lt (hB _ _) | exact am_lt (stF_lt hB) | exact b32_01) only [e88_22, e88_23, nle, if_true, Nat.le_refl]
  simp (disch := first | assumption | omega | exact am_isr_ref | exact am_isr_null | exact am_isr_rf | exact am_c1_int | exact am_c1_ref | exact am_c1_null | exact am_c1_rf | exact am_b0 | exact am_b1 | exact RM_obj (by assumption) | exact MS_obj (by assumption) | (simp only [ne_eq]; done) | exact am_nz2 | exact am_nz3 | exact am_nz6 | exact am_lt (hB _ _) | exact am_lt (stF_lt hB) | exact b32_01) only [e88_50, e88_51, e88_54, e88_55, e88_57, e88_58, e88_59, gS_10 hS, nI_add]
  refine wS_10 hS hs (fun h1 hG1 hS1 => ?_)
  simp (disch := first | assumption | omega | exact am_isr_ref | exact am_isr_null | exact am_isr_rf | exact am_c1_int | exact am_c1_ref | exact am_c1_null | exact am_c1_rf | exact am_b0 | exact am_b1 | exact RM_obj (by assumption) | exact MS_obj (by assumption) | (simp only [ne_eq]; done) | exact am_nz2 | exact am_nz3 | exact am_nz6 | exact am_lt (hB _ _) | exact am_lt (stF_lt hB) | exact b32_01) only [e88_60, e88_61, e88_64, e88_67, e88_68, e88_69, e88_70, e88_71, e88_72, gS_11 hS1, nI_add, pk_mul]
  refine wS_11 hS1 he (fun h2 hG2 hS2 => ?_)
  simp (disch := first | assumption | omega | exact am_isr_ref | exact am_isr_null | exact am_isr_rf | exact am_c1_int | exact am_c1_ref | exact am_c1_null | exact am_c1_rf | exact am_b0 | exact am_b1 | exact RM_obj (by assumption) | exact MS_obj (by assumption) | (simp only [ne_eq]; done) | exact am_nz2 | exact am_nz3 | exact am_nz6 | exact am_lt (hB _ _) | exact am_lt (stF_lt hB) | exact b32_01) only [e88_73, e88_74, e88_77, e88_80, e88_81, e88_82, e88_83, e88_84, e88_86, e88_87, e88_88, gS_12 hS2, nI_add, pk_mul]
  refine wS_12 hS2 he (fun h3 hG3 hS3 => ?_)
  have hS3 : MMs g h3 m (prpF S s n) pl := hS3
  simp (disch := first | assumption | omega | exact am_isr_ref | exact am_isr_null | exact am_isr_rf | exact am_c1_int | exact am_c1_ref | exact am_c1_null | exact am_c1_rf | exact am_b0 | exact am_b1 | exact RM_obj (by assumption) | exact MS_obj (by assumption) | (simp only [ne_eq]; done) | exact am_nz2 | exact am_nz3 | exact am_nz6 | exact am_lt (hB _ _) | exact am_lt (stF_lt hB) | exact b32_01) only [e88_89, e88_90, e88_91, e88_92, e88_93, e88_94, e88_96, e88_97, e88_98, e88_99, e88_100, nI_add]
  unfold prepF at hQ
  by_cases hc : s = ld
  · subst hc
    rw [if_pos rfl] at hQ
    have hB3 : am_BN (prpF S s n).2.1 := BN_up2 (BN_up2 (BN_up2 hB ht) (by decide)) ht
    have v6 : (prpF S s n).2.1 6 n = S.2.1 6 n := by unfold prpF; rw [sN_ne (by decide), sN_ne (by decide), sN_ne (by decide)]
    have v1 : (prpF S s n).2.1 1 n = S.2.1 1 n := by unfold prpF; rw [sN_ne (by decide), sN_ne (by decide), sN_ne (by decide)]
    refine c85_2 (t := tmF S.2.1 s n) hld hn ht hS3 hB3 hm (by rw [v6]; exact h6) (by rw [v1]; exact h1c) hL (fun h4 pl4 hG4 hS4 => ?_)
    simp (disch := first | assumption | omega | exact am_isr_ref | exact am_isr_null | exact am_isr_rf | exact am_c1_int | exact am_c1_ref | exact am_c1_null | exact am_c1_rf | exact am_b0 | exact am_b1 | exact RM_obj (by assumption) | exact MS_obj (by assumption) | (simp only [ne_eq]; done) | exact am_nz2 | exact am_nz3 | exact am_nz6 | exact am_lt (hB _ _) | exact am_lt (stF_lt hB) | exact b32_01) only [Option.toList_none, List.nil_append, e88_103]
    exact hQ h4 pl4 (((hG1.tr hG2).tr hG3).tr hG4) hS4
  · rw [if_neg hc] at hQ
    refine c85p (q := (s, ld, 2, nI n, tmF S.2.1 s n, 0, 0)) hS3 hc ⟨hs, by show ld < 6; omega⟩ (by show S.2.2.2.2.length ≤ _; omega) (fun h4 pl4 hG4 hS4 => ?_)
    simp (disch := first | assumption | omega | exact am_isr_ref | exact am_isr_null | exact am_isr_rf | exact am_c1_int | exact am_c1_ref | exact am_c1_null | exact am_c1_rf | exact am_b0 | exact am_b1 | exact RM_obj (by assumption) | exact MS_obj (by assumption) | (simp only [ne_eq]; done) | exact am_nz2 | exact am_nz3 | exact am_nz6 | exact am_lt (hB _ _) | exact am_lt (stF_lt hB) | exact b32_01) only [Option.toList_none, List.nil_append, e88_103]
    exact hQ h4 pl4 (((hG1.tr hG2).tr hG3).tr hG4) hS4
theorem c87_1 {f s n x y z : Nat} (hs : s < 6) (hld : f + 1 < 6) (hn : n < 200) (ht : tmF S.2.1 s n < 1000000) (hS : MMs g h m S pl) (hB : am_BN S.2.1) (hm : S.1 ≤ 200) (h6 : 1 ≤ S.2.1 6 n) (h1c : S.2.1 1 n < 6) (hL : S.2.2.2.2.length + 1300 ≤ 10000)
    (hQ : ∀ (h1 : aH) (pl1 : Nat), GR h pl h1 pl1 → MMs g h1 m (prepF S s f n) pl1 → Q none h1) : am_R (d + 9) 87 0 [some (.ref m), some (.int (nI f)), some (.int (nI s)), some (.int (nI 1)), some (.int (nI n)), some (.int (nI x)), some (.int (nI y)), some (.int (nI z))] [] h Q := by
  have n1 : nI 1 = 1 := rfl
  simp (disch := first | assumption | omega | exact am_isr_ref | exact am_isr_null | exact am_isr_rf | exact am_c1_int | exact am_c1_ref | exact am_c1_null | exact am_c1_rf | exact am_b0 | exact am_b1 | exact RM_obj (by assumption) | exact MS_obj (by assumption) | (simp only [ne_eq]; done) | exact am_nz2 | exact am_nz3 | exact am_nz6 | exact am_lt (hB _ _) | exact am_lt (stF_lt hB) | exact b32_01) only [e87_0, e87_1, if_pos n1, e87_36, e87_37, e87_38, e87_39, e87_41]
  refine c88 hs hld hn ht hS hB hm h6 h1c hL (fun h1 pl1 hG hS1 => ?_)
  simp (disch := first | assumption | omega | exact am_isr_ref | exact am_isr_null | exact am_isr_rf | exact am_c1_int | exact am_c1_ref | exact am_c1_null | exact am_c1_rf | exact am_b0 | exact am_b1 | exact RM_obj (by assumption) | exact MS_obj (by assumption) | (simp only [ne_eq]; done) | exact am_nz2 | exact am_nz3 | exact am_nz6 | exact am_lt (hB _ _) | exact am_lt (stF_lt hB) | exact b32_01) only [Option.toList_none, List.nil_append, e87_44, e87_140]
  exact hQ h1 pl1 hG hS1
theorem c85_1 {s n : Nat} (hld : s + 1 < 6) (hn : n < 200) (ht : tmF S.2.1 s n < 1000000) (hS : MMs g h m S pl) (hB : am_BN S.2.1) (hm : S.1 ≤ 200) (h6 : 1 ≤ S.2.1 6 n) (h1c : S.2.1 1 n < 6) (hL : S.2.2.2.2.length + 1300 ≤ 10000)
    (hQ : ∀ (h1 : aH) (pl1 : Nat), GR h pl h1 pl1 → MMs g h1 m (prepF S s s n) pl1 → Q none h1) : am_R (d + 10) 85 0 [some (.ref m), some (.int (nI s)), some (.int (nI s)), some (.int (nI 1)), some (.int (nI n)), some (.int (nI 0)), some (.int (nI 0)), some (.int (nI 0)), none, none] [] h Q := by
  simp (disch := first | assumption | omega | exact am_isr_ref | exact am_isr_null | exact am_isr_rf | exact am_c1_int | exact am_c1_ref | exact am_c1_null | exact am_c1_rf | exact am_b0 | exact am_b1 | exact RM_obj (by assumption) | exact MS_obj (by assumption) | (simp only [ne_eq]; done) | exact am_nz2 | exact am_nz3 | exact am_nz6 | exact am_lt (hB _ _) | exact am_lt (stF_lt hB) | exact b32_01) only [e85_0, e85_1, e85_2, e85_5, e85_6, e85_7, e85_8, e85_9, e85_11, e85_13, e85_15, e85_17, not_true_eq_false, if_false]
  refine c87_1 (by omega) hld hn ht hS hB hm h6 h1c hL (fun h1 pl1 hG hS1 => ?_)
  simp (disch := first | assumption | omega | exact am_isr_ref | exact am_isr_null | exact am_isr_rf | exact am_c1_int | exact am_c1_ref | exact am_c1_null | exact am_c1_rf | exact am_b0 | exact am_b1 | exact RM_obj (by assumption) | exact MS_obj (by assumption) | (simp only [ne_eq]; done) | exact am_nz2 | exact am_nz3 | exact am_nz6 | exact am_lt (hB _ _) | exact am_lt (stF_lt hB) | exact b32_01) only [Option.toList_none, List.nil_append, e85_20]
  exact hQ h1 pl1 hG hS1
theorem c87_4 {f s n x y z : Nat} (hs : s < 6) (hn : n < 200) (hS : MMs g h m S pl)
    (hQ : ∀ (h1 : aH) (pl1 : Nat), GR h pl h1 pl1 → MMs g h1 m (setN S 11 (200 * s + n) 3) pl1 → Q none h1) : am_R d 87 0 [some (.ref m), some (.int (nI f)), some (.int (nI s)), some (.int (nI 4)), some (.int (nI n)), some (.int (nI x)), some (.int (nI y)), some (.int (nI z))] [] h Q := by
  have n1 : ¬ nI 4 = 1 := by decide
  have n2 : ¬ nI 4 = 2 := by decide
  have n3 : ¬ nI 4 = 3 := by decide
  have n4 : nI 4 = 4 := rfl
  simp (disch := first | assumption | omega | exact am_isr_ref | exact am_isr_null | exact am_isr_rf | exact am_c1_int | exact am_c1_ref | exact am_c1_null | exact am_c1_rf | exact am_b0 | exact am_b1 | exact RM_obj (by assumption) | exact MS_obj (by assumption) | (simp only [ne_eq]; done) | exact am_nz2 | exact am_nz3 | exact am_nz6 | exact am_lt (hB _ _) | exact am_lt (stF_lt hB) | exact b32_01) only [e87_0, e87_1, if_neg n1, if_neg n2, if_neg n3, if_pos n4, e87_71, e87_72, e87_75, e87_78, e87_79, e87_80, e87_82, e87_83, e87_84, gS_11 hS, nI_add, pk_mul]
  refine wS_11 hS (by omega) (fun h1 hG1 hS1 => ?_)
  simp (disch := first | assumption | omega | exact am_isr_ref | exact am_isr_null | exact am_isr_rf | exact am_c1_int | exact am_c1_ref | exact am_c1_null | exact am_c1_rf | exact am_b0 | exact am_b1 | exact RM_obj (by assumption) | exact MS_obj (by assumption) | (simp only [ne_eq]; done) | exact am_nz2 | exact am_nz3 | exact am_nz6 | exact am_lt (hB _ _) | exact am_lt (stF_lt hB) | exact b32_01) only [e87_85, e87_140]
  exact hQ h1 pl hG1 hS1
theorem c87_5 {f s u x y z : Nat} (hf : f < 6) (hs : s < 6) (hS : MMs g h m S pl)
    (hQ : ∀ (h1 : aH) (pl1 : Nat), GR h pl h1 pl1 → MMs g h1 m (setN S 13 (3 * s + f / 2) u) pl1 → Q none h1) : am_R (d + 1) 87 0 [some (.ref m), some (.int (nI f)), some (.int (nI s)), some (.int (nI 5)), some (.int (nI u)), some (.int (nI x)), some (.int (nI y)), some (.int (nI z))] [] h Q := by
  have n1 : ¬ nI 5 = 1 := by decide
  have n2 : ¬ nI 5 = 2 := by decide
  have n3 : ¬ nI 5 = 3 := by decide
  have n4 : ¬ nI 5 = 4 := by decide
  have n5 : nI 5 = 5 := rfl
  simp (disch := first | assumption | omega | exact am_isr_ref | exact am_isr_null | exact am_isr_rf | exact am_c1_int | exact am_c1_ref | exact am_c1_null | exact am_c1_rf | exact am_b0 | exact am_b1 | exact RM_obj (by assumption) | exact MS_obj (by assumption) | (simp only [ne_eq]; done) | exact am_nz2 | exact am_nz3 | exact am_nz6 | exact am_lt (hB _ _) | exact am_lt (stF_lt hB) | exact b32_01) only [e87_0, e87_1, if_neg n1, if_neg n2, if_neg n3, if_neg n4, if_pos n5, e87_88, e87_89, e87_92, e87_93, e87_94, e87_95, e87_96, e87_99, e87_100, e87_102, gS_13 hS, c75 hf, Option.toList_some, List.cons_append, List.nil_append, nI_add, pk_mul]
  refine wS_13 hS (by omega) (fun h1 hG1 hS1 => ?_)
  simp (disch := first | assumption | omega | exact am_isr_ref | exact am_isr_null | exact am_isr_rf | exact am_c1_int | exact am_c1_ref | exact am_c1_null | exact am_c1_rf | exact am_b0 | exact am_b1 | exact RM_obj (by assumption) | exact MS_obj (by assumption) | (simp only [ne_eq]; done) | exact am_nz2 | exact am_nz3 | exact am_nz6 | exact am_lt (hB _ _) | exact am_lt (stF_lt hB) | exact b32_01) only [e87_103, e87_140]
  exact hQ h1 pl hG1 hS1
def hearF (S : aSt) (s x y z : Nat) : aSt := setN (setN (setN S 14 (3 * s) x) 14 (3 * s + 1) y) 14 (3 * s + 2) z
theorem c87_6 {f s x y z : Nat} {num : Int32} (hs : s < 6) (hS : MMs g h m S pl)
    (hQ : ∀ (h1 : aH) (pl1 : Nat), GR h pl h1 pl1 → MMs g h1 m (hearF S s x y z) pl1 → Q none h1) : am_R d 87 0 [some (.ref m), some (.int (nI f)), some (.int (nI s)), some (.int (nI 6)), some (.int num), some (.int (nI x)), some (.int (nI y)), some (.int (nI z))] [] h Q := by
  have n1 : ¬ nI 6 = 1 := by decide
  have n2 : ¬ nI 6 = 2 := by decide
  have n3 : ¬ nI 6 = 3 := by decide
  have n4 : ¬ nI 6 = 4 := by decide
  have n5 : ¬ nI 6 = 5 := by decide
  simp (disch := first | assumption | omega | exact am_isr_ref | exact am_isr_null | exact am_isr_rf | exact am_c1_int | exact am_c1_ref | exact am_c1_null | exact am_c1_rf | exact am_b0 | exact am_b1 | exact RM_obj (by assumption) | exact MS_obj (by assumption) | (simp only [ne_eq]; done) | exact am_nz2 | exact am_nz3 | exact am_nz6 | exact am_lt (hB _ _) | exact am_lt (stF_lt hB) | exact b32_01) only [e87_0, e87_1, if_neg n1, if_neg n2, if_neg n3, if_neg n4, if_neg n5, e87_106, e87_107, e87_110, e87_111, e87_112, e87_113, e87_115, gS_14 hS, nI_add, pk_mul]
  refine wS_14 hS (by omega) (fun h1 hG1 hS1 => ?_)
  simp (disch := first | assumption | omega | exact am_isr_ref | exact am_isr_null | exact am_isr_rf | exact am_c1_int | exact am_c1_ref | exact am_c1_null | exact am_c1_rf | exact am_b0 | exact am_b1 | exact RM_obj (by assumption) | exact MS_obj (by assumption) | (simp only [ne_eq]; done) | exact am_nz2 | exact am_nz3 | exact am_nz6 | exact am_lt (hB _ _) | exact am_lt (stF_lt hB) | exact b32_01) only [e87_116, e87_117, e87_120, e87_121, e87_122, e87_123, e87_124, e87_125, e87_127, gS_14 hS1, nI_add, pk_mul]
  refine wS_14 hS1 (by omega) (fun h2 hG2 hS2 => ?_)
  simp (disch := first | assumption | omega | exact am_isr_ref | exact am_isr_null | exact am_isr_rf | exact am_c1_int | exact am_c1_ref | exact am_c1_null | exact am_c1_rf | exact am_b0 | exact am_b1 | exact RM_obj (by assumption) | exact MS_obj (by assumption) | (simp only [ne_eq]; done) | exact am_nz2 | exact am_nz3 | exact am_nz6 | exact am_lt (hB _ _) | exact am_lt (stF_lt hB) | exact b32_01) only [e87_128, e87_129, e87_132, e87_133, e87_134, e87_135, e87_136, e87_137, e87_139, gS_14 hS2, nI_add, pk_mul]
  refine wS_14 hS2 (by omega) (fun h3 hG3 hS3 => ?_)
  simp (disch := first | assumption | omega | exact am_isr_ref | exact am_isr_null | exact am_isr_rf | exact am_c1_int | exact am_c1_ref | exact am_c1_null | exact am_c1_rf | exact am_b0 | exact am_b1 | exact RM_obj (by assumption) | exact MS_obj (by assumption) | (simp only [ne_eq]; done) | exact am_nz2 | exact am_nz3 | exact am_nz6 | exact am_lt (hB _ _) | exact am_lt (stF_lt hB) | exact b32_01) only [e87_140]
  exact hQ h3 pl ((hG1.tr hG2).tr hG3) hS3
end MT
