/-! the model's calls: value, write, abort, written, client, server, transaction -/
/-- a number that no question has: below 0 or from 40 on -/
def oddQ (q : Int32) : Prop := q < 0 ∨ nI 40 ≤ q
theorem odd_facts {q : Int32} (hq : oddQ q) : (q < nI 10 ∨ nI 13 ≤ q) ∧ (q < nI 20 ∨ nI 23 ≤ q) ∧ (q < nI 20 ∨ nI 28 ≤ q) ∧ (q < nI 30 ∨ nI 33 ≤ q) ∧ ¬ q = 0 ∧ ¬ q = 1 ∧ ¬ q = 2 ∧ ¬ q = 3 := by
  have e10 : (nI 10).toInt = 10 := by decide
  have e13 : (nI 13).toInt = 13 := by decide
  have e20 : (nI 20).toInt = 20 := by decide
  have e23 : (nI 23).toInt = 23 := by decide
  have e28 : (nI 28).toInt = 28 := by decide
  have e30 : (nI 30).toInt = 30 := by decide
  have e33 : (nI 33).toInt = 33 := by decide
  have e40 : (nI 40).toInt = 40 := by decide
  have z0 : (0 : Int32).toInt = 0 := by decide
  have z1 : (1 : Int32).toInt = 1 := by decide
  have z2 : (2 : Int32).toInt = 2 := by decide
  have z3 : (3 : Int32).toInt = 3 := by decide
  unfold oddQ at hq
  simp only [Int32.lt_iff_toInt_lt, Int32.le_iff_toInt_le, e10, e13, e20, e23, e28, e30, e33, e40, z0] at hq ⊢
  refine ⟨by omega, by omega, by omega, by omega, fun z => ?_, fun z => ?_, fun z => ?_, fun z => ?_⟩ <;> (rw [z] at hq; omega)
theorem nx_or (a b : Nat) : nI a ||| nI b = nI (a ||| b) := by
  apply Int32.toBitVec_inj.1
  show BitVec.ofNat 32 a ||| BitVec.ofNat 32 b = BitVec.ofNat 32 (a ||| b)
  apply BitVec.eq_of_getLsbD_eq
  intro i hi
  simp [hi]
section MV
variable {d : Nat} {g : Nat → Option aE} {h : aH} {m pl : Nat} {S : aSt} {Q : Option Value → aH → Prop}
theorem c96 {c : Nat} (hc : c < 6) (hS : MMs g h m S pl) (hQ : Q (some (.int (S.2.2.1 21 c))) h) : am_R (d + 1) 96 0 [some (.ref m), some (.int (nI c))] [] h Q := by
  simp (disch := first | assumption | omega | exact am_isr_ref | exact am_isr_null | exact am_isr_rf | exact am_c1_int | exact am_c1_ref | exact am_c1_null | exact am_c1_rf | exact am_b0 | exact am_b1 | exact RM_obj (by assumption) | exact MS_obj (by assumption) | (simp only [ne_eq]; done) | exact am_nz2 | exact am_nz3 | exact am_nz6 | exact am_lt (hB _ _) | exact am_lt (stF_lt hB) | exact b32_01) only [e96_0, e96_1, e96_4, e96_7, e96_8, e96_11, e96_12, e96_13, e96_16, e96_17, c72t hc, Option.toList_some, List.cons_append, List.nil_append, gS_21 hS, rS_21 hS hc, nI_z, nq, if_false, Nat.one_ne_zero]
  exact hQ
theorem c96f {c : Int32} (hc : c < 0 ∨ nI 6 ≤ c) (hQ : Q (some (.int (nI 0))) h) : am_R (d + 1) 96 0 [some (.ref m), some (.int c)] [] h Q := by
  simp (disch := first | assumption | omega | exact am_isr_ref | exact am_isr_null | exact am_isr_rf | exact am_c1_int | exact am_c1_ref | exact am_c1_null | exact am_c1_rf | exact am_b0 | exact am_b1 | exact RM_obj (by assumption) | exact MS_obj (by assumption) | (simp only [ne_eq]; done) | exact am_nz2 | exact am_nz3 | exact am_nz6 | exact am_lt (hB _ _) | exact am_lt (stF_lt hB) | exact b32_01) only [e96_0, e96_1, e96_4, e96_16, e96_17, c72f hc, Option.toList_some, List.cons_append, List.nil_append, nI_z, if_true]
  exact hQ
theorem sh_k {k : Nat} (hk : k < 8) : nI 1 <<< (nI k &&& 31) = nI (2 ^ k) := by
  have h2 : 2 ^ k ≤ 2 ^ 7 := Nat.pow_le_pow_right (by decide) (by omega)
  rw [pk_shlN _ k (sh_l k (by omega)) (by omega), Nat.one_mul]
def writeF (S : aSt) (c k : Nat) (v : Int32) : aSt := setV (setN S 19 c (S.2.1 19 c ||| 2 ^ k)) 20 (8 * c + k) v
theorem c97 {c k : Nat} {v : Int32} (hc : c < 6) (hk : k < 8) (hS : MMs g h m S pl) (hB : am_BN S.2.1)
    (hQ : ∀ h1 : aH, GR h pl h1 pl → MMs g h1 m (if S.2.1 15 c = 1 then writeF S c k v else S) pl → Q (some (.int (if S.2.1 15 c = 1 then nI 1 else nI 0))) h1) : am_R (d + 1) 97 0 [some (.ref m), some (.int (nI c)), some (.int (nI k)), some (.int v)] [] h Q := by
  have b15 := hB 15 c
  simp (disch := first | assumption | omega | exact am_isr_ref | exact am_isr_null | exact am_isr_rf | exact am_c1_int | exact am_c1_ref | exact am_c1_null | exact am_c1_rf | exact am_b0 | exact am_b1 | exact RM_obj (by assumption) | exact MS_obj (by assumption) | (simp only [ne_eq]; done) | exact am_nz2 | exact am_nz3 | exact am_nz6 | exact am_lt (hB _ _) | exact am_lt (stF_lt hB) | exact b32_01) only [e97_0, e97_1, e97_4, e97_7, e97_8, e97_11, e97_14, e97_15, e97_18, e97_19, e97_20, e97_21, c72t hc, c74t hk, Option.toList_some, List.cons_append, List.nil_append, gS_15 hS, rS_15 hS hc, nI_z, nq, if_false, Nat.one_ne_zero]
  by_cases h1 : S.2.1 15 c = 1
  · rw [if_pos h1]
    rw [if_pos h1, if_pos h1] at hQ
    simp (disch := first | assumption | omega | exact am_isr_ref | exact am_isr_null | exact am_isr_rf | exact am_c1_int | exact am_c1_ref | exact am_c1_null | exact am_c1_rf | exact am_b0 | exact am_b1 | exact RM_obj (by assumption) | exact MS_obj (by assumption) | (simp only [ne_eq]; done) | exact am_nz2 | exact am_nz3 | exact am_nz6 | exact am_lt (hB _ _) | exact am_lt (stF_lt hB) | exact b32_01) only [e97_26, e97_27, e97_30, e97_31, e97_32, e97_33, e97_34, e97_35, e97_36, e97_37, gS_19 hS, rS_19 hS hc, sh_k hk, nx_or]
    refine wS_19 hS hc (fun h2 hG2 hS2 => ?_)
    simp (disch := first | assumption | omega | exact am_isr_ref | exact am_isr_null | exact am_isr_rf | exact am_c1_int | exact am_c1_ref | exact am_c1_null | exact am_c1_rf | exact am_b0 | exact am_b1 | exact RM_obj (by assumption) | exact MS_obj (by assumption) | (simp only [ne_eq]; done) | exact am_nz2 | exact am_nz3 | exact am_nz6 | exact am_lt (hB _ _) | exact am_lt (stF_lt hB) | exact b32_01) only [e97_38, e97_39, e97_42, e97_44, e97_45, e97_46, e97_47, e97_48, e97_49, gS_20 hS2, nI_add, pk_mul]
    refine wS_20 hS2 (by omega) (fun h3 hG3 hS3 => ?_)
    simp (disch := first | assumption | omega | exact am_isr_ref | exact am_isr_null | exact am_isr_rf | exact am_c1_int | exact am_c1_ref | exact am_c1_null | exact am_c1_rf | exact am_b0 | exact am_b1 | exact RM_obj (by assumption) | exact MS_obj (by assumption) | (simp only [ne_eq]; done) | exact am_nz2 | exact am_nz3 | exact am_nz6 | exact am_lt (hB _ _) | exact am_lt (stF_lt hB) | exact b32_01) only [e97_50, e97_51]
    exact hQ h3 (hG2.tr hG3) hS3
  · rw [if_neg h1]
    rw [if_neg h1, if_neg h1] at hQ
    simp (disch := first | assumption | omega | exact am_isr_ref | exact am_isr_null | exact am_isr_rf | exact am_c1_int | exact am_c1_ref | exact am_c1_null | exact am_c1_rf | exact am_b0 | exact am_b1 | exact RM_obj (by assumption) | exact MS_obj (by assumption) | (simp only [ne_eq]; done) | exact am_nz2 | exact am_nz3 | exact am_nz6 | exact am_lt (hB _ _) | exact am_lt (stF_lt hB) | exact b32_01) only [e97_24, e97_25]
    exact hQ h GR.rf hS
theorem c97f {c k v : Int32} (hc : (c < 0 ∨ nI 6 ≤ c) ∨ (k < 0 ∨ nI 8 ≤ k)) (hQ : Q (some (.int (nI 0))) h) : am_R (d + 1) 97 0 [some (.ref m), some (.int c), some (.int k), some (.int v)] [] h Q := by
  by_cases h1 : c < 0 ∨ nI 6 ≤ c
  · simp (disch := first | assumption | omega | exact am_isr_ref | exact am_isr_null | exact am_isr_rf | exact am_c1_int | exact am_c1_ref | exact am_c1_null | exact am_c1_rf | exact am_b0 | exact am_b1 | exact RM_obj (by assumption) | exact MS_obj (by assumption) | (simp only [ne_eq]; done) | exact am_nz2 | exact am_nz3 | exact am_nz6 | exact am_lt (hB _ _) | exact am_lt (stF_lt hB) | exact b32_01) only [e97_0, e97_1, e97_4, e97_24, e97_25, c72f h1, Option.toList_some, List.cons_append, List.nil_append, nI_z, if_true]
    exact hQ
  · obtain ⟨j, hj, rfl⟩ : ∃ j, j < 6 ∧ c = nI j := by
      rcases pk_ix c (n := 6) (by decide) with q | q | q
      · exact absurd (Or.inl q) h1
      · exact absurd (Or.inr q) h1
      · exact q
    simp (disch := first | assumption | omega | exact am_isr_ref | exact am_isr_null | exact am_isr_rf | exact am_c1_int | exact am_c1_ref | exact am_c1_null | exact am_c1_rf | exact am_b0 | exact am_b1 | exact RM_obj (by assumption) | exact MS_obj (by assumption) | (simp only [ne_eq]; done) | exact am_nz2 | exact am_nz3 | exact am_nz6 | exact am_lt (hB _ _) | exact am_lt (stF_lt hB) | exact b32_01) only [e97_0, e97_1, e97_4, e97_7, e97_8, e97_11, e97_24, e97_25, c72t hj, c74f (hc.resolve_left h1), Option.toList_some, List.cons_append, List.nil_append, nI_z, nq, if_true, if_false, Nat.one_ne_zero]
    exact hQ
def abortF (S : aSt) (c : Nat) : aSt := setN (setN S 15 c 0) 19 c 0
theorem c99 {c : Nat} (hc : c < 6) (hS : MMs g h m S pl) (hB : am_BN S.2.1)
    (hQ : ∀ h1 : aH, GR h pl h1 pl → MMs g h1 m (if S.2.1 15 c = 1 then abortF S c else S) pl → Q (some (.int (if S.2.1 15 c = 1 then nI 1 else nI 0))) h1) : am_R (d + 1) 99 0 [some (.ref m), some (.int (nI c))] [] h Q := by
  have b15 := hB 15 c
  simp (disch := first | assumption | omega | exact am_isr_ref | exact am_isr_null | exact am_isr_rf | exact am_c1_int | exact am_c1_ref | exact am_c1_null | exact am_c1_rf | exact am_b0 | exact am_b1 | exact RM_obj (by assumption) | exact MS_obj (by assumption) | (simp only [ne_eq]; done) | exact am_nz2 | exact am_nz3 | exact am_nz6 | exact am_lt (hB _ _) | exact am_lt (stF_lt hB) | exact b32_01) only [e99_0, e99_1, e99_4, e99_7, e99_8, e99_11, e99_12, e99_13, e99_14, c72t hc, Option.toList_some, List.cons_append, List.nil_append, gS_15 hS, rS_15 hS hc, nI_z, nq, if_false, Nat.one_ne_zero]
  by_cases h1 : S.2.1 15 c = 1
  · rw [if_pos h1]
    rw [if_pos h1, if_pos h1] at hQ
    simp (disch := first | assumption | omega | exact am_isr_ref | exact am_isr_null | exact am_isr_rf | exact am_c1_int | exact am_c1_ref | exact am_c1_null | exact am_c1_rf | exact am_b0 | exact am_b1 | exact RM_obj (by assumption) | exact MS_obj (by assumption) | (simp only [ne_eq]; done) | exact am_nz2 | exact am_nz3 | exact am_nz6 | exact am_lt (hB _ _) | exact am_lt (stF_lt hB) | exact b32_01) only [e99_19, e99_20, e99_23, e99_24, e99_25, gS_15 hS]
    refine wS_15 hS hc (fun h2 hG2 hS2 => ?_)
    simp (disch := first | assumption | omega | exact am_isr_ref | exact am_isr_null | exact am_isr_rf | exact am_c1_int | exact am_c1_ref | exact am_c1_null | exact am_c1_rf | exact am_b0 | exact am_b1 | exact RM_obj (by assumption) | exact MS_obj (by assumption) | (simp only [ne_eq]; done) | exact am_nz2 | exact am_nz3 | exact am_nz6 | exact am_lt (hB _ _) | exact am_lt (stF_lt hB) | exact b32_01) only [e99_26, e99_27, e99_30, e99_31, e99_32, gS_19 hS2]
    refine wS_19 hS2 hc (fun h3 hG3 hS3 => ?_)
    simp (disch := first | assumption | omega | exact am_isr_ref | exact am_isr_null | exact am_isr_rf | exact am_c1_int | exact am_c1_ref | exact am_c1_null | exact am_c1_rf | exact am_b0 | exact am_b1 | exact RM_obj (by assumption) | exact MS_obj (by assumption) | (simp only [ne_eq]; done) | exact am_nz2 | exact am_nz3 | exact am_nz6 | exact am_lt (hB _ _) | exact am_lt (stF_lt hB) | exact b32_01) only [e99_33, e99_34]
    exact hQ h3 (hG2.tr hG3) hS3
  · rw [if_neg h1]
    rw [if_neg h1, if_neg h1] at hQ
    simp (disch := first | assumption | omega | exact am_isr_ref | exact am_isr_null | exact am_isr_rf | exact am_c1_int | exact am_c1_ref | exact am_c1_null | exact am_c1_rf | exact am_b0 | exact am_b1 | exact RM_obj (by assumption) | exact MS_obj (by assumption) | (simp only [ne_eq]; done) | exact am_nz2 | exact am_nz3 | exact am_nz6 | exact am_lt (hB _ _) | exact am_lt (stF_lt hB) | exact b32_01) only [e99_17, e99_18]
    exact hQ h GR.rf hS
theorem c99f {c : Int32} (hc : c < 0 ∨ nI 6 ≤ c) (hQ : Q (some (.int (nI 0))) h) : am_R (d + 1) 99 0 [some (.ref m), some (.int c)] [] h Q := by
  simp (disch := first | assumption | omega | exact am_isr_ref | exact am_isr_null | exact am_isr_rf | exact am_c1_int | exact am_c1_ref | exact am_c1_null | exact am_c1_rf | exact am_b0 | exact am_b1 | exact RM_obj (by assumption) | exact MS_obj (by assumption) | (simp only [ne_eq]; done) | exact am_nz2 | exact am_nz3 | exact am_nz6 | exact am_lt (hB _ _) | exact am_lt (stF_lt hB) | exact b32_01) only [e99_0, e99_1, e99_4, e99_17, e99_18, c72f hc, Option.toList_some, List.cons_append, List.nil_append, nI_z, if_true]
  exact hQ
/-- written -/
theorem c107 {n k : Nat} (hm : S.1 ≤ 200) (hn : n < S.1) (hk : k < 8) (hS : MMs g h m S pl) (hQ : Q (some (.int (S.2.2.1 5 (8 * n + k)))) h) : am_R (d + 1) 107 0 [some (.ref m), some (.int (nI n)), some (.int (nI k))] [] h Q := by
  simp (disch := first | assumption | omega | exact am_isr_ref | exact am_isr_null | exact am_isr_rf | exact am_c1_int | exact am_c1_ref | exact am_c1_null | exact am_c1_rf | exact am_b0 | exact am_b1 | exact RM_obj (by assumption) | exact MS_obj (by assumption) | (simp only [ne_eq]; done) | exact am_nz2 | exact am_nz3 | exact am_nz6 | exact am_lt (hB _ _) | exact am_lt (stF_lt hB) | exact b32_01) only [e107_0, e107_1, e107_4, e107_5, e107_6, e107_9, e107_12, e107_13, e107_16, e107_19, e107_20, e107_23, e107_25, e107_26, e107_27, e107_28, e107_29, e107_30, e107_33, e107_34, gS_0 hS, nle, nlt, Nat.not_lt_zero, if_neg (show ¬ S.1 ≤ n by omega), c74t hk, Option.toList_some, List.cons_append, List.nil_append, nI_z, nq, if_false, Nat.one_ne_zero, gS_5 hS, nI_add, pk_mul, rS_5 hS (show 8 * n + k < 1600 by omega)]
  exact hQ
theorem c107f {n k : Int32} (hm : S.1 ≤ 200) (hc : n < 0 ∨ nI S.1 ≤ n ∨ (k < 0 ∨ nI 8 ≤ k)) (hS : MMs g h m S pl) (hQ : Q (some (.int (nI 0))) h) : am_R (d + 1) 107 0 [some (.ref m), some (.int n), some (.int k)] [] h Q := by
  by_cases h1 : n < 0
  · simp (disch := first | assumption | omega | exact am_isr_ref | exact am_isr_null | exact am_isr_rf | exact am_c1_int | exact am_c1_ref | exact am_c1_null | exact am_c1_rf | exact am_b0 | exact am_b1 | exact RM_obj (by assumption) | exact MS_obj (by assumption) | (simp only [ne_eq]; done) | exact am_nz2 | exact am_nz3 | exact am_nz6 | exact am_lt (hB _ _) | exact am_lt (stF_lt hB) | exact b32_01) only [e107_0, e107_1, e107_33, e107_34, if_pos h1]
    exact hQ
  · by_cases h2 : nI S.1 ≤ n
    · simp (disch := first | assumption | omega | exact am_isr_ref | exact am_isr_null | exact am_isr_rf | exact am_c1_int | exact am_c1_ref | exact am_c1_null | exact am_c1_rf | exact am_b0 | exact am_b1 | exact RM_obj (by assumption) | exact MS_obj (by assumption) | (simp only [ne_eq]; done) | exact am_nz2 | exact am_nz3 | exact am_nz6 | exact am_lt (hB _ _) | exact am_lt (stF_lt hB) | exact b32_01) only [e107_0, e107_1, e107_4, e107_5, e107_6, e107_9, e107_33, e107_34, gS_0 hS, if_neg h1, if_pos h2]
      exact hQ
    · have h3 : k < 0 ∨ nI 8 ≤ k := (hc.resolve_left h1).resolve_left h2
      simp (disch := first | assumption | omega | exact am_isr_ref | exact am_isr_null | exact am_isr_rf | exact am_c1_int | exact am_c1_ref | exact am_c1_null | exact am_c1_rf | exact am_b0 | exact am_b1 | exact RM_obj (by assumption) | exact MS_obj (by assumption) | (simp only [ne_eq]; done) | exact am_nz2 | exact am_nz3 | exact am_nz6 | exact am_lt (hB _ _) | exact am_lt (stF_lt hB) | exact b32_01) only [e107_0, e107_1, e107_4, e107_5, e107_6, e107_9, e107_12, e107_13, e107_16, e107_33, e107_34, gS_0 hS, if_neg h1, if_neg h2, c74f h3, Option.toList_some, List.cons_append, List.nil_append, if_pos (show nI 0 = 0 from rfl)]
      exact hQ
/-- client -/
theorem l103 {c : Nat} {l2 : Option Value} (hc : c < 6) (hS : MMs g h m S pl) (hO : ∀ e n, S.2.2.2.1 e = some n → n < 200) : ∀ t k, k + t = 8 → am_R d 103 87 [some (.ref m), some (.int (nI c)), l2, some (.int (nI (cntF (fun j => (S.2.2.2.1 (8 * c + j)).isSome) k))), some (.int (nI k))] [] h Q = Q (some (.int (nI (cntF (fun j => (S.2.2.2.1 (8 * c + j)).isSome) 8)))) h := by
  intro t
  induction t with
  | zero =>
    intro k hk
    obtain rfl : k = 8 := by omega
    rw [e103_87]
    simp (disch := first | assumption | omega | exact am_isr_ref | exact am_isr_null | exact am_isr_rf | exact am_c1_int | exact am_c1_ref | exact am_c1_null | exact am_c1_rf | exact am_b0 | exact am_b1 | exact RM_obj (by assumption) | exact MS_obj (by assumption) | (simp only [ne_eq]; done) | exact am_nz2 | exact am_nz3 | exact am_nz6 | exact am_lt (hB _ _) | exact am_lt (stF_lt hB) | exact b32_01) only [e103_89, e103_91, e103_124, e103_125, nle, if_true, Nat.le_refl]
  | succ t ih =>
    intro k hk
    have ih := ih (k + 1) (by omega)
    rw [cntF] at ih
    rw [e103_87]
    simp (disch := first | assumption | omega | exact am_isr_ref | exact am_isr_null | exact am_isr_rf | exact am_c1_int | exact am_c1_ref | exact am_c1_null | exact am_c1_rf | exact am_b0 | exact am_b1 | exact RM_obj (by assumption) | exact MS_obj (by assumption) | (simp only [ne_eq]; done) | exact am_nz2 | exact am_nz3 | exact am_nz6 | exact am_lt (hB _ _) | exact am_lt (stF_lt hB) | exact b32_01) only [e103_89, e103_91, e103_94, e103_95, e103_96, e103_99, e103_101, e103_102, e103_103, e103_105, e103_106, e103_107, e103_108, e103_111, e103_112, e103_115, e103_116, e103_117, e103_118, e103_121, nle, if_neg (show ¬ 8 ≤ k by omega), gS_18 hS, nI_add, pk_mul, rS_18 hS (show 8 * c + k < 48 by omega)]
    cases ho : S.2.2.2.1 (8 * c + k) with
    | none =>
      rw [ho] at ih
      rw [if_neg (show ¬ ¬ eO none = -1 from fun q => q rfl)]
      exact ih
    | some n =>
      rw [ho] at ih
      have hn := hO _ _ ho
      rw [if_pos (show ¬ eO (some n) = -1 from eO_m1 (show n < 2 ^ 31 by omega))]
      exact ih
def ansC (S : aSt) (c w : Nat) : Int32 := if 10 ≤ w ∧ w < 13 then nI (S.2.1 17 (3 * c + (w - 10))) else if w = 0 then nI (S.2.1 15 c) else if w = 1 then nI (S.2.1 16 c) else if w = 2 then nI (cntF (fun j => (S.2.2.2.1 (8 * c + j)).isSome) 8) else if w = 3 then nI (cntF (fun j => decide (wF (S.2.1 19 c) j)) 8) else -1
theorem c103 {c w : Nat} (hc : c < 6) (hw : w < 40) (hS : MMs g h m S pl) (hW : WfO S) (h19 : S.2.1 19 c < 256) (hQ : Q (some (.int (ansC S c w))) h) : am_R (d + 1) 103 0 [some (.ref m), some (.int (nI c)), some (.int (nI w)), none, none] [] h Q := by
  simp (disch := first | assumption | omega | exact am_isr_ref | exact am_isr_null | exact am_isr_rf | exact am_c1_int | exact am_c1_ref | exact am_c1_null | exact am_c1_rf | exact am_b0 | exact am_b1 | exact RM_obj (by assumption) | exact MS_obj (by assumption) | (simp only [ne_eq]; done) | exact am_nz2 | exact am_nz3 | exact am_nz6 | exact am_lt (hB _ _) | exact am_lt (stF_lt hB) | exact b32_01) only [e103_0, e103_1, e103_4, e103_7, e103_8, e103_9, e103_10, e103_12, e103_15, e103_16, e103_18, c72t hc, Option.toList_some, List.cons_append, List.nil_append, nI_z, nq, nlt, nle, if_true, not_false_eq_true, Nat.one_ne_zero]
  unfold ansC at hQ
  by_cases h1 : 10 ≤ w ∧ w < 13
  · rw [if_neg (show ¬ w < 10 by omega), if_neg (show ¬ 13 ≤ w by omega)]
    rw [if_pos h1] at hQ
    simp (disch := first | assumption | omega | exact am_isr_ref | exact am_isr_null | exact am_isr_rf | exact am_c1_int | exact am_c1_ref | exact am_c1_null | exact am_c1_rf | exact am_b0 | exact am_b1 | exact RM_obj (by assumption) | exact MS_obj (by assumption) | (simp only [ne_eq]; done) | exact am_nz2 | exact am_nz3 | exact am_nz6 | exact am_lt (hB _ _) | exact am_lt (stF_lt hB) | exact b32_01) only [e103_21, e103_22, e103_25, e103_26, e103_27, e103_28, e103_29, e103_30, e103_32, e103_33, e103_34, gS_17 hS, nI_add, pk_mul, pk_sub (show 10 ≤ 3 * c + w by omega), rS_17 hS (show 3 * c + w - 10 < 18 by omega)]
    rw [show 3 * c + w - 10 = 3 * c + (w - 10) by omega]
    exact hQ
  · rw [if_neg h1] at hQ
    have hgo : ∀ X Y : Prop, (if w < 10 then X else if 13 ≤ w then X else Y) = X := by
      intro X Y
      by_cases h2 : w < 10
      · rw [if_pos h2]
      · rw [if_neg h2, if_pos (by omega)]
    rw [hgo]
    rw [e103_35, e103_36]
    have i0 : (0 : Int32) = nI 0 := rfl
    have i1 : (1 : Int32) = nI 1 := rfl
    have i2 : (2 : Int32) = nI 2 := rfl
    have i3 : (3 : Int32) = nI 3 := rfl
    simp (disch := first | assumption | omega | exact am_isr_ref | exact am_isr_null | exact am_isr_rf | exact am_c1_int | exact am_c1_ref | exact am_c1_null | exact am_c1_rf | exact am_b0 | exact am_b1 | exact RM_obj (by assumption) | exact MS_obj (by assumption) | (simp only [ne_eq]; done) | exact am_nz2 | exact am_nz3 | exact am_nz6 | exact am_lt (hB _ _) | exact am_lt (stF_lt hB) | exact b32_01) only [i0, i1, i2, i3, nq]
    by_cases w0 : w = 0
    · rw [if_pos w0] at hQ ⊢
      simp (disch := first | assumption | omega | exact am_isr_ref | exact am_isr_null | exact am_isr_rf | exact am_c1_int | exact am_c1_ref | exact am_c1_null | exact am_c1_rf | exact am_b0 | exact am_b1 | exact RM_obj (by assumption) | exact MS_obj (by assumption) | (simp only [ne_eq]; done) | exact am_nz2 | exact am_nz3 | exact am_nz6 | exact am_lt (hB _ _) | exact am_lt (stF_lt hB) | exact b32_01) only [e103_68, e103_69, e103_72, e103_73, e103_74, gS_15 hS, rS_15 hS hc]
      exact hQ
    · rw [if_neg w0] at hQ ⊢
      by_cases w1 : w = 1
      · rw [if_pos w1] at hQ ⊢
        simp (disch := first | assumption | omega | exact am_isr_ref | exact am_isr_null | exact am_isr_rf | exact am_c1_int | exact am_c1_ref | exact am_c1_null | exact am_c1_rf | exact am_b0 | exact am_b1 | exact RM_obj (by assumption) | exact MS_obj (by assumption) | (simp only [ne_eq]; done) | exact am_nz2 | exact am_nz3 | exact am_nz6 | exact am_lt (hB _ _) | exact am_lt (stF_lt hB) | exact b32_01) only [e103_75, e103_76, e103_79, e103_80, e103_81, gS_16 hS, rS_16 hS hc]
        exact hQ
      · rw [if_neg w1] at hQ ⊢
        by_cases w2 : w = 2
        · rw [if_pos w2] at hQ ⊢
          simp (disch := first | assumption | omega | exact am_isr_ref | exact am_isr_null | exact am_isr_rf | exact am_c1_int | exact am_c1_ref | exact am_c1_null | exact am_c1_rf | exact am_b0 | exact am_b1 | exact RM_obj (by assumption) | exact MS_obj (by assumption) | (simp only [ne_eq]; done) | exact am_nz2 | exact am_nz3 | exact am_nz6 | exact am_lt (hB _ _) | exact am_lt (stF_lt hB) | exact b32_01) only [e103_82, e103_83, e103_84, e103_85]
          exact Eq.mpr (l103 (d := d + 1) hc hS hW.2.2 8 0 rfl) hQ
        · rw [if_neg w2] at hQ ⊢
          by_cases w3 : w = 3
          · rw [if_pos w3] at hQ ⊢
            simp (disch := first | assumption | omega | exact am_isr_ref | exact am_isr_null | exact am_isr_rf | exact am_c1_int | exact am_c1_ref | exact am_c1_null | exact am_c1_rf | exact am_b0 | exact am_b1 | exact RM_obj (by assumption) | exact MS_obj (by assumption) | (simp only [ne_eq]; done) | exact am_nz2 | exact am_nz3 | exact am_nz6 | exact am_lt (hB _ _) | exact am_lt (stF_lt hB) | exact b32_01) only [e103_126, e103_127, e103_130, e103_131, e103_132, e103_135, gS_19 hS, rS_19 hS hc, c102 h19, Option.toList_some, List.cons_append, List.nil_append]
            exact hQ
          · rw [if_neg w3] at hQ ⊢
            simp (disch := first | assumption | omega | exact am_isr_ref | exact am_isr_null | exact am_isr_rf | exact am_c1_int | exact am_c1_ref | exact am_c1_null | exact am_c1_rf | exact am_b0 | exact am_b1 | exact RM_obj (by assumption) | exact MS_obj (by assumption) | (simp only [ne_eq]; done) | exact am_nz2 | exact am_nz3 | exact am_nz6 | exact am_lt (hB _ _) | exact am_lt (stF_lt hB) | exact b32_01) only [e103_136, e103_137]
            exact hQ
theorem c103f {c w : Int32} (hc : (c < 0 ∨ nI 6 ≤ c) ∨ oddQ w) (hQ : Q (some (.int (-1))) h) : am_R (d + 1) 103 0 [some (.ref m), some (.int c), some (.int w), none, none] [] h Q := by
  by_cases h1 : c < 0 ∨ nI 6 ≤ c
  · simp (disch := first | assumption | omega | exact am_isr_ref | exact am_isr_null | exact am_isr_rf | exact am_c1_int | exact am_c1_ref | exact am_c1_null | exact am_c1_rf | exact am_b0 | exact am_b1 | exact RM_obj (by assumption) | exact MS_obj (by assumption) | (simp only [ne_eq]; done) | exact am_nz2 | exact am_nz3 | exact am_nz6 | exact am_lt (hB _ _) | exact am_lt (stF_lt hB) | exact b32_01) only [e103_0, e103_1, e103_4, e103_7, e103_8, c72f h1, Option.toList_some, List.cons_append, List.nil_append, nI_z, not_true_eq_false, if_false]
    exact hQ
  · obtain ⟨j, hj, rfl⟩ : ∃ j, j < 6 ∧ c = nI j := by
      rcases pk_ix c (n := 6) (by decide) with q | q | q
      · exact absurd (Or.inl q) h1
      · exact absurd (Or.inr q) h1
      · exact q
    obtain ⟨o1, o2, o3, o4, o5, o6, o7, o8⟩ := odd_facts (hc.resolve_left h1)
    have hgo : ∀ X Y : Prop, (if w < nI 10 then X else if nI 13 ≤ w then X else Y) = X := by
      intro X Y
      by_cases h2 : w < nI 10
      · rw [if_pos h2]
      · rw [if_neg h2, if_pos (o1.resolve_left h2)]
    simp (disch := first | assumption | omega | exact am_isr_ref | exact am_isr_null | exact am_isr_rf | exact am_c1_int | exact am_c1_ref | exact am_c1_null | exact am_c1_rf | exact am_b0 | exact am_b1 | exact RM_obj (by assumption) | exact MS_obj (by assumption) | (simp only [ne_eq]; done) | exact am_nz2 | exact am_nz3 | exact am_nz6 | exact am_lt (hB _ _) | exact am_lt (stF_lt hB) | exact b32_01) only [e103_0, e103_1, e103_4, e103_7, e103_8, e103_9, e103_10, e103_12, e103_15, e103_16, e103_18, c72t hj, Option.toList_some, List.cons_append, List.nil_append, nI_z, nq, if_true, not_false_eq_true, Nat.one_ne_zero]
    rw [hgo, e103_35, e103_36, if_neg o5, if_neg o6, if_neg o7, if_neg o8]
    simp (disch := first | assumption | omega | exact am_isr_ref | exact am_isr_null | exact am_isr_rf | exact am_c1_int | exact am_c1_ref | exact am_c1_null | exact am_c1_rf | exact am_b0 | exact am_b1 | exact RM_obj (by assumption) | exact MS_obj (by assumption) | (simp only [ne_eq]; done) | exact am_nz2 | exact am_nz3 | exact am_nz6 | exact am_lt (hB _ _) | exact am_lt (stF_lt hB) | exact b32_01) only [e103_136, e103_137]
    exact hQ
end MV
