/-! the model's commit, whole -/
section MZ
variable {d : Nat} {g : Nat → Option aE} {m pl : Nat} {Q : Option Value → aH → Prop}
theorem cm1_same {S : aSt} {c : Nat} (hB : am_BN S.2.1) (hc : c < 6) : (cm1 S c).1 = S.1 + 1 ∧ am_BN (cm1 S c).2.1 ∧ (cm1 S c).2.1 6 S.1 = 0 ∧ (cm1 S c).2.1 1 S.1 = c ∧ (cm1 S c).2.2.2.2 = S.2.2.2.2 := by
  have b16 := hB 16 c
  have b19 := hB 19 c
  have hs := sawF_same (c := c) (n := S.1) 3 0 (setN (setN (setN (setMany S (S.1 + 1)) 1 S.1 c) 3 S.1 (S.2.1 16 c)) 4 S.1 (S.2.1 19 c))
  have hi := intF_same (c := c) (n := S.1) 8 0 (sawF c S.1 3 0 (setN (setN (setN (setMany S (S.1 + 1)) 1 S.1 c) 3 S.1 (S.2.1 16 c)) 4 S.1 (S.2.1 19 c)))
  have hB2 : am_BN (setN (setN (setN (setMany S (S.1 + 1)) 1 S.1 c) 3 S.1 (S.2.1 16 c)) 4 S.1 (S.2.1 19 c)).2.1 := BN_up2 (BN_up2 (BN_up2 hB (by omega)) b16) b19
  have hB3 : am_BN (intF c S.1 8 0 (sawF c S.1 3 0 (setN (setN (setN (setMany S (S.1 + 1)) 1 S.1 c) 3 S.1 (S.2.1 16 c)) 4 S.1 (S.2.1 19 c)))).2.1 := by
    rw [hi.2.1]
    exact hs.2.2.2 hB2
  refine ⟨hi.1.trans hs.1, BN_up2 (BN_up2 (BN_up2 (BN_up2 hB3 (by decide)) (by decide)) (by decide)) (by decide), ?_, ?_, ?_⟩
  · unfold cm1
    dsimp only
    rw [sN_ne (by decide), sN_eq]
  · unfold cm1
    dsimp only
    rw [sN_ne (by decide), sN_ne (by decide), sN_ne (by decide), sN_ne (by decide), hi.2.1, hs.2.2.1 _ _ (by decide), sN_ne (by decide), sN_ne (by decide), sN_eq]
  · show (intF _ _ _ _ _).2.2.2.2 = _
    rw [hi.2.2, hs.2.1]
    rfl
def cmtF (S : aSt) (c : Nat) : aSt := if S.2.1 15 c = 1 then (if S.2.1 19 c = 0 then setN S 15 c 0 else if S.1 = 200 then S else commitF S c) else S
def cmtA (S : aSt) (c : Nat) : Int32 := if S.2.1 15 c = 1 then (if S.2.1 19 c = 0 then -2 else if S.1 = 200 then -3 else nI S.1) else -1
theorem c98 {c : Nat} {S : aSt} {h : aH} (hc : c < 6) (hS : MMs g h m S pl) (hB : am_BN S.2.1) (hm : S.1 ≤ 200) (hL : S.2.2.2.2.length + 2000 ≤ 10000) (ht : tmF (cm1 S c).2.1 (2 * (c % 3)) S.1 < 1000000)
    (hQ : ∀ (h1 : aH) (pl1 : Nat), GR h pl h1 pl1 → MMs g h1 m (cmtF S c) pl1 → Q (some (.int (cmtA S c))) h1) : am_R (d + 11) 98 0 [some (.ref m), some (.int (nI c)), none, none, none] [] h Q := by
  have b15 := hB 15 c
  have b19 := hB 19 c
  have b16 := hB 16 c
  unfold cmtF cmtA at hQ
  simp (disch := first | assumption | omega | exact am_isr_ref | exact am_isr_null | exact am_isr_rf | exact am_c1_int | exact am_c1_ref | exact am_c1_null | exact am_c1_rf | exact am_b0 | exact am_b1 | exact RM_obj (by assumption) | exact MS_obj (by assumption) | (simp only [ne_eq]; done) | exact am_nz2 | exact am_nz3 | exact am_nz6 | exact am_lt (hB _ _) | exact am_lt (stF_lt hB) | exact b32_01) only [e98_0, e98_1, e98_4, e98_7, e98_8, e98_11, e98_12, e98_13, e98_14, c72t hc, Option.toList_some, List.cons_append, List.nil_append, gS_15 hS, rS_15 hS hc, nI_z, nq, if_false, Nat.one_ne_zero]
  by_cases h1 : S.2.1 15 c = 1
  · rw [if_pos h1]
    rw [if_pos h1, if_pos h1] at hQ
    simp (disch := first | assumption | omega | exact am_isr_ref | exact am_isr_null | exact am_isr_rf | exact am_c1_int | exact am_c1_ref | exact am_c1_null | exact am_c1_rf | exact am_b0 | exact am_b1 | exact RM_obj (by assumption) | exact MS_obj (by assumption) | (simp only [ne_eq]; done) | exact am_nz2 | exact am_nz3 | exact am_nz6 | exact am_lt (hB _ _) | exact am_lt (stF_lt hB) | exact b32_01) only [e98_19, e98_20, e98_23, e98_24, e98_25, gS_19 hS, rS_19 hS hc, nI_z, nq]
    by_cases h2 : S.2.1 19 c = 0
    · rw [if_neg (fun q => q h2)]
      rw [if_pos h2, if_pos h2] at hQ
      simp (disch := first | assumption | omega | exact am_isr_ref | exact am_isr_null | exact am_isr_rf | exact am_c1_int | exact am_c1_ref | exact am_c1_null | exact am_c1_rf | exact am_b0 | exact am_b1 | exact RM_obj (by assumption) | exact MS_obj (by assumption) | (simp only [ne_eq]; done) | exact am_nz2 | exact am_nz3 | exact am_nz6 | exact am_lt (hB _ _) | exact am_lt (stF_lt hB) | exact b32_01) only [e98_28, e98_29, e98_32, e98_33, e98_34, gS_15 hS]
      refine wS_15 hS hc (fun h3 hG hS3 => ?_)
      simp (disch := first | assumption | omega | exact am_isr_ref | exact am_isr_null | exact am_isr_rf | exact am_c1_int | exact am_c1_ref | exact am_c1_null | exact am_c1_rf | exact am_b0 | exact am_b1 | exact RM_obj (by assumption) | exact MS_obj (by assumption) | (simp only [ne_eq]; done) | exact am_nz2 | exact am_nz3 | exact am_nz6 | exact am_lt (hB _ _) | exact am_lt (stF_lt hB) | exact b32_01) only [e98_35, e98_37]
      exact hQ h3 pl hG hS3
    · rw [if_pos h2]
      rw [if_neg h2, if_neg h2] at hQ
      simp (disch := first | assumption | omega | exact am_isr_ref | exact am_isr_null | exact am_isr_rf | exact am_c1_int | exact am_c1_ref | exact am_c1_null | exact am_c1_rf | exact am_b0 | exact am_b1 | exact RM_obj (by assumption) | exact MS_obj (by assumption) | (simp only [ne_eq]; done) | exact am_nz2 | exact am_nz3 | exact am_nz6 | exact am_lt (hB _ _) | exact am_lt (stF_lt hB) | exact b32_01) only [e98_38, e98_39, e98_42, e98_45, gS_0 hS, nq]
      by_cases h3 : S.1 = 200
      · rw [if_neg (fun q => q h3)]
        rw [if_pos h3, if_pos h3] at hQ
        simp (disch := first | assumption | omega | exact am_isr_ref | exact am_isr_null | exact am_isr_rf | exact am_c1_int | exact am_c1_ref | exact am_c1_null | exact am_c1_rf | exact am_b0 | exact am_b1 | exact RM_obj (by assumption) | exact MS_obj (by assumption) | (simp only [ne_eq]; done) | exact am_nz2 | exact am_nz3 | exact am_nz6 | exact am_lt (hB _ _) | exact am_lt (stF_lt hB) | exact b32_01) only [e98_48, e98_50]
        exact hQ h pl GR.rf hS
      · rw [if_pos h3]
        rw [if_neg h3, if_neg h3] at hQ
        have hn : S.1 < 200 := by omega
        simp (disch := first | assumption | omega | exact am_isr_ref | exact am_isr_null | exact am_isr_rf | exact am_c1_int | exact am_c1_ref | exact am_c1_null | exact am_c1_rf | exact am_b0 | exact am_b1 | exact RM_obj (by assumption) | exact MS_obj (by assumption) | (simp only [ne_eq]; done) | exact am_nz2 | exact am_nz3 | exact am_nz6 | exact am_lt (hB _ _) | exact am_lt (stF_lt hB) | exact b32_01) only [e98_51, e98_52, e98_55, e98_56, e98_57, e98_58, e98_61, e98_62, e98_63, gS_0 hS, nI_add]
        refine pS_0 hS (fun h4 hG4 hS4 => ?_)
        simp (disch := first | assumption | omega | exact am_isr_ref | exact am_isr_null | exact am_isr_rf | exact am_c1_int | exact am_c1_ref | exact am_c1_null | exact am_c1_rf | exact am_b0 | exact am_b1 | exact RM_obj (by assumption) | exact MS_obj (by assumption) | (simp only [ne_eq]; done) | exact am_nz2 | exact am_nz3 | exact am_nz6 | exact am_lt (hB _ _) | exact am_lt (stF_lt hB) | exact b32_01) only [e98_66, e98_67, e98_70, e98_71, e98_72, gS_1 hS4]
        refine wS_1 hS4 hn (fun h5 hG5 hS5 => ?_)
        have v16 : (setN (setMany S (S.1 + 1)) 1 S.1 c).2.1 16 c = S.2.1 16 c := by
          rw [sN_ne (by decide)]
          rfl
        simp (disch := first | assumption | omega | exact am_isr_ref | exact am_isr_null | exact am_isr_rf | exact am_c1_int | exact am_c1_ref | exact am_c1_null | exact am_c1_rf | exact am_b0 | exact am_b1 | exact RM_obj (by assumption) | exact MS_obj (by assumption) | (simp only [ne_eq]; done) | exact am_nz2 | exact am_nz3 | exact am_nz6 | exact am_lt (hB _ _) | exact am_lt (stF_lt hB) | exact b32_01) only [e98_73, e98_74, e98_77, e98_78, e98_79, e98_82, e98_83, e98_84, gS_3 hS5, gS_16 hS5, rS_16 hS5 hc, v16]
        refine wS_3 hS5 hn (fun h6 hG6 hS6 => ?_)
        have v19 : (setN (setN (setMany S (S.1 + 1)) 1 S.1 c) 3 S.1 (S.2.1 16 c)).2.1 19 c = S.2.1 19 c := by
          rw [sN_ne (by decide), sN_ne (by decide)]
          rfl
        simp (disch := first | assumption | omega | exact am_isr_ref | exact am_isr_null | exact am_isr_rf | exact am_c1_int | exact am_c1_ref | exact am_c1_null | exact am_c1_rf | exact am_b0 | exact am_b1 | exact RM_obj (by assumption) | exact MS_obj (by assumption) | (simp only [ne_eq]; done) | exact am_nz2 | exact am_nz3 | exact am_nz6 | exact am_lt (hB _ _) | exact am_lt (stF_lt hB) | exact b32_01) only [e98_85, e98_86, e98_89, e98_90, e98_91, e98_94, e98_95, e98_96, gS_4 hS6, gS_19 hS6, rS_19 hS6 hc, v19]
        refine wS_4 hS6 hn (fun h7 hG7 hS7 => ?_)
        have hB7 : am_BN (setN (setN (setN (setMany S (S.1 + 1)) 1 S.1 c) 3 S.1 (S.2.1 16 c)) 4 S.1 (S.2.1 19 c)).2.1 := BN_up2 (BN_up2 (BN_up2 hB (by omega)) b16) b19
        simp (disch := first | assumption | omega | exact am_isr_ref | exact am_isr_null | exact am_isr_rf | exact am_c1_int | exact am_c1_ref | exact am_c1_null | exact am_c1_rf | exact am_b0 | exact am_b1 | exact RM_obj (by assumption) | exact MS_obj (by assumption) | (simp only [ne_eq]; done) | exact am_nz2 | exact am_nz3 | exact am_nz6 | exact am_lt (hB _ _) | exact am_lt (stF_lt hB) | exact b32_01) only [e98_97, e98_98]
        refine l98s hc hn 3 0 _ h7 rfl hS7 (fun h8 hG8 hS8 => ?_)
        simp (disch := first | assumption | omega | exact am_isr_ref | exact am_isr_null | exact am_isr_rf | exact am_c1_int | exact am_c1_ref | exact am_c1_null | exact am_c1_rf | exact am_b0 | exact am_b1 | exact RM_obj (by assumption) | exact MS_obj (by assumption) | (simp only [ne_eq]; done) | exact am_nz2 | exact am_nz3 | exact am_nz6 | exact am_lt (hB _ _) | exact am_lt (stF_lt hB) | exact b32_01) only [e98_130, e98_131]
        refine l98i hc hn 8 0 _ h8 rfl hS8 ((sawF_same _ _ _).2.2.2 hB7) (fun h9 hG9 hS9 => ?_)
        simp (disch := first | assumption | omega | exact am_isr_ref | exact am_isr_null | exact am_isr_rf | exact am_c1_int | exact am_c1_ref | exact am_c1_null | exact am_c1_rf | exact am_b0 | exact am_b1 | exact RM_obj (by assumption) | exact MS_obj (by assumption) | (simp only [ne_eq]; done) | exact am_nz2 | exact am_nz3 | exact am_nz6 | exact am_lt (hB _ _) | exact am_lt (stF_lt hB) | exact b32_01) only [e98_179, e98_180, e98_183, e98_184, e98_185, gS_15 hS9]
        refine wS_15 hS9 hc (fun h10 hG10 hS10 => ?_)
        simp (disch := first | assumption | omega | exact am_isr_ref | exact am_isr_null | exact am_isr_rf | exact am_c1_int | exact am_c1_ref | exact am_c1_null | exact am_c1_rf | exact am_b0 | exact am_b1 | exact RM_obj (by assumption) | exact MS_obj (by assumption) | (simp only [ne_eq]; done) | exact am_nz2 | exact am_nz3 | exact am_nz6 | exact am_lt (hB _ _) | exact am_lt (stF_lt hB) | exact b32_01) only [e98_186, e98_187, e98_190, e98_191, e98_192, gS_19 hS10]
        refine wS_19 hS10 hc (fun h11 hG11 hS11 => ?_)
        simp (disch := first | assumption | omega | exact am_isr_ref | exact am_isr_null | exact am_isr_rf | exact am_c1_int | exact am_c1_ref | exact am_c1_null | exact am_c1_rf | exact am_b0 | exact am_b1 | exact RM_obj (by assumption) | exact MS_obj (by assumption) | (simp only [ne_eq]; done) | exact am_nz2 | exact am_nz3 | exact am_nz6 | exact am_lt (hB _ _) | exact am_lt (stF_lt hB) | exact b32_01) only [e98_193, e98_194, e98_195, e98_196, e98_197, e98_198, e98_199, e98_200, e98_203, e98_204, e98_205, pk_rem (a := c) (d := 3) (by omega) (by decide) (by decide), pk_mul, gS_6 hS11]
        refine wS_6 hS11 hn (fun h12 hG12 hS12 => ?_)
        simp (disch := first | assumption | omega | exact am_isr_ref | exact am_isr_null | exact am_isr_rf | exact am_c1_int | exact am_c1_ref | exact am_c1_null | exact am_c1_rf | exact am_b0 | exact am_b1 | exact RM_obj (by assumption) | exact MS_obj (by assumption) | (simp only [ne_eq]; done) | exact am_nz2 | exact am_nz3 | exact am_nz6 | exact am_lt (hB _ _) | exact am_lt (stF_lt hB) | exact b32_01) only [e98_206, e98_207, e98_210, e98_211, e98_212, gS_7 hS12]
        refine wS_7 hS12 hn (fun h13 hG13 hS13 => ?_)
        have hS13 : MMs g h13 m (cm1 S c) pl := hS13
        obtain ⟨m1, m2, m3, m4, m5⟩ := cm1_same hB hc
        exact t98 (S := cm1 S c) (by omega) hn hS13 m2 m3 (by omega) ht (by rw [m4]; exact hc) (by rw [m5]; exact hL) (fun h14 pl14 hG14 hS14 => hQ h14 pl14 ((((((((((hG4.tr hG5).tr hG6).tr hG7).tr hG8).tr hG9).tr hG10).tr hG11).tr hG12).tr hG13).tr hG14) hS14)
  · rw [if_neg h1]
    rw [if_neg h1, if_neg h1] at hQ
    simp (disch := first | assumption | omega | exact am_isr_ref | exact am_isr_null | exact am_isr_rf | exact am_c1_int | exact am_c1_ref | exact am_c1_null | exact am_c1_rf | exact am_b0 | exact am_b1 | exact RM_obj (by assumption) | exact MS_obj (by assumption) | (simp only [ne_eq]; done) | exact am_nz2 | exact am_nz3 | exact am_nz6 | exact am_lt (hB _ _) | exact am_lt (stF_lt hB) | exact b32_01) only [e98_17, e98_18]
    exact hQ h pl GR.rf hS
theorem c98f {c : Int32} {h : aH} (hc : c < 0 ∨ nI 6 ≤ c) (hQ : Q (some (.int (-1))) h) : am_R (d + 11) 98 0 [some (.ref m), some (.int c), none, none, none] [] h Q := by
  simp (disch := first | assumption | omega | exact am_isr_ref | exact am_isr_null | exact am_isr_rf | exact am_c1_int | exact am_c1_ref | exact am_c1_null | exact am_c1_rf | exact am_b0 | exact am_b1 | exact RM_obj (by assumption) | exact MS_obj (by assumption) | (simp only [ne_eq]; done) | exact am_nz2 | exact am_nz3 | exact am_nz6 | exact am_lt (hB _ _) | exact am_lt (stF_lt hB) | exact b32_01) only [e98_0, e98_1, e98_4, e98_17, e98_18, c72f hc, Option.toList_some, List.cons_append, List.nil_append, nI_z, if_true]
  exact hQ
end MZ
