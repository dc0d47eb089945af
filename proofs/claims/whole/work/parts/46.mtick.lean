/-! the model's tick -/
def nbF (s : Nat) : Nat := if s % 2 = 0 then s + 1 else s - 1
def tkU (S : aSt) (s : Nat) : Nat := (upF (setN S 10 s (S.2.1 10 s + 1)).2.1 s S.1).getD (S.2.1 10 s + 1)
def tkS (S : aSt) (s : Nat) : aSt := setN (setN S 10 s (S.2.1 10 s + 1)) 13 (3 * s + s / 2) (tkU S s)
def tickF (S : aSt) (s : Nat) : aSt := pushF (othF s (fun p => (s, 2 * p + s % 2, 5, nI (tkU S s), 0, 0, 0)) 3 0 (tkS S s)) (s, nbF s, 6, -1, (tkS S s).2.1 13 (3 * s), (tkS S s).2.1 13 (3 * s + 1), (tkS S s).2.1 13 (3 * s + 2))
section MY
variable {d : Nat} {g : Nat → Option aE} {m pl : Nat} {Q : Option Value → aH → Prop}
theorem l100p {s u : Nat} {l3 l4 l6 : Option Value} (hs : s < 6) : ∀ (c p pl : Nat) (S : aSt) (h : aH), p + c = 3 → MMs g h m S pl → S.2.2.2.2.length + c ≤ 10000 →
    (∀ (h1 : aH) (pl1 : Nat), GR h pl h1 pl1 → MMs g h1 m (othF s (fun p => (s, 2 * p + s % 2, 5, nI u, 0, 0, 0)) c p S) pl1 → am_R (d + 1) 100 171 [some (.ref m), some (.int (nI s)), some (.int (nI u)), l3, l4, some (.int (nI 3)), l6] [] h1 Q) →
    am_R (d + 1) 100 132 [some (.ref m), some (.int (nI s)), some (.int (nI u)), l3, l4, some (.int (nI p)), l6] [] h Q := by
  intro c
  induction c with
  | zero =>
    intro p pl S h hp hS hL hQ
    obtain rfl : p = 3 := by omega
    rw [e100_132]
    simp (disch := first | assumption | omega | exact am_isr_ref | exact am_isr_null | exact am_isr_rf | exact am_c1_int | exact am_c1_ref | exact am_c1_null | exact am_c1_rf | exact am_b0 | exact am_b1 | exact RM_obj (by assumption) | exact MS_obj (by assumption) | (simp only [ne_eq]; done) | exact am_nz2 | exact am_nz3 | exact am_nz6 | exact am_lt (hB _ _) | exact am_lt (stF_lt hB) | exact b32_01) only [e100_134, e100_135, nle, if_true, Nat.le_refl]
    exact hQ h pl GR.rf hS
  | succ c ih =>
    intro p pl S h hp hS hL hQ
    rw [e100_132]
    simp (disch := first | assumption | omega | exact am_isr_ref | exact am_isr_null | exact am_isr_rf | exact am_c1_int | exact am_c1_ref | exact am_c1_null | exact am_c1_rf | exact am_b0 | exact am_b1 | exact RM_obj (by assumption) | exact MS_obj (by assumption) | (simp only [ne_eq]; done) | exact am_nz2 | exact am_nz3 | exact am_nz6 | exact am_lt (hB _ _) | exact am_lt (stF_lt hB) | exact b32_01) only [e100_134, e100_135, e100_138, e100_140, e100_141, e100_144, nle, if_neg (show ¬ 3 ≤ p by omega), c75 hs, Option.toList_some, List.cons_append, List.nil_append, nq]
    rw [othF] at hQ
    by_cases hc : p = s / 2
    · rw [if_pos hc]
      rw [if_pos hc] at hQ
      simp (disch := first | assumption | omega | exact am_isr_ref | exact am_isr_null | exact am_isr_rf | exact am_c1_int | exact am_c1_ref | exact am_c1_null | exact am_c1_rf | exact am_b0 | exact am_b1 | exact RM_obj (by assumption) | exact MS_obj (by assumption) | (simp only [ne_eq]; done) | exact am_nz2 | exact am_nz3 | exact am_nz6 | exact am_lt (hB _ _) | exact am_lt (stF_lt hB) | exact b32_01) only [e100_165, e100_168, nI_add]
      exact ih (p + 1) pl S h (by omega) hS (by omega) hQ
    · rw [if_neg hc]
      rw [if_neg hc] at hQ
      simp (disch := first | assumption | omega | exact am_isr_ref | exact am_isr_null | exact am_isr_rf | exact am_c1_int | exact am_c1_ref | exact am_c1_null | exact am_c1_rf | exact am_b0 | exact am_b1 | exact RM_obj (by assumption) | exact MS_obj (by assumption) | (simp only [ne_eq]; done) | exact am_nz2 | exact am_nz3 | exact am_nz6 | exact am_lt (hB _ _) | exact am_lt (stF_lt hB) | exact b32_01) only [e100_147, e100_148, e100_149, e100_150, e100_152, e100_153, e100_154, e100_155, e100_156, e100_157, e100_158, e100_159, e100_160, e100_161, e100_162, pk_rem (a := s) (d := 2) (by omega) (by decide) (by decide), pk_mul, nI_add]
      refine c85p (q := (s, 2 * p + s % 2, 5, nI u, 0, 0, 0)) hS (fun q => hc (by have q : s = 2 * p + s % 2 := q; omega)) ⟨hs, by show 2 * p + s % 2 < 6; omega⟩ (by omega) (fun h1 pl1 hG hS1 => ?_)
      simp (disch := first | assumption | omega | exact am_isr_ref | exact am_isr_null | exact am_isr_rf | exact am_c1_int | exact am_c1_ref | exact am_c1_null | exact am_c1_rf | exact am_b0 | exact am_b1 | exact RM_obj (by assumption) | exact MS_obj (by assumption) | (simp only [ne_eq]; done) | exact am_nz2 | exact am_nz3 | exact am_nz6 | exact am_lt (hB _ _) | exact am_lt (stF_lt hB) | exact b32_01) only [Option.toList_none, List.nil_append, e100_165, e100_168, nI_add]
      refine ih (p + 1) pl1 (pushF S (s, 2 * p + s % 2, 5, nI u, 0, 0, 0)) h1 (by omega) hS1 ?_ (fun h2 pl2 hG2 hS2 => hQ h2 pl2 (hG.tr hG2) hS2)
      show (S.2.2.2.2 ++ [_]).length + c ≤ _
      rw [List.length_append, List.length_singleton]
      omega
theorem c100 {s : Nat} {S : aSt} {h : aH} (hs : s < 6) (hS : MMs g h m S pl) (hB : am_BN S.2.1) (hck : S.2.1 10 s + 1 < 1000000) (hm : S.1 ≤ 200) (hL : S.2.2.2.2.length + 10 ≤ 10000) (h12 : ∀ n, n < S.1 → (S.2.1 11 (200 * s + n) = 1 ∨ S.2.1 11 (200 * s + n) = 2) → 1 ≤ S.2.1 12 (200 * s + n))
    (hQ : ∀ (h1 : aH) (pl1 : Nat), GR h pl h1 pl1 → MMs g h1 m (tickF S s) pl1 → Q (some (.int (nI (S.2.1 10 s + 1)))) h1) : am_R (d + 1) 100 0 [some (.ref m), some (.int (nI s)), none, none, none, none, none] [] h Q := by
  simp (disch := first | assumption | omega | exact am_isr_ref | exact am_isr_null | exact am_isr_rf | exact am_c1_int | exact am_c1_ref | exact am_c1_null | exact am_c1_rf | exact am_b0 | exact am_b1 | exact RM_obj (by assumption) | exact MS_obj (by assumption) | (simp only [ne_eq]; done) | exact am_nz2 | exact am_nz3 | exact am_nz6 | exact am_lt (hB _ _) | exact am_lt (stF_lt hB) | exact b32_01) only [e100_0, e100_1, e100_4, e100_7, e100_8, e100_9, e100_10, e100_13, e100_14, e100_15, e100_16, e100_17, e100_18, c73t hs, Option.toList_some, List.cons_append, List.nil_append, nI_z, nq, if_true, not_false_eq_true, Nat.one_ne_zero, gS_10 hS, rS_10 hS hs, nI_add]
  refine wS_10 hS hs (fun h1 hG1 hS1 => ?_)
  have v10 : (setN S 10 s (S.2.1 10 s + 1)).2.1 10 s = S.2.1 10 s + 1 := sN_eq
  have hB1 : am_BN (setN S 10 s (S.2.1 10 s + 1)).2.1 := BN_up2 hB hck
  simp (disch := first | assumption | omega | exact am_isr_ref | exact am_isr_null | exact am_isr_rf | exact am_c1_int | exact am_c1_ref | exact am_c1_null | exact am_c1_rf | exact am_b0 | exact am_b1 | exact RM_obj (by assumption) | exact MS_obj (by assumption) | (simp only [ne_eq]; done) | exact am_nz2 | exact am_nz3 | exact am_nz6 | exact am_lt (hB _ _) | exact am_lt (stF_lt hB) | exact b32_01) only [e100_19, e100_20, e100_23, e100_24, e100_25, e100_26, e100_27, e100_28, e100_29, gS_10 hS1, rS_10 hS1 hs, v10]
  refine l100 (S := setN S 10 s (S.2.1 10 s + 1)) (ck := S.2.1 10 s + 1) hs hck hS1 hB1 hm (fun n hn hf => ?_) S.1 0 none none (by show 0 + S.1 = S.1; omega) (fun l5 l6 => ?_)
  · rw [sN_ne (by decide)] at hf
    rw [sN_ne (by decide)]
    exact h12 n hn hf
  · have hu : (upF (setN S 10 s (S.2.1 10 s + 1)).2.1 s (setN S 10 s (S.2.1 10 s + 1)).1).getD (S.2.1 10 s + 1) = tkU S s := rfl
    have hub : tkU S s < 1000000 := by
      unfold tkU
      cases hq : upF (setN S 10 s (S.2.1 10 s + 1)).2.1 s S.1 with
      | none => exact hck
      | some b => exact upF_lt hB1 _ _ hq
    rw [hu]
    simp (disch := first | assumption | omega | exact am_isr_ref | exact am_isr_null | exact am_isr_rf | exact am_c1_int | exact am_c1_ref | exact am_c1_null | exact am_c1_rf | exact am_b0 | exact am_b1 | exact RM_obj (by assumption) | exact MS_obj (by assumption) | (simp only [ne_eq]; done) | exact am_nz2 | exact am_nz3 | exact am_nz6 | exact am_lt (hB _ _) | exact am_lt (stF_lt hB) | exact b32_01) only [e100_111, e100_112, e100_113, e100_114, e100_116, e100_117, e100_120, e100_122, e100_123, e100_126, e100_127, e100_128, pk_mul, gS_13 hS1, c75 hs, Option.toList_some, List.cons_append, List.nil_append, nI_add]
    refine wS_13 hS1 (by omega) (fun h2 hG2 hS2 => ?_)
    have hS2 : MMs g h2 m (tkS S s) pl := hS2
    simp (disch := first | assumption | omega | exact am_isr_ref | exact am_isr_null | exact am_isr_rf | exact am_c1_int | exact am_c1_ref | exact am_c1_null | exact am_c1_rf | exact am_b0 | exact am_b1 | exact RM_obj (by assumption) | exact MS_obj (by assumption) | (simp only [ne_eq]; done) | exact am_nz2 | exact am_nz3 | exact am_nz6 | exact am_lt (hB _ _) | exact am_lt (stF_lt hB) | exact b32_01) only [e100_129, e100_130]
    refine l100p hs 3 0 pl (tkS S s) h2 rfl hS2 (by show S.2.2.2.2.length + 3 ≤ 10000; omega) (fun h3 pl3 hG3 hS3 => ?_)
    have hsm := othF_same (s := s) (q := fun p => (s, 2 * p + s % 2, 5, nI (tkU S s), 0, 0, 0)) 3 0 (tkS S s)
    have hln := othF_len (s := s) (q := fun p => (s, 2 * p + s % 2, 5, nI (tkU S s), 0, 0, 0)) 3 0 (tkS S s)
    have hln2 : (othF s (fun p => (s, 2 * p + s % 2, 5, nI (tkU S s), 0, 0, 0)) 3 0 (tkS S s)).2.2.2.2.length ≤ S.2.2.2.2.length + 3 := hln
    have key : ∀ l5 : Nat, l5 = nbF s → am_R (d + 1) 100 188 [some (.ref m), some (.int (nI s)), some (.int (nI (tkU S s))), some (.int (b32 ((upF (setN S 10 s (S.2.1 10 s + 1)).2.1 s (setN S 10 s (S.2.1 10 s + 1)).1).isSome = true))), some (.int (nI (3 * s))), some (.int (nI l5)), l6] [] h3 Q := by
      intro l5 h5
      have hnb : l5 < 6 ∧ ¬ s = l5 := by
        rw [h5]
        unfold nbF
        split <;> omega
      simp (disch := first | assumption | omega | exact am_isr_ref | exact am_isr_null | exact am_isr_rf | exact am_c1_int | exact am_c1_ref | exact am_c1_null | exact am_c1_rf | exact am_b0 | exact am_b1 | exact RM_obj (by assumption) | exact MS_obj (by assumption) | (simp only [ne_eq]; done) | exact am_nz2 | exact am_nz3 | exact am_nz6 | exact am_lt (hB _ _) | exact am_lt (stF_lt hB) | exact b32_01) only [e100_188, e100_189, e100_190, e100_192, e100_194, e100_195, e100_196, e100_199, e100_201, e100_202, e100_203, e100_206, e100_208, e100_209, e100_210, e100_211, e100_212, e100_215, e100_217, e100_218, e100_219, e100_220, gS_13 hS3, rS_13 hS3 (show 3 * s < 18 by omega), rS_13 hS3 (show 3 * s + 1 < 18 by omega), rS_13 hS3 (show 3 * s + 2 < 18 by omega), nI_add, hsm.2.1]
      refine c85p (q := (s, l5, 6, -1, (tkS S s).2.1 13 (3 * s), (tkS S s).2.1 13 (3 * s + 1), (tkS S s).2.1 13 (3 * s + 2))) hS3 hnb.2 ⟨hs, hnb.1⟩ (by omega) (fun h4 pl4 hG4 hS4 => ?_)
      have hS4 : MMs g h4 m (tickF S s) pl4 := by rw [h5] at hS4; exact hS4
      have vck : (tickF S s).2.1 10 s = S.2.1 10 s + 1 := by
        show (othF _ _ _ _ _).2.1 10 s = _
        rw [hsm.2.1]
        unfold tkS
        rw [sN_ne (by decide), sN_eq]
      simp (disch := first | assumption | omega | exact am_isr_ref | exact am_isr_null | exact am_isr_rf | exact am_c1_int | exact am_c1_ref | exact am_c1_null | exact am_c1_rf | exact am_b0 | exact am_b1 | exact RM_obj (by assumption) | exact MS_obj (by assumption) | (simp only [ne_eq]; done) | exact am_nz2 | exact am_nz3 | exact am_nz6 | exact am_lt (hB _ _) | exact am_lt (stF_lt hB) | exact b32_01) only [Option.toList_none, List.nil_append, e100_223, e100_224, e100_227, e100_228, e100_229, gS_10 hS4, rS_10 hS4 hs, vck]
      exact hQ h4 pl4 (((hG1.tr hG2).tr hG3).tr hG4) hS4
    simp (disch := first | assumption | omega | exact am_isr_ref | exact am_isr_null | exact am_isr_rf | exact am_c1_int | exact am_c1_ref | exact am_c1_null | exact am_c1_rf | exact am_b0 | exact am_b1 | exact RM_obj (by assumption) | exact MS_obj (by assumption) | (simp only [ne_eq]; done) | exact am_nz2 | exact am_nz3 | exact am_nz6 | exact am_lt (hB _ _) | exact am_lt (stF_lt hB) | exact b32_01) only [e100_171, e100_172, e100_173, e100_174, pk_rem (a := s) (d := 2) (by omega) (by decide) (by decide), nI_z, nq]
    by_cases h2 : s % 2 = 0
    · rw [if_neg (fun q => q h2)]
      simp (disch := first | assumption | omega | exact am_isr_ref | exact am_isr_null | exact am_isr_rf | exact am_c1_int | exact am_c1_ref | exact am_c1_null | exact am_c1_rf | exact am_b0 | exact am_b1 | exact RM_obj (by assumption) | exact MS_obj (by assumption) | (simp only [ne_eq]; done) | exact am_nz2 | exact am_nz3 | exact am_nz6 | exact am_lt (hB _ _) | exact am_lt (stF_lt hB) | exact b32_01) only [e100_177, e100_178, e100_179, e100_180, e100_186, nI_add]
      exact key (s + 1) (by unfold nbF; rw [if_pos h2])
    · rw [if_pos h2]
      simp (disch := first | assumption | omega | exact am_isr_ref | exact am_isr_null | exact am_isr_rf | exact am_c1_int | exact am_c1_ref | exact am_c1_null | exact am_c1_rf | exact am_b0 | exact am_b1 | exact RM_obj (by assumption) | exact MS_obj (by assumption) | (simp only [ne_eq]; done) | exact am_nz2 | exact am_nz3 | exact am_nz6 | exact am_lt (hB _ _) | exact am_lt (stF_lt hB) | exact b32_01) only [e100_183, e100_184, e100_185, e100_186, pk_sub (show 1 ≤ s by omega)]
      exact key (s - 1) (by unfold nbF; rw [if_neg h2])
theorem c100f {s : Int32} {h : aH} (hc : s < 0 ∨ nI 6 ≤ s) (hQ : Q (some (.int (-1))) h) : am_R (d + 1) 100 0 [some (.ref m), some (.int s), none, none, none, none, none] [] h Q := by
  simp (disch := first | assumption | omega | exact am_isr_ref | exact am_isr_null | exact am_isr_rf | exact am_c1_int | exact am_c1_ref | exact am_c1_null | exact am_c1_rf | exact am_b0 | exact am_b1 | exact RM_obj (by assumption) | exact MS_obj (by assumption) | (simp only [ne_eq]; done) | exact am_nz2 | exact am_nz3 | exact am_nz6 | exact am_lt (hB _ _) | exact am_lt (stF_lt hB) | exact b32_01) only [e100_0, e100_1, e100_4, e100_7, e100_8, c73f hc, Option.toList_some, List.cons_append, List.nil_append, if_neg (show ¬ ¬ nI 0 = 0 from fun q => q rfl)]
  exact hQ
end MY
