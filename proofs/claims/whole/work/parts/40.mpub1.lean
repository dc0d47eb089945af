/-! the model's calls: start, value, write, abort -/
def seF (c : Nat) : Nat → Nat → aSt → aSt
  | 0, _, S => S
  | t + 1, p, S => seF c t (p + 1) (setN S 17 (3 * c + p) (max (S.2.1 17 (3 * c + p)) (min (S.2.1 13 (3 * (2 * (c % 3)) + p)) (S.2.1 14 (3 * (2 * (c % 3)) + p)))))
def fgF (c : Nat) : Nat → Nat → aSt → aSt
  | 0, _, S => S
  | t + 1, k, S => fgF c t (k + 1) (match S.2.2.2.1 (8 * c + k) with
    | none => S
    | some n => if snF S.2.1 n c then setO S (8 * c + k) none else S)
def startF (S : aSt) (c : Nat) : aSt := fgF c 8 0 (seF c 3 0 (setN (setN S 15 c 1) 19 c 0))
/-- what is needed of a state: small numbers, told is 0 or 1, own versions are there -/
def WfO (S : aSt) : Prop := am_BN S.2.1 ∧ (∀ n, S.2.1 8 n < 2) ∧ (∀ e n, S.2.2.2.1 e = some n → n < 200)
section MU
variable {d : Nat} {g : Nat → Option aE} {m pl : Nat} {Q : Option Value → aH → Prop}
theorem WfO_N {S : aSt} {k e v : Nat} (hW : WfO S) (hk : ¬ k = 8) (hv : v < 1000000) : WfO (setN S k e v) := by
  refine ⟨BN_up2 hW.1 hv, fun n => ?_, hW.2.2⟩
  show up2 S.2.1 k e v 8 n < 2
  rw [up2_ne (fun q => hk q.symm)]
  exact hW.2.1 n
theorem WfO_O {S : aSt} {e : Nat} (hW : WfO S) : WfO (setO S e none) := by
  refine ⟨hW.1, hW.2.1, fun e2 n q => ?_⟩
  have q : (if e2 = e then none else S.2.2.2.1 e2) = some n := q
  split at q
  · cases q
  · exact hW.2.2 e2 n q
theorem l94s {c : Nat} (hc : c < 6) : ∀ (t p : Nat) (S : aSt) (h : aH) (l3 : Option Value), p + t = 3 → MMs g h m S pl → WfO S →
    (∀ (h1 : aH) (l3 : Option Value), GR h pl h1 pl → MMs g h1 m (seF c t p S) pl → WfO (seF c t p S) → am_R (d + 1) 94 78 [some (.ref m), some (.int (nI c)), some (.int (nI 3)), l3] [] h1 Q) →
    am_R (d + 1) 94 36 [some (.ref m), some (.int (nI c)), some (.int (nI p)), l3] [] h Q := by
  intro t
  induction t with
  | zero =>
    intro p S h l3 hp hS hW hQ
    obtain rfl : p = 3 := by omega
    rw [e94_36]
    simp (disch := first | assumption | omega | exact am_isr_ref | exact am_isr_null | exact am_isr_rf | exact am_c1_int | exact am_c1_ref | exact am_c1_null | exact am_c1_rf | exact am_b0 | exact am_b1 | exact RM_obj (by assumption) | exact MS_obj (by assumption) | (simp only [ne_eq]; done) | exact am_nz2 | exact am_nz3 | exact am_nz6 | exact am_lt (hB _ _) | exact am_lt (stF_lt hB) | exact b32_01) only [e94_37, e94_38, nle, if_true, Nat.le_refl]
    exact hQ h l3 GR.rf hS hW
  | succ t ih =>
    intro p S h l3 hp hS hW hQ
    have hB := hW.1
    have b1 := hB 13 (3 * (2 * (c % 3)) + p)
    have b2 := hB 14 (3 * (2 * (c % 3)) + p)
    have b3 := hB 17 (3 * c + p)
    have hst : 2 * (c % 3) < 6 := by omega
    rw [e94_36]
    rw [seF] at hQ
    simp (disch := first | assumption | omega | exact am_isr_ref | exact am_isr_null | exact am_isr_rf | exact am_c1_int | exact am_c1_ref | exact am_c1_null | exact am_c1_rf | exact am_b0 | exact am_b1 | exact RM_obj (by assumption) | exact MS_obj (by assumption) | (simp only [ne_eq]; done) | exact am_nz2 | exact am_nz3 | exact am_nz6 | exact am_lt (hB _ _) | exact am_lt (stF_lt hB) | exact b32_01) only [e94_37, e94_38, e94_41, e94_42, e94_43, e94_44, e94_45, e94_46, e94_47, e94_48, e94_51, e94_52, e94_53, e94_56, e94_57, e94_58, e94_59, e94_60, e94_61, e94_62, e94_63, e94_64, e94_65, e94_68, e94_71, nle, if_neg (show ¬ 3 ≤ p by omega), gS_17 hS, nI_add, pk_mul, rS_17 hS (show 3 * c + p < 18 by omega), pk_rem (a := c) (d := 3) (by omega) (by decide) (by decide), s93 hS hB hst (show p < 3 by omega), Option.toList_some, List.cons_append, List.nil_append, max32]
    refine wS_17 hS (by omega) (fun h1 hG hS1 => ?_)
    simp (disch := first | assumption | omega | exact am_isr_ref | exact am_isr_null | exact am_isr_rf | exact am_c1_int | exact am_c1_ref | exact am_c1_null | exact am_c1_rf | exact am_b0 | exact am_b1 | exact RM_obj (by assumption) | exact MS_obj (by assumption) | (simp only [ne_eq]; done) | exact am_nz2 | exact am_nz3 | exact am_nz6 | exact am_lt (hB _ _) | exact am_lt (stF_lt hB) | exact b32_01) only [e94_72, e94_75, nI_add]
    exact ih (p + 1) _ h1 _ (by omega) hS1 (WfO_N hW (by decide) (by omega)) (fun h2 l3 hG2 hS2 => hQ h2 l3 (hG.tr hG2) hS2)
theorem l94o {c : Nat} (hc : c < 6) : ∀ (t k : Nat) (S : aSt) (h : aH) (l3 : Option Value), k + t = 8 → MMs g h m S pl → WfO S →
    (∀ (h1 : aH), GR h pl h1 pl → MMs g h1 m (fgF c t k S) pl → Q (some (.int (nI 1))) h1) →
    am_R (d + 3) 94 80 [some (.ref m), some (.int (nI c)), some (.int (nI k)), l3] [] h Q := by
  intro t
  induction t with
  | zero =>
    intro k S h l3 hk hS hW hQ
    obtain rfl : k = 8 := by omega
    rw [e94_80]
    simp (disch := first | assumption | omega | exact am_isr_ref | exact am_isr_null | exact am_isr_rf | exact am_c1_int | exact am_c1_ref | exact am_c1_null | exact am_c1_rf | exact am_b0 | exact am_b1 | exact RM_obj (by assumption) | exact MS_obj (by assumption) | (simp only [ne_eq]; done) | exact am_nz2 | exact am_nz3 | exact am_nz6 | exact am_lt (hB _ _) | exact am_lt (stF_lt hB) | exact b32_01) only [e94_81, e94_83, nle, if_true, Nat.le_refl, e94_130, e94_131]
    exact hQ h GR.rf hS
  | succ t ih =>
    intro k S h l3 hk hS hW hQ
    rw [e94_80]
    rw [fgF] at hQ
    simp (disch := first | assumption | omega | exact am_isr_ref | exact am_isr_null | exact am_isr_rf | exact am_c1_int | exact am_c1_ref | exact am_c1_null | exact am_c1_rf | exact am_b0 | exact am_b1 | exact RM_obj (by assumption) | exact MS_obj (by assumption) | (simp only [ne_eq]; done) | exact am_nz2 | exact am_nz3 | exact am_nz6 | exact am_lt (hB _ _) | exact am_lt (stF_lt hB) | exact b32_01) only [e94_81, e94_83, e94_86, e94_88, e94_89, e94_90, e94_91, e94_92, e94_93, e94_94, e94_97, e94_98, e94_99, e94_100, nle, if_neg (show ¬ 8 ≤ k by omega), gS_18 hS, nI_add, pk_mul, rS_18 hS (show 8 * c + k < 48 by omega)]
    cases ho : S.2.2.2.1 (8 * c + k) with
    | none =>
      rw [ho] at hQ
      simp (disch := first | assumption | omega | exact am_isr_ref | exact am_isr_null | exact am_isr_rf | exact am_c1_int | exact am_c1_ref | exact am_c1_null | exact am_c1_rf | exact am_b0 | exact am_b1 | exact RM_obj (by assumption) | exact MS_obj (by assumption) | (simp only [ne_eq]; done) | exact am_nz2 | exact am_nz3 | exact am_nz6 | exact am_lt (hB _ _) | exact am_lt (stF_lt hB) | exact b32_01) only [eO, if_true, e94_124, e94_127, nI_add]
      exact ih (k + 1) S h _ (by omega) hS hW hQ
    | some n =>
      rw [ho] at hQ
      have hn := hW.2.2 _ _ ho
      simp (disch := first | assumption | omega | exact am_isr_ref | exact am_isr_null | exact am_isr_rf | exact am_c1_int | exact am_c1_ref | exact am_c1_null | exact am_c1_rf | exact am_b0 | exact am_b1 | exact RM_obj (by assumption) | exact MS_obj (by assumption) | (simp only [ne_eq]; done) | exact am_nz2 | exact am_nz3 | exact am_nz6 | exact am_lt (hB _ _) | exact am_lt (stF_lt hB) | exact b32_01) only [eO, if_neg (eO_m1 (show n < 2 ^ 31 by omega)), e94_103, e94_104, e94_105, e94_108, e94_109, e94_110, e94_111, e94_114, gS_18 hS, rS_18 hS (show 8 * c + k < 48 by omega), ho, s81 hS hW.1 hn hc (hW.2.1 n), Option.toList_some, List.cons_append, List.nil_append, b32_q0]
      by_cases hsn : snF S.2.1 n c
      · rw [if_neg (fun q => q hsn)]
        dsimp only at hQ
        rw [if_pos hsn] at hQ
        simp (disch := first | assumption | omega | exact am_isr_ref | exact am_isr_null | exact am_isr_rf | exact am_c1_int | exact am_c1_ref | exact am_c1_null | exact am_c1_rf | exact am_b0 | exact am_b1 | exact RM_obj (by assumption) | exact MS_obj (by assumption) | (simp only [ne_eq]; done) | exact am_nz2 | exact am_nz3 | exact am_nz6 | exact am_lt (hB _ _) | exact am_lt (stF_lt hB) | exact b32_01) only [e94_117, e94_118, e94_121, e94_122, e94_123, gS_18 hS]
        refine wS_18 (o := none) hS (show 8 * c + k < 48 by omega) (fun h1 hG hS1 => ?_)
        simp (disch := first | assumption | omega | exact am_isr_ref | exact am_isr_null | exact am_isr_rf | exact am_c1_int | exact am_c1_ref | exact am_c1_null | exact am_c1_rf | exact am_b0 | exact am_b1 | exact RM_obj (by assumption) | exact MS_obj (by assumption) | (simp only [ne_eq]; done) | exact am_nz2 | exact am_nz3 | exact am_nz6 | exact am_lt (hB _ _) | exact am_lt (stF_lt hB) | exact b32_01) only [e94_124, e94_127, nI_add]
        exact ih (k + 1) _ h1 _ (by omega) hS1 (WfO_O hW) (fun h2 hG2 hS2 => hQ h2 (hG.tr hG2) hS2)
      · rw [if_pos hsn]
        dsimp only at hQ
        rw [if_neg hsn] at hQ
        simp (disch := first | assumption | omega | exact am_isr_ref | exact am_isr_null | exact am_isr_rf | exact am_c1_int | exact am_c1_ref | exact am_c1_null | exact am_c1_rf | exact am_b0 | exact am_b1 | exact RM_obj (by assumption) | exact MS_obj (by assumption) | (simp only [ne_eq]; done) | exact am_nz2 | exact am_nz3 | exact am_nz6 | exact am_lt (hB _ _) | exact am_lt (stF_lt hB) | exact b32_01) only [e94_124, e94_127, nI_add]
        exact ih (k + 1) S h _ (by omega) hS hW hQ
theorem c94 {c : Nat} {S : aSt} {h : aH} (hc : c < 6) (hS : MMs g h m S pl) (hW : WfO S)
    (hQ : ∀ (h1 : aH), GR h pl h1 pl → MMs g h1 m (if S.2.1 15 c = 0 then startF S c else S) pl → Q (some (.int (if S.2.1 15 c = 0 then nI 1 else nI 0))) h1) : am_R (d + 3) 94 0 [some (.ref m), some (.int (nI c)), none, none] [] h Q := by
  have b15 := hW.1 15 c
  simp (disch := first | assumption | omega | exact am_isr_ref | exact am_isr_null | exact am_isr_rf | exact am_c1_int | exact am_c1_ref | exact am_c1_null | exact am_c1_rf | exact am_b0 | exact am_b1 | exact RM_obj (by assumption) | exact MS_obj (by assumption) | (simp only [ne_eq]; done) | exact am_nz2 | exact am_nz3 | exact am_nz6 | exact am_lt (hB _ _) | exact am_lt (stF_lt hB) | exact b32_01) only [e94_0, e94_1, e94_4, e94_7, e94_8, e94_9, e94_10, e94_13, e94_14, e94_15, c72t hc, Option.toList_some, List.cons_append, List.nil_append, gS_15 hS, rS_15 hS hc, nI_z, nq, if_true, if_false, Nat.reduceEqDiff, not_false_eq_true, Nat.one_ne_zero]
  by_cases h0 : S.2.1 15 c = 0
  · rw [if_pos h0]
    rw [if_pos h0, if_pos h0] at hQ
    simp (disch := first | assumption | omega | exact am_isr_ref | exact am_isr_null | exact am_isr_rf | exact am_c1_int | exact am_c1_ref | exact am_c1_null | exact am_c1_rf | exact am_b0 | exact am_b1 | exact RM_obj (by assumption) | exact MS_obj (by assumption) | (simp only [ne_eq]; done) | exact am_nz2 | exact am_nz3 | exact am_nz6 | exact am_lt (hB _ _) | exact am_lt (stF_lt hB) | exact b32_01) only [e94_20, e94_21, e94_24, e94_25, e94_26, gS_15 hS]
    refine wS_15 hS hc (fun h1 hG1 hS1 => ?_)
    simp (disch := first | assumption | omega | exact am_isr_ref | exact am_isr_null | exact am_isr_rf | exact am_c1_int | exact am_c1_ref | exact am_c1_null | exact am_c1_rf | exact am_b0 | exact am_b1 | exact RM_obj (by assumption) | exact MS_obj (by assumption) | (simp only [ne_eq]; done) | exact am_nz2 | exact am_nz3 | exact am_nz6 | exact am_lt (hB _ _) | exact am_lt (stF_lt hB) | exact b32_01) only [e94_27, e94_28, e94_31, e94_32, e94_33, gS_19 hS1]
    refine wS_19 hS1 hc (fun h2 hG2 hS2 => ?_)
    simp (disch := first | assumption | omega | exact am_isr_ref | exact am_isr_null | exact am_isr_rf | exact am_c1_int | exact am_c1_ref | exact am_c1_null | exact am_c1_rf | exact am_b0 | exact am_b1 | exact RM_obj (by assumption) | exact MS_obj (by assumption) | (simp only [ne_eq]; done) | exact am_nz2 | exact am_nz3 | exact am_nz6 | exact am_lt (hB _ _) | exact am_lt (stF_lt hB) | exact b32_01) only [e94_34, e94_35]
    refine l94s hc 3 0 _ h2 _ rfl hS2 (WfO_N (WfO_N hW (by decide) (by decide)) (by decide) (by decide)) (fun h3 l3 hG3 hS3 hW3 => ?_)
    simp (disch := first | assumption | omega | exact am_isr_ref | exact am_isr_null | exact am_isr_rf | exact am_c1_int | exact am_c1_ref | exact am_c1_null | exact am_c1_rf | exact am_b0 | exact am_b1 | exact RM_obj (by assumption) | exact MS_obj (by assumption) | (simp only [ne_eq]; done) | exact am_nz2 | exact am_nz3 | exact am_nz6 | exact am_lt (hB _ _) | exact am_lt (stF_lt hB) | exact b32_01) only [e94_78, e94_79]
    exact l94o hc 8 0 _ h3 _ rfl hS3 hW3 (fun h4 hG4 hS4 => hQ h4 (((hG1.tr hG2).tr hG3).tr hG4) hS4)
  · rw [if_neg h0]
    rw [if_neg h0, if_neg h0] at hQ
    simp (disch := first | assumption | omega | exact am_isr_ref | exact am_isr_null | exact am_isr_rf | exact am_c1_int | exact am_c1_ref | exact am_c1_null | exact am_c1_rf | exact am_b0 | exact am_b1 | exact RM_obj (by assumption) | exact MS_obj (by assumption) | (simp only [ne_eq]; done) | exact am_nz2 | exact am_nz3 | exact am_nz6 | exact am_lt (hB _ _) | exact am_lt (stF_lt hB) | exact b32_01) only [e94_18, e94_19]
    exact hQ h GR.rf hS
theorem c94f {c : Int32} {h : aH} (hc : c < 0 ∨ nI 6 ≤ c) (hQ : Q (some (.int (-1))) h) : am_R (d + 3) 94 0 [some (.ref m), some (.int c), none, none] [] h Q := by
  simp (disch := first | assumption | omega | exact am_isr_ref | exact am_isr_null | exact am_isr_rf | exact am_c1_int | exact am_c1_ref | exact am_c1_null | exact am_c1_rf | exact am_b0 | exact am_b1 | exact RM_obj (by assumption) | exact MS_obj (by assumption) | (simp only [ne_eq]; done) | exact am_nz2 | exact am_nz3 | exact am_nz6 | exact am_lt (hB _ _) | exact am_lt (stF_lt hB) | exact b32_01) only [e94_0, e94_1, e94_4, e94_7, e94_8, c72f hc, Option.toList_some, List.cons_append, List.nil_append, nI_z, not_true_eq_false, if_false]
  exact hQ
end MU
