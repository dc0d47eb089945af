/-! prepared, prepare, take, send: the rest -/
section ME
variable {d : Nat} {g : Nat → Option aE} {h : aH} {m pl : Nat} {S : aSt} {Q : Option Value → aH → Prop}
theorem sN_ne {k e v k2 e2 : Nat} (hk : ¬ k2 = k) : (setN S k e v).2.1 k2 e2 = S.2.1 k2 e2 := if_neg (fun q => hk q.1)
theorem sN_eq {k e v : Nat} : (setN S k e v).2.1 k e = v := if_pos ⟨rfl, rfl⟩
theorem apF_same {s : Nat} {f : Option Nat} : ∀ t S, (apF t S s f).1 = S.1 ∧ (apF t S s f).2.2.1 = S.2.2.1 ∧ (apF t S s f).2.2.2.1 = S.2.2.2.1 ∧ (∀ k e, ¬ k = 11 → (apF t S s f).2.1 k e = S.2.1 k e) ∧ (am_BN S.2.1 → am_BN (apF t S s f).2.1) ∧ (apF t S s f).2.2.2.2.length ≤ S.2.2.2.2.length + 3 * t := by
  intro t
  induction t with
  | zero => intro S; exact ⟨rfl, rfl, rfl, fun _ _ _ => rfl, fun q => q, by show S.2.2.2.2.length ≤ _; omega⟩
  | succ t ih =>
    intro S
    rw [apF]
    split
    · exact ⟨rfl, rfl, rfl, fun _ _ _ => rfl, fun q => q, by omega⟩
    · rename_i n hn
      split
      · obtain ⟨h1, h2, h3, h4, h5, h6⟩ := ih (stA S s n)
        have hlen := othF_len (s := s) (q := fun p => (s, 2 * p + s % 2, 4, nI n, 0, 0, 0)) 3 0 (setN S 11 (200 * s + n) 3)
        have hlen2 : (stA S s n).2.2.2.2.length ≤ S.2.2.2.2.length + 3 := hlen
        refine ⟨by rw [h1, stA_1.1], by rw [h2, stA_1.2.2.1], by rw [h3, stA_1.2.2.2], fun k e hk => ?_, fun hB => h5 ?_, by omega⟩
        · rw [h4 k e hk, stA_1.2.1]
          exact up2_ne hk
        · rw [stA_1.2.1]
          exact BN_up2 hB (by decide)
      · exact ⟨rfl, rfl, rfl, fun _ _ _ => rfl, fun q => q, by omega⟩
theorem decF_same {s n t : Nat} (hB : am_BN S.2.1) (ht : t < 1000000) : (decF S s n t).1 = S.1 ∧ (decF S s n t).2.2.1 = S.2.2.1 ∧ (decF S s n t).2.2.2.1 = S.2.2.2.1 ∧ (∀ k e, ¬ k = 11 → ¬ k = 12 → ¬ k = 10 → (decF S s n t).2.1 k e = S.2.1 k e) ∧ am_BN (decF S s n t).2.1 ∧ (decF S s n t).2.2.2.2.length ≤ S.2.2.2.2.length + 3 * S.1 := by
  obtain ⟨h1, h2, h3, h4, h5, h6⟩ := apF_same (s := s) (f := leF (setN (setN (setN S 11 (200 * s + n) 2) 12 (200 * s + n) t) 10 s (max (S.2.1 10 s) t)).2.1 s 1 S.1) S.1 (setN (setN (setN S 11 (200 * s + n) 2) 12 (200 * s + n) t) 10 s (max (S.2.1 10 s) t))
  refine ⟨h1, h2, h3, fun k e k1 k2 k3 => ?_, h5 ?_, h6⟩
  · refine (h4 k e k1).trans ?_
    show up2 (up2 (up2 S.2.1 11 (200 * s + n) 2) 12 (200 * s + n) t) 10 s _ k e = _
    rw [up2_ne k3, up2_ne k2, up2_ne k1]
  · have hmx : max (S.2.1 10 s) t < 1000000 := by have := hB 10 s; omega
    exact BN_up2 (BN_up2 (BN_up2 hB (by decide)) ht) hmx
theorem coB_congr {N N' : Nat → Nat → Nat} {n s : Nat} (h4 : N 4 n = N' 4 n) : coF N n s = coF N' n s := by
  unfold coF coB
  rw [h4]
/-- DECIDE to both -/
theorem t89 {ld n c tt : Nat} (hld : ld + 1 < 6) (hn : n < 200) (hS : MMs g h m S pl) (hB : am_BN S.2.1) (hm : S.1 ≤ 200) (hL : S.2.2.2.2.length + 1300 ≤ 10000)
    (hQ : ∀ (h1 : aH) (pl1 : Nat), GR h pl h1 pl1 → MMs g h1 m (dcdF S ld n) pl1 → Q none h1) :
    am_R (d + 5) 89 124 [some (.ref m), some (.int (nI ld)), some (.int (nI n)), some (.int (nI tt)), some (.int (nI c)), some (.int (nI 8))] [] h Q := by
  have key : ∀ (S1 : aSt) (h1 : aH) (pl1 : Nat), GR h pl h1 pl1 → MMs g h1 m S1 pl1 → am_BN S1.2.1 → S1.2.2.2.2.length ≤ 10000 → dcdF S ld n = (if coF S1.2.1 n (ld + 1) = true then pushF S1 (ld, ld + 1, 3, nI n, S1.2.1 9 n, 0, 0) else S1) → am_R (d + 5) 89 127 [some (.ref m), some (.int (nI ld)), some (.int (nI n)), some (.int (nI tt)), some (.int (nI c)), some (.int (nI (ld + 1)))] [] h1 Q := by
    intro S1 h1 pl1 hG hS1 hB1 hL1 hE
    rw [hE] at hQ
    simp (disch := first | assumption | omega | exact am_isr_ref | exact am_isr_null | exact am_isr_rf | exact am_c1_int | exact am_c1_ref | exact am_c1_null | exact am_c1_rf | exact am_b0 | exact am_b1 | exact RM_obj (by assumption) | exact MS_obj (by assumption) | (simp only [ne_eq]; done) | exact am_nz2 | exact am_nz3 | exact am_nz6 | exact am_lt (hB _ _) | exact am_lt (stF_lt hB) | exact b32_01) only [e89_127, e89_129, e89_130, e89_131, e89_132, e89_135, e89_136, e89_137, e89_139, e89_142, nI_add, nle, if_neg (show ¬ ld + 2 ≤ ld + 1 by omega), s84 hS1 hB1 hld hn, Option.toList_some, List.cons_append, List.nil_append, b32_q0]
    by_cases hc : coF S1.2.1 n (ld + 1) = true
    · rw [if_neg (fun q => q hc)]
      rw [if_pos hc] at hQ
      simp (disch := first | assumption | omega | exact am_isr_ref | exact am_isr_null | exact am_isr_rf | exact am_c1_int | exact am_c1_ref | exact am_c1_null | exact am_c1_rf | exact am_b0 | exact am_b1 | exact RM_obj (by assumption) | exact MS_obj (by assumption) | (simp only [ne_eq]; done) | exact am_nz2 | exact am_nz3 | exact am_nz6 | exact am_lt (hB _ _) | exact am_lt (stF_lt hB) | exact b32_01) only [e89_145, e89_146, e89_147, e89_149, e89_150, e89_151, e89_152, e89_155, e89_156, e89_157, e89_158, e89_159, gS_9 hS1, rS_9 hS1 hn]
      refine c85p (q := (ld, ld + 1, 3, nI n, S1.2.1 9 n, 0, 0)) hS1 (fun q => by have q : ld = ld + 1 := q; omega) ⟨by show ld < 6; omega, hld⟩ hL1 (fun h2 pl2 hG2 hS2 => ?_)
      simp (disch := first | assumption | omega | exact am_isr_ref | exact am_isr_null | exact am_isr_rf | exact am_c1_int | exact am_c1_ref | exact am_c1_null | exact am_c1_rf | exact am_b0 | exact am_b1 | exact RM_obj (by assumption) | exact MS_obj (by assumption) | (simp only [ne_eq]; done) | exact am_nz2 | exact am_nz3 | exact am_nz6 | exact am_lt (hB _ _) | exact am_lt (stF_lt hB) | exact b32_01) only [Option.toList_none, List.nil_append, e89_162, e89_165, e89_127, e89_129, e89_130, e89_131, e89_132, nI_add, nle, if_pos (show ld + 2 ≤ ld + 1 + 1 by omega), e89_168]
      exact hQ h2 pl2 (hG.tr hG2) hS2
    · rw [if_pos hc]
      rw [if_neg hc] at hQ
      simp (disch := first | assumption | omega | exact am_isr_ref | exact am_isr_null | exact am_isr_rf | exact am_c1_int | exact am_c1_ref | exact am_c1_null | exact am_c1_rf | exact am_b0 | exact am_b1 | exact RM_obj (by assumption) | exact MS_obj (by assumption) | (simp only [ne_eq]; done) | exact am_nz2 | exact am_nz3 | exact am_nz6 | exact am_lt (hB _ _) | exact am_lt (stF_lt hB) | exact b32_01) only [e89_162, e89_165, e89_127, e89_129, e89_130, e89_131, e89_132, nI_add, nle, if_pos (show ld + 2 ≤ ld + 1 + 1 by omega), e89_168]
      exact hQ h1 pl1 hG hS1
  have hld6 : ld < 6 := by omega
  simp (disch := first | assumption | omega | exact am_isr_ref | exact am_isr_null | exact am_isr_rf | exact am_c1_int | exact am_c1_ref | exact am_c1_null | exact am_c1_rf | exact am_b0 | exact am_b1 | exact RM_obj (by assumption) | exact MS_obj (by assumption) | (simp only [ne_eq]; done) | exact am_nz2 | exact am_nz3 | exact am_nz6 | exact am_lt (hB _ _) | exact am_lt (stF_lt hB) | exact b32_01) only [e89_124, e89_125, e89_127, e89_129, e89_130, e89_131, e89_132, e89_135, e89_136, e89_137, e89_139, e89_142, nI_add, nle, if_neg (show ¬ ld + 2 ≤ ld by omega), s84 hS hB hld6 hn, Option.toList_some, List.cons_append, List.nil_append, b32_q0]
  by_cases hc : coF S.2.1 n ld = true
  · rw [if_neg (fun q => q hc)]
    simp (disch := first | assumption | omega | exact am_isr_ref | exact am_isr_null | exact am_isr_rf | exact am_c1_int | exact am_c1_ref | exact am_c1_null | exact am_c1_rf | exact am_b0 | exact am_b1 | exact RM_obj (by assumption) | exact MS_obj (by assumption) | (simp only [ne_eq]; done) | exact am_nz2 | exact am_nz3 | exact am_nz6 | exact am_lt (hB _ _) | exact am_lt (stF_lt hB) | exact b32_01) only [e89_145, e89_146, e89_147, e89_149, e89_150, e89_151, e89_152, e89_155, e89_156, e89_157, e89_158, e89_159, gS_9 hS, rS_9 hS hn]
    refine c85_3 hld6 hn (hB 9 n) hS hB hm (by omega) (fun h1 pl1 hG hS1 => ?_)
    have hd := decF_same (s := ld) (n := n) (t := S.2.1 9 n) hB (hB 9 n)
    simp (disch := first | assumption | omega | exact am_isr_ref | exact am_isr_null | exact am_isr_rf | exact am_c1_int | exact am_c1_ref | exact am_c1_null | exact am_c1_rf | exact am_b0 | exact am_b1 | exact RM_obj (by assumption) | exact MS_obj (by assumption) | (simp only [ne_eq]; done) | exact am_nz2 | exact am_nz3 | exact am_nz6 | exact am_lt (hB _ _) | exact am_lt (stF_lt hB) | exact b32_01) only [Option.toList_none, List.nil_append, e89_162, e89_165, nI_add]
    exact key _ h1 pl1 hG hS1 hd.2.2.2.2.1 (by have := hd.2.2.2.2.2; omega) (by unfold dcdF; rw [if_pos hc])
  · rw [if_pos hc]
    simp (disch := first | assumption | omega | exact am_isr_ref | exact am_isr_null | exact am_isr_rf | exact am_c1_int | exact am_c1_ref | exact am_c1_null | exact am_c1_rf | exact am_b0 | exact am_b1 | exact RM_obj (by assumption) | exact MS_obj (by assumption) | (simp only [ne_eq]; done) | exact am_nz2 | exact am_nz3 | exact am_nz6 | exact am_lt (hB _ _) | exact am_lt (stF_lt hB) | exact b32_01) only [e89_162, e89_165, nI_add]
    exact key S h pl GR.rf hS hB (by omega) (by unfold dcdF; rw [if_neg hc])
theorem c89 {ld n t : Nat} (hld : ld + 1 < 6) (hn : n < 200) (ht : t < 1000000) (hS : MMs g h m S pl) (hB : am_BN S.2.1) (hm : S.1 ≤ 200) (h6 : 1 ≤ S.2.1 6 n) (h1c : S.2.1 1 n < 6) (hL : S.2.2.2.2.length + 1300 ≤ 10000)
    (hQ : ∀ (h1 : aH) (pl1 : Nat), GR h pl h1 pl1 → MMs g h1 m (prdF S ld n t) pl1 → Q none h1) : am_R (d + 5) 89 0 [some (.ref m), some (.int (nI ld)), some (.int (nI n)), some (.int (nI t)), none, none] [] h Q := by
  have b7 := hB 7 n
  have b6 := hB 6 n
  have hgt : max (S.2.1 7 n) t < 1000000 := by omega
  simp (disch := first | assumption | omega | exact am_isr_ref | exact am_isr_null | exact am_isr_rf | exact am_c1_int | exact am_c1_ref | exact am_c1_null | exact am_c1_rf | exact am_b0 | exact am_b1 | exact RM_obj (by assumption) | exact MS_obj (by assumption) | (simp only [ne_eq]; done) | exact am_nz2 | exact am_nz3 | exact am_nz6 | exact am_lt (hB _ _) | exact am_lt (stF_lt hB) | exact b32_01) only [e89_0, e89_1, e89_4, e89_5, e89_6, e89_9, e89_10, e89_11, e89_12, e89_15, gS_7 hS, rS_7 hS hn, max32 b7 ht]
  refine wS_7 hS hn (fun h1 hG1 hS1 => ?_)
  have v6 : (setN S 7 n (max (S.2.1 7 n) t)).2.1 6 n = S.2.1 6 n := by rw [sN_ne (by decide)]
  simp (disch := first | assumption | omega | exact am_isr_ref | exact am_isr_null | exact am_isr_rf | exact am_c1_int | exact am_c1_ref | exact am_c1_null | exact am_c1_rf | exact am_b0 | exact am_b1 | exact RM_obj (by assumption) | exact MS_obj (by assumption) | (simp only [ne_eq]; done) | exact am_nz2 | exact am_nz3 | exact am_nz6 | exact am_lt (hB _ _) | exact am_lt (stF_lt hB) | exact b32_01) only [e89_16, e89_17, e89_20, e89_21, e89_22, e89_23, e89_24, e89_25, gS_6 hS1, rS_6 hS1 hn, v6, pk_sub h6]
  refine wS_6 hS1 hn (fun h2 hG2 hS2 => ?_)
  have v62 : (setN (setN S 7 n (max (S.2.1 7 n) t)) 6 n (S.2.1 6 n - 1)).2.1 6 n = S.2.1 6 n - 1 := up2_eq
  simp (disch := first | assumption | omega | exact am_isr_ref | exact am_isr_null | exact am_isr_rf | exact am_c1_int | exact am_c1_ref | exact am_c1_null | exact am_c1_rf | exact am_b0 | exact am_b1 | exact RM_obj (by assumption) | exact MS_obj (by assumption) | (simp only [ne_eq]; done) | exact am_nz2 | exact am_nz3 | exact am_nz6 | exact am_lt (hB _ _) | exact am_lt (stF_lt hB) | exact b32_01) only [e89_26, e89_27, e89_30, e89_31, e89_32, gS_6 hS2, rS_6 hS2 hn, v62, nI_z, nle]
  unfold prdF at hQ
  by_cases hc : 1 < S.2.1 6 n
  · rw [if_neg (show ¬ S.2.1 6 n - 1 ≤ 0 by omega)]
    rw [if_pos hc] at hQ
    simp (disch := first | assumption | omega | exact am_isr_ref | exact am_isr_null | exact am_isr_rf | exact am_c1_int | exact am_c1_ref | exact am_c1_null | exact am_c1_rf | exact am_b0 | exact am_b1 | exact RM_obj (by assumption) | exact MS_obj (by assumption) | (simp only [ne_eq]; done) | exact am_nz2 | exact am_nz3 | exact am_nz6 | exact am_lt (hB _ _) | exact am_lt (stF_lt hB) | exact b32_01) only [e89_35]
    exact hQ h2 pl (hG1.tr hG2) hS2
  · rw [if_pos (show S.2.1 6 n - 1 ≤ 0 by omega)]
    rw [if_neg hc] at hQ
    simp (disch := first | assumption | omega | exact am_isr_ref | exact am_isr_null | exact am_isr_rf | exact am_c1_int | exact am_c1_ref | exact am_c1_null | exact am_c1_rf | exact am_b0 | exact am_b1 | exact RM_obj (by assumption) | exact MS_obj (by assumption) | (simp only [ne_eq]; done) | exact am_nz2 | exact am_nz3 | exact am_nz6 | exact am_lt (hB _ _) | exact am_lt (stF_lt hB) | exact b32_01) only [e89_36, e89_37, e89_40, e89_41, e89_42, gS_8 hS2]
    refine wS_8 hS2 hn (fun h3 hG3 hS3 => ?_)
    have v7 : (setN (setN (setN S 7 n (max (S.2.1 7 n) t)) 6 n (S.2.1 6 n - 1)) 8 n 1).2.1 7 n = max (S.2.1 7 n) t := by rw [sN_ne (by decide), sN_ne (by decide), sN_eq]
    simp (disch := first | assumption | omega | exact am_isr_ref | exact am_isr_null | exact am_isr_rf | exact am_c1_int | exact am_c1_ref | exact am_c1_null | exact am_c1_rf | exact am_b0 | exact am_b1 | exact RM_obj (by assumption) | exact MS_obj (by assumption) | (simp only [ne_eq]; done) | exact am_nz2 | exact am_nz3 | exact am_nz6 | exact am_lt (hB _ _) | exact am_lt (stF_lt hB) | exact b32_01) only [e89_43, e89_44, e89_47, e89_48, e89_49, e89_52, e89_53, e89_54, gS_9 hS3, gS_7 hS3, rS_7 hS3 hn, v7]
    refine wS_9 hS3 hn (fun h4 hG4 hS4 => ?_)
    have v1 : (setN (setN (setN (setN S 7 n (max (S.2.1 7 n) t)) 6 n (S.2.1 6 n - 1)) 8 n 1) 9 n (max (S.2.1 7 n) t)).2.1 1 n = S.2.1 1 n := by rw [sN_ne (by decide), sN_ne (by decide), sN_ne (by decide), sN_ne (by decide)]
    simp (disch := first | assumption | omega | exact am_isr_ref | exact am_isr_null | exact am_isr_rf | exact am_c1_int | exact am_c1_ref | exact am_c1_null | exact am_c1_rf | exact am_b0 | exact am_b1 | exact RM_obj (by assumption) | exact MS_obj (by assumption) | (simp only [ne_eq]; done) | exact am_nz2 | exact am_nz3 | exact am_nz6 | exact am_lt (hB _ _) | exact am_lt (stF_lt hB) | exact b32_01) only [e89_55, e89_56, e89_59, e89_60, e89_61, e89_63, e89_64, e89_67, e89_69, e89_70, gS_1 hS4, rS_1 hS4 hn, v1, gS_15 hS4]
    refine wS_15 hS4 h1c (fun h5 hG5 hS5 => ?_)
    have v9 : (setN (setN (setN (setN (setN S 7 n (max (S.2.1 7 n) t)) 6 n (S.2.1 6 n - 1)) 8 n 1) 9 n (max (S.2.1 7 n) t)) 15 (S.2.1 1 n) 0).2.1 9 n = max (S.2.1 7 n) t := by rw [sN_ne (by decide), sN_eq]
    simp (disch := first | assumption | omega | exact am_isr_ref | exact am_isr_null | exact am_isr_rf | exact am_c1_int | exact am_c1_ref | exact am_c1_null | exact am_c1_rf | exact am_b0 | exact am_b1 | exact RM_obj (by assumption) | exact MS_obj (by assumption) | (simp only [ne_eq]; done) | exact am_nz2 | exact am_nz3 | exact am_nz6 | exact am_lt (hB _ _) | exact am_lt (stF_lt hB) | exact b32_01) only [e89_71, e89_72, e89_75, e89_77, e89_78, e89_81, e89_82, e89_83, gS_16 hS5, gS_9 hS5, rS_9 hS5 hn, v9]
    refine wS_16 hS5 h1c (fun h6 hG6 hS6 => ?_)
    simp (disch := first | assumption | omega | exact am_isr_ref | exact am_isr_null | exact am_isr_rf | exact am_c1_int | exact am_c1_ref | exact am_c1_null | exact am_c1_rf | exact am_b0 | exact am_b1 | exact RM_obj (by assumption) | exact MS_obj (by assumption) | (simp only [ne_eq]; done) | exact am_nz2 | exact am_nz3 | exact am_nz6 | exact am_lt (hB _ _) | exact am_lt (stF_lt hB) | exact b32_01) only [e89_84, e89_85]
    have hB6 : am_BN (setN (setN (setN (setN (setN (setN S 7 n (max (S.2.1 7 n) t)) 6 n (S.2.1 6 n - 1)) 8 n 1) 9 n (max (S.2.1 7 n) t)) 15 (S.2.1 1 n) 0) 16 (S.2.1 1 n) (max (S.2.1 7 n) t)).2.1 := BN_up2 (BN_up2 (BN_up2 (BN_up2 (BN_up2 (BN_up2 hB hgt) (by omega)) (by decide)) hgt) (by decide)) hgt
    refine l89o hn h1c 8 0 _ h6 rfl hS6 hB6 (fun h7 hG7 hS7 => ?_)
    have hs7 := owF_same (c := S.2.1 1 n) (n := n) 8 0 (setN (setN (setN (setN (setN (setN S 7 n (max (S.2.1 7 n) t)) 6 n (S.2.1 6 n - 1)) 8 n 1) 9 n (max (S.2.1 7 n) t)) 15 (S.2.1 1 n) 0) 16 (S.2.1 1 n) (max (S.2.1 7 n) t))
    have hS7 : MMs g h7 m (toldF S n t) pl := hS7
    have e1 : (toldF S n t).1 = S.1 := hs7.1
    have e2 : am_BN (toldF S n t).2.1 := by show am_BN (owF _ _ _ _ _).2.1; rw [hs7.2.1]; exact hB6
    have e3 : (toldF S n t).2.2.2.2 = S.2.2.2.2 := hs7.2.2.2
    exact t89 hld hn hS7 e2 (by rw [e1]; exact hm) (by rw [e3]; exact hL) (fun h8 pl8 hG8 hS8 => hQ h8 pl8 (((((((hG1.tr hG2).tr hG3).tr hG4).tr hG5).tr hG6).tr hG7).tr hG8) hS8)
end ME
