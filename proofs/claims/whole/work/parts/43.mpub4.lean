/-! the model's calls: read, version -/
def rdB (N : Nat → Nat → Nat) (n : Nat) (b : Option Nat) : Bool := match b with
  | none => true
  | some x => nwB N n x
def rbF (S : aSt) (c k s : Nat) : Nat → Option Nat
  | 0 => S.2.2.2.1 (8 * c + k)
  | n + 1 => if (hvF S.2.1 s n k ∧ snF S.2.1 n c) ∧ rdB S.2.1 n (rbF S c k s n) = true then some n else rbF S c k s n
theorem am_n10 : ¬ nI 1 = 0 := by decide
section MV
variable {d : Nat} {g : Nat → Option aE} {h : aH} {m pl : Nat} {S : aSt} {Q : Option Value → aH → Prop}
theorem rbF_lt {c k s : Nat} (hW : WfO S) : ∀ n b, n ≤ 200 → rbF S c k s n = some b → b < 200 := by
  intro n
  induction n with
  | zero => intro b _ q; exact hW.2.2 _ _ q
  | succ n ih =>
    intro b hn q
    rw [rbF] at q
    split at q
    · cases q; omega
    · exact ih b (by omega) q
theorem l95 {c k s : Nat} (hc : c < 6) (hk : k < 8) (hs : s < 6) (hS : MMs g h m S pl) (hW : WfO S) (hm : S.1 ≤ 200) : ∀ t n, n + t = S.1 →
    am_R (d + 3) 95 143 [some (.ref m), some (.int (nI c)), some (.int (nI k)), some (.int (nI s)), some (.int (eO (rbF S c k s S.1))), some (.int (nI S.1))] [] h Q →
    am_R (d + 3) 95 86 [some (.ref m), some (.int (nI c)), some (.int (nI k)), some (.int (nI s)), some (.int (eO (rbF S c k s n))), some (.int (nI n))] [] h Q := by
  intro t
  induction t with
  | zero =>
    intro n hn hQ
    obtain rfl : n = S.1 := by omega
    rw [e95_86]
    simp (disch := first | assumption | omega | exact am_isr_ref | exact am_isr_null | exact am_isr_rf | exact am_c1_int | exact am_c1_ref | exact am_c1_null | exact am_c1_rf | exact am_b0 | exact am_b1 | exact RM_obj (by assumption) | exact MS_obj (by assumption) | (simp only [ne_eq]; done) | exact am_nz2 | exact am_nz3 | exact am_nz6 | exact am_lt (hB _ _) | exact am_lt (stF_lt hB) | exact b32_01) only [e95_88, e95_89, e95_92, gS_0 hS, nle, if_true, Nat.le_refl]
    exact hQ
  | succ t ih =>
    intro n hn hQ
    have hB := hW.1
    have hn2 : n < 200 := by omega
    have ih := ih (n + 1) (by omega) hQ
    rw [rbF] at ih
    rw [e95_86]
    simp (disch := first | assumption | omega | exact am_isr_ref | exact am_isr_null | exact am_isr_rf | exact am_c1_int | exact am_c1_ref | exact am_c1_null | exact am_c1_rf | exact am_b0 | exact am_b1 | exact RM_obj (by assumption) | exact MS_obj (by assumption) | (simp only [ne_eq]; done) | exact am_nz2 | exact am_nz3 | exact am_nz6 | exact am_lt (hB _ _) | exact am_lt (stF_lt hB) | exact b32_01) only [e95_88, e95_89, e95_92, e95_95, e95_96, e95_97, e95_99, e95_100, e95_103, gS_0 hS, nle, if_neg (show ¬ S.1 ≤ n by omega), s83 hS hB hs hn2 hk, Option.toList_some, List.cons_append, List.nil_append, b32_q0]
    by_cases h1 : hvF S.2.1 s n k
    · rw [if_neg (fun q => q h1)]
      simp (disch := first | assumption | omega | exact am_isr_ref | exact am_isr_null | exact am_isr_rf | exact am_c1_int | exact am_c1_ref | exact am_c1_null | exact am_c1_rf | exact am_b0 | exact am_b1 | exact RM_obj (by assumption) | exact MS_obj (by assumption) | (simp only [ne_eq]; done) | exact am_nz2 | exact am_nz3 | exact am_nz6 | exact am_lt (hB _ _) | exact am_lt (stF_lt hB) | exact b32_01) only [e95_106, e95_107, e95_109, e95_110, e95_113, s81 hS hB hn2 hc (hW.2.1 n), Option.toList_some, List.cons_append, List.nil_append, b32_q0]
      by_cases h2 : snF S.2.1 n c
      · rw [if_neg (fun q => q h2)]
        cases hb : rbF S c k s n with
        | none =>
          rw [hb, if_pos ⟨⟨h1, h2⟩, rfl⟩] at ih
          simp (disch := first | assumption | omega | exact am_isr_ref | exact am_isr_null | exact am_isr_rf | exact am_c1_int | exact am_c1_ref | exact am_c1_null | exact am_c1_rf | exact am_b0 | exact am_b1 | exact RM_obj (by assumption) | exact MS_obj (by assumption) | (simp only [ne_eq]; done) | exact am_nz2 | exact am_nz3 | exact am_nz6 | exact am_lt (hB _ _) | exact am_lt (stF_lt hB) | exact b32_01) only [e95_116, e95_118, e95_119, eO, if_true, e95_133, e95_135, e95_137, e95_140, nI_add]
          exact ih
        | some b =>
          have hb2 := rbF_lt hW n b (by omega) hb
          rw [hb] at ih
          rw [show eO (some b) = nI b from rfl]
          simp (disch := first | assumption | omega | exact am_isr_ref | exact am_isr_null | exact am_isr_rf | exact am_c1_int | exact am_c1_ref | exact am_c1_null | exact am_c1_rf | exact am_b0 | exact am_b1 | exact RM_obj (by assumption) | exact MS_obj (by assumption) | (simp only [ne_eq]; done) | exact am_nz2 | exact am_nz3 | exact am_nz6 | exact am_lt (hB _ _) | exact am_lt (stF_lt hB) | exact b32_01) only [e95_116, e95_118, e95_119, e95_122, e95_123, e95_125, e95_127, e95_130, if_neg (eO_m1 (show b < 2 ^ 31 by omega)), s82 hS hB hn2 hb2, Option.toList_some, List.cons_append, List.nil_append, b32_q0]
          by_cases h3 : nwB S.2.1 n b = true
          · rw [if_neg (fun q => q h3)]
            rw [if_pos ⟨⟨h1, h2⟩, h3⟩] at ih
            simp (disch := first | assumption | omega | exact am_isr_ref | exact am_isr_null | exact am_isr_rf | exact am_c1_int | exact am_c1_ref | exact am_c1_null | exact am_c1_rf | exact am_b0 | exact am_b1 | exact RM_obj (by assumption) | exact MS_obj (by assumption) | (simp only [ne_eq]; done) | exact am_nz2 | exact am_nz3 | exact am_nz6 | exact am_lt (hB _ _) | exact am_lt (stF_lt hB) | exact b32_01) only [e95_133, e95_135, e95_137, e95_140, nI_add]
            exact ih
          · rw [if_pos h3]
            rw [if_neg (fun q => h3 q.2)] at ih
            simp (disch := first | assumption | omega | exact am_isr_ref | exact am_isr_null | exact am_isr_rf | exact am_c1_int | exact am_c1_ref | exact am_c1_null | exact am_c1_rf | exact am_b0 | exact am_b1 | exact RM_obj (by assumption) | exact MS_obj (by assumption) | (simp only [ne_eq]; done) | exact am_nz2 | exact am_nz3 | exact am_nz6 | exact am_lt (hB _ _) | exact am_lt (stF_lt hB) | exact b32_01) only [e95_137, e95_140, nI_add]
            exact ih
      · rw [if_pos h2]
        rw [if_neg (fun q => h2 q.1.2)] at ih
        simp (disch := first | assumption | omega | exact am_isr_ref | exact am_isr_null | exact am_isr_rf | exact am_c1_int | exact am_c1_ref | exact am_c1_null | exact am_c1_rf | exact am_b0 | exact am_b1 | exact RM_obj (by assumption) | exact MS_obj (by assumption) | (simp only [ne_eq]; done) | exact am_nz2 | exact am_nz3 | exact am_nz6 | exact am_lt (hB _ _) | exact am_lt (stF_lt hB) | exact b32_01) only [e95_137, e95_140, nI_add]
        exact ih
    · rw [if_pos h1]
      rw [if_neg (fun q => h1 q.1.1)] at ih
      simp (disch := first | assumption | omega | exact am_isr_ref | exact am_isr_null | exact am_isr_rf | exact am_c1_int | exact am_c1_ref | exact am_c1_null | exact am_c1_rf | exact am_b0 | exact am_b1 | exact RM_obj (by assumption) | exact MS_obj (by assumption) | (simp only [ne_eq]; done) | exact am_nz2 | exact am_nz3 | exact am_nz6 | exact am_lt (hB _ _) | exact am_lt (stF_lt hB) | exact b32_01) only [e95_137, e95_140, nI_add]
      exact ih
/-- what a read finds -/
def rdR (S : aSt) (c k : Nat) : Option Nat := rbF S c k (2 * (c % 3) + k % 2) S.1
def rdV (S : aSt) (k : Nat) (b : Option Nat) : Int32 := match b with
  | none => nI 0
  | some n => S.2.2.1 5 (8 * n + k)
def rdA (b : Option Nat) : Int32 := match b with
  | none => -3
  | some n => nI n
def readF (S : aSt) (c k : Nat) : aSt := if wF (S.2.1 19 c) k then setV S 21 c (S.2.2.1 20 (8 * c + k)) else setV S 21 c (rdV S k (rdR S c k))
def readA (S : aSt) (c k : Nat) : Int32 := if wF (S.2.1 19 c) k then -2 else rdA (rdR S c k)
theorem c95 {c k : Nat} (hc : c < 6) (hk : k < 8) (hS : MMs g h m S pl) (hW : WfO S) (hm : S.1 ≤ 200)
    (hQ : ∀ h1 : aH, GR h pl h1 pl → MMs g h1 m (if S.2.1 15 c = 1 then readF S c k else S) pl → Q (some (.int (if S.2.1 15 c = 1 then readA S c k else -1))) h1) : am_R (d + 3) 95 0 [some (.ref m), some (.int (nI c)), some (.int (nI k)), none, none, none] [] h Q := by
  have hB := hW.1
  have b15 := hB 15 c
  have hbit : S.2.1 19 c / 2 ^ k % 2 < 2 := Nat.mod_lt _ (by decide)
  simp (disch := first | assumption | omega | exact am_isr_ref | exact am_isr_null | exact am_isr_rf | exact am_c1_int | exact am_c1_ref | exact am_c1_null | exact am_c1_rf | exact am_b0 | exact am_b1 | exact RM_obj (by assumption) | exact MS_obj (by assumption) | (simp only [ne_eq]; done) | exact am_nz2 | exact am_nz3 | exact am_nz6 | exact am_lt (hB _ _) | exact am_lt (stF_lt hB) | exact b32_01) only [e95_0, e95_1, e95_4, e95_7, e95_8, e95_11, e95_14, e95_15, e95_18, e95_19, e95_20, e95_21, c72t hc, c74t hk, Option.toList_some, List.cons_append, List.nil_append, gS_15 hS, rS_15 hS hc, nI_z, nq, if_false, Nat.one_ne_zero]
  by_cases h1 : S.2.1 15 c = 1
  · rw [if_pos h1]
    rw [if_pos h1, if_pos h1] at hQ
    simp (disch := first | assumption | omega | exact am_isr_ref | exact am_isr_null | exact am_isr_rf | exact am_c1_int | exact am_c1_ref | exact am_c1_null | exact am_c1_rf | exact am_b0 | exact am_b1 | exact RM_obj (by assumption) | exact MS_obj (by assumption) | (simp only [ne_eq]; done) | exact am_nz2 | exact am_nz3 | exact am_nz6 | exact am_lt (hB _ _) | exact am_lt (stF_lt hB) | exact b32_01) only [e95_26, e95_27, e95_30, e95_31, e95_32, e95_33, e95_34, e95_35, e95_36, e95_37, gS_19 hS, rS_19 hS hc, bit_val (hB 19 c) hk, nq]
    unfold readF readA at hQ
    by_cases h2 : wF (S.2.1 19 c) k
    · rw [if_neg (fun q => q h2)]
      rw [if_pos h2, if_pos h2] at hQ
      simp (disch := first | assumption | omega | exact am_isr_ref | exact am_isr_null | exact am_isr_rf | exact am_c1_int | exact am_c1_ref | exact am_c1_null | exact am_c1_rf | exact am_b0 | exact am_b1 | exact RM_obj (by assumption) | exact MS_obj (by assumption) | (simp only [ne_eq]; done) | exact am_nz2 | exact am_nz3 | exact am_nz6 | exact am_lt (hB _ _) | exact am_lt (stF_lt hB) | exact b32_01) only [e95_40, e95_41, e95_44, e95_45, e95_46, e95_49, e95_51, e95_52, e95_53, e95_54, e95_55, e95_56, gS_21 hS, gS_20 hS, nI_add, pk_mul, rS_20 hS (show 8 * c + k < 48 by omega)]
      refine wS_21 hS hc (fun h3 hG hS3 => ?_)
      simp (disch := first | assumption | omega | exact am_isr_ref | exact am_isr_null | exact am_isr_rf | exact am_c1_int | exact am_c1_ref | exact am_c1_null | exact am_c1_rf | exact am_b0 | exact am_b1 | exact RM_obj (by assumption) | exact MS_obj (by assumption) | (simp only [ne_eq]; done) | exact am_nz2 | exact am_nz3 | exact am_nz6 | exact am_lt (hB _ _) | exact am_lt (stF_lt hB) | exact b32_01) only [e95_57, e95_59]
      exact hQ h3 hG hS3
    · rw [if_pos h2]
      rw [if_neg h2, if_neg h2] at hQ
      simp (disch := first | assumption | omega | exact am_isr_ref | exact am_isr_null | exact am_isr_rf | exact am_c1_int | exact am_c1_ref | exact am_c1_null | exact am_c1_rf | exact am_b0 | exact am_b1 | exact RM_obj (by assumption) | exact MS_obj (by assumption) | (simp only [ne_eq]; done) | exact am_nz2 | exact am_nz3 | exact am_nz6 | exact am_lt (hB _ _) | exact am_lt (stF_lt hB) | exact b32_01) only [e95_60, e95_61, e95_62, e95_63, e95_64, e95_65, e95_66, e95_67, e95_68, e95_69, e95_70, e95_71, e95_74, e95_76, e95_77, e95_78, e95_79, e95_80, e95_81, e95_83, e95_84, pk_rem (a := c) (d := 3) (by omega) (by decide) (by decide), pk_rem (a := k) (d := 2) (by omega) (by decide) (by decide), gS_18 hS, nI_add, pk_mul, rS_18 hS (show 8 * c + k < 48 by omega)]
      refine l95 (s := 2 * (c % 3) + k % 2) hc hk (by omega) hS hW hm S.1 0 (by omega) ?_
      have hb : rbF S c k (2 * (c % 3) + k % 2) S.1 = rdR S c k := rfl
      rw [hb]
      cases hr : rdR S c k with
      | none =>
        rw [hr] at hQ
        simp (disch := first | assumption | omega | exact am_isr_ref | exact am_isr_null | exact am_isr_rf | exact am_c1_int | exact am_c1_ref | exact am_c1_null | exact am_c1_rf | exact am_b0 | exact am_b1 | exact RM_obj (by assumption) | exact MS_obj (by assumption) | (simp only [ne_eq]; done) | exact am_nz2 | exact am_nz3 | exact am_nz6 | exact am_lt (hB _ _) | exact am_lt (stF_lt hB) | exact b32_01) only [e95_143, e95_144, e95_147, e95_148, e95_150, e95_151, e95_154, e95_155, gS_21 hS, eO, not_true_eq_false, if_false, e95_170]
        refine wS_21 hS hc (fun h3 hG hS3 => ?_)
        simp (disch := first | assumption | omega | exact am_isr_ref | exact am_isr_null | exact am_isr_rf | exact am_c1_int | exact am_c1_ref | exact am_c1_null | exact am_c1_rf | exact am_b0 | exact am_b1 | exact RM_obj (by assumption) | exact MS_obj (by assumption) | (simp only [ne_eq]; done) | exact am_nz2 | exact am_nz3 | exact am_nz6 | exact am_lt (hB _ _) | exact am_lt (stF_lt hB) | exact b32_01) only [e95_171, e95_173, e95_174, e95_177, e95_179, not_true_eq_false, if_false, e95_184]
        exact hQ h3 hG hS3
      | some b =>
        rw [hr] at hQ
        have hb2 := rbF_lt hW _ b hm (hb.trans hr)
        rw [show eO (some b) = nI b from rfl]
        simp (disch := first | assumption | omega | exact am_isr_ref | exact am_isr_null | exact am_isr_rf | exact am_c1_int | exact am_c1_ref | exact am_c1_null | exact am_c1_rf | exact am_b0 | exact am_b1 | exact RM_obj (by assumption) | exact MS_obj (by assumption) | (simp only [ne_eq]; done) | exact am_nz2 | exact am_nz3 | exact am_nz6 | exact am_lt (hB _ _) | exact am_lt (stF_lt hB) | exact b32_01) only [e95_143, e95_144, e95_147, e95_148, e95_150, e95_151, e95_154, e95_155, e95_158, e95_159, e95_162, e95_164, e95_166, e95_167, e95_168, e95_169, gS_21 hS, if_pos (eO_m1 (show b < 2 ^ 31 by omega)), gS_5 hS, nI_add, pk_mul, rS_5 hS (show 8 * b + k < 1600 by omega), e95_170]
        refine wS_21 hS hc (fun h3 hG hS3 => ?_)
        simp (disch := first | assumption | omega | exact am_isr_ref | exact am_isr_null | exact am_isr_rf | exact am_c1_int | exact am_c1_ref | exact am_c1_null | exact am_c1_rf | exact am_b0 | exact am_b1 | exact RM_obj (by assumption) | exact MS_obj (by assumption) | (simp only [ne_eq]; done) | exact am_nz2 | exact am_nz3 | exact am_nz6 | exact am_lt (hB _ _) | exact am_lt (stF_lt hB) | exact b32_01) only [e95_171, e95_173, e95_174, e95_177, e95_179, e95_182, e95_184, if_pos (eO_m1 (show b < 2 ^ 31 by omega))]
        exact hQ h3 hG hS3
  · rw [if_neg h1]
    rw [if_neg h1, if_neg h1] at hQ
    simp (disch := first | assumption | omega | exact am_isr_ref | exact am_isr_null | exact am_isr_rf | exact am_c1_int | exact am_c1_ref | exact am_c1_null | exact am_c1_rf | exact am_b0 | exact am_b1 | exact RM_obj (by assumption) | exact MS_obj (by assumption) | (simp only [ne_eq]; done) | exact am_nz2 | exact am_nz3 | exact am_nz6 | exact am_lt (hB _ _) | exact am_lt (stF_lt hB) | exact b32_01) only [e95_24, e95_25]
    exact hQ h GR.rf hS
theorem c95f {c k : Int32} (hc : (c < 0 ∨ nI 6 ≤ c) ∨ (k < 0 ∨ nI 8 ≤ k)) (hQ : Q (some (.int (-1))) h) : am_R (d + 3) 95 0 [some (.ref m), some (.int c), some (.int k), none, none, none] [] h Q := by
  by_cases h1 : c < 0 ∨ nI 6 ≤ c
  · simp (disch := first | assumption | omega | exact am_isr_ref | exact am_isr_null | exact am_isr_rf | exact am_c1_int | exact am_c1_ref | exact am_c1_null | exact am_c1_rf | exact am_b0 | exact am_b1 | exact RM_obj (by assumption) | exact MS_obj (by assumption) | (simp only [ne_eq]; done) | exact am_nz2 | exact am_nz3 | exact am_nz6 | exact am_lt (hB _ _) | exact am_lt (stF_lt hB) | exact b32_01) only [e95_0, e95_1, e95_4, e95_24, e95_25, c72f h1, Option.toList_some, List.cons_append, List.nil_append, nI_z, if_true]
    exact hQ
  · obtain ⟨j, hj, rfl⟩ := ix_of (by decide) h1
    simp (disch := first | assumption | omega | exact am_isr_ref | exact am_isr_null | exact am_isr_rf | exact am_c1_int | exact am_c1_ref | exact am_c1_null | exact am_c1_rf | exact am_b0 | exact am_b1 | exact RM_obj (by assumption) | exact MS_obj (by assumption) | (simp only [ne_eq]; done) | exact am_nz2 | exact am_nz3 | exact am_nz6 | exact am_lt (hB _ _) | exact am_lt (stF_lt hB) | exact b32_01) only [e95_0, e95_1, e95_4, e95_7, e95_8, e95_11, e95_24, e95_25, c72t hj, c74f (hc.resolve_left h1), Option.toList_some, List.cons_append, List.nil_append, nI_z, nq, if_true, if_false, Nat.one_ne_zero]
    exact hQ
/-- version -/
def nvB (N : Nat → Nat → Nat) (s k n : Nat) : Nat → Bool := fun j => decide (hvF N s j k) && nwB N j n
theorem l108i {s k n : Nat} {i : Int32} (hs : s < 6) (hk : k < 8) (hn : n < 200) (hS : MMs g h m S pl) (hB : am_BN S.2.1) (hm : S.1 ≤ 200) : ∀ t j, j + t = S.1 →
    am_R (d + 2) 108 56 [some (.ref m), some (.int (nI s)), some (.int (nI k)), some (.int i), some (.int (nI n)), some (.int (nI (cntF (nvB S.2.1 s k n) j))), some (.int (nI j))] [] h Q = am_R (d + 2) 108 96 [some (.ref m), some (.int (nI s)), some (.int (nI k)), some (.int i), some (.int (nI n)), some (.int (nI (cntF (nvB S.2.1 s k n) S.1))), some (.int (nI S.1))] [] h Q := by
  intro t
  induction t with
  | zero =>
    intro j hj
    obtain rfl : j = S.1 := by omega
    rw [e108_56]
    simp (disch := first | assumption | omega | exact am_isr_ref | exact am_isr_null | exact am_isr_rf | exact am_c1_int | exact am_c1_ref | exact am_c1_null | exact am_c1_rf | exact am_b0 | exact am_b1 | exact RM_obj (by assumption) | exact MS_obj (by assumption) | (simp only [ne_eq]; done) | exact am_nz2 | exact am_nz3 | exact am_nz6 | exact am_lt (hB _ _) | exact am_lt (stF_lt hB) | exact b32_01) only [e108_58, e108_59, e108_62, gS_0 hS, nle, if_true, Nat.le_refl]
  | succ t ih =>
    intro j hj
    have ih := ih (j + 1) (by omega)
    rw [cntF] at ih
    rw [e108_56]
    simp (disch := first | assumption | omega | exact am_isr_ref | exact am_isr_null | exact am_isr_rf | exact am_c1_int | exact am_c1_ref | exact am_c1_null | exact am_c1_rf | exact am_b0 | exact am_b1 | exact RM_obj (by assumption) | exact MS_obj (by assumption) | (simp only [ne_eq]; done) | exact am_nz2 | exact am_nz3 | exact am_nz6 | exact am_lt (hB _ _) | exact am_lt (stF_lt hB) | exact b32_01) only [e108_58, e108_59, e108_62, e108_65, e108_66, e108_67, e108_69, e108_70, e108_73, gS_0 hS, nle, if_neg (show ¬ S.1 ≤ j by omega), s83 hS hB hs (show j < 200 by omega) hk, Option.toList_some, List.cons_append, List.nil_append, b32_q0]
    by_cases h1 : hvF S.2.1 s j k
    · rw [if_neg (fun q => q h1)]
      simp (disch := first | assumption | omega | exact am_isr_ref | exact am_isr_null | exact am_isr_rf | exact am_c1_int | exact am_c1_ref | exact am_c1_null | exact am_c1_rf | exact am_b0 | exact am_b1 | exact RM_obj (by assumption) | exact MS_obj (by assumption) | (simp only [ne_eq]; done) | exact am_nz2 | exact am_nz3 | exact am_nz6 | exact am_lt (hB _ _) | exact am_lt (stF_lt hB) | exact b32_01) only [e108_76, e108_77, e108_79, e108_81, e108_84, s82 hS hB (show j < 200 by omega) hn, Option.toList_some, List.cons_append, List.nil_append, b32_q0]
      by_cases h2 : nwB S.2.1 j n = true
      · have hb : nvB S.2.1 s k n j = true := by unfold nvB; rw [decide_eq_true h1, h2]; rfl
        rw [if_neg (fun q => q h2)]
        rw [hb, if_pos rfl] at ih
        simp (disch := first | assumption | omega | exact am_isr_ref | exact am_isr_null | exact am_isr_rf | exact am_c1_int | exact am_c1_ref | exact am_c1_null | exact am_c1_rf | exact am_b0 | exact am_b1 | exact RM_obj (by assumption) | exact MS_obj (by assumption) | (simp only [ne_eq]; done) | exact am_nz2 | exact am_nz3 | exact am_nz6 | exact am_lt (hB _ _) | exact am_lt (stF_lt hB) | exact b32_01) only [e108_87, e108_90, e108_93, nI_add]
        exact ih
      · have hb : nvB S.2.1 s k n j = false := by
          have h3 : nwB S.2.1 j n = false := by simpa using h2
          unfold nvB; rw [decide_eq_true h1, h3]; rfl
        rw [if_pos h2]
        rw [hb, if_neg Bool.false_ne_true] at ih
        simp (disch := first | assumption | omega | exact am_isr_ref | exact am_isr_null | exact am_isr_rf | exact am_c1_int | exact am_c1_ref | exact am_c1_null | exact am_c1_rf | exact am_b0 | exact am_b1 | exact RM_obj (by assumption) | exact MS_obj (by assumption) | (simp only [ne_eq]; done) | exact am_nz2 | exact am_nz3 | exact am_nz6 | exact am_lt (hB _ _) | exact am_lt (stF_lt hB) | exact b32_01) only [e108_90, e108_93, nI_add]
        exact ih
    · have hb : nvB S.2.1 s k n j = false := by unfold nvB; rw [decide_eq_false h1]; rfl
      rw [if_pos h1]
      rw [hb, if_neg Bool.false_ne_true] at ih
      simp (disch := first | assumption | omega | exact am_isr_ref | exact am_isr_null | exact am_isr_rf | exact am_c1_int | exact am_c1_ref | exact am_c1_null | exact am_c1_rf | exact am_b0 | exact am_b1 | exact RM_obj (by assumption) | exact MS_obj (by assumption) | (simp only [ne_eq]; done) | exact am_nz2 | exact am_nz3 | exact am_nz6 | exact am_lt (hB _ _) | exact am_lt (stF_lt hB) | exact b32_01) only [e108_90, e108_93, nI_add]
      exact ih
def vrF (S : aSt) (s k : Nat) (i : Int32) : Nat → Nat → Option Nat
  | 0, _ => none
  | t + 1, n => if hvF S.2.1 s n k ∧ nI (cntF (nvB S.2.1 s k n) S.1) = i then some n else vrF S s k i t (n + 1)
theorem l108 {s k : Nat} {i : Int32} (hs : s < 6) (hk : k < 8) (hS : MMs g h m S pl) (hB : am_BN S.2.1) (hm : S.1 ≤ 200) : ∀ (t n : Nat) (l5 l6 : Option Value), n + t = S.1 →
    am_R (d + 2) 108 27 [some (.ref m), some (.int (nI s)), some (.int (nI k)), some (.int i), some (.int (nI n)), l5, l6] [] h Q = Q (some (.int (eO (vrF S s k i t n)))) h := by
  intro t
  induction t with
  | zero =>
    intro n l5 l6 hn
    obtain rfl : n = S.1 := by omega
    rw [e108_27]
    simp (disch := first | assumption | omega | exact am_isr_ref | exact am_isr_null | exact am_isr_rf | exact am_c1_int | exact am_c1_ref | exact am_c1_null | exact am_c1_rf | exact am_b0 | exact am_b1 | exact RM_obj (by assumption) | exact MS_obj (by assumption) | (simp only [ne_eq]; done) | exact am_nz2 | exact am_nz3 | exact am_nz6 | exact am_lt (hB _ _) | exact am_lt (stF_lt hB) | exact b32_01) only [e108_29, e108_30, e108_33, gS_0 hS, nle, if_true, Nat.le_refl, e108_111, e108_112, vrF, eO]
  | succ t ih =>
    intro n l5 l6 hn
    rw [e108_27, vrF]
    simp (disch := first | assumption | omega | exact am_isr_ref | exact am_isr_null | exact am_isr_rf | exact am_c1_int | exact am_c1_ref | exact am_c1_null | exact am_c1_rf | exact am_b0 | exact am_b1 | exact RM_obj (by assumption) | exact MS_obj (by assumption) | (simp only [ne_eq]; done) | exact am_nz2 | exact am_nz3 | exact am_nz6 | exact am_lt (hB _ _) | exact am_lt (stF_lt hB) | exact b32_01) only [e108_29, e108_30, e108_33, e108_36, e108_37, e108_38, e108_40, e108_41, e108_44, gS_0 hS, nle, if_neg (show ¬ S.1 ≤ n by omega), s83 hS hB hs (show n < 200 by omega) hk, Option.toList_some, List.cons_append, List.nil_append, b32_q0]
    by_cases h1 : hvF S.2.1 s n k
    · rw [if_pos (fun q => q h1)]
      simp (disch := first | assumption | omega | exact am_isr_ref | exact am_isr_null | exact am_isr_rf | exact am_c1_int | exact am_c1_ref | exact am_c1_null | exact am_c1_rf | exact am_b0 | exact am_b1 | exact RM_obj (by assumption) | exact MS_obj (by assumption) | (simp only [ne_eq]; done) | exact am_nz2 | exact am_nz3 | exact am_nz6 | exact am_lt (hB _ _) | exact am_lt (stF_lt hB) | exact b32_01) only [e108_50, e108_51, e108_53, e108_54]
      refine (l108i (n := n) (i := i) hs hk (by omega) hS hB hm S.1 0 (by omega)).trans ?_
      simp (disch := first | assumption | omega | exact am_isr_ref | exact am_isr_null | exact am_isr_rf | exact am_c1_int | exact am_c1_ref | exact am_c1_null | exact am_c1_rf | exact am_b0 | exact am_b1 | exact RM_obj (by assumption) | exact MS_obj (by assumption) | (simp only [ne_eq]; done) | exact am_nz2 | exact am_nz3 | exact am_nz6 | exact am_lt (hB _ _) | exact am_lt (stF_lt hB) | exact b32_01) only [e108_96, e108_98, e108_99]
      by_cases h2 : nI (cntF (nvB S.2.1 s k n) S.1) = i
      · rw [if_neg (fun q => q h2), if_pos ⟨h1, h2⟩]
        simp (disch := first | assumption | omega | exact am_isr_ref | exact am_isr_null | exact am_isr_rf | exact am_c1_int | exact am_c1_ref | exact am_c1_null | exact am_c1_rf | exact am_b0 | exact am_b1 | exact RM_obj (by assumption) | exact MS_obj (by assumption) | (simp only [ne_eq]; done) | exact am_nz2 | exact am_nz3 | exact am_nz6 | exact am_lt (hB _ _) | exact am_lt (stF_lt hB) | exact b32_01) only [e108_102, e108_104, eO]
      · rw [if_pos h2, if_neg (fun q => h2 q.2)]
        simp (disch := first | assumption | omega | exact am_isr_ref | exact am_isr_null | exact am_isr_rf | exact am_c1_int | exact am_c1_ref | exact am_c1_null | exact am_c1_rf | exact am_b0 | exact am_b1 | exact RM_obj (by assumption) | exact MS_obj (by assumption) | (simp only [ne_eq]; done) | exact am_nz2 | exact am_nz3 | exact am_nz6 | exact am_lt (hB _ _) | exact am_lt (stF_lt hB) | exact b32_01) only [e108_105, e108_108, nI_add]
        exact ih (n + 1) _ _ (by omega)
    · rw [if_neg (fun q => q h1), if_neg (fun q => h1 q.1)]
      simp (disch := first | assumption | omega | exact am_isr_ref | exact am_isr_null | exact am_isr_rf | exact am_c1_int | exact am_c1_ref | exact am_c1_null | exact am_c1_rf | exact am_b0 | exact am_b1 | exact RM_obj (by assumption) | exact MS_obj (by assumption) | (simp only [ne_eq]; done) | exact am_nz2 | exact am_nz3 | exact am_nz6 | exact am_lt (hB _ _) | exact am_lt (stF_lt hB) | exact b32_01) only [e108_47, e108_105, e108_108, nI_add]
      exact ih (n + 1) _ _ (by omega)
theorem c108 {s k : Nat} {i : Int32} (hs : s < 6) (hk : k < 8) (hS : MMs g h m S pl) (hB : am_BN S.2.1) (hm : S.1 ≤ 200) (hQ : Q (some (.int (if k % 2 = s % 2 then eO (vrF S s k i S.1 0) else -1))) h) : am_R (d + 2) 108 0 [some (.ref m), some (.int (nI s)), some (.int (nI k)), some (.int i), none, none, none] [] h Q := by
  simp (disch := first | assumption | omega | exact am_isr_ref | exact am_isr_null | exact am_isr_rf | exact am_c1_int | exact am_c1_ref | exact am_c1_null | exact am_c1_rf | exact am_b0 | exact am_b1 | exact RM_obj (by assumption) | exact MS_obj (by assumption) | (simp only [ne_eq]; done) | exact am_nz2 | exact am_nz3 | exact am_nz6 | exact am_lt (hB _ _) | exact am_lt (stF_lt hB) | exact b32_01) only [e108_0, e108_1, e108_4, e108_7, e108_8, e108_11, e108_14, e108_15, e108_16, e108_19, c73t hs, c74t hk, c76 hs hk, Option.toList_some, List.cons_append, List.nil_append, if_neg am_n10, b32_q0]
  by_cases h1 : k % 2 = s % 2
  · rw [if_pos h1] at hQ
    rw [if_pos (fun q => q h1)]
    simp (disch := first | assumption | omega | exact am_isr_ref | exact am_isr_null | exact am_isr_rf | exact am_c1_int | exact am_c1_ref | exact am_c1_null | exact am_c1_rf | exact am_b0 | exact am_b1 | exact RM_obj (by assumption) | exact MS_obj (by assumption) | (simp only [ne_eq]; done) | exact am_nz2 | exact am_nz3 | exact am_nz6 | exact am_lt (hB _ _) | exact am_lt (stF_lt hB) | exact b32_01) only [e108_24, e108_25]
    rw [l108 (i := i) hs hk hS hB hm S.1 0 none none (by omega)]
    exact hQ
  · rw [if_neg h1] at hQ
    rw [if_neg (fun q => q h1)]
    simp (disch := first | assumption | omega | exact am_isr_ref | exact am_isr_null | exact am_isr_rf | exact am_c1_int | exact am_c1_ref | exact am_c1_null | exact am_c1_rf | exact am_b0 | exact am_b1 | exact RM_obj (by assumption) | exact MS_obj (by assumption) | (simp only [ne_eq]; done) | exact am_nz2 | exact am_nz3 | exact am_nz6 | exact am_lt (hB _ _) | exact am_lt (stF_lt hB) | exact b32_01) only [e108_22, e108_23]
    exact hQ
theorem c108f {s k i : Int32} (hc : (s < 0 ∨ nI 6 ≤ s) ∨ (k < 0 ∨ nI 8 ≤ k)) (hQ : Q (some (.int (-1))) h) : am_R (d + 2) 108 0 [some (.ref m), some (.int s), some (.int k), some (.int i), none, none, none] [] h Q := by
  by_cases h1 : s < 0 ∨ nI 6 ≤ s
  · simp (disch := first | assumption | omega | exact am_isr_ref | exact am_isr_null | exact am_isr_rf | exact am_c1_int | exact am_c1_ref | exact am_c1_null | exact am_c1_rf | exact am_b0 | exact am_b1 | exact RM_obj (by assumption) | exact MS_obj (by assumption) | (simp only [ne_eq]; done) | exact am_nz2 | exact am_nz3 | exact am_nz6 | exact am_lt (hB _ _) | exact am_lt (stF_lt hB) | exact b32_01) only [e108_0, e108_1, e108_4, e108_22, e108_23, c73f h1, Option.toList_some, List.cons_append, List.nil_append, nI_z, if_true]
    exact hQ
  · obtain ⟨j, hj, rfl⟩ := ix_of (by decide) h1
    simp (disch := first | assumption | omega | exact am_isr_ref | exact am_isr_null | exact am_isr_rf | exact am_c1_int | exact am_c1_ref | exact am_c1_null | exact am_c1_rf | exact am_b0 | exact am_b1 | exact RM_obj (by assumption) | exact MS_obj (by assumption) | (simp only [ne_eq]; done) | exact am_nz2 | exact am_nz3 | exact am_nz6 | exact am_lt (hB _ _) | exact am_lt (stF_lt hB) | exact b32_01) only [e108_0, e108_1, e108_4, e108_7, e108_8, e108_11, e108_22, e108_23, c73t hj, c74f (hc.resolve_left h1), Option.toList_some, List.cons_append, List.nil_append, nI_z, nq, if_true, if_false, Nat.one_ne_zero]
    exact hQ
end MV
