/-! the model's calls: link, deliver -/
def foL (f t : Nat) : List aMsg → Nat → Option Nat
  | [], _ => none
  | q :: r, j => if q.1 = f ∧ q.2.1 = t then some j else foL f t r (j + 1)
def WfL (L : List aMsg) : Prop := ∀ q ∈ L, q.1 < 6 ∧ q.2.1 < 6
abbrev lkB (f t : Nat) (q : aMsg) : Bool := decide (q.1 = f ∧ q.2.1 = t)
def cmF (L : List aMsg) (f t : Nat) : Nat := cntF (fun j => match L[j]? with
  | some q => lkB f t q
  | none => false) L.length
theorem foL_some {f t : Nat} : ∀ (L : List aMsg) (j k : Nat), foL f t L j = some k → j ≤ k ∧ ∃ q, L[k - j]? = some q ∧ q.1 = f ∧ q.2.1 = t := by
  intro L
  induction L with
  | nil => intro j k q; cases q
  | cons a r ih =>
    intro j k q
    rw [foL] at q
    split at q
    · rename_i hc
      cases q
      exact ⟨Nat.le_refl _, a, by rw [Nat.sub_self]; rfl, hc⟩
    · obtain ⟨h1, q2, h2, h3⟩ := ih (j + 1) k q
      refine ⟨by omega, q2, ?_, h3⟩
      rw [show k - j = (k - (j + 1)) + 1 by omega, List.getElem?_cons_succ]
      exact h2
theorem foF_foL {P : Nat → Int32} {L : List aMsg} {f t : Nat} (hP : PR P L) (hL : WfL L) (hf : f < 6) (ht : t < 6) : ∀ c j, j + c = L.length → foF P f t c j = foL f t (L.drop j) j := by
  intro c
  induction c with
  | zero =>
    intro j hj
    rw [List.drop_eq_nil_of_le (by omega)]
    rfl
  | succ c ih =>
    intro j hj
    have hlt : j < L.length := by omega
    rw [List.drop_eq_getElem_cons hlt, foF, foL, ih (j + 1) (by omega)]
    have hq := hP j L[j] (List.getElem?_eq_getElem hlt)
    have h0 : P (7 * j) = nI (L[j]).1 := hq 0 (by decide)
    have h1 : P (7 * j + 1) = nI (L[j]).2.1 := hq 1 (by decide)
    have hw := hL _ (List.getElem_mem hlt)
    by_cases hc : (L[j]).1 = f ∧ (L[j]).2.1 = t
    · rw [if_pos hc, if_pos ⟨by rw [h0, hc.1], by rw [h1, hc.2]⟩]
    · rw [if_neg hc, if_neg]
      intro q
      rw [h0, h1, nI_eq (by omega) (by omega), nI_eq (by omega) (by omega)] at q
      exact hc q
section MW
variable {d : Nat} {g : Nat → Option aE} {h : aH} {m pl : Nat} {S : aSt} {Q : Option Value → aH → Prop}
theorem l109 {f t : Nat} {l3 l4 : Option Value} {many wt pa : Nat} {N : Nat → Nat → Nat} {V : Nat → Nat → Int32} {O : Nat → Option Nat} {P : Nat → Int32} (hR : MM g h m many wt pa pl N V O P) (hw : 7 * wt ≤ pl) : ∀ c j, j + c = wt →
    am_R d 109 50 [some (.ref m), some (.int (nI f)), some (.int (nI t)), l3, l4, some (.int (nI (cntF (fun j => decide (P (7 * j) = nI f ∧ P (7 * j + 1) = nI t)) j))), some (.int (nI j))] [] h Q = Q (some (.int (nI (cntF (fun j => decide (P (7 * j) = nI f ∧ P (7 * j + 1) = nI t)) wt)))) h := by
  have hpl : pl < 1000000 := hR.2.2.2.1.2.2.2
  intro c
  induction c with
  | zero =>
    intro j hj
    obtain rfl : j = wt := by omega
    rw [e109_50]
    simp (disch := first | assumption | omega | exact am_isr_ref | exact am_isr_null | exact am_isr_rf | exact am_c1_int | exact am_c1_ref | exact am_c1_null | exact am_c1_rf | exact am_b0 | exact am_b1 | exact RM_obj (by assumption) | exact MS_obj (by assumption) | (simp only [ne_eq]; done) | exact am_nz2 | exact am_nz3 | exact am_nz6 | exact am_lt (hB _ _) | exact am_lt (stF_lt hB) | exact b32_01) only [e109_52, e109_53, e109_56, gM_22 hR, nle, if_true, Nat.le_refl, e109_105, e109_107]
  | succ c ih =>
    intro j hj
    have ih := ih (j + 1) (by omega)
    rw [cntF] at ih
    rw [e109_50]
    simp (disch := first | assumption | omega | exact am_isr_ref | exact am_isr_null | exact am_isr_rf | exact am_c1_int | exact am_c1_ref | exact am_c1_null | exact am_c1_rf | exact am_b0 | exact am_b1 | exact RM_obj (by assumption) | exact MS_obj (by assumption) | (simp only [ne_eq]; done) | exact am_nz2 | exact am_nz3 | exact am_nz6 | exact am_lt (hB _ _) | exact am_lt (stF_lt hB) | exact b32_01) only [e109_52, e109_53, e109_56, e109_59, e109_61, e109_62, e109_65, e109_67, e109_69, e109_70, e109_71, e109_72, e109_75, e109_76, e109_79, e109_81, e109_83, e109_84, e109_85, e109_86, e109_87, e109_88, e109_91, e109_92, e109_95, e109_96, e109_97, e109_99, e109_102, gM_22 hR, nle, if_neg (show ¬ wt ≤ j by omega), gM_23 hR, rP hR (show 7 * j < pl by omega), rP hR (show 7 * j + 1 < pl by omega), nI_add, pk_mul]
    by_cases h1 : P (7 * j) = nI f
    · rw [if_neg (fun q => q h1)]
      by_cases h2 : P (7 * j + 1) = nI t
      · rw [if_neg (fun q => q h2)]
        rw [if_pos (decide_eq_true ⟨h1, h2⟩)] at ih
        exact ih
      · rw [if_pos h2]
        rw [if_neg (fun q => h2 (of_decide_eq_true q).2)] at ih
        exact ih
    · rw [if_pos h1]
      rw [if_neg (fun q => h1 (of_decide_eq_true q).1)] at ih
      exact ih
def ansK (S : aSt) (f t : Nat) (w : Int32) : Int32 := if w = 0 then nI (cmF S.2.2.2.2 f t) else if w = 1 then (match foL f t S.2.2.2.2 0 with
  | none => nI 0
  | some j => match S.2.2.2.2[j]? with
    | some q => nI q.2.2.1
    | none => 0) else if w = 2 then (match foL f t S.2.2.2.2 0 with
  | none => -1
  | some j => match S.2.2.2.2[j]? with
    | some q => q.2.2.2.1
    | none => 0) else -1
theorem c109 {f t : Nat} {w : Int32} (hf : f < 6) (ht : t < 6) (hS : MMs g h m S pl) (hL : WfL S.2.2.2.2) (hQ : Q (some (.int (if lkF f t then ansK S f t w else -1))) h) : am_R (d + 2) 109 0 [some (.ref m), some (.int (nI f)), some (.int (nI t)), some (.int w), none, none, none] [] h Q := by
  obtain ⟨pa, P, hR, hP, hl, hp1, hp2⟩ := hS
  have hfo : foF P f t S.2.2.2.2.length 0 = foL f t S.2.2.2.2 0 := foF_foL hP hL hf ht _ 0 (by omega)
  simp (disch := first | assumption | omega | exact am_isr_ref | exact am_isr_null | exact am_isr_rf | exact am_c1_int | exact am_c1_ref | exact am_c1_null | exact am_c1_rf | exact am_b0 | exact am_b1 | exact RM_obj (by assumption) | exact MS_obj (by assumption) | (simp only [ne_eq]; done) | exact am_nz2 | exact am_nz3 | exact am_nz6 | exact am_lt (hB _ _) | exact am_lt (stF_lt hB) | exact b32_01) only [e109_0, e109_1, e109_2, e109_5, c77 hf ht, Option.toList_some, List.cons_append, List.nil_append, b32_q0]
  by_cases hlk : lkF f t
  · rw [if_pos (fun q => q hlk)]
    rw [if_pos hlk] at hQ
    simp (disch := first | assumption | omega | exact am_isr_ref | exact am_isr_null | exact am_isr_rf | exact am_c1_int | exact am_c1_ref | exact am_c1_null | exact am_c1_rf | exact am_b0 | exact am_b1 | exact RM_obj (by assumption) | exact MS_obj (by assumption) | (simp only [ne_eq]; done) | exact am_nz2 | exact am_nz3 | exact am_nz6 | exact am_lt (hB _ _) | exact am_lt (stF_lt hB) | exact b32_01) only [e109_10, e109_11, e109_12, e109_13, e109_16, e109_18, e109_19, c86 hR hl, Option.toList_some, List.cons_append, List.nil_append, hfo]
    unfold ansK at hQ
    by_cases w0 : w = 0
    · rw [if_pos w0] at hQ ⊢
      simp (disch := first | assumption | omega | exact am_isr_ref | exact am_isr_null | exact am_isr_rf | exact am_c1_int | exact am_c1_ref | exact am_c1_null | exact am_c1_rf | exact am_b0 | exact am_b1 | exact RM_obj (by assumption) | exact MS_obj (by assumption) | (simp only [ne_eq]; done) | exact am_nz2 | exact am_nz3 | exact am_nz6 | exact am_lt (hB _ _) | exact am_lt (stF_lt hB) | exact b32_01) only [e109_44, e109_45, e109_47, e109_48]
      refine Eq.mpr (l109 (f := f) (t := t) hR hl S.2.2.2.2.length 0 (by omega)) ?_
      have e : cntF (fun j => decide (P (7 * j) = nI f ∧ P (7 * j + 1) = nI t)) S.2.2.2.2.length = cmF S.2.2.2.2 f t := by
        refine cntF_congr _ (fun j hj => ?_)
        have hq := hP j _ (List.getElem?_eq_getElem hj)
        have h0 : P (7 * j) = nI (S.2.2.2.2[j]).1 := hq 0 (by decide)
        have h1 : P (7 * j + 1) = nI (S.2.2.2.2[j]).2.1 := hq 1 (by decide)
        have hw := hL _ (List.getElem_mem hj)
        rw [List.getElem?_eq_getElem hj]
        dsimp only
        unfold lkB
        rw [h0, h1]
        simp only [nq (show (S.2.2.2.2[j]).1 < 2 ^ 31 by omega) (show f < 2 ^ 31 by omega), nq (show (S.2.2.2.2[j]).2.1 < 2 ^ 31 by omega) (show t < 2 ^ 31 by omega)]
      rw [e]
      exact hQ
    · rw [if_neg w0] at hQ ⊢
      by_cases w1 : w = 1
      · rw [if_pos w1] at hQ ⊢
        cases hfl : foL f t S.2.2.2.2 0 with
        | none =>
          rw [hfl] at hQ
          simp (disch := first | assumption | omega | exact am_isr_ref | exact am_isr_null | exact am_isr_rf | exact am_c1_int | exact am_c1_ref | exact am_c1_null | exact am_c1_rf | exact am_b0 | exact am_b1 | exact RM_obj (by assumption) | exact MS_obj (by assumption) | (simp only [ne_eq]; done) | exact am_nz2 | exact am_nz3 | exact am_nz6 | exact am_lt (hB _ _) | exact am_lt (stF_lt hB) | exact b32_01) only [e109_108, e109_110, e109_111, e109_114, e109_115, eO, not_true_eq_false, if_false, e109_130]
          exact hQ
        | some j =>
          obtain ⟨-, q, hq, -⟩ := foL_some _ _ _ hfl
          rw [Nat.sub_zero] at hq
          have hj := (List.getElem?_eq_some_iff.mp hq).1
          have hv : P (7 * j + 2) = nI q.2.2.1 := hP j q hq 2 (by decide)
          rw [hfl] at hQ
          dsimp only at hQ
          rw [hq] at hQ
          rw [show eO (some j) = nI j from rfl]
          simp (disch := first | assumption | omega | exact am_isr_ref | exact am_isr_null | exact am_isr_rf | exact am_c1_int | exact am_c1_ref | exact am_c1_null | exact am_c1_rf | exact am_b0 | exact am_b1 | exact RM_obj (by assumption) | exact MS_obj (by assumption) | (simp only [ne_eq]; done) | exact am_nz2 | exact am_nz3 | exact am_nz6 | exact am_lt (hB _ _) | exact am_lt (stF_lt hB) | exact b32_01) only [e109_108, e109_110, e109_111, e109_114, e109_115, e109_118, e109_119, e109_122, e109_124, e109_126, e109_127, e109_128, e109_129, e109_130, if_pos (eO_m1 (show j < 2 ^ 31 by omega)), gM_23 hR, nI_add, pk_mul, rP hR (show 7 * j + 2 < pl by omega), hv]
          exact hQ
      · rw [if_neg w1] at hQ ⊢
        by_cases w2 : w = 2
        · rw [if_pos w2] at hQ ⊢
          cases hfl : foL f t S.2.2.2.2 0 with
          | none =>
            rw [hfl] at hQ
            simp (disch := first | assumption | omega | exact am_isr_ref | exact am_isr_null | exact am_isr_rf | exact am_c1_int | exact am_c1_ref | exact am_c1_null | exact am_c1_rf | exact am_b0 | exact am_b1 | exact RM_obj (by assumption) | exact MS_obj (by assumption) | (simp only [ne_eq]; done) | exact am_nz2 | exact am_nz3 | exact am_nz6 | exact am_lt (hB _ _) | exact am_lt (stF_lt hB) | exact b32_01) only [e109_131, e109_133, e109_134, e109_137, e109_138, eO, not_true_eq_false, if_false, e109_153]
            exact hQ
          | some j =>
            obtain ⟨-, q, hq, -⟩ := foL_some _ _ _ hfl
            rw [Nat.sub_zero] at hq
            have hj := (List.getElem?_eq_some_iff.mp hq).1
            have hv : P (7 * j + 3) = q.2.2.2.1 := hP j q hq 3 (by decide)
            rw [hfl] at hQ
            dsimp only at hQ
            rw [hq] at hQ
            rw [show eO (some j) = nI j from rfl]
            simp (disch := first | assumption | omega | exact am_isr_ref | exact am_isr_null | exact am_isr_rf | exact am_c1_int | exact am_c1_ref | exact am_c1_null | exact am_c1_rf | exact am_b0 | exact am_b1 | exact RM_obj (by assumption) | exact MS_obj (by assumption) | (simp only [ne_eq]; done) | exact am_nz2 | exact am_nz3 | exact am_nz6 | exact am_lt (hB _ _) | exact am_lt (stF_lt hB) | exact b32_01) only [e109_131, e109_133, e109_134, e109_137, e109_138, e109_141, e109_142, e109_145, e109_147, e109_149, e109_150, e109_151, e109_152, e109_153, if_pos (eO_m1 (show j < 2 ^ 31 by omega)), gM_23 hR, nI_add, pk_mul, rP hR (show 7 * j + 3 < pl by omega), hv]
            exact hQ
        · rw [if_neg w2] at hQ ⊢
          simp (disch := first | assumption | omega | exact am_isr_ref | exact am_isr_null | exact am_isr_rf | exact am_c1_int | exact am_c1_ref | exact am_c1_null | exact am_c1_rf | exact am_b0 | exact am_b1 | exact RM_obj (by assumption) | exact MS_obj (by assumption) | (simp only [ne_eq]; done) | exact am_nz2 | exact am_nz3 | exact am_nz6 | exact am_lt (hB _ _) | exact am_lt (stF_lt hB) | exact b32_01) only [e109_154, e109_155]
          exact hQ
  · rw [if_neg (fun q => q hlk)]
    rw [if_neg hlk] at hQ
    simp (disch := first | assumption | omega | exact am_isr_ref | exact am_isr_null | exact am_isr_rf | exact am_c1_int | exact am_c1_ref | exact am_c1_null | exact am_c1_rf | exact am_b0 | exact am_b1 | exact RM_obj (by assumption) | exact MS_obj (by assumption) | (simp only [ne_eq]; done) | exact am_nz2 | exact am_nz3 | exact am_nz6 | exact am_lt (hB _ _) | exact am_lt (stF_lt hB) | exact b32_01) only [e109_8, e109_9]
    exact hQ
theorem c109f {f t w : Int32} (hc : (f < 0 ∨ nI 6 ≤ f) ∨ (t < 0 ∨ nI 6 ≤ t)) (hQ : Q (some (.int (-1))) h) : am_R (d + 2) 109 0 [some (.ref m), some (.int f), some (.int t), some (.int w), none, none, none] [] h Q := by
  simp (disch := first | assumption | omega | exact am_isr_ref | exact am_isr_null | exact am_isr_rf | exact am_c1_int | exact am_c1_ref | exact am_c1_null | exact am_c1_rf | exact am_b0 | exact am_b1 | exact RM_obj (by assumption) | exact MS_obj (by assumption) | (simp only [ne_eq]; done) | exact am_nz2 | exact am_nz3 | exact am_nz6 | exact am_lt (hB _ _) | exact am_lt (stF_lt hB) | exact b32_01) only [e109_0, e109_1, e109_2, e109_5, c77f hc, Option.toList_some, List.cons_append, List.nil_append, if_neg (show ¬ ¬ nI 0 = 0 from fun q => q rfl), e109_8, e109_9]
  exact hQ
/-- take, whole -/
def qn (q : aMsg) : Nat := q.2.2.2.1.toNatClampNeg
def takeF (S : aSt) (f t : Nat) (q : aMsg) : aSt := if q.2.2.1 = 1 then prepF S t f (qn q) else if q.2.2.1 = 2 then prdF S t (qn q) q.2.2.2.2.1 else if q.2.2.1 = 3 then decF S t (qn q) q.2.2.2.2.1 else if q.2.2.1 = 4 then setN S 11 (200 * t + qn q) 3 else if q.2.2.1 = 5 then setN S 13 (3 * t + f / 2) (qn q) else hearF S t q.2.2.2.2.1 q.2.2.2.2.2.1 q.2.2.2.2.2.2
def OkQ (S : aSt) (f t : Nat) (q : aMsg) : Prop := (1 ≤ q.2.2.1 ∧ q.2.2.1 ≤ 6) ∧ (q.2.2.1 ≤ 5 → q.2.2.2.1 = nI (qn q)) ∧ (q.2.2.1 ≤ 4 → qn q < 200) ∧ q.2.2.2.2.1 < 1000000 ∧
  (q.2.2.1 = 1 → f + 1 < 6 ∧ tmF S.2.1 t (qn q) < 1000000 ∧ 1 ≤ S.2.1 6 (qn q) ∧ S.2.1 1 (qn q) < 6) ∧ (q.2.2.1 = 2 → t + 1 < 6 ∧ 1 ≤ S.2.1 6 (qn q) ∧ S.2.1 1 (qn q) < 6)
theorem c87 {f t : Nat} {q : aMsg} (hf : f < 6) (ht : t < 6) (hS : MMs g h m S pl) (hB : am_BN S.2.1) (hm : S.1 ≤ 200) (hL : S.2.2.2.2.length + 1300 ≤ 10000) (hk : OkQ S f t q)
    (hQ : ∀ (h1 : aH) (pl1 : Nat), GR h pl h1 pl1 → MMs g h1 m (takeF S f t q) pl1 → Q none h1) : am_R (d + 9) 87 0 [some (.ref m), some (.int (nI f)), some (.int (nI t)), some (.int (mf q 2)), some (.int (mf q 3)), some (.int (mf q 4)), some (.int (mf q 5)), some (.int (mf q 6))] [] h Q := by
  obtain ⟨q0, q1, k, num, x, y, z⟩ := q
  obtain ⟨⟨k1, k2⟩, k3, k4, k5, k6, k7⟩ := hk
  dsimp only at k1 k2 k3 k4 k5 k6 k7
  unfold takeF at hQ
  dsimp only at hQ
  show am_R (d + 9) 87 0 [some (.ref m), some (.int (nI f)), some (.int (nI t)), some (.int (nI k)), some (.int num), some (.int (nI x)), some (.int (nI y)), some (.int (nI z))] [] h Q
  rcases (show k = 1 ∨ k = 2 ∨ k = 3 ∨ k = 4 ∨ k = 5 ∨ k = 6 by omega) with rfl | rfl | rfl | rfl | rfl | rfl
  · obtain ⟨a1, a2, a3, a4⟩ := k6 rfl
    rw [k3 (by decide)]
    exact c87_1 ht a1 (k4 (by decide)) a2 hS hB hm a3 a4 hL hQ
  · obtain ⟨a1, a3, a4⟩ := k7 rfl
    rw [k3 (by decide)]
    exact c87_2 (d := d + 3) a1 (k4 (by decide)) k5 hS hB hm a3 a4 hL hQ
  · rw [k3 (by decide)]
    exact c87_3 (d := d + 6) ht (k4 (by decide)) k5 hS hB hm (by omega) hQ
  · rw [k3 (by decide)]
    exact c87_4 (d := d + 9) ht (k4 (by decide)) hS hQ
  · rw [k3 (by decide)]
    exact c87_5 (d := d + 8) hf ht hS hQ
  · exact c87_6 (d := d + 9) ht hS hQ
end MW
