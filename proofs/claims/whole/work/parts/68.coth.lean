/-! the class: a new message, sendToOtherPlaces -/
def othL (s : Nat) (q : Nat → aMsg) : Nat → Nat → List aMsg → List aMsg
  | 0, _, L => L
  | c + 1, p, L => othL s q c (p + 1) (if p = s / 2 then L else L ++ [q p])
theorem othF_L {s : Nat} {q : Nat → aMsg} : ∀ c p (S : aSt), othF s q c p S = (S.1, S.2.1, S.2.2.1, S.2.2.2.1, othL s q c p S.2.2.2.2) := by
  intro c
  induction c with
  | zero => intro p S; rfl
  | succ c ih =>
    intro p S
    rw [othF, othL, ih]
    by_cases h1 : p = s / 2
    · rw [if_pos h1, if_pos h1]
    · rw [if_neg h1, if_neg h1]
      rfl
section OTH
variable {d : Nat} {g : Nat → Option aE} {c : Nat} {Q : Option Value → aH → Prop}
theorem d42n {X : aX} {L : List aMsg} {LL : List aLm} {tg : Nat → Nat} {h : aH} {k n t : Int32} {v : Option Nat} (hS : SL X L LL tg) (hR : RC g h c X) (hQ : ∀ (h1 : aH) (X1 : aX), h1.1 = h.1 + 1 → h1.2.1 = h.2.1 + 5 → RC g h1 c X1 → SL X1 L LL tg → Xlk X X1 → x_Y X1 h.1 = some (msC k n t v none) → (∀ b e, x_Y X b = some e → x_Y X1 b = some e) → Q none h1) : am_R d 42 0 [some (.ref h.1), some (.int k), some (.int n), some (.int t), some (va_rf v)] [] (am_nw h 5 (.inr (3, am_df 3))) Q := by
  have hR1 := nY (k := 5) (e := .inr (3, am_df 3)) hR
  refine d42 (X := xs_Y X (va_up (x_Y X) h.1 (some (.inr (3, am_df 3))))) vu_s hR1 (fun h1 g1 g2 hR2 => ?_)
  have e : va_up (va_up (x_Y X) h.1 (some (.inr (3, am_df 3)))) h.1 (some (msC k n t v none)) = va_up (x_Y X) h.1 (some (msC k n t v none)) := vu_u
  have hR3 : RC g h1 c (xs_Y X (va_up (x_Y X) h.1 (some (msC k n t v none)))) := by rw [← e]; exact hR2
  exact hQ h1 (xs_Y X (va_up (x_Y X) h.1 (some (msC k n t v none)))) g1 g2 hR3 (SL_ex (ex_nw hR) hS) (Xlk_Y (ex_nw hR)) vu_s (ex_nw hR)
theorem lkd_o {s p : Nat} (hs : s < 6) (hp : p < 3) (hne : ¬ p = s / 2) : lkd (6 * s + (2 * p + s % 2)) = true := by
  unfold lkd lkF
  rw [Bool.and_eq_true, decide_eq_true_eq, decide_eq_true_eq, show (6 * s + (2 * p + s % 2)) / 6 = s by omega, show (6 * s + (2 * p + s % 2)) % 6 = 2 * p + s % 2 by omega]
  omega
theorem l31 {s k : Nat} {n : Int32} (hs : s < 6) (hk : k < 6) : ∀ t p (h : aH) (X : aX) (L : List aMsg) (LL : List aLm) (tg : Nat → Nat) l5, p + t = 3 → SL X L LL tg → (∀ r, p ≤ r → r < 3 → ¬ r = s / 2 → (QLf LL (6 * s + (2 * r + s % 2))).length < 512) → RC g h c X → (∀ (h1 : aH) (X1 : aX) (LL1 : List aLm) (tg1 : Nat → Nat), h1.1 ≤ h.1 + t → h.1 ≤ h1.1 → h1.2.1 ≤ h.2.1 + 5 * t → RC g h1 c X1 → SL X1 (othL s (fun p => (s, 2 * p + s % 2, k, n, 0, 0, 0)) t p L) LL1 tg1 → Xlk X X1 → Q none h1) → am_R (d + 2) 31 3 [some (.ref c), some (.ref (c + 39 + 6 * s)), some (.int (nI k)), some (.int n), some (.int (nI p)), l5] [] h Q := by
  intro t
  induction t with
  | zero =>
    intro p h X L LL tg l5 hp hS hc hR hQ
    obtain rfl : p = 3 := by omega
    rw [e31_3]
    simp (disch := first | assumption | omega | exact am_isr_ref | exact am_isr_null | exact am_isr_rf | exact am_c1_int | exact am_c1_ref | exact am_c1_null | exact am_c1_rf | exact am_b0 | exact am_b1 | exact RM_obj (by assumption) | (simp only [ne_eq]; done) | exact am_nz2 | exact am_nz3 | exact am_nz6 | exact am_lt (hB _ _) | exact am_lt (stF_lt hB) | exact b32_01) only [e31_5, e31_6, e31_59, nle, if_true, Nat.le_refl]
    exact hQ h X LL tg (by omega) (by omega) (by omega) hR hS Xlk_rf
  | succ t ih =>
    intro p h X L LL tg l5 hp hS hc hR hQ
    have hp3 : p < 3 := by omega
    rw [e31_3]
    simp (disch := first | assumption | omega | exact am_isr_ref | exact am_isr_null | exact am_isr_rf | exact am_c1_int | exact am_c1_ref | exact am_c1_null | exact am_c1_rf | exact am_b0 | exact am_b1 | exact RM_obj (by assumption) | (simp only [ne_eq]; done) | exact am_nz2 | exact am_nz3 | exact am_nz6 | exact am_lt (hB _ _) | exact am_lt (stF_lt hB) | exact b32_01) only [e31_5, e31_6, e31_9, e31_11, e31_12, e31_15, nle, if_neg (show ¬ 3 ≤ p by omega), gV0_1 hs hR, nq]
    rw [othL] at hQ
    by_cases hne : p = s / 2
    · rw [if_pos hne]
      rw [if_pos hne] at hQ
      simp (disch := first | assumption | omega | exact am_isr_ref | exact am_isr_null | exact am_isr_rf | exact am_c1_int | exact am_c1_ref | exact am_c1_null | exact am_c1_rf | exact am_b0 | exact am_b1 | exact RM_obj (by assumption) | (simp only [ne_eq]; done) | exact am_nz2 | exact am_nz3 | exact am_nz6 | exact am_lt (hB _ _) | exact am_lt (stF_lt hB) | exact b32_01) only [e31_53, e31_56, nI_add]
      exact ih (p + 1) h X L LL tg _ (by omega) hS (fun r a b => hc r (by omega) b) hR (fun h1 X1 LL1 tg1 a b e => hQ h1 X1 LL1 tg1 (by omega) (by omega) (by omega))
    · rw [if_neg hne]
      rw [if_neg hne] at hQ
      have ho := oA0 hR
      simp (disch := first | assumption | omega | exact am_isr_ref | exact am_isr_null | exact am_isr_rf | exact am_c1_int | exact am_c1_ref | exact am_c1_null | exact am_c1_rf | exact am_b0 | exact am_b1 | exact RM_obj (by assumption) | (simp only [ne_eq]; done) | exact am_nz2 | exact am_nz3 | exact am_nz6 | exact am_lt (hB _ _) | exact am_lt (stF_lt hB) | exact b32_01) only [e31_18, e31_20, e31_23, e31_24, e31_27, e31_28, e31_29, e31_30, e31_32, e31_33, e31_34, e31_37, e31_39, d23, Option.toList_some, List.cons_append, List.nil_append, gV0_0 hs hR, pk_rem (a := s) (d := 2) (by omega) (by decide) (by decide), nI_add]
      simp (disch := first | assumption | omega | exact am_isr_ref | exact am_isr_null | exact am_isr_rf | exact am_c1_int | exact am_c1_ref | exact am_c1_null | exact am_c1_rf | exact am_b0 | exact am_b1 | exact RM_obj (by assumption) | (simp only [ne_eq]; done) | exact am_nz2 | exact am_nz3 | exact am_nz6 | exact am_lt (hB _ _) | exact am_lt (stF_lt hB) | exact b32_01) only [e31_42, e31_43, e31_44, e31_45, e31_46, e31_47]
      refine d42n (v := none) hS hR (fun h1 X1 g1 g2 hR1 hS1 hx1 hm hex => ?_)
      have ho1 := oA0 hR1
      simp (disch := first | assumption | omega | exact am_isr_ref | exact am_isr_null | exact am_isr_rf | exact am_c1_int | exact am_c1_ref | exact am_c1_null | exact am_c1_rf | exact am_b0 | exact am_b1 | exact RM_obj (by assumption) | (simp only [ne_eq]; done) | exact am_nz2 | exact am_nz3 | exact am_nz6 | exact am_lt (hB _ _) | exact am_lt (stF_lt hB) | exact b32_01) only [e31_50, Option.toList_none, List.nil_append]
      have e0 : (if k = 6 then nI 0 else nI 0) = nI 0 := by split <;> rfl
      have e2 : p * 2 + s % 2 = 2 * p + s % 2 := by omega
      rw [e2]
      refine d32s (k := k) (n := n) (x := 0) (y := 0) (z := 0) (vc := none) hs (by omega) (lkd_o hs hp3 hne) hS1 (by rw [e0]; exact hm) (fun q => absurd (show k = 6 from q) (by omega)) (fun z hz => SL_lt hR hS hz) (hc p (Nat.le_refl _) hp3 hne) hR1 (fun h2 X2 tg2 g3 g4 hR2 hS2 hx2 => ?_)
      simp (disch := first | assumption | omega | exact am_isr_ref | exact am_isr_null | exact am_isr_rf | exact am_c1_int | exact am_c1_ref | exact am_c1_null | exact am_c1_rf | exact am_b0 | exact am_b1 | exact RM_obj (by assumption) | (simp only [ne_eq]; done) | exact am_nz2 | exact am_nz3 | exact am_nz6 | exact am_lt (hB _ _) | exact am_lt (stF_lt hB) | exact b32_01) only [e31_53, e31_56, nI_add, Option.toList_none, List.nil_append]
      refine ih (p + 1) h2 X2 _ _ tg2 _ (by omega) hS2 (fun r a b c => ?_) hR2 (fun h3 X3 LL3 tg3 a b e hR3 hS3 hx3 => hQ h3 X3 LL3 tg3 (by omega) (by omega) (by omega) hR3 hS3 (Xlk_tr hx1 (Xlk_tr hx2 hx3)))
      rw [QLf_push]
      refine Nat.lt_of_le_of_lt ?_ (hc r (by omega) b c)
      rw [vu_n]
      · exact Nat.le_refl _
      · show ¬ 6 * s + (2 * r + s % 2) = 6 * s + (2 * p + s % 2)
        omega
theorem d31 {s k : Nat} {n : Int32} {h : aH} {X : aX} {L : List aMsg} {LL : List aLm} {tg : Nat → Nat} (hs : s < 6) (hk : k < 6) (hS : SL X L LL tg) (hc : ∀ r, r < 3 → ¬ r = s / 2 → (QLf LL (6 * s + (2 * r + s % 2))).length < 512) (hR : RC g h c X) (hQ : ∀ (h1 : aH) (X1 : aX) (LL1 : List aLm) (tg1 : Nat → Nat), h1.1 ≤ h.1 + 3 → h.1 ≤ h1.1 → h1.2.1 ≤ h.2.1 + 15 → RC g h1 c X1 → SL X1 (othL s (fun p => (s, 2 * p + s % 2, k, n, 0, 0, 0)) 3 0 L) LL1 tg1 → Xlk X X1 → Q none h1) : am_R (d + 2) 31 0 [some (.ref c), some (.ref (c + 39 + 6 * s)), some (.int (nI k)), some (.int n), none, none] [] h Q := by
  rw [e31_0, e31_1]
  exact l31 hs hk 3 0 h X L LL tg _ rfl hS (fun r _ a b => hc r a b) hR hQ
end OTH
