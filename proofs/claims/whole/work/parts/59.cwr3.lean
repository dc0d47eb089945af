/-! the class's writers: forgetSeenVersions, finishCommit -/
theorem th_nx {β : Type} {k : Nat} {A B : Nat → β} (hk : A k = B k) : thF k A B = thF (k + 1) A B := by
  rw [← th_up, hk]
  funext p
  unfold va_up
  by_cases h1 : p = k
  · subst h1; rw [if_pos rfl]; exact th_k
  · rw [if_neg h1]
def foO (N : Nat → Nat → Nat) (b : Nat → Nat) (o : Option Nat) : Option Nat := match o with
  | none => none
  | some n => if upB N b n = true then none else some n
section CY
variable {d : Nat} {g : Nat → Option aE} {c : Nat} {X : aX} {Q : Option Value → aH → Prop} {N : Nat → Nat → Nat} {V : Nat → Nat → Int32} {T : Nat → Nat} {O : Nat → Option Nat}
abbrev fgX (X : aX) (i k : Nat) (A : Nat → Option Nat) : aX := xs_ow X (va_up (x_ow X) i (thF k A (x_ow X i)))
theorem l35 {i : Nat} (hi : i < 6) (hB : am_BN N) (hsn : ∀ p, x_sn X i p < 1000000) (hO : ∀ k, x_ow X i k = (O k).map T) (hT : ∀ k n, O k = some n → TrN (yH X) c N V T n) : ∀ t k (h : aH) l2, k + t = 8 → RC g h c (fgX X i k (fun k => (foO N (x_sn X i) (O k)).map T)) → (∀ h1 : aH, h1.1 = h.1 → h1.2.1 = h.2.1 → RC g h1 c (fgX X i 8 (fun k => (foO N (x_sn X i) (O k)).map T)) → Q none h1) → am_R (d + 3) 35 2 [some (.ref (c + 2 + 6 * i)), some (.int (nI k)), l2] [] h Q := by
  intro t
  induction t with
  | zero =>
    intro k h l2 hkt hR hQ
    obtain rfl : k = 8 := by omega
    simp (disch := first | assumption | omega | exact am_isr_ref | exact am_isr_null | exact am_isr_rf | exact am_c1_int | exact am_c1_ref | exact am_c1_null | exact am_c1_rf | exact am_b0 | exact am_b1 | exact RM_obj (by assumption) | (simp only [ne_eq]; done) | exact am_nz2 | exact am_nz3 | exact am_nz6 | exact am_lt (hB _ _) | exact am_lt (stF_lt hB) | exact b32_01) only [e35_2, e35_3, e35_5, e35_43, nle, if_true, Nat.le_refl]
    exact hQ h rfl rfl hR
  | succ t ih =>
    intro k h l2 hkt hR hQ
    have hk8 : k < 8 := by omega
    have r1 : x_ow (fgX X i k (fun k => (foO N (x_sn X i) (O k)).map T)) i k = (O k).map T := ((congrFun vu_s k).trans th_k).trans (hO k)
    have ha : h.2.2 (c + 3 + 6 * i) = some (.inl (0, 3, .inl (fun p => nI (x_sn X i p)))) := kC1 hR i hi
    have hz : am_isc h 5 none = true := rfl
    rw [e35_2]
    cases ho : O k with
    | none =>
      have e : (foO N (x_sn X i) (O k)).map T = x_ow X i k := by rw [hO k, ho]; rfl
      have e2 := th_nx (k := k) (A := fun k => (foO N (x_sn X i) (O k)).map T) (B := x_ow X i) e
      simp (disch := first | assumption | omega | exact am_isr_ref | exact am_isr_null | exact am_isr_rf | exact am_c1_int | exact am_c1_ref | exact am_c1_null | exact am_c1_rf | exact am_b0 | exact am_b1 | exact RM_obj (by assumption) | (simp only [ne_eq]; done) | exact am_nz2 | exact am_nz3 | exact am_nz6 | exact am_lt (hB _ _) | exact am_lt (stF_lt hB) | exact b32_01) only [e35_3, e35_5, e35_8, e35_9, e35_12, e35_13, e35_14, e35_15, e35_16r, e35_16n, e35_16q, e35_19, e35_20, e35_21, e35_24, e35_27, e35_30, e35_31, e35_34, e35_35, e35_36q, e35_36r, e35_36n, e35_37, e35_40, e35_43, nle, if_neg (show ¬ 8 ≤ k by omega), gC0_2 hi hR, rC2 hi hR hk8, r1, ho, Option.map_none, va_rf, nI_add]
      refine ih (k + 1) h _ (by omega) ?_ hQ
      unfold fgX
      rw [← e2]
      exact hR
    | some n =>
      have hTn := TrNH hR (show TrN (yH (fgX X i k (fun k => (foO N (x_sn X i) (O k)).map T))) c N V T n from hT k n ho)
      have hoo := oT hTn
      simp (disch := first | assumption | omega | exact am_isr_ref | exact am_isr_null | exact am_isr_rf | exact am_c1_int | exact am_c1_ref | exact am_c1_null | exact am_c1_rf | exact am_b0 | exact am_b1 | exact RM_obj (by assumption) | (simp only [ne_eq]; done) | exact am_nz2 | exact am_nz3 | exact am_nz6 | exact am_lt (hB _ _) | exact am_lt (stF_lt hB) | exact b32_01) only [e35_3, e35_5, e35_8, e35_9, e35_12, e35_13, e35_14, e35_15, e35_16r, e35_16n, e35_16q, e35_19, e35_20, e35_21, e35_24, e35_27, e35_30, e35_31, e35_34, e35_35, e35_36q, e35_36r, e35_36n, e35_37, e35_40, e35_43, nle, if_neg (show ¬ 8 ≤ k by omega), gC0_1 hi hR, gC0_2 hi hR, rC2 hi hR hk8, r1, ho, Option.map_some, va_rf, d61n hB hTn ha hsn, Option.toList_some, List.cons_append, List.nil_append, b32_q0, nI_add]
      by_cases h1 : upB N (x_sn X i) n = true
      · have e : (foO N (x_sn X i) (O k)).map T = none := by rw [ho]; unfold foO; simp only [h1, if_true, Option.map_none]
        rw [if_neg (fun q => q h1)]
        refine wC2 hi hk8 hR hz (fun h1 g1 g2 hR1 => ?_)
        refine ih (k + 1) h1 _ (by omega) ?_ (fun h3 g5 g6 => hQ h3 (g5.trans g1) (g6.trans g2))
        unfold fgX
        rw [← th_vu (f := x_ow X)]
        rw [e]
        exact hR1
      · have e : (foO N (x_sn X i) (O k)).map T = x_ow X i k := by rw [hO k, ho]; unfold foO; simp only [if_neg h1]
        have e2 := th_nx (k := k) (A := fun k => (foO N (x_sn X i) (O k)).map T) (B := x_ow X i) e
        rw [if_pos h1]
        refine ih (k + 1) h _ (by omega) ?_ hQ
        unfold fgX
        rw [← e2]
        exact hR
theorem d35 {h : aH} {i : Nat} (hi : i < 6) (hB : am_BN N) (hsn : ∀ p, x_sn X i p < 1000000) (hO : ∀ k, x_ow X i k = (O k).map T) (hT : ∀ k n, O k = some n → TrN (yH X) c N V T n) (hR : RC g h c X) (hQ : ∀ h1 : aH, h1.1 = h.1 → h1.2.1 = h.2.1 → RC g h1 c (fgX X i 8 (fun k => (foO N (x_sn X i) (O k)).map T)) → Q none h1) : am_R (d + 3) 35 0 [some (.ref (c + 2 + 6 * i)), none, none] [] h Q := by
  rw [e35_0, e35_1]
  refine l35 hi hB hsn hO hT 8 0 h _ rfl ?_ hQ
  unfold fgX
  rw [th_0, vu_i]
  exact hR
abbrev fcX (X : aX) (i k t tm : Nat) (f : Nat → Nat) : aX := xs_ow (xs_lt (xs_dg X (va_up (x_dg X) i 0)) (va_up (x_lt X) i tm)) (va_up (x_ow X) i (thF k (fun k => if f k = 1 then some t else x_ow X i k) (x_ow X i)))
theorem l36 {i a n pl cl lt tm td : Nat} {sn f : Nat → Nat} {v : Nat → Int32} (hi : i < 6) (hT0 : Tr (yH X) a n pl cl lt tm td sn f v) : ∀ t k (h : aH), k + t = 8 → RC g h c (fcX X i k a tm f) → (∀ h1 : aH, h1.1 = h.1 → h1.2.1 = h.2.1 → RC g h1 c (fcX X i 8 a tm f) → Q none h1) → am_R (d + 2) 36 15 [some (.ref (c + 2 + 6 * i)), some (.ref a), some (.int (nI k))] [] h Q := by
  intro t
  induction t with
  | zero =>
    intro k h hkt hR hQ
    obtain rfl : k = 8 := by omega
    simp (disch := first | assumption | omega | exact am_isr_ref | exact am_isr_null | exact am_isr_rf | exact am_c1_int | exact am_c1_ref | exact am_c1_null | exact am_c1_rf | exact am_b0 | exact am_b1 | exact RM_obj (by assumption) | (simp only [ne_eq]; done) | exact am_nz2 | exact am_nz3 | exact am_nz6 | exact am_lt (hB _ _) | exact am_lt (stF_lt hB) | exact b32_01) only [e36_15, e36_16, e36_18, e36_45, nle, if_true, Nat.le_refl]
    exact hQ h rfl rfl hR
  | succ t ih =>
    intro k h hkt hR hQ
    have hk8 : k < 8 := by omega
    have hT := TrH hR (show Tr (yH (fcX X i k a tm f)) a n pl cl lt tm td sn f v from hT0)
    have hw : Wr h (a + 2) f v := hT.2.2.1
    have ho := oW hw
    have hz : am_isc h 5 (some a) = true := oT hT
    rw [e36_15]
    simp (disch := first | assumption | omega | exact am_isr_ref | exact am_isr_null | exact am_isr_rf | exact am_c1_int | exact am_c1_ref | exact am_c1_null | exact am_c1_rf | exact am_b0 | exact am_b1 | exact RM_obj (by assumption) | (simp only [ne_eq]; done) | exact am_nz2 | exact am_nz3 | exact am_nz6 | exact am_lt (hB _ _) | exact am_lt (stF_lt hB) | exact b32_01) only [e36_16, e36_18, e36_21, e36_22, e36_25, e36_26, e36_29, e36_32, e36_33, e36_36, e36_37, e36_38q, e36_38r, e36_38n, e36_39, e36_42, e36_45, nle, if_neg (show ¬ 8 ≤ k by omega), gC0_2 hi hR, gT_5 hT, d67t hk8 hw, Option.toList_some, List.cons_append, List.nil_append, b32_q0, nI_add]
    by_cases h1 : f k = 1
    · rw [if_neg (fun q => q h1)]
      refine wC2 (o := some a) hi hk8 hR hz (fun h1 g1 g2 hR1 => ?_)
      refine ih (k + 1) h1 (by omega) ?_ (fun h3 g5 g6 => hQ h3 (g5.trans g1) (g6.trans g2))
      unfold fcX
      rw [← th_vu (f := x_ow X)]
      simp only [if_pos (show f k = 1 by assumption)]
      exact hR1
    · rw [if_pos h1]
      refine ih (k + 1) h (by omega) ?_ hQ
      unfold fcX
      rw [← th_nx (if_neg h1)]
      exact hR
theorem d36 {h : aH} {i a n pl cl lt tm td : Nat} {sn f : Nat → Nat} {v : Nat → Int32} (hi : i < 6) (hT0 : Tr (yH X) a n pl cl lt tm td sn f v) (hR : RC g h c X) (hQ : ∀ h1 : aH, h1.1 = h.1 → h1.2.1 = h.2.1 → RC g h1 c (fcX X i 8 a tm f) → Q none h1) : am_R (d + 2) 36 0 [some (.ref (c + 2 + 6 * i)), some (.ref a), none] [] h Q := by
  simp (disch := first | assumption | omega | exact am_isr_ref | exact am_isr_null | exact am_isr_rf | exact am_c1_int | exact am_c1_ref | exact am_c1_null | exact am_c1_rf | exact am_b0 | exact am_b1 | exact RM_obj (by assumption) | (simp only [ne_eq]; done) | exact am_nz2 | exact am_nz3 | exact am_nz6 | exact am_lt (hB _ _) | exact am_lt (stF_lt hB) | exact b32_01) only [e36_0, e36_1, e36_2]
  refine pC0_dg (v := 0) hi hR (fun h1 g1 g2 hR1 => ?_)
  have hT1 := TrH hR1 hT0
  simp (disch := first | assumption | omega | exact am_isr_ref | exact am_isr_null | exact am_isr_rf | exact am_c1_int | exact am_c1_ref | exact am_c1_null | exact am_c1_rf | exact am_b0 | exact am_b1 | exact RM_obj (by assumption) | (simp only [ne_eq]; done) | exact am_nz2 | exact am_nz3 | exact am_nz6 | exact am_lt (hB _ _) | exact am_lt (stF_lt hB) | exact b32_01) only [e36_5, e36_6, e36_7, e36_10, gT_6 hT1]
  refine pC0_lt hi hR1 (fun h2 g3 g4 hR2 => ?_)
  simp (disch := first | assumption | omega | exact am_isr_ref | exact am_isr_null | exact am_isr_rf | exact am_c1_int | exact am_c1_ref | exact am_c1_null | exact am_c1_rf | exact am_b0 | exact am_b1 | exact RM_obj (by assumption) | (simp only [ne_eq]; done) | exact am_nz2 | exact am_nz3 | exact am_nz6 | exact am_lt (hB _ _) | exact am_lt (stF_lt hB) | exact b32_01) only [e36_13, e36_14]
  refine l36 hi hT0 8 0 h2 rfl ?_ (fun h3 g5 g6 => hQ h3 (g5.trans (g3.trans g1)) (g6.trans (g4.trans g2)))
  unfold fcX
  rw [th_0, vu_i]
  exact hR2
end CY
