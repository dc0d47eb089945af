/-! the class's readers of transactions, clients, links -/
section CT
variable {d : Nat} {g : Nat → Option aE} {h : aH} {c : Nat} {X : aX} {Q : Option Value → aH → Prop} {t n pl cl lt tm td : Nat} {s f : Nat → Nat} {v : Nat → Int32}
theorem gT_0 {F : Value → Prop} (hT : Tr h t n pl cl lt tm td s f v) : am_gf h 5 t 0 F = F (.int (nI n)) := am_gf_of hT.1 rfl
theorem gT_1 {F : Value → Prop} (hT : Tr h t n pl cl lt tm td s f v) : am_gf h 5 t 1 F = F (.int (nI pl)) := am_gf_of hT.1 rfl
theorem gT_2 {F : Value → Prop} (hT : Tr h t n pl cl lt tm td s f v) : am_gf h 5 t 2 F = F (.ref cl) := am_gf_of hT.1 rfl
theorem gT_3 {F : Value → Prop} (hT : Tr h t n pl cl lt tm td s f v) : am_gf h 5 t 3 F = F (.int (nI lt)) := am_gf_of hT.1 rfl
theorem gT_4 {F : Value → Prop} (hT : Tr h t n pl cl lt tm td s f v) : am_gf h 5 t 4 F = F (.ref (t + 1)) := am_gf_of hT.1 rfl
theorem gT_5 {F : Value → Prop} (hT : Tr h t n pl cl lt tm td s f v) : am_gf h 5 t 5 F = F (.ref (t + 2)) := am_gf_of hT.1 rfl
theorem gT_6 {F : Value → Prop} (hT : Tr h t n pl cl lt tm td s f v) : am_gf h 5 t 6 F = F (.int (nI tm)) := am_gf_of hT.1 rfl
theorem gT_7 {F : Value → Prop} (hT : Tr h t n pl cl lt tm td s f v) : am_gf h 5 t 7 F = F (.int (nI td)) := am_gf_of hT.1 rfl
theorem oT (hT : Tr h t n pl cl lt tm td s f v) : (am_fld h 5 t).isSome = true := am_fld_of hT.1
def tsF (td pl tm : Nat) (s : Nat → Nat) (p : Nat) : Nat := if td = 1 ∧ p = pl then tm else s p
theorem d60 {p : Nat} (hp : p < 3) (hpl : pl < 3) (hT : Tr h t n pl cl lt tm td s f v) : am_R (d + 1) 60 0 [some (.ref t), some (.int (nI p))] [] h Q = Q (some (.int (nI (tsF td pl tm s p)))) h := by
  simp (disch := first | assumption | omega | exact am_isr_ref | exact am_isr_null | exact am_isr_rf | exact am_c1_int | exact am_c1_ref | exact am_c1_null | exact am_c1_rf | exact am_b0 | exact am_b1 | exact RM_obj (by assumption) | (simp only [ne_eq]; done) | exact am_nz2 | exact am_nz3 | exact am_nz6 | exact am_lt (hB _ _) | exact am_lt (stF_lt hB) | exact b32_01) only [e60_0, e60_1, e60_4, e60_7, e60_8, e60_9, e60_12, e60_15, e60_16, e60_19, e60_22, e60_23, e60_26, e60_27, e60_30, gT_7 hT, gT_1 hT, gT_6 hT, gT_4 hT, n0_b hT.2.2.2, nq, d25t hT.2.1 (by decide) hp, Option.toList_some, List.cons_append, List.nil_append]
  unfold tsF
  by_cases h1 : td = 1
  · by_cases h2 : p = pl
    · rw [if_neg (fun q => q h1), if_neg (fun q => q h2), if_pos ⟨h1, h2⟩]
    · rw [if_neg (fun q => q h1), if_pos h2, if_neg (fun q => h2 q.2)]
  · rw [if_pos h1, if_neg (fun q => h1 q.1)]
theorem d61 {a : Nat} {b : Nat → Nat} (hpl : pl < 3) (hT : Tr h t n pl cl lt tm td s f v) (ha : h.2.2 a = some (.inl (0, 3, .inl (fun p => nI (b p))))) (hs : ∀ p, s p < 1000000) (hb : ∀ p, b p < 1000000) (htm : tm < 1000000) : am_R (d + 2) 61 0 [some (.ref t), some (.ref a), none] [] h Q = Q (some (.int (b32 (tsF td pl tm s 0 ≤ b 0 ∧ tsF td pl tm s 1 ≤ b 1 ∧ tsF td pl tm s 2 ≤ b 2)))) h := by
  have ho := oT hT
  have hl : ∀ p, tsF td pl tm s p < 2 ^ 31 := fun p => by
    have := hs p
    unfold tsF
    split <;> omega
  have hl2 : ∀ p, b p < 2 ^ 31 := fun p => by have := hb p; omega
  have a0 := hl 0
  have a1 := hl 1
  have a2 := hl 2
  have b0 := hl2 0
  have b1 := hl2 1
  have b2 := hl2 2
  simp (disch := first | assumption | omega | exact am_isr_ref | exact am_isr_null | exact am_isr_rf | exact am_c1_int | exact am_c1_ref | exact am_c1_null | exact am_c1_rf | exact am_b0 | exact am_b1 | exact RM_obj (by assumption) | (simp only [ne_eq]; done) | exact am_nz2 | exact am_nz3 | exact am_nz6 | exact am_lt (hB _ _) | exact am_lt (stF_lt hB) | exact b32_01) only [e61_0, e61_1, e61_2, e61_3, e61_4, e61_7, e61_8, e61_9, e61_12, e61_13, e61_14, e61_17, e61_20, e61_21, e61_22, e61_25, e61_28, e61_29, d60 (p := 0) (by decide) hpl hT, d60 (p := 1) (by decide) hpl hT, d60 (p := 2) (by decide) hpl hT, d25t (e := 0) ha (by decide) (by decide), d25t (e := 1) ha (by decide) (by decide), d25t (e := 2) ha (by decide) (by decide), Option.toList_some, List.cons_append, List.nil_append, nI_add, nle, if_true, if_false, Nat.reduceAdd, Nat.reduceLeDiff, b32_i, b32_a]
def tnB (tm pl n tm2 pl2 n2 : Nat) : Bool := if tm = tm2 then (if pl = pl2 then decide (n2 < n) else decide (pl2 < pl)) else decide (tm2 < tm)
theorem d62 {t2 n2 pl2 cl2 lt2 tm2 td2 : Nat} {s2 f2 : Nat → Nat} {v2 : Nat → Int32} (hT : Tr h t n pl cl lt tm td s f v) (hT2 : Tr h t2 n2 pl2 cl2 lt2 tm2 td2 s2 f2 v2) (hpl : pl < 3) (hpl2 : pl2 < 3) (hn : n < 200) (hn2 : n2 < 200) (htm : tm < 1000000) (htm2 : tm2 < 1000000) : am_R d 62 0 [some (.ref t), some (.ref t2)] [] h Q = Q (some (.int (b32 (tnB tm pl n tm2 pl2 n2 = true)))) h := by
  simp (disch := first | assumption | omega | exact am_isr_ref | exact am_isr_null | exact am_isr_rf | exact am_c1_int | exact am_c1_ref | exact am_c1_null | exact am_c1_rf | exact am_b0 | exact am_b1 | exact RM_obj (by assumption) | (simp only [ne_eq]; done) | exact am_nz2 | exact am_nz3 | exact am_nz6 | exact am_lt (hB _ _) | exact am_lt (stF_lt hB) | exact b32_01) only [e62_0, e62_1, e62_4, e62_5, e62_8, e62_11, e62_12, e62_15, e62_16, e62_19, e62_22, e62_23, e62_26, e62_27, e62_28, e62_29, e62_32, e62_33, e62_36, e62_39, e62_40, e62_43, e62_44, e62_47, e62_50, e62_51, e62_54, e62_55, e62_56, e62_57, e62_60, e62_61, e62_64, e62_67, e62_68, e62_71, e62_72, gT_0 hT, gT_0 hT2, gT_1 hT, gT_1 hT2, gT_6 hT, gT_6 hT2, nq, nle, b32_m]
  unfold tnB
  by_cases h1 : tm = tm2
  · by_cases h2 : pl = pl2
    · simp only [if_pos h1, if_pos h2, decide_eq_true_eq, Nat.not_le]
    · simp only [if_pos h1, if_neg h2, decide_eq_true_eq, Nat.not_le]
  · simp only [if_neg h1, decide_eq_true_eq, Nat.not_le]
theorem d17t {i : Nat} (hi : i < 6) (hR : RC g h c X) (hdg : x_dg X i < 3) : am_R (d + 1) 17 0 [some (.ref c), some (.int (nI i)), none] [] h Q = Q (some (if x_dg X i = 1 then .ref (c + 2 + 6 * i) else .null)) h := by
  have ho := oA0 hR
  simp (disch := first | assumption | omega | exact am_isr_ref | exact am_isr_null | exact am_isr_rf | exact am_c1_int | exact am_c1_ref | exact am_c1_null | exact am_c1_rf | exact am_b0 | exact am_b1 | exact RM_obj (by assumption) | (simp only [ne_eq]; done) | exact am_nz2 | exact am_nz3 | exact am_nz6 | exact am_lt (hB _ _) | exact am_lt (stF_lt hB) | exact b32_01) only [e17_0, e17_1, e17_2, e17_5, e17_6, e17_7r, e17_7n, e17_7q, e17_10, e17_11, e17_14, e17_15, e17_18, e17_19, e17_22, e17_23, d16t hi hR, gC0_4 hi hR, nq, Option.toList_some, List.cons_append, List.nil_append]
  by_cases h1 : x_dg X i = 1
  · simp (disch := first | assumption | omega | exact am_isr_ref | exact am_isr_null | exact am_isr_rf | exact am_c1_int | exact am_c1_ref | exact am_c1_null | exact am_c1_rf | exact am_b0 | exact am_b1 | exact RM_obj (by assumption) | (simp only [ne_eq]; done) | exact am_nz2 | exact am_nz3 | exact am_nz6 | exact am_lt (hB _ _) | exact am_lt (stF_lt hB) | exact b32_01) only [h1, if_true, not_true_eq_false, if_false, e17_0, e17_1, e17_2, e17_5, e17_6, e17_7r, e17_7n, e17_7q, e17_10, e17_11, e17_14, e17_15, e17_18, e17_19, e17_22, e17_23]
  · simp (disch := first | assumption | omega | exact am_isr_ref | exact am_isr_null | exact am_isr_rf | exact am_c1_int | exact am_c1_ref | exact am_c1_null | exact am_c1_rf | exact am_b0 | exact am_b1 | exact RM_obj (by assumption) | (simp only [ne_eq]; done) | exact am_nz2 | exact am_nz3 | exact am_nz6 | exact am_lt (hB _ _) | exact am_lt (stF_lt hB) | exact b32_01) only [h1, if_false, not_false_eq_true, if_true, e17_0, e17_1, e17_2, e17_5, e17_6, e17_7r, e17_7n, e17_7q, e17_10, e17_11, e17_14, e17_15, e17_18, e17_19, e17_22, e17_23]
theorem d17f {x : Int32} (hx : x < 0 ∨ nI 6 ≤ x) (hR : RC g h c X) : am_R (d + 1) 17 0 [some (.ref c), some (.int x), none] [] h Q = Q (some .null) h := by
  have ho := oA0 hR
  simp (disch := first | assumption | omega | exact am_isr_ref | exact am_isr_null | exact am_isr_rf | exact am_c1_int | exact am_c1_ref | exact am_c1_null | exact am_c1_rf | exact am_b0 | exact am_b1 | exact RM_obj (by assumption) | (simp only [ne_eq]; done) | exact am_nz2 | exact am_nz3 | exact am_nz6 | exact am_lt (hB _ _) | exact am_lt (stF_lt hB) | exact b32_01) only [e17_0, e17_1, e17_2, e17_5, e17_6, e17_7r, e17_7n, e17_7q, e17_10, e17_11, e17_14, e17_15, e17_18, e17_19, e17_22, e17_23, d16f hx hR, Option.toList_some, List.cons_append, List.nil_append]
theorem d19t {i : Nat} (hi : i < x_cnt X) (hc : x_cnt X ≤ 200) (hR : RC g h c X) : am_R d 19 0 [some (.ref c), some (.int (nI i))] [] h Q = Q (some (va_rf (x_ta X i))) h := by
  simp (disch := first | assumption | omega | exact am_isr_ref | exact am_isr_null | exact am_isr_rf | exact am_c1_int | exact am_c1_ref | exact am_c1_null | exact am_c1_rf | exact am_b0 | exact am_b1 | exact RM_obj (by assumption) | (simp only [ne_eq]; done) | exact am_nz2 | exact am_nz3 | exact am_nz6 | exact am_lt (hB _ _) | exact am_lt (stF_lt hB) | exact b32_01) only [e19_0, e19_1, e19_4, e19_5, e19_6, e19_9, e19_12, e19_13, e19_14, e19_17, e19_18, e19_21, e19_22, e19_25, e19_26, e19_27, e19_30, e19_31, if_neg (nI_pos (n := i) (show i < 2 ^ 31 by omega)), gA0_3 hR, gA0_4 hR, nA4 hR, if_neg (nI_ge (a := i) (b := 200) (by omega) (by decide)), if_neg (nI_ge (a := i) (b := x_cnt X) hi (by omega)), rA4 hR (show i < 200 by omega)]
theorem d19f {x : Int32} (hx : x < 0 ∨ nI (x_cnt X) ≤ x) (hR : RC g h c X) : am_R d 19 0 [some (.ref c), some (.int x)] [] h Q = Q (some .null) h := by
  by_cases h1 : x < 0
  · simp (disch := first | assumption | omega | exact am_isr_ref | exact am_isr_null | exact am_isr_rf | exact am_c1_int | exact am_c1_ref | exact am_c1_null | exact am_c1_rf | exact am_b0 | exact am_b1 | exact RM_obj (by assumption) | (simp only [ne_eq]; done) | exact am_nz2 | exact am_nz3 | exact am_nz6 | exact am_lt (hB _ _) | exact am_lt (stF_lt hB) | exact b32_01) only [e19_0, e19_1, if_pos h1, e19_30, e19_31]
  · simp (disch := first | assumption | omega | exact am_isr_ref | exact am_isr_null | exact am_isr_rf | exact am_c1_int | exact am_c1_ref | exact am_c1_null | exact am_c1_rf | exact am_b0 | exact am_b1 | exact RM_obj (by assumption) | (simp only [ne_eq]; done) | exact am_nz2 | exact am_nz3 | exact am_nz6 | exact am_lt (hB _ _) | exact am_lt (stF_lt hB) | exact b32_01) only [e19_0, e19_1, e19_4, e19_5, e19_6, e19_9, if_neg h1, gA0_4 hR, if_pos (hx.resolve_left h1), e19_30, e19_31]
theorem d20t {a b : Nat} (ha : a < 6) (hb : b < 6) (hR : RC g h c X) : am_R d 20 0 [some (.ref c), some (.int (nI a)), some (.int (nI b)), none] [] h Q = Q (some (if lkd (6 * a + b) = true then .ref (c + 76 + rk (6 * a + b)) else .null)) h := by
  have hl : 6 * a + b < 36 := by omega
  have e : a * 6 + b = 6 * a + b := by omega
  simp (disch := first | assumption | omega | exact am_isr_ref | exact am_isr_null | exact am_isr_rf | exact am_c1_int | exact am_c1_ref | exact am_c1_null | exact am_c1_rf | exact am_b0 | exact am_b1 | exact RM_obj (by assumption) | (simp only [ne_eq]; done) | exact am_nz2 | exact am_nz3 | exact am_nz6 | exact am_lt (hB _ _) | exact am_lt (stF_lt hB) | exact b32_01) only [e20_0, e20_1, e20_4, e20_5, e20_7, e20_10, e20_11, e20_14, e20_15, e20_17, e20_20, e20_21, e20_22, e20_23, e20_25, e20_26, e20_27, e20_28, e20_29, e20_30, e20_31, e20_34, e20_35, e20_38, e20_39, e20_42, e20_43, e20_44, e20_47, e20_48, if_neg (nI_pos (n := a) (show a < 2 ^ 31 by omega)), if_neg (nI_pos (n := b) (show b < 2 ^ 31 by omega)), if_neg (show ¬ 6 ≤ a by omega), nlt, if_pos hb, pk_mul, nI_add, e, gA0_2 hR, nA3 hR, nle, if_neg (show ¬ 36 ≤ 6 * a + b by omega), rA3 hR hl]
  by_cases h1 : lkd (6 * a + b) = true
  · rw [if_pos h1, if_pos h1]; rfl
  · rw [if_neg h1, if_neg h1]; rfl
theorem d20f {x y : Int32} (hx : (x < 0 ∨ nI 6 ≤ x) ∨ (y < 0 ∨ nI 6 ≤ y)) : am_R d 20 0 [some (.ref c), some (.int x), some (.int y), none] [] h Q = Q (some .null) h := by
  by_cases h1 : x < 0
  · simp (disch := first | assumption | omega | exact am_isr_ref | exact am_isr_null | exact am_isr_rf | exact am_c1_int | exact am_c1_ref | exact am_c1_null | exact am_c1_rf | exact am_b0 | exact am_b1 | exact RM_obj (by assumption) | (simp only [ne_eq]; done) | exact am_nz2 | exact am_nz3 | exact am_nz6 | exact am_lt (hB _ _) | exact am_lt (stF_lt hB) | exact b32_01) only [e20_0, e20_1, if_pos h1, e20_20, e20_21]
  · by_cases h2 : nI 6 ≤ x
    · simp (disch := first | assumption | omega | exact am_isr_ref | exact am_isr_null | exact am_isr_rf | exact am_c1_int | exact am_c1_ref | exact am_c1_null | exact am_c1_rf | exact am_b0 | exact am_b1 | exact RM_obj (by assumption) | (simp only [ne_eq]; done) | exact am_nz2 | exact am_nz3 | exact am_nz6 | exact am_lt (hB _ _) | exact am_lt (stF_lt hB) | exact b32_01) only [e20_0, e20_1, e20_4, e20_5, e20_7, if_neg h1, if_pos h2, e20_20, e20_21]
    · by_cases h3 : y < 0
      · simp (disch := first | assumption | omega | exact am_isr_ref | exact am_isr_null | exact am_isr_rf | exact am_c1_int | exact am_c1_ref | exact am_c1_null | exact am_c1_rf | exact am_b0 | exact am_b1 | exact RM_obj (by assumption) | (simp only [ne_eq]; done) | exact am_nz2 | exact am_nz3 | exact am_nz6 | exact am_lt (hB _ _) | exact am_lt (stF_lt hB) | exact b32_01) only [e20_0, e20_1, e20_4, e20_5, e20_7, e20_10, e20_11, if_neg h1, if_neg h2, if_pos h3, e20_20, e20_21]
      · have h4 : nI 6 ≤ y := by
          rcases hx with (h | h) | (h | h)
          · exact absurd h h1
          · exact absurd h h2
          · exact absurd h h3
          · exact h
        have h5 : ¬ y < nI 6 := Int32.not_lt.mpr h4
        simp (disch := first | assumption | omega | exact am_isr_ref | exact am_isr_null | exact am_isr_rf | exact am_c1_int | exact am_c1_ref | exact am_c1_null | exact am_c1_rf | exact am_b0 | exact am_b1 | exact RM_obj (by assumption) | (simp only [ne_eq]; done) | exact am_nz2 | exact am_nz3 | exact am_nz6 | exact am_lt (hB _ _) | exact am_lt (stF_lt hB) | exact b32_01) only [e20_0, e20_1, e20_4, e20_5, e20_7, e20_10, e20_11, e20_14, e20_15, e20_17, if_neg h1, if_neg h2, if_neg h3, if_neg h5, e20_20, e20_21]
theorem d24 {a b : Nat} (ha : a < 6) (hb : b < 6) : am_R d 24 0 [some (.int (nI a)), some (.int (nI b)), none, none] [] h Q = Q (some (.int (b32 (lkd (6 * a + b) = true)))) h := by
  have hl : (lkd (6 * a + b) = true) = lkF a b := by
    unfold lkd
    rw [Bool.and_eq_true, decide_eq_true_eq, decide_eq_true_eq, show (6 * a + b) / 6 = a by omega, show (6 * a + b) % 6 = b by omega]
    exact propext ⟨fun q => q.2, fun q => ⟨by omega, q⟩⟩
  have ra := pk_rem (a := a) (d := 2) (by omega) (by decide) (by decide)
  have rb := pk_rem (a := b) (d := 2) (by omega) (by decide) (by decide)
  simp (disch := first | assumption | omega | exact am_isr_ref | exact am_isr_null | exact am_isr_rf | exact am_c1_int | exact am_c1_ref | exact am_c1_null | exact am_c1_rf | exact am_b0 | exact am_b1 | exact RM_obj (by assumption) | (simp only [ne_eq]; done) | exact am_nz2 | exact am_nz3 | exact am_nz6 | exact am_lt (hB _ _) | exact am_lt (stF_lt hB) | exact b32_01) only [e24_0, e24_1, e24_2, e24_3, e24_4, e24_5, e24_6, pk_div (a := a) (d := 2) (by omega) (by decide) (by decide), pk_div (a := b) (d := 2) (by omega) (by decide) (by decide), nq]
  by_cases h1 : a / 2 = b / 2
  · rw [if_neg (fun q => q h1)]
    simp (disch := first | assumption | omega | exact am_isr_ref | exact am_isr_null | exact am_isr_rf | exact am_c1_int | exact am_c1_ref | exact am_c1_null | exact am_c1_rf | exact am_b0 | exact am_b1 | exact RM_obj (by assumption) | (simp only [ne_eq]; done) | exact am_nz2 | exact am_nz3 | exact am_nz6 | exact am_lt (hB _ _) | exact am_lt (stF_lt hB) | exact b32_01) only [e24_9, e24_10, e24_13, e24_14, e24_15, e24_16, e24_17, e24_18, e24_19, e24_20, e24_21, ra, rb, nq]
    by_cases h2 : a % 2 = b % 2
    · rw [if_neg (fun q => q h2)]
      simp (disch := first | assumption | omega | exact am_isr_ref | exact am_isr_null | exact am_isr_rf | exact am_c1_int | exact am_c1_ref | exact am_c1_null | exact am_c1_rf | exact am_b0 | exact am_b1 | exact RM_obj (by assumption) | (simp only [ne_eq]; done) | exact am_nz2 | exact am_nz3 | exact am_nz6 | exact am_lt (hB _ _) | exact am_lt (stF_lt hB) | exact b32_01) only [e24_24, e24_25, e24_28, e24_29, e24_30, e24_31, e24_32, e24_35, e24_36, e24_39, e24_40, if_true]
      rw [b32_f (by rw [hl]; unfold lkF; omega)]
    · rw [if_pos h2]
      simp (disch := first | assumption | omega | exact am_isr_ref | exact am_isr_null | exact am_isr_rf | exact am_c1_int | exact am_c1_ref | exact am_c1_null | exact am_c1_rf | exact am_b0 | exact am_b1 | exact RM_obj (by assumption) | (simp only [ne_eq]; done) | exact am_nz2 | exact am_nz3 | exact am_nz6 | exact am_lt (hB _ _) | exact am_lt (stF_lt hB) | exact b32_01) only [e24_28, e24_29, e24_30, e24_31, e24_32, e24_35, e24_36, e24_39, e24_40, if_neg (show ¬ nI 1 = nI 0 by decide)]
      rw [b32_t (by rw [hl]; unfold lkF; omega)]
  · rw [if_pos h1]
    simp (disch := first | assumption | omega | exact am_isr_ref | exact am_isr_null | exact am_isr_rf | exact am_c1_int | exact am_c1_ref | exact am_c1_null | exact am_c1_rf | exact am_b0 | exact am_b1 | exact RM_obj (by assumption) | (simp only [ne_eq]; done) | exact am_nz2 | exact am_nz3 | exact am_nz6 | exact am_lt (hB _ _) | exact am_lt (stF_lt hB) | exact b32_01) only [e24_13, e24_14, e24_15, e24_16, e24_17, e24_18, e24_19, e24_20, e24_21, ra, rb, nq]
    by_cases h2 : a % 2 = b % 2
    · rw [if_neg (fun q => q h2)]
      simp (disch := first | assumption | omega | exact am_isr_ref | exact am_isr_null | exact am_isr_rf | exact am_c1_int | exact am_c1_ref | exact am_c1_null | exact am_c1_rf | exact am_b0 | exact am_b1 | exact RM_obj (by assumption) | (simp only [ne_eq]; done) | exact am_nz2 | exact am_nz3 | exact am_nz6 | exact am_lt (hB _ _) | exact am_lt (stF_lt hB) | exact b32_01) only [e24_24, e24_25, e24_28, e24_29, e24_30, e24_31, e24_32, e24_35, e24_36, e24_39, e24_40, if_neg (show ¬ nI 0 = nI 1 by decide)]
      rw [b32_t (by rw [hl]; unfold lkF; omega)]
    · rw [if_pos h2]
      simp (disch := first | assumption | omega | exact am_isr_ref | exact am_isr_null | exact am_isr_rf | exact am_c1_int | exact am_c1_ref | exact am_c1_null | exact am_c1_rf | exact am_b0 | exact am_b1 | exact RM_obj (by assumption) | (simp only [ne_eq]; done) | exact am_nz2 | exact am_nz3 | exact am_nz6 | exact am_lt (hB _ _) | exact am_lt (stF_lt hB) | exact b32_01) only [e24_28, e24_29, e24_30, e24_31, e24_32, e24_35, e24_36, e24_39, e24_40, if_true]
      rw [b32_f (by rw [hl]; unfold lkF; omega)]
theorem d37t {i k : Nat} (hi : i < 6) (hk : k < 8) (hR : RC g h c X) : am_R (d + 1) 37 0 [some (.ref (c + 2 + 6 * i)), some (.int (nI k))] [] h Q = Q (some (va_rf (x_ow X i k))) h := by
  simp (disch := first | assumption | omega | exact am_isr_ref | exact am_isr_null | exact am_isr_rf | exact am_c1_int | exact am_c1_ref | exact am_c1_null | exact am_c1_rf | exact am_b0 | exact am_b1 | exact RM_obj (by assumption) | (simp only [ne_eq]; done) | exact am_nz2 | exact am_nz3 | exact am_nz6 | exact am_lt (hB _ _) | exact am_lt (stF_lt hB) | exact b32_01) only [e37_0, e37_1, e37_4, e37_7, e37_8, e37_11, e37_12, e37_13, e37_16, e37_17, d22t hk, Option.toList_some, List.cons_append, List.nil_append, if_neg (show ¬ nI 1 = 0 by decide), gC0_2 hi hR, rC2 hi hR hk]
theorem l38 {i : Nat} (hi : i < 6) (hR : RC g h c X) : ∀ t k, k + t = 8 → am_R d 38 4 [some (.ref (c + 2 + 6 * i)), some (.int (nI (cntF (fun j => (x_ow X i j).isSome) k))), some (.int (nI k))] [] h Q = Q (some (.int (nI (cntF (fun j => (x_ow X i j).isSome) 8)))) h := by
  intro t
  induction t with
  | zero =>
    intro k hk
    obtain rfl : k = 8 := by omega
    simp (disch := first | assumption | omega | exact am_isr_ref | exact am_isr_null | exact am_isr_rf | exact am_c1_int | exact am_c1_ref | exact am_c1_null | exact am_c1_rf | exact am_b0 | exact am_b1 | exact RM_obj (by assumption) | (simp only [ne_eq]; done) | exact am_nz2 | exact am_nz3 | exact am_nz6 | exact am_lt (hB _ _) | exact am_lt (stF_lt hB) | exact b32_01) only [e38_4, e38_5, e38_7, e38_28, e38_29, nle, if_true, Nat.le_refl]
  | succ t ih =>
    intro k hk
    have hk8 : k < 8 := by omega
    have ih := ih (k + 1) (by omega)
    rw [cntF] at ih
    rw [e38_4]
    cases ho : x_ow X i k with
    | none =>
      simp only [ho, Option.isSome_none, Bool.false_eq_true, if_false] at ih
      simp (disch := first | assumption | omega | exact am_isr_ref | exact am_isr_null | exact am_isr_rf | exact am_c1_int | exact am_c1_ref | exact am_c1_null | exact am_c1_rf | exact am_b0 | exact am_b1 | exact RM_obj (by assumption) | (simp only [ne_eq]; done) | exact am_nz2 | exact am_nz3 | exact am_nz6 | exact am_lt (hB _ _) | exact am_lt (stF_lt hB) | exact b32_01) only [e38_0, e38_1, e38_2, e38_3, e38_5, e38_7, e38_10, e38_11, e38_14, e38_15, e38_16r, e38_16n, e38_16q, e38_19, e38_22, e38_25, e38_28, e38_29, nle, if_neg (show ¬ 8 ≤ k by omega), gC0_2 hi hR, rC2 hi hR hk8, ho, va_rf, nI_add]
      exact ih
    | some a =>
      simp only [ho, Option.isSome_some, if_true] at ih
      simp (disch := first | assumption | omega | exact am_isr_ref | exact am_isr_null | exact am_isr_rf | exact am_c1_int | exact am_c1_ref | exact am_c1_null | exact am_c1_rf | exact am_b0 | exact am_b1 | exact RM_obj (by assumption) | (simp only [ne_eq]; done) | exact am_nz2 | exact am_nz3 | exact am_nz6 | exact am_lt (hB _ _) | exact am_lt (stF_lt hB) | exact b32_01) only [e38_0, e38_1, e38_2, e38_3, e38_5, e38_7, e38_10, e38_11, e38_14, e38_15, e38_16r, e38_16n, e38_16q, e38_19, e38_22, e38_25, e38_28, e38_29, nle, if_neg (show ¬ 8 ≤ k by omega), gC0_2 hi hR, rC2 hi hR hk8, ho, va_rf, nI_add]
      exact ih
theorem d38 {i : Nat} (hi : i < 6) (hR : RC g h c X) : am_R d 38 0 [some (.ref (c + 2 + 6 * i)), none, none] [] h Q = Q (some (.int (nI (cntF (fun j => (x_ow X i j).isSome) 8)))) h := by
  rw [e38_0, e38_1, e38_2, e38_3]
  exact l38 hi hR 8 0 rfl
theorem d45 {s : Nat} (hs : s < 6) (hR : RC g h c X) : am_R d 45 0 [some (.ref (c + 39 + 6 * s))] [] h Q = Q (some (.int (nI (if s % 2 = 0 then s + 1 else s - 1)))) h := by
  have h2 : s % 2 < 2 := Nat.mod_lt _ (by decide)
  simp (disch := first | assumption | omega | exact am_isr_ref | exact am_isr_null | exact am_isr_rf | exact am_c1_int | exact am_c1_ref | exact am_c1_null | exact am_c1_rf | exact am_b0 | exact am_b1 | exact RM_obj (by assumption) | (simp only [ne_eq]; done) | exact am_nz2 | exact am_nz3 | exact am_nz6 | exact am_lt (hB _ _) | exact am_lt (stF_lt hB) | exact b32_01) only [e45_0, e45_1, e45_4, e45_5, e45_6, e45_9, e45_10, e45_13, e45_14, e45_15, e45_18, e45_19, e45_22, e45_23, e45_24, gV0_0 hs hR, pk_rem (a := s) (d := 2) (by omega) (by decide) (by decide), n0_b h2, nI_add]
  by_cases h1 : s % 2 = 1
  · rw [if_neg (show ¬ s % 2 = 0 by omega)]
    simp (disch := first | assumption | omega | exact am_isr_ref | exact am_isr_null | exact am_isr_rf | exact am_c1_int | exact am_c1_ref | exact am_c1_null | exact am_c1_rf | exact am_b0 | exact am_b1 | exact RM_obj (by assumption) | (simp only [ne_eq]; done) | exact am_nz2 | exact am_nz3 | exact am_nz6 | exact am_lt (hB _ _) | exact am_lt (stF_lt hB) | exact b32_01) only [h1, not_true_eq_false, not_false_eq_true, if_false, if_true, pk_sub (a := s) (b := 1) (by omega)]
  · rw [if_pos (show s % 2 = 0 by omega)]
    simp (disch := first | assumption | omega | exact am_isr_ref | exact am_isr_null | exact am_isr_rf | exact am_c1_int | exact am_c1_ref | exact am_c1_null | exact am_c1_rf | exact am_b0 | exact am_b1 | exact RM_obj (by assumption) | (simp only [ne_eq]; done) | exact am_nz2 | exact am_nz3 | exact am_nz6 | exact am_lt (hB _ _) | exact am_lt (stF_lt hB) | exact b32_01) only [h1, not_true_eq_false, not_false_eq_true, if_false, if_true]
theorem nI_min {a b : Nat} (ha : a < 2 ^ 31) (hb : b < 2 ^ 31) : (if nI b < nI a then nI b else nI a) = nI (min a b) := by
  by_cases h1 : b < a
  · rw [if_pos ((nI_ltI hb ha).mpr h1), Nat.min_eq_right (by omega)]
  · rw [if_neg (fun q => h1 ((nI_ltI hb ha).mp q)), Nat.min_eq_left (by omega)]
theorem nI_max {a b : Nat} (ha : a < 2 ^ 31) (hb : b < 2 ^ 31) : (if nI a < nI b then nI b else nI a) = nI (max a b) := by
  by_cases h1 : a < b
  · rw [if_pos ((nI_ltI ha hb).mpr h1), Nat.max_eq_right (by omega)]
  · rw [if_neg (fun q => h1 ((nI_ltI ha hb).mp q)), Nat.max_eq_left (by omega)]
theorem d46 {s p : Nat} (hs : s < 6) (hp : p < 3) (hR : RC g h c X) (hk : x_kn X s p < 1000000) (hd : x_hd X s p < 1000000) : am_R (d + 1) 46 0 [some (.ref (c + 39 + 6 * s)), some (.int (nI p))] [] h Q = Q (some (.int (nI (min (x_kn X s p) (x_hd X s p))))) h := by
  simp (disch := first | assumption | omega | exact am_isr_ref | exact am_isr_null | exact am_isr_rf | exact am_c1_int | exact am_c1_ref | exact am_c1_null | exact am_c1_rf | exact am_b0 | exact am_b1 | exact RM_obj (by assumption) | (simp only [ne_eq]; done) | exact am_nz2 | exact am_nz3 | exact am_nz6 | exact am_lt (hB _ _) | exact am_lt (stF_lt hB) | exact b32_01) only [e46_0, e46_1, e46_4, e46_5, e46_8, e46_9, e46_12, e46_13, e46_16, e46_19, gV0_2 hs hR, gV0_3 hs hR, d25t (kV1 hR s hs) (by decide) hp, d25t (kV2 hR s hs) (by decide) hp, Option.toList_some, List.cons_append, List.nil_append]
  rw [nI_min (by omega) (by omega)]
end CT
