/-! the law's calls, one by one -/
section LC
variable {d c b L k : Nat} {xs : Nat → Int32} {h : aH} {Q : Option Value → aH → Prop}
theorem kz0 (hL : L ≤ 2048) (hk : 4 * k + 4 ≤ L) (hW : LWx c b L xs k h) (hn : ∀ h2, LWx c b L xs (k + 1) h2 → am_R (d + 20) 0 546 [some (.ref b), some (.ref c), some (.ref (c + 95)), some (.int (nI (4 * k)))] [] h2 Q) : am_R (d + 20) 0 104 [some (.ref b), some (.ref c), some (.ref (c + 95)), some (.int (nI (4 * k)))] [] h Q := by
  obtain ⟨S, X, T, K, LL, tg, pa, pl, P, hW0, hSS, hSC, hSL, hI, r1, r2⟩ := hW
  have hk5 : k + 1 ≤ 512 := by omega
  have fx := INV_fx hk5 hI
  have hIb : INV S (k + 1) 1000 := INV_b (by omega) hI
  have hR := hW0.1
  have hm := fx.hm
  have ho := oA0 hR
  have hsc : h.2.2 b = some (.inl (9, L, .inl xs)) := hW0.2.2.2.1
  have rd : ∀ (h1 : aH), h1.2.2 b = some (.inl (9, L, .inl xs)) → ∀ i, i < L → ∀ F : Int32 → Prop, am_ga h1 b (nI i) F = F (xs i) := fun h1 e i hi F => by
    rw [am_ga_of e (Or.inr rfl) (am_in_nI hi (by omega)), nI_clamp (by omega)]
  have d1 := rd h hsc (4 * k + 1) (by omega)
  have d2' := rd h hsc (4 * k + 2) (by omega)
  have d3' := rd h hsc (4 * k + 3) (by omega)
  rcases pk_ix (xs (4 * k + 1)) (n := 6) (by omega) with hx | hx | ⟨i, hi, hx⟩
  · have hc : xs (4 * k + 1) < 0 ∨ nI 6 ≤ xs (4 * k + 1) := Or.inl hx
    simp (disch := first | assumption | omega | exact am_isr_ref | exact am_isr_null | exact am_isr_rf | exact am_c1_int | exact am_c1_ref | exact am_c1_null | exact am_c1_rf | exact am_b0 | exact am_b1 | exact RM_obj (by assumption) | (simp only [ne_eq]; done) | exact am_nz2 | exact am_nz3 | exact am_nz6 | exact am_lt (hB _ _) | exact am_lt (stF_lt hB) | exact b32_01) only [e0_104, e0_105, e0_106, e0_107, e0_108, e0_109, e0_110, nI_add, d1, d2', d3', Option.toList_some, Option.toList_none, List.cons_append, List.nil_append]
    refine d2f hc hR ?_
    obtain ⟨hb1, g, hM, hfin, hbk⟩ := toMod hW0 r1 r2 hR (by omega) (by omega) hSS hSC hSL hIb
    simp (disch := first | assumption | omega | exact am_isr_ref | exact am_isr_null | exact am_isr_rf | exact am_c1_int | exact am_c1_ref | exact am_c1_null | exact am_c1_rf | exact am_b0 | exact am_b1 | exact RM_obj (by assumption) | exact MS_obj (by assumption) | (simp only [ne_eq]; done) | exact am_nz2 | exact am_nz3 | exact am_nz6 | exact am_lt (hB _ _) | exact am_lt (stF_lt hB) | exact b32_01) only [e0_113, e0_114, e0_115, e0_116, e0_117, e0_118, e0_119, nI_add, rd _ hb1 (4 * k + 1) (by omega), rd _ hb1 (4 * k + 2) (by omega), rd _ hb1 (4 * k + 3) (by omega), Option.toList_some, Option.toList_none, List.cons_append, List.nil_append]
    refine c94f hc ?_
    simp (disch := first | assumption | omega | exact am_isr_ref | exact am_isr_null | exact am_isr_rf | exact am_c1_int | exact am_c1_ref | exact am_c1_null | exact am_c1_rf | exact am_b0 | exact am_b1 | exact RM_obj (by assumption) | exact MS_obj (by assumption) | (simp only [ne_eq]; done) | exact am_nz2 | exact am_nz3 | exact am_nz6 | exact am_lt (hB _ _) | exact am_lt (stF_lt hB) | exact b32_01) only [e0_122, Option.toList_some, Option.toList_none, List.cons_append, List.nil_append, if_true]
    exact hn h (hfin h pl GR_rf hM)
  · have hc : xs (4 * k + 1) < 0 ∨ nI 6 ≤ xs (4 * k + 1) := Or.inr hx
    simp (disch := first | assumption | omega | exact am_isr_ref | exact am_isr_null | exact am_isr_rf | exact am_c1_int | exact am_c1_ref | exact am_c1_null | exact am_c1_rf | exact am_b0 | exact am_b1 | exact RM_obj (by assumption) | (simp only [ne_eq]; done) | exact am_nz2 | exact am_nz3 | exact am_nz6 | exact am_lt (hB _ _) | exact am_lt (stF_lt hB) | exact b32_01) only [e0_104, e0_105, e0_106, e0_107, e0_108, e0_109, e0_110, nI_add, d1, d2', d3', Option.toList_some, Option.toList_none, List.cons_append, List.nil_append]
    refine d2f hc hR ?_
    obtain ⟨hb1, g, hM, hfin, hbk⟩ := toMod hW0 r1 r2 hR (by omega) (by omega) hSS hSC hSL hIb
    simp (disch := first | assumption | omega | exact am_isr_ref | exact am_isr_null | exact am_isr_rf | exact am_c1_int | exact am_c1_ref | exact am_c1_null | exact am_c1_rf | exact am_b0 | exact am_b1 | exact RM_obj (by assumption) | exact MS_obj (by assumption) | (simp only [ne_eq]; done) | exact am_nz2 | exact am_nz3 | exact am_nz6 | exact am_lt (hB _ _) | exact am_lt (stF_lt hB) | exact b32_01) only [e0_113, e0_114, e0_115, e0_116, e0_117, e0_118, e0_119, nI_add, rd _ hb1 (4 * k + 1) (by omega), rd _ hb1 (4 * k + 2) (by omega), rd _ hb1 (4 * k + 3) (by omega), Option.toList_some, Option.toList_none, List.cons_append, List.nil_append]
    refine c94f hc ?_
    simp (disch := first | assumption | omega | exact am_isr_ref | exact am_isr_null | exact am_isr_rf | exact am_c1_int | exact am_c1_ref | exact am_c1_null | exact am_c1_rf | exact am_b0 | exact am_b1 | exact RM_obj (by assumption) | exact MS_obj (by assumption) | (simp only [ne_eq]; done) | exact am_nz2 | exact am_nz3 | exact am_nz6 | exact am_lt (hB _ _) | exact am_lt (stF_lt hB) | exact b32_01) only [e0_122, Option.toList_some, Option.toList_none, List.cons_append, List.nil_append, if_true]
    exact hn h (hfin h pl GR_rf hM)
  · simp (disch := first | assumption | omega | exact am_isr_ref | exact am_isr_null | exact am_isr_rf | exact am_c1_int | exact am_c1_ref | exact am_c1_null | exact am_c1_rf | exact am_b0 | exact am_b1 | exact RM_obj (by assumption) | (simp only [ne_eq]; done) | exact am_nz2 | exact am_nz3 | exact am_nz6 | exact am_lt (hB _ _) | exact am_lt (stF_lt hB) | exact b32_01) only [e0_104, e0_105, e0_106, e0_107, e0_108, e0_109, e0_110, nI_add, d1, d2', d3', Option.toList_some, Option.toList_none, List.cons_append, List.nil_append, hx]
    refine d2 hi hm fx.hB fx.h97 (fun j n hj hn => (fx.hO _ n (by omega) hn).1) (fx.h190 i) (fx.h15 i) hR hSS hSC hSL (fun h1 X1 K1 LL1 tg1 s1 s0 s2 q1 q2 q3 q4 _ => ?_)
    obtain ⟨hb1, g, hM, hfin, hbk⟩ := toMod hW0 r1 r2 q1 (by omega) (by omega) q2 q3 q4 (by
      by_cases e : S.2.1 15 i = 0
      · rw [if_pos e]; exact INV_b (by omega) (INV_start e hI)
      · rw [if_neg e]; exact hIb)
    simp (disch := first | assumption | omega | exact am_isr_ref | exact am_isr_null | exact am_isr_rf | exact am_c1_int | exact am_c1_ref | exact am_c1_null | exact am_c1_rf | exact am_b0 | exact am_b1 | exact RM_obj (by assumption) | exact MS_obj (by assumption) | (simp only [ne_eq]; done) | exact am_nz2 | exact am_nz3 | exact am_nz6 | exact am_lt (hB _ _) | exact am_lt (stF_lt hB) | exact b32_01) only [e0_113, e0_114, e0_115, e0_116, e0_117, e0_118, e0_119, nI_add, rd _ hb1 (4 * k + 1) (by omega), rd _ hb1 (4 * k + 2) (by omega), rd _ hb1 (4 * k + 3) (by omega), Option.toList_some, Option.toList_none, List.cons_append, List.nil_append, hx]
    refine c94 hi hM fx.hW (fun h2 gr hM2 => ?_)
    simp (disch := first | assumption | omega | exact am_isr_ref | exact am_isr_null | exact am_isr_rf | exact am_c1_int | exact am_c1_ref | exact am_c1_null | exact am_c1_rf | exact am_b0 | exact am_b1 | exact RM_obj (by assumption) | exact MS_obj (by assumption) | (simp only [ne_eq]; done) | exact am_nz2 | exact am_nz3 | exact am_nz6 | exact am_lt (hB _ _) | exact am_lt (stF_lt hB) | exact b32_01) only [e0_122, Option.toList_some, Option.toList_none, List.cons_append, List.nil_append, if_true]
    exact hn h2 (hfin h2 pl gr hM2)

theorem kz2 (hL : L ≤ 2048) (hk : 4 * k + 4 ≤ L) (hW : LWx c b L xs k h) (hn : ∀ h2, LWx c b L xs (k + 1) h2 → am_R (d + 20) 0 546 [some (.ref b), some (.ref c), some (.ref (c + 95)), some (.int (nI (4 * k)))] [] h2 Q) : am_R (d + 20) 0 160 [some (.ref b), some (.ref c), some (.ref (c + 95)), some (.int (nI (4 * k)))] [] h Q := by
  obtain ⟨S, X, T, K, LL, tg, pa, pl, P, hW0, hSS, hSC, hSL, hI, r1, r2⟩ := hW
  have hk5 : k + 1 ≤ 512 := by omega
  have fx := INV_fx hk5 hI
  have hIb : INV S (k + 1) 1000 := INV_b (by omega) hI
  have hR := hW0.1
  have hm := fx.hm
  have ho := oA0 hR
  have hsc : h.2.2 b = some (.inl (9, L, .inl xs)) := hW0.2.2.2.1
  have rd : ∀ (h1 : aH), h1.2.2 b = some (.inl (9, L, .inl xs)) → ∀ i, i < L → ∀ F : Int32 → Prop, am_ga h1 b (nI i) F = F (xs i) := fun h1 e i hi F => by
    rw [am_ga_of e (Or.inr rfl) (am_in_nI hi (by omega)), nI_clamp (by omega)]
  have d1 := rd h hsc (4 * k + 1) (by omega)
  have d2' := rd h hsc (4 * k + 2) (by omega)
  have d3' := rd h hsc (4 * k + 3) (by omega)
  rcases pk_ix (xs (4 * k + 1)) (n := 6) (by omega) with hx | hx | ⟨i, hi, hx⟩
  · have hc : xs (4 * k + 1) < 0 ∨ nI 6 ≤ xs (4 * k + 1) := Or.inl hx
    simp (disch := first | assumption | omega | exact am_isr_ref | exact am_isr_null | exact am_isr_rf | exact am_c1_int | exact am_c1_ref | exact am_c1_null | exact am_c1_rf | exact am_b0 | exact am_b1 | exact RM_obj (by assumption) | (simp only [ne_eq]; done) | exact am_nz2 | exact am_nz3 | exact am_nz6 | exact am_lt (hB _ _) | exact am_lt (stF_lt hB) | exact b32_01) only [e0_160, e0_161, e0_162, e0_163, e0_164, e0_165, e0_166, nI_add, d1, d2', d3', Option.toList_some, Option.toList_none, List.cons_append, List.nil_append]
    refine d4f hc hR ?_
    obtain ⟨hb1, g, hM, hfin, hbk⟩ := toMod hW0 r1 r2 hR (by omega) (by omega) hSS hSC hSL hIb
    simp (disch := first | assumption | omega | exact am_isr_ref | exact am_isr_null | exact am_isr_rf | exact am_c1_int | exact am_c1_ref | exact am_c1_null | exact am_c1_rf | exact am_b0 | exact am_b1 | exact RM_obj (by assumption) | exact MS_obj (by assumption) | (simp only [ne_eq]; done) | exact am_nz2 | exact am_nz3 | exact am_nz6 | exact am_lt (hB _ _) | exact am_lt (stF_lt hB) | exact b32_01) only [e0_169, e0_170, e0_171, e0_172, e0_173, e0_174, e0_175, nI_add, rd _ hb1 (4 * k + 1) (by omega), rd _ hb1 (4 * k + 2) (by omega), rd _ hb1 (4 * k + 3) (by omega), Option.toList_some, Option.toList_none, List.cons_append, List.nil_append]
    refine c96f hc ?_
    simp (disch := first | assumption | omega | exact am_isr_ref | exact am_isr_null | exact am_isr_rf | exact am_c1_int | exact am_c1_ref | exact am_c1_null | exact am_c1_rf | exact am_b0 | exact am_b1 | exact RM_obj (by assumption) | exact MS_obj (by assumption) | (simp only [ne_eq]; done) | exact am_nz2 | exact am_nz3 | exact am_nz6 | exact am_lt (hB _ _) | exact am_lt (stF_lt hB) | exact b32_01) only [e0_178, Option.toList_some, Option.toList_none, List.cons_append, List.nil_append, if_true]
    exact hn h (hfin h pl GR_rf hM)
  · have hc : xs (4 * k + 1) < 0 ∨ nI 6 ≤ xs (4 * k + 1) := Or.inr hx
    simp (disch := first | assumption | omega | exact am_isr_ref | exact am_isr_null | exact am_isr_rf | exact am_c1_int | exact am_c1_ref | exact am_c1_null | exact am_c1_rf | exact am_b0 | exact am_b1 | exact RM_obj (by assumption) | (simp only [ne_eq]; done) | exact am_nz2 | exact am_nz3 | exact am_nz6 | exact am_lt (hB _ _) | exact am_lt (stF_lt hB) | exact b32_01) only [e0_160, e0_161, e0_162, e0_163, e0_164, e0_165, e0_166, nI_add, d1, d2', d3', Option.toList_some, Option.toList_none, List.cons_append, List.nil_append]
    refine d4f hc hR ?_
    obtain ⟨hb1, g, hM, hfin, hbk⟩ := toMod hW0 r1 r2 hR (by omega) (by omega) hSS hSC hSL hIb
    simp (disch := first | assumption | omega | exact am_isr_ref | exact am_isr_null | exact am_isr_rf | exact am_c1_int | exact am_c1_ref | exact am_c1_null | exact am_c1_rf | exact am_b0 | exact am_b1 | exact RM_obj (by assumption) | exact MS_obj (by assumption) | (simp only [ne_eq]; done) | exact am_nz2 | exact am_nz3 | exact am_nz6 | exact am_lt (hB _ _) | exact am_lt (stF_lt hB) | exact b32_01) only [e0_169, e0_170, e0_171, e0_172, e0_173, e0_174, e0_175, nI_add, rd _ hb1 (4 * k + 1) (by omega), rd _ hb1 (4 * k + 2) (by omega), rd _ hb1 (4 * k + 3) (by omega), Option.toList_some, Option.toList_none, List.cons_append, List.nil_append]
    refine c96f hc ?_
    simp (disch := first | assumption | omega | exact am_isr_ref | exact am_isr_null | exact am_isr_rf | exact am_c1_int | exact am_c1_ref | exact am_c1_null | exact am_c1_rf | exact am_b0 | exact am_b1 | exact RM_obj (by assumption) | exact MS_obj (by assumption) | (simp only [ne_eq]; done) | exact am_nz2 | exact am_nz3 | exact am_nz6 | exact am_lt (hB _ _) | exact am_lt (stF_lt hB) | exact b32_01) only [e0_178, Option.toList_some, Option.toList_none, List.cons_append, List.nil_append, if_true]
    exact hn h (hfin h pl GR_rf hM)
  · simp (disch := first | assumption | omega | exact am_isr_ref | exact am_isr_null | exact am_isr_rf | exact am_c1_int | exact am_c1_ref | exact am_c1_null | exact am_c1_rf | exact am_b0 | exact am_b1 | exact RM_obj (by assumption) | (simp only [ne_eq]; done) | exact am_nz2 | exact am_nz3 | exact am_nz6 | exact am_lt (hB _ _) | exact am_lt (stF_lt hB) | exact b32_01) only [e0_160, e0_161, e0_162, e0_163, e0_164, e0_165, e0_166, nI_add, d1, d2', d3', Option.toList_some, Option.toList_none, List.cons_append, List.nil_append, hx]
    refine d4 hi hR hSC ?_
    obtain ⟨hb1, g, hM, hfin, hbk⟩ := toMod hW0 r1 r2 hR (by omega) (by omega) hSS hSC hSL hIb
    simp (disch := first | assumption | omega | exact am_isr_ref | exact am_isr_null | exact am_isr_rf | exact am_c1_int | exact am_c1_ref | exact am_c1_null | exact am_c1_rf | exact am_b0 | exact am_b1 | exact RM_obj (by assumption) | exact MS_obj (by assumption) | (simp only [ne_eq]; done) | exact am_nz2 | exact am_nz3 | exact am_nz6 | exact am_lt (hB _ _) | exact am_lt (stF_lt hB) | exact b32_01) only [e0_169, e0_170, e0_171, e0_172, e0_173, e0_174, e0_175, nI_add, rd _ hb1 (4 * k + 1) (by omega), rd _ hb1 (4 * k + 2) (by omega), rd _ hb1 (4 * k + 3) (by omega), Option.toList_some, Option.toList_none, List.cons_append, List.nil_append, hx]
    refine c96 hi hM ?_
    simp (disch := first | assumption | omega | exact am_isr_ref | exact am_isr_null | exact am_isr_rf | exact am_c1_int | exact am_c1_ref | exact am_c1_null | exact am_c1_rf | exact am_b0 | exact am_b1 | exact RM_obj (by assumption) | exact MS_obj (by assumption) | (simp only [ne_eq]; done) | exact am_nz2 | exact am_nz3 | exact am_nz6 | exact am_lt (hB _ _) | exact am_lt (stF_lt hB) | exact b32_01) only [e0_178, Option.toList_some, Option.toList_none, List.cons_append, List.nil_append, if_true]
    exact hn h (hfin h pl GR_rf hM)

theorem kz4 (hL : L ≤ 2048) (hk : 4 * k + 4 ≤ L) (hW : LWx c b L xs k h) (hn : ∀ h2, LWx c b L xs (k + 1) h2 → am_R (d + 20) 0 546 [some (.ref b), some (.ref c), some (.ref (c + 95)), some (.int (nI (4 * k)))] [] h2 Q) : am_R (d + 20) 0 226 [some (.ref b), some (.ref c), some (.ref (c + 95)), some (.int (nI (4 * k)))] [] h Q := by
  obtain ⟨S, X, T, K, LL, tg, pa, pl, P, hW0, hSS, hSC, hSL, hI, r1, r2⟩ := hW
  have hk5 : k + 1 ≤ 512 := by omega
  have fx := INV_fx hk5 hI
  have hIb : INV S (k + 1) 1000 := INV_b (by omega) hI
  have hR := hW0.1
  have hm := fx.hm
  have ho := oA0 hR
  have hsc : h.2.2 b = some (.inl (9, L, .inl xs)) := hW0.2.2.2.1
  have rd : ∀ (h1 : aH), h1.2.2 b = some (.inl (9, L, .inl xs)) → ∀ i, i < L → ∀ F : Int32 → Prop, am_ga h1 b (nI i) F = F (xs i) := fun h1 e i hi F => by
    rw [am_ga_of e (Or.inr rfl) (am_in_nI hi (by omega)), nI_clamp (by omega)]
  have d1 := rd h hsc (4 * k + 1) (by omega)
  have d2' := rd h hsc (4 * k + 2) (by omega)
  have d3' := rd h hsc (4 * k + 3) (by omega)
  rcases pk_ix (xs (4 * k + 1)) (n := 6) (by omega) with hx | hx | ⟨i, hi, hx⟩
  · have hc : xs (4 * k + 1) < 0 ∨ nI 6 ≤ xs (4 * k + 1) := Or.inl hx
    simp (disch := first | assumption | omega | exact am_isr_ref | exact am_isr_null | exact am_isr_rf | exact am_c1_int | exact am_c1_ref | exact am_c1_null | exact am_c1_rf | exact am_b0 | exact am_b1 | exact RM_obj (by assumption) | (simp only [ne_eq]; done) | exact am_nz2 | exact am_nz3 | exact am_nz6 | exact am_lt (hB _ _) | exact am_lt (stF_lt hB) | exact b32_01) only [e0_226, e0_227, e0_228, e0_229, e0_230, e0_231, e0_232, nI_add, d1, d2', d3', Option.toList_some, Option.toList_none, List.cons_append, List.nil_append]
    refine d6f hc hR ?_
    obtain ⟨hb1, g, hM, hfin, hbk⟩ := toMod hW0 r1 r2 hR (by omega) (by omega) hSS hSC hSL hIb
    simp (disch := first | assumption | omega | exact am_isr_ref | exact am_isr_null | exact am_isr_rf | exact am_c1_int | exact am_c1_ref | exact am_c1_null | exact am_c1_rf | exact am_b0 | exact am_b1 | exact RM_obj (by assumption) | exact MS_obj (by assumption) | (simp only [ne_eq]; done) | exact am_nz2 | exact am_nz3 | exact am_nz6 | exact am_lt (hB _ _) | exact am_lt (stF_lt hB) | exact b32_01) only [e0_235, e0_236, e0_237, e0_238, e0_239, e0_240, e0_241, nI_add, rd _ hb1 (4 * k + 1) (by omega), rd _ hb1 (4 * k + 2) (by omega), rd _ hb1 (4 * k + 3) (by omega), Option.toList_some, Option.toList_none, List.cons_append, List.nil_append]
    refine c98f hc ?_
    simp (disch := first | assumption | omega | exact am_isr_ref | exact am_isr_null | exact am_isr_rf | exact am_c1_int | exact am_c1_ref | exact am_c1_null | exact am_c1_rf | exact am_b0 | exact am_b1 | exact RM_obj (by assumption) | exact MS_obj (by assumption) | (simp only [ne_eq]; done) | exact am_nz2 | exact am_nz3 | exact am_nz6 | exact am_lt (hB _ _) | exact am_lt (stF_lt hB) | exact b32_01) only [e0_244, Option.toList_some, Option.toList_none, List.cons_append, List.nil_append, if_true]
    exact hn h (hfin h pl GR_rf hM)
  · have hc : xs (4 * k + 1) < 0 ∨ nI 6 ≤ xs (4 * k + 1) := Or.inr hx
    simp (disch := first | assumption | omega | exact am_isr_ref | exact am_isr_null | exact am_isr_rf | exact am_c1_int | exact am_c1_ref | exact am_c1_null | exact am_c1_rf | exact am_b0 | exact am_b1 | exact RM_obj (by assumption) | (simp only [ne_eq]; done) | exact am_nz2 | exact am_nz3 | exact am_nz6 | exact am_lt (hB _ _) | exact am_lt (stF_lt hB) | exact b32_01) only [e0_226, e0_227, e0_228, e0_229, e0_230, e0_231, e0_232, nI_add, d1, d2', d3', Option.toList_some, Option.toList_none, List.cons_append, List.nil_append]
    refine d6f hc hR ?_
    obtain ⟨hb1, g, hM, hfin, hbk⟩ := toMod hW0 r1 r2 hR (by omega) (by omega) hSS hSC hSL hIb
    simp (disch := first | assumption | omega | exact am_isr_ref | exact am_isr_null | exact am_isr_rf | exact am_c1_int | exact am_c1_ref | exact am_c1_null | exact am_c1_rf | exact am_b0 | exact am_b1 | exact RM_obj (by assumption) | exact MS_obj (by assumption) | (simp only [ne_eq]; done) | exact am_nz2 | exact am_nz3 | exact am_nz6 | exact am_lt (hB _ _) | exact am_lt (stF_lt hB) | exact b32_01) only [e0_235, e0_236, e0_237, e0_238, e0_239, e0_240, e0_241, nI_add, rd _ hb1 (4 * k + 1) (by omega), rd _ hb1 (4 * k + 2) (by omega), rd _ hb1 (4 * k + 3) (by omega), Option.toList_some, Option.toList_none, List.cons_append, List.nil_append]
    refine c98f hc ?_
    simp (disch := first | assumption | omega | exact am_isr_ref | exact am_isr_null | exact am_isr_rf | exact am_c1_int | exact am_c1_ref | exact am_c1_null | exact am_c1_rf | exact am_b0 | exact am_b1 | exact RM_obj (by assumption) | exact MS_obj (by assumption) | (simp only [ne_eq]; done) | exact am_nz2 | exact am_nz3 | exact am_nz6 | exact am_lt (hB _ _) | exact am_lt (stF_lt hB) | exact b32_01) only [e0_244, Option.toList_some, Option.toList_none, List.cons_append, List.nil_append, if_true]
    exact hn h (hfin h pl GR_rf hM)
  · simp (disch := first | assumption | omega | exact am_isr_ref | exact am_isr_null | exact am_isr_rf | exact am_c1_int | exact am_c1_ref | exact am_c1_null | exact am_c1_rf | exact am_b0 | exact am_b1 | exact RM_obj (by assumption) | (simp only [ne_eq]; done) | exact am_nz2 | exact am_nz3 | exact am_nz6 | exact am_lt (hB _ _) | exact am_lt (stF_lt hB) | exact b32_01) only [e0_226, e0_227, e0_228, e0_229, e0_230, e0_231, e0_232, nI_add, d1, d2', d3', Option.toList_some, Option.toList_none, List.cons_append, List.nil_append, hx]
    refine d6 hi hm fx.hB (fx.h15 i) (fx.h19 i) fx.h11 fx.hz fx.h80 (fun e n he hn => (fx.hO e n he hn).1) (fx.htm i) (fun _ => fx.cx _ (by omega)) (fx.cn _ _ (by omega) (by omega) (by omega)) hR hSS hSC hSL (fun h1 X1 T1 K1 LL1 tg1 s1 s0 s2 q1 q2 q3 q4 => ?_)
    obtain ⟨hb1, g, hM, hfin, hbk⟩ := toMod hW0 r1 r2 q1 (by omega) (by omega) q2 q3 q4 (INV_cmt hk5 hi hI)
    simp (disch := first | assumption | omega | exact am_isr_ref | exact am_isr_null | exact am_isr_rf | exact am_c1_int | exact am_c1_ref | exact am_c1_null | exact am_c1_rf | exact am_b0 | exact am_b1 | exact RM_obj (by assumption) | exact MS_obj (by assumption) | (simp only [ne_eq]; done) | exact am_nz2 | exact am_nz3 | exact am_nz6 | exact am_lt (hB _ _) | exact am_lt (stF_lt hB) | exact b32_01) only [e0_235, e0_236, e0_237, e0_238, e0_239, e0_240, e0_241, nI_add, rd _ hb1 (4 * k + 1) (by omega), rd _ hb1 (4 * k + 2) (by omega), rd _ hb1 (4 * k + 3) (by omega), Option.toList_some, Option.toList_none, List.cons_append, List.nil_append, hx]
    refine c98 hi hM fx.hB hm fx.hlen (fx.htm i) (fun h2 pl2 gr hM2 => ?_)
    simp (disch := first | assumption | omega | exact am_isr_ref | exact am_isr_null | exact am_isr_rf | exact am_c1_int | exact am_c1_ref | exact am_c1_null | exact am_c1_rf | exact am_b0 | exact am_b1 | exact RM_obj (by assumption) | exact MS_obj (by assumption) | (simp only [ne_eq]; done) | exact am_nz2 | exact am_nz3 | exact am_nz6 | exact am_lt (hB _ _) | exact am_lt (stF_lt hB) | exact b32_01) only [e0_244, Option.toList_some, Option.toList_none, List.cons_append, List.nil_append, if_true]
    exact hn h2 (hfin h2 pl2 gr hM2)

theorem kz5 (hL : L ≤ 2048) (hk : 4 * k + 4 ≤ L) (hW : LWx c b L xs k h) (hn : ∀ h2, LWx c b L xs (k + 1) h2 → am_R (d + 20) 0 546 [some (.ref b), some (.ref c), some (.ref (c + 95)), some (.int (nI (4 * k)))] [] h2 Q) : am_R (d + 20) 0 249 [some (.ref b), some (.ref c), some (.ref (c + 95)), some (.int (nI (4 * k)))] [] h Q := by
  obtain ⟨S, X, T, K, LL, tg, pa, pl, P, hW0, hSS, hSC, hSL, hI, r1, r2⟩ := hW
  have hk5 : k + 1 ≤ 512 := by omega
  have fx := INV_fx hk5 hI
  have hIb : INV S (k + 1) 1000 := INV_b (by omega) hI
  have hR := hW0.1
  have hm := fx.hm
  have ho := oA0 hR
  have hsc : h.2.2 b = some (.inl (9, L, .inl xs)) := hW0.2.2.2.1
  have rd : ∀ (h1 : aH), h1.2.2 b = some (.inl (9, L, .inl xs)) → ∀ i, i < L → ∀ F : Int32 → Prop, am_ga h1 b (nI i) F = F (xs i) := fun h1 e i hi F => by
    rw [am_ga_of e (Or.inr rfl) (am_in_nI hi (by omega)), nI_clamp (by omega)]
  have d1 := rd h hsc (4 * k + 1) (by omega)
  have d2' := rd h hsc (4 * k + 2) (by omega)
  have d3' := rd h hsc (4 * k + 3) (by omega)
  rcases pk_ix (xs (4 * k + 1)) (n := 6) (by omega) with hx | hx | ⟨i, hi, hx⟩
  · have hc : xs (4 * k + 1) < 0 ∨ nI 6 ≤ xs (4 * k + 1) := Or.inl hx
    simp (disch := first | assumption | omega | exact am_isr_ref | exact am_isr_null | exact am_isr_rf | exact am_c1_int | exact am_c1_ref | exact am_c1_null | exact am_c1_rf | exact am_b0 | exact am_b1 | exact RM_obj (by assumption) | (simp only [ne_eq]; done) | exact am_nz2 | exact am_nz3 | exact am_nz6 | exact am_lt (hB _ _) | exact am_lt (stF_lt hB) | exact b32_01) only [e0_249, e0_250, e0_251, e0_252, e0_253, e0_254, e0_255, nI_add, d1, d2', d3', Option.toList_some, Option.toList_none, List.cons_append, List.nil_append]
    refine d7f hc hR ?_
    obtain ⟨hb1, g, hM, hfin, hbk⟩ := toMod hW0 r1 r2 hR (by omega) (by omega) hSS hSC hSL hIb
    simp (disch := first | assumption | omega | exact am_isr_ref | exact am_isr_null | exact am_isr_rf | exact am_c1_int | exact am_c1_ref | exact am_c1_null | exact am_c1_rf | exact am_b0 | exact am_b1 | exact RM_obj (by assumption) | exact MS_obj (by assumption) | (simp only [ne_eq]; done) | exact am_nz2 | exact am_nz3 | exact am_nz6 | exact am_lt (hB _ _) | exact am_lt (stF_lt hB) | exact b32_01) only [e0_258, e0_259, e0_260, e0_261, e0_262, e0_263, e0_264, nI_add, rd _ hb1 (4 * k + 1) (by omega), rd _ hb1 (4 * k + 2) (by omega), rd _ hb1 (4 * k + 3) (by omega), Option.toList_some, Option.toList_none, List.cons_append, List.nil_append]
    refine c99f hc ?_
    simp (disch := first | assumption | omega | exact am_isr_ref | exact am_isr_null | exact am_isr_rf | exact am_c1_int | exact am_c1_ref | exact am_c1_null | exact am_c1_rf | exact am_b0 | exact am_b1 | exact RM_obj (by assumption) | exact MS_obj (by assumption) | (simp only [ne_eq]; done) | exact am_nz2 | exact am_nz3 | exact am_nz6 | exact am_lt (hB _ _) | exact am_lt (stF_lt hB) | exact b32_01) only [e0_267, Option.toList_some, Option.toList_none, List.cons_append, List.nil_append, if_true]
    exact hn h (hfin h pl GR_rf hM)
  · have hc : xs (4 * k + 1) < 0 ∨ nI 6 ≤ xs (4 * k + 1) := Or.inr hx
    simp (disch := first | assumption | omega | exact am_isr_ref | exact am_isr_null | exact am_isr_rf | exact am_c1_int | exact am_c1_ref | exact am_c1_null | exact am_c1_rf | exact am_b0 | exact am_b1 | exact RM_obj (by assumption) | (simp only [ne_eq]; done) | exact am_nz2 | exact am_nz3 | exact am_nz6 | exact am_lt (hB _ _) | exact am_lt (stF_lt hB) | exact b32_01) only [e0_249, e0_250, e0_251, e0_252, e0_253, e0_254, e0_255, nI_add, d1, d2', d3', Option.toList_some, Option.toList_none, List.cons_append, List.nil_append]
    refine d7f hc hR ?_
    obtain ⟨hb1, g, hM, hfin, hbk⟩ := toMod hW0 r1 r2 hR (by omega) (by omega) hSS hSC hSL hIb
    simp (disch := first | assumption | omega | exact am_isr_ref | exact am_isr_null | exact am_isr_rf | exact am_c1_int | exact am_c1_ref | exact am_c1_null | exact am_c1_rf | exact am_b0 | exact am_b1 | exact RM_obj (by assumption) | exact MS_obj (by assumption) | (simp only [ne_eq]; done) | exact am_nz2 | exact am_nz3 | exact am_nz6 | exact am_lt (hB _ _) | exact am_lt (stF_lt hB) | exact b32_01) only [e0_258, e0_259, e0_260, e0_261, e0_262, e0_263, e0_264, nI_add, rd _ hb1 (4 * k + 1) (by omega), rd _ hb1 (4 * k + 2) (by omega), rd _ hb1 (4 * k + 3) (by omega), Option.toList_some, Option.toList_none, List.cons_append, List.nil_append]
    refine c99f hc ?_
    simp (disch := first | assumption | omega | exact am_isr_ref | exact am_isr_null | exact am_isr_rf | exact am_c1_int | exact am_c1_ref | exact am_c1_null | exact am_c1_rf | exact am_b0 | exact am_b1 | exact RM_obj (by assumption) | exact MS_obj (by assumption) | (simp only [ne_eq]; done) | exact am_nz2 | exact am_nz3 | exact am_nz6 | exact am_lt (hB _ _) | exact am_lt (stF_lt hB) | exact b32_01) only [e0_267, Option.toList_some, Option.toList_none, List.cons_append, List.nil_append, if_true]
    exact hn h (hfin h pl GR_rf hM)
  · simp (disch := first | assumption | omega | exact am_isr_ref | exact am_isr_null | exact am_isr_rf | exact am_c1_int | exact am_c1_ref | exact am_c1_null | exact am_c1_rf | exact am_b0 | exact am_b1 | exact RM_obj (by assumption) | (simp only [ne_eq]; done) | exact am_nz2 | exact am_nz3 | exact am_nz6 | exact am_lt (hB _ _) | exact am_lt (stF_lt hB) | exact b32_01) only [e0_249, e0_250, e0_251, e0_252, e0_253, e0_254, e0_255, nI_add, d1, d2', d3', Option.toList_some, Option.toList_none, List.cons_append, List.nil_append, hx]
    refine d7 hi (fx.h15 i) (fx.h19 i) hR hSS hSC hSL (fun h1 X1 K1 LL1 tg1 s1 s0 s2 q1 q2 q3 q4 _ => ?_)
    obtain ⟨hb1, g, hM, hfin, hbk⟩ := toMod hW0 r1 r2 q1 (by omega) (by omega) q2 q3 q4 (by
      by_cases e : S.2.1 15 i = 1
      · rw [if_pos e]; exact INV_b (by omega) (INV_abort e hI)
      · rw [if_neg e]; exact hIb)
    simp (disch := first | assumption | omega | exact am_isr_ref | exact am_isr_null | exact am_isr_rf | exact am_c1_int | exact am_c1_ref | exact am_c1_null | exact am_c1_rf | exact am_b0 | exact am_b1 | exact RM_obj (by assumption) | exact MS_obj (by assumption) | (simp only [ne_eq]; done) | exact am_nz2 | exact am_nz3 | exact am_nz6 | exact am_lt (hB _ _) | exact am_lt (stF_lt hB) | exact b32_01) only [e0_258, e0_259, e0_260, e0_261, e0_262, e0_263, e0_264, nI_add, rd _ hb1 (4 * k + 1) (by omega), rd _ hb1 (4 * k + 2) (by omega), rd _ hb1 (4 * k + 3) (by omega), Option.toList_some, Option.toList_none, List.cons_append, List.nil_append, hx]
    refine c99 hi hM fx.hB (fun h2 gr hM2 => ?_)
    simp (disch := first | assumption | omega | exact am_isr_ref | exact am_isr_null | exact am_isr_rf | exact am_c1_int | exact am_c1_ref | exact am_c1_null | exact am_c1_rf | exact am_b0 | exact am_b1 | exact RM_obj (by assumption) | exact MS_obj (by assumption) | (simp only [ne_eq]; done) | exact am_nz2 | exact am_nz3 | exact am_nz6 | exact am_lt (hB _ _) | exact am_lt (stF_lt hB) | exact b32_01) only [e0_267, Option.toList_some, Option.toList_none, List.cons_append, List.nil_append, if_true]
    exact hn h2 (hfin h2 pl gr hM2)

theorem kz6 (hL : L ≤ 2048) (hk : 4 * k + 4 ≤ L) (hW : LWx c b L xs k h) (hn : ∀ h2, LWx c b L xs (k + 1) h2 → am_R (d + 20) 0 546 [some (.ref b), some (.ref c), some (.ref (c + 95)), some (.int (nI (4 * k)))] [] h2 Q) : am_R (d + 20) 0 272 [some (.ref b), some (.ref c), some (.ref (c + 95)), some (.int (nI (4 * k)))] [] h Q := by
  obtain ⟨S, X, T, K, LL, tg, pa, pl, P, hW0, hSS, hSC, hSL, hI, r1, r2⟩ := hW
  have hk5 : k + 1 ≤ 512 := by omega
  have fx := INV_fx hk5 hI
  have hIb : INV S (k + 1) 1000 := INV_b (by omega) hI
  have hR := hW0.1
  have hm := fx.hm
  have ho := oA0 hR
  have hsc : h.2.2 b = some (.inl (9, L, .inl xs)) := hW0.2.2.2.1
  have rd : ∀ (h1 : aH), h1.2.2 b = some (.inl (9, L, .inl xs)) → ∀ i, i < L → ∀ F : Int32 → Prop, am_ga h1 b (nI i) F = F (xs i) := fun h1 e i hi F => by
    rw [am_ga_of e (Or.inr rfl) (am_in_nI hi (by omega)), nI_clamp (by omega)]
  have d1 := rd h hsc (4 * k + 1) (by omega)
  have d2' := rd h hsc (4 * k + 2) (by omega)
  have d3' := rd h hsc (4 * k + 3) (by omega)
  rcases pk_ix (xs (4 * k + 1)) (n := 6) (by omega) with hx | hx | ⟨i, hi, hx⟩
  · have hc : xs (4 * k + 1) < 0 ∨ nI 6 ≤ xs (4 * k + 1) := Or.inl hx
    simp (disch := first | assumption | omega | exact am_isr_ref | exact am_isr_null | exact am_isr_rf | exact am_c1_int | exact am_c1_ref | exact am_c1_null | exact am_c1_rf | exact am_b0 | exact am_b1 | exact RM_obj (by assumption) | (simp only [ne_eq]; done) | exact am_nz2 | exact am_nz3 | exact am_nz6 | exact am_lt (hB _ _) | exact am_lt (stF_lt hB) | exact b32_01) only [e0_272, e0_273, e0_274, e0_275, e0_276, e0_277, e0_278, nI_add, d1, d2', d3', Option.toList_some, Option.toList_none, List.cons_append, List.nil_append]
    refine d8f hc hR ?_
    obtain ⟨hb1, g, hM, hfin, hbk⟩ := toMod hW0 r1 r2 hR (by omega) (by omega) hSS hSC hSL hIb
    simp (disch := first | assumption | omega | exact am_isr_ref | exact am_isr_null | exact am_isr_rf | exact am_c1_int | exact am_c1_ref | exact am_c1_null | exact am_c1_rf | exact am_b0 | exact am_b1 | exact RM_obj (by assumption) | exact MS_obj (by assumption) | (simp only [ne_eq]; done) | exact am_nz2 | exact am_nz3 | exact am_nz6 | exact am_lt (hB _ _) | exact am_lt (stF_lt hB) | exact b32_01) only [e0_281, e0_282, e0_283, e0_284, e0_285, e0_286, e0_287, nI_add, rd _ hb1 (4 * k + 1) (by omega), rd _ hb1 (4 * k + 2) (by omega), rd _ hb1 (4 * k + 3) (by omega), Option.toList_some, Option.toList_none, List.cons_append, List.nil_append]
    refine c100f hc ?_
    simp (disch := first | assumption | omega | exact am_isr_ref | exact am_isr_null | exact am_isr_rf | exact am_c1_int | exact am_c1_ref | exact am_c1_null | exact am_c1_rf | exact am_b0 | exact am_b1 | exact RM_obj (by assumption) | exact MS_obj (by assumption) | (simp only [ne_eq]; done) | exact am_nz2 | exact am_nz3 | exact am_nz6 | exact am_lt (hB _ _) | exact am_lt (stF_lt hB) | exact b32_01) only [e0_290, Option.toList_some, Option.toList_none, List.cons_append, List.nil_append, if_true]
    exact hn h (hfin h pl GR_rf hM)
  · have hc : xs (4 * k + 1) < 0 ∨ nI 6 ≤ xs (4 * k + 1) := Or.inr hx
    simp (disch := first | assumption | omega | exact am_isr_ref | exact am_isr_null | exact am_isr_rf | exact am_c1_int | exact am_c1_ref | exact am_c1_null | exact am_c1_rf | exact am_b0 | exact am_b1 | exact RM_obj (by assumption) | (simp only [ne_eq]; done) | exact am_nz2 | exact am_nz3 | exact am_nz6 | exact am_lt (hB _ _) | exact am_lt (stF_lt hB) | exact b32_01) only [e0_272, e0_273, e0_274, e0_275, e0_276, e0_277, e0_278, nI_add, d1, d2', d3', Option.toList_some, Option.toList_none, List.cons_append, List.nil_append]
    refine d8f hc hR ?_
    obtain ⟨hb1, g, hM, hfin, hbk⟩ := toMod hW0 r1 r2 hR (by omega) (by omega) hSS hSC hSL hIb
    simp (disch := first | assumption | omega | exact am_isr_ref | exact am_isr_null | exact am_isr_rf | exact am_c1_int | exact am_c1_ref | exact am_c1_null | exact am_c1_rf | exact am_b0 | exact am_b1 | exact RM_obj (by assumption) | exact MS_obj (by assumption) | (simp only [ne_eq]; done) | exact am_nz2 | exact am_nz3 | exact am_nz6 | exact am_lt (hB _ _) | exact am_lt (stF_lt hB) | exact b32_01) only [e0_281, e0_282, e0_283, e0_284, e0_285, e0_286, e0_287, nI_add, rd _ hb1 (4 * k + 1) (by omega), rd _ hb1 (4 * k + 2) (by omega), rd _ hb1 (4 * k + 3) (by omega), Option.toList_some, Option.toList_none, List.cons_append, List.nil_append]
    refine c100f hc ?_
    simp (disch := first | assumption | omega | exact am_isr_ref | exact am_isr_null | exact am_isr_rf | exact am_c1_int | exact am_c1_ref | exact am_c1_null | exact am_c1_rf | exact am_b0 | exact am_b1 | exact RM_obj (by assumption) | exact MS_obj (by assumption) | (simp only [ne_eq]; done) | exact am_nz2 | exact am_nz3 | exact am_nz6 | exact am_lt (hB _ _) | exact am_lt (stF_lt hB) | exact b32_01) only [e0_290, Option.toList_some, Option.toList_none, List.cons_append, List.nil_append, if_true]
    exact hn h (hfin h pl GR_rf hM)
  · simp (disch := first | assumption | omega | exact am_isr_ref | exact am_isr_null | exact am_isr_rf | exact am_c1_int | exact am_c1_ref | exact am_c1_null | exact am_c1_rf | exact am_b0 | exact am_b1 | exact RM_obj (by assumption) | (simp only [ne_eq]; done) | exact am_nz2 | exact am_nz3 | exact am_nz6 | exact am_lt (hB _ _) | exact am_lt (stF_lt hB) | exact b32_01) only [e0_272, e0_273, e0_274, e0_275, e0_276, e0_277, e0_278, nI_add, d1, d2', d3', Option.toList_some, Option.toList_none, List.cons_append, List.nil_append, hx]
    refine d8 hi hm fx.hB (fx.hck i) fx.h11 (fun m => fx.hz i m hi) (fun n => fx.h12 i n hi) (fun r a e => by have := fx.cx i hi r a e; omega) (fx.cn i (nbF i) hi (nb_lk hi).1 (by unfold nbF; split <;> omega)) hR hSS hSC hSL (fun h1 X1 K1 LL1 tg1 s1 s0 s2 q1 q2 q3 q4 _ => ?_)
    obtain ⟨hb1, g, hM, hfin, hbk⟩ := toMod hW0 r1 r2 q1 (by omega) (by omega) q2 q3 q4 (INV_tick hk5 hi hI)
    simp (disch := first | assumption | omega | exact am_isr_ref | exact am_isr_null | exact am_isr_rf | exact am_c1_int | exact am_c1_ref | exact am_c1_null | exact am_c1_rf | exact am_b0 | exact am_b1 | exact RM_obj (by assumption) | exact MS_obj (by assumption) | (simp only [ne_eq]; done) | exact am_nz2 | exact am_nz3 | exact am_nz6 | exact am_lt (hB _ _) | exact am_lt (stF_lt hB) | exact b32_01) only [e0_281, e0_282, e0_283, e0_284, e0_285, e0_286, e0_287, nI_add, rd _ hb1 (4 * k + 1) (by omega), rd _ hb1 (4 * k + 2) (by omega), rd _ hb1 (4 * k + 3) (by omega), Option.toList_some, Option.toList_none, List.cons_append, List.nil_append, hx]
    refine c100 hi hM fx.hB (fx.hck i) hm (by have := fx.hlen; omega) (fun n hn => fx.h12 i n hi (by omega)) (fun h2 pl2 gr hM2 => ?_)
    simp (disch := first | assumption | omega | exact am_isr_ref | exact am_isr_null | exact am_isr_rf | exact am_c1_int | exact am_c1_ref | exact am_c1_null | exact am_c1_rf | exact am_b0 | exact am_b1 | exact RM_obj (by assumption) | exact MS_obj (by assumption) | (simp only [ne_eq]; done) | exact am_nz2 | exact am_nz3 | exact am_nz6 | exact am_lt (hB _ _) | exact am_lt (stF_lt hB) | exact b32_01) only [e0_290, Option.toList_some, Option.toList_none, List.cons_append, List.nil_append, if_true]
    exact hn h2 (hfin h2 pl2 gr hM2)

theorem kz1 (hL : L ≤ 2048) (hk : 4 * k + 4 ≤ L) (hW : LWx c b L xs k h) (hn : ∀ h2, LWx c b L xs (k + 1) h2 → am_R (d + 20) 0 546 [some (.ref b), some (.ref c), some (.ref (c + 95)), some (.int (nI (4 * k)))] [] h2 Q) : am_R (d + 20) 0 127 [some (.ref b), some (.ref c), some (.ref (c + 95)), some (.int (nI (4 * k)))] [] h Q := by
  obtain ⟨S, X, T, K, LL, tg, pa, pl, P, hW0, hSS, hSC, hSL, hI, r1, r2⟩ := hW
  have hk5 : k + 1 ≤ 512 := by omega
  have fx := INV_fx hk5 hI
  have hIb : INV S (k + 1) 1000 := INV_b (by omega) hI
  have hR := hW0.1
  have hm := fx.hm
  have ho := oA0 hR
  have hsc : h.2.2 b = some (.inl (9, L, .inl xs)) := hW0.2.2.2.1
  have rd : ∀ (h1 : aH), h1.2.2 b = some (.inl (9, L, .inl xs)) → ∀ i, i < L → ∀ F : Int32 → Prop, am_ga h1 b (nI i) F = F (xs i) := fun h1 e i hi F => by
    rw [am_ga_of e (Or.inr rfl) (am_in_nI hi (by omega)), nI_clamp (by omega)]
  have d1 := rd h hsc (4 * k + 1) (by omega)
  have d2' := rd h hsc (4 * k + 2) (by omega)
  have d3' := rd h hsc (4 * k + 3) (by omega)
  rcases pk_ix (xs (4 * k + 1)) (n := 6) (by omega) with hx | hx | ⟨i, hi, hx⟩
  · have hc1 : xs (4 * k + 1) < 0 ∨ nI 6 ≤ xs (4 * k + 1) := Or.inl hx
    simp (disch := first | assumption | omega | exact am_isr_ref | exact am_isr_null | exact am_isr_rf | exact am_c1_int | exact am_c1_ref | exact am_c1_null | exact am_c1_rf | exact am_b0 | exact am_b1 | exact RM_obj (by assumption) | (simp only [ne_eq]; done) | exact am_nz2 | exact am_nz3 | exact am_nz6 | exact am_lt (hB _ _) | exact am_lt (stF_lt hB) | exact b32_01) only [e0_127, e0_128, e0_129, e0_130, e0_131, e0_132, e0_133, e0_134, e0_135, e0_136, e0_137, e0_138, nI_add, d1, d2', d3', Option.toList_some, Option.toList_none, List.cons_append, List.nil_append]
    refine d3f (Or.inl hc1) (fun i _ => fx.h15 i) hR hSC ?_
    obtain ⟨hb1, g, hM, hfin, hbk⟩ := toMod hW0 r1 r2 hR (by omega) (by omega) hSS hSC hSL hIb
    simp (disch := first | assumption | omega | exact am_isr_ref | exact am_isr_null | exact am_isr_rf | exact am_c1_int | exact am_c1_ref | exact am_c1_null | exact am_c1_rf | exact am_b0 | exact am_b1 | exact RM_obj (by assumption) | exact MS_obj (by assumption) | (simp only [ne_eq]; done) | exact am_nz2 | exact am_nz3 | exact am_nz6 | exact am_lt (hB _ _) | exact am_lt (stF_lt hB) | exact b32_01) only [e0_141, e0_142, e0_143, e0_144, e0_145, e0_146, e0_147, e0_148, e0_149, e0_150, e0_151, e0_152, nI_add, rd _ hb1 (4 * k + 1) (by omega), rd _ hb1 (4 * k + 2) (by omega), rd _ hb1 (4 * k + 3) (by omega), Option.toList_some, Option.toList_none, List.cons_append, List.nil_append]
    refine c95f (Or.inl hc1) ?_
    simp (disch := first | assumption | omega | exact am_isr_ref | exact am_isr_null | exact am_isr_rf | exact am_c1_int | exact am_c1_ref | exact am_c1_null | exact am_c1_rf | exact am_b0 | exact am_b1 | exact RM_obj (by assumption) | exact MS_obj (by assumption) | (simp only [ne_eq]; done) | exact am_nz2 | exact am_nz3 | exact am_nz6 | exact am_lt (hB _ _) | exact am_lt (stF_lt hB) | exact b32_01) only [e0_155, Option.toList_some, Option.toList_none, List.cons_append, List.nil_append, if_true]
    exact hn h (hfin h pl GR_rf hM)
  · have hc1 : xs (4 * k + 1) < 0 ∨ nI 6 ≤ xs (4 * k + 1) := Or.inr hx
    simp (disch := first | assumption | omega | exact am_isr_ref | exact am_isr_null | exact am_isr_rf | exact am_c1_int | exact am_c1_ref | exact am_c1_null | exact am_c1_rf | exact am_b0 | exact am_b1 | exact RM_obj (by assumption) | (simp only [ne_eq]; done) | exact am_nz2 | exact am_nz3 | exact am_nz6 | exact am_lt (hB _ _) | exact am_lt (stF_lt hB) | exact b32_01) only [e0_127, e0_128, e0_129, e0_130, e0_131, e0_132, e0_133, e0_134, e0_135, e0_136, e0_137, e0_138, nI_add, d1, d2', d3', Option.toList_some, Option.toList_none, List.cons_append, List.nil_append]
    refine d3f (Or.inl hc1) (fun i _ => fx.h15 i) hR hSC ?_
    obtain ⟨hb1, g, hM, hfin, hbk⟩ := toMod hW0 r1 r2 hR (by omega) (by omega) hSS hSC hSL hIb
    simp (disch := first | assumption | omega | exact am_isr_ref | exact am_isr_null | exact am_isr_rf | exact am_c1_int | exact am_c1_ref | exact am_c1_null | exact am_c1_rf | exact am_b0 | exact am_b1 | exact RM_obj (by assumption) | exact MS_obj (by assumption) | (simp only [ne_eq]; done) | exact am_nz2 | exact am_nz3 | exact am_nz6 | exact am_lt (hB _ _) | exact am_lt (stF_lt hB) | exact b32_01) only [e0_141, e0_142, e0_143, e0_144, e0_145, e0_146, e0_147, e0_148, e0_149, e0_150, e0_151, e0_152, nI_add, rd _ hb1 (4 * k + 1) (by omega), rd _ hb1 (4 * k + 2) (by omega), rd _ hb1 (4 * k + 3) (by omega), Option.toList_some, Option.toList_none, List.cons_append, List.nil_append]
    refine c95f (Or.inl hc1) ?_
    simp (disch := first | assumption | omega | exact am_isr_ref | exact am_isr_null | exact am_isr_rf | exact am_c1_int | exact am_c1_ref | exact am_c1_null | exact am_c1_rf | exact am_b0 | exact am_b1 | exact RM_obj (by assumption) | exact MS_obj (by assumption) | (simp only [ne_eq]; done) | exact am_nz2 | exact am_nz3 | exact am_nz6 | exact am_lt (hB _ _) | exact am_lt (stF_lt hB) | exact b32_01) only [e0_155, Option.toList_some, Option.toList_none, List.cons_append, List.nil_append, if_true]
    exact hn h (hfin h pl GR_rf hM)
  · rcases pk_ix (xs (4 * k + 2)) (n := 8) (by omega) with hy | hy | ⟨j, hj, hy⟩
    · have hc2 : xs (4 * k + 2) < 0 ∨ nI 8 ≤ xs (4 * k + 2) := Or.inl hy
      simp (disch := first | assumption | omega | exact am_isr_ref | exact am_isr_null | exact am_isr_rf | exact am_c1_int | exact am_c1_ref | exact am_c1_null | exact am_c1_rf | exact am_b0 | exact am_b1 | exact RM_obj (by assumption) | (simp only [ne_eq]; done) | exact am_nz2 | exact am_nz3 | exact am_nz6 | exact am_lt (hB _ _) | exact am_lt (stF_lt hB) | exact b32_01) only [e0_127, e0_128, e0_129, e0_130, e0_131, e0_132, e0_133, e0_134, e0_135, e0_136, e0_137, e0_138, nI_add, d1, d2', d3', Option.toList_some, Option.toList_none, List.cons_append, List.nil_append]
      refine d3f (Or.inr hc2) (fun i _ => fx.h15 i) hR hSC ?_
      obtain ⟨hb1, g, hM, hfin, hbk⟩ := toMod hW0 r1 r2 hR (by omega) (by omega) hSS hSC hSL hIb
      simp (disch := first | assumption | omega | exact am_isr_ref | exact am_isr_null | exact am_isr_rf | exact am_c1_int | exact am_c1_ref | exact am_c1_null | exact am_c1_rf | exact am_b0 | exact am_b1 | exact RM_obj (by assumption) | exact MS_obj (by assumption) | (simp only [ne_eq]; done) | exact am_nz2 | exact am_nz3 | exact am_nz6 | exact am_lt (hB _ _) | exact am_lt (stF_lt hB) | exact b32_01) only [e0_141, e0_142, e0_143, e0_144, e0_145, e0_146, e0_147, e0_148, e0_149, e0_150, e0_151, e0_152, nI_add, rd _ hb1 (4 * k + 1) (by omega), rd _ hb1 (4 * k + 2) (by omega), rd _ hb1 (4 * k + 3) (by omega), Option.toList_some, Option.toList_none, List.cons_append, List.nil_append]
      refine c95f (Or.inr hc2) ?_
      simp (disch := first | assumption | omega | exact am_isr_ref | exact am_isr_null | exact am_isr_rf | exact am_c1_int | exact am_c1_ref | exact am_c1_null | exact am_c1_rf | exact am_b0 | exact am_b1 | exact RM_obj (by assumption) | exact MS_obj (by assumption) | (simp only [ne_eq]; done) | exact am_nz2 | exact am_nz3 | exact am_nz6 | exact am_lt (hB _ _) | exact am_lt (stF_lt hB) | exact b32_01) only [e0_155, Option.toList_some, Option.toList_none, List.cons_append, List.nil_append, if_true]
      exact hn h (hfin h pl GR_rf hM)
    · have hc2 : xs (4 * k + 2) < 0 ∨ nI 8 ≤ xs (4 * k + 2) := Or.inr hy
      simp (disch := first | assumption | omega | exact am_isr_ref | exact am_isr_null | exact am_isr_rf | exact am_c1_int | exact am_c1_ref | exact am_c1_null | exact am_c1_rf | exact am_b0 | exact am_b1 | exact RM_obj (by assumption) | (simp only [ne_eq]; done) | exact am_nz2 | exact am_nz3 | exact am_nz6 | exact am_lt (hB _ _) | exact am_lt (stF_lt hB) | exact b32_01) only [e0_127, e0_128, e0_129, e0_130, e0_131, e0_132, e0_133, e0_134, e0_135, e0_136, e0_137, e0_138, nI_add, d1, d2', d3', Option.toList_some, Option.toList_none, List.cons_append, List.nil_append]
      refine d3f (Or.inr hc2) (fun i _ => fx.h15 i) hR hSC ?_
      obtain ⟨hb1, g, hM, hfin, hbk⟩ := toMod hW0 r1 r2 hR (by omega) (by omega) hSS hSC hSL hIb
      simp (disch := first | assumption | omega | exact am_isr_ref | exact am_isr_null | exact am_isr_rf | exact am_c1_int | exact am_c1_ref | exact am_c1_null | exact am_c1_rf | exact am_b0 | exact am_b1 | exact RM_obj (by assumption) | exact MS_obj (by assumption) | (simp only [ne_eq]; done) | exact am_nz2 | exact am_nz3 | exact am_nz6 | exact am_lt (hB _ _) | exact am_lt (stF_lt hB) | exact b32_01) only [e0_141, e0_142, e0_143, e0_144, e0_145, e0_146, e0_147, e0_148, e0_149, e0_150, e0_151, e0_152, nI_add, rd _ hb1 (4 * k + 1) (by omega), rd _ hb1 (4 * k + 2) (by omega), rd _ hb1 (4 * k + 3) (by omega), Option.toList_some, Option.toList_none, List.cons_append, List.nil_append]
      refine c95f (Or.inr hc2) ?_
      simp (disch := first | assumption | omega | exact am_isr_ref | exact am_isr_null | exact am_isr_rf | exact am_c1_int | exact am_c1_ref | exact am_c1_null | exact am_c1_rf | exact am_b0 | exact am_b1 | exact RM_obj (by assumption) | exact MS_obj (by assumption) | (simp only [ne_eq]; done) | exact am_nz2 | exact am_nz3 | exact am_nz6 | exact am_lt (hB _ _) | exact am_lt (stF_lt hB) | exact b32_01) only [e0_155, Option.toList_some, Option.toList_none, List.cons_append, List.nil_append, if_true]
      exact hn h (hfin h pl GR_rf hM)
    · simp (disch := first | assumption | omega | exact am_isr_ref | exact am_isr_null | exact am_isr_rf | exact am_c1_int | exact am_c1_ref | exact am_c1_null | exact am_c1_rf | exact am_b0 | exact am_b1 | exact RM_obj (by assumption) | (simp only [ne_eq]; done) | exact am_nz2 | exact am_nz3 | exact am_nz6 | exact am_lt (hB _ _) | exact am_lt (stF_lt hB) | exact b32_01) only [e0_127, e0_128, e0_129, e0_130, e0_131, e0_132, e0_133, e0_134, e0_135, e0_136, e0_137, e0_138, nI_add, d1, d2', d3', Option.toList_some, Option.toList_none, List.cons_append, List.nil_append, hx, hy]
      refine d3 hi hj hm fx.hB (fx.h15 i) fx.h97 fx.h38 (fun n hn => fx.hO _ n (by omega) hn) (fun n hn => fx.h5 n j hn hj) hR hSS hSC hSL (fun h1 X1 K1 LL1 tg1 s1 s0 s2 q1 q2 q3 q4 _ => ?_)
      obtain ⟨hb1, g, hM, hfin, hbk⟩ := toMod hW0 r1 r2 q1 (by omega) (by omega) q2 q3 q4 (by
        by_cases e : S.2.1 15 i = 1
        · rw [if_pos e]
          unfold readF
          by_cases w : wF (S.2.1 19 i) j
          · rw [if_pos w]; exact INV_V (by decide) hIb
          · rw [if_neg w]; exact INV_V (by decide) hIb
        · rw [if_neg e]; exact hIb)
      simp (disch := first | assumption | omega | exact am_isr_ref | exact am_isr_null | exact am_isr_rf | exact am_c1_int | exact am_c1_ref | exact am_c1_null | exact am_c1_rf | exact am_b0 | exact am_b1 | exact RM_obj (by assumption) | exact MS_obj (by assumption) | (simp only [ne_eq]; done) | exact am_nz2 | exact am_nz3 | exact am_nz6 | exact am_lt (hB _ _) | exact am_lt (stF_lt hB) | exact b32_01) only [e0_141, e0_142, e0_143, e0_144, e0_145, e0_146, e0_147, e0_148, e0_149, e0_150, e0_151, e0_152, nI_add, rd _ hb1 (4 * k + 1) (by omega), rd _ hb1 (4 * k + 2) (by omega), rd _ hb1 (4 * k + 3) (by omega), Option.toList_some, Option.toList_none, List.cons_append, List.nil_append, hx, hy]
      refine c95 hi hj hM fx.hW hm (fun h2 gr hM2 => ?_)
      simp (disch := first | assumption | omega | exact am_isr_ref | exact am_isr_null | exact am_isr_rf | exact am_c1_int | exact am_c1_ref | exact am_c1_null | exact am_c1_rf | exact am_b0 | exact am_b1 | exact RM_obj (by assumption) | exact MS_obj (by assumption) | (simp only [ne_eq]; done) | exact am_nz2 | exact am_nz3 | exact am_nz6 | exact am_lt (hB _ _) | exact am_lt (stF_lt hB) | exact b32_01) only [e0_155, Option.toList_some, Option.toList_none, List.cons_append, List.nil_append, if_true]
      exact hn h2 (hfin h2 pl gr hM2)

theorem kz3 (hL : L ≤ 2048) (hk : 4 * k + 4 ≤ L) (hW : LWx c b L xs k h) (hn : ∀ h2, LWx c b L xs (k + 1) h2 → am_R (d + 20) 0 546 [some (.ref b), some (.ref c), some (.ref (c + 95)), some (.int (nI (4 * k)))] [] h2 Q) : am_R (d + 20) 0 183 [some (.ref b), some (.ref c), some (.ref (c + 95)), some (.int (nI (4 * k)))] [] h Q := by
  obtain ⟨S, X, T, K, LL, tg, pa, pl, P, hW0, hSS, hSC, hSL, hI, r1, r2⟩ := hW
  have hk5 : k + 1 ≤ 512 := by omega
  have fx := INV_fx hk5 hI
  have hIb : INV S (k + 1) 1000 := INV_b (by omega) hI
  have hR := hW0.1
  have hm := fx.hm
  have ho := oA0 hR
  have hsc : h.2.2 b = some (.inl (9, L, .inl xs)) := hW0.2.2.2.1
  have rd : ∀ (h1 : aH), h1.2.2 b = some (.inl (9, L, .inl xs)) → ∀ i, i < L → ∀ F : Int32 → Prop, am_ga h1 b (nI i) F = F (xs i) := fun h1 e i hi F => by
    rw [am_ga_of e (Or.inr rfl) (am_in_nI hi (by omega)), nI_clamp (by omega)]
  have d1 := rd h hsc (4 * k + 1) (by omega)
  have d2' := rd h hsc (4 * k + 2) (by omega)
  have d3' := rd h hsc (4 * k + 3) (by omega)
  rcases pk_ix (xs (4 * k + 1)) (n := 6) (by omega) with hx | hx | ⟨i, hi, hx⟩
  · have hc1 : xs (4 * k + 1) < 0 ∨ nI 6 ≤ xs (4 * k + 1) := Or.inl hx
    simp (disch := first | assumption | omega | exact am_isr_ref | exact am_isr_null | exact am_isr_rf | exact am_c1_int | exact am_c1_ref | exact am_c1_null | exact am_c1_rf | exact am_b0 | exact am_b1 | exact RM_obj (by assumption) | (simp only [ne_eq]; done) | exact am_nz2 | exact am_nz3 | exact am_nz6 | exact am_lt (hB _ _) | exact am_lt (stF_lt hB) | exact b32_01) only [e0_183, e0_184, e0_185, e0_186, e0_187, e0_188, e0_189, e0_190, e0_191, e0_192, e0_193, e0_194, e0_195, e0_196, e0_197, e0_198, e0_199, nI_add, d1, d2', d3', Option.toList_some, Option.toList_none, List.cons_append, List.nil_append]
    refine d5f (Or.inl hc1) (fun i _ => fx.h15 i) hR hSC ?_
    obtain ⟨hb1, g, hM, hfin, hbk⟩ := toMod hW0 r1 r2 hR (by omega) (by omega) hSS hSC hSL hIb
    simp (disch := first | assumption | omega | exact am_isr_ref | exact am_isr_null | exact am_isr_rf | exact am_c1_int | exact am_c1_ref | exact am_c1_null | exact am_c1_rf | exact am_b0 | exact am_b1 | exact RM_obj (by assumption) | exact MS_obj (by assumption) | (simp only [ne_eq]; done) | exact am_nz2 | exact am_nz3 | exact am_nz6 | exact am_lt (hB _ _) | exact am_lt (stF_lt hB) | exact b32_01) only [e0_202, e0_203, e0_204, e0_205, e0_206, e0_207, e0_208, e0_209, e0_210, e0_211, e0_212, e0_213, e0_214, e0_215, e0_216, e0_217, e0_218, nI_add, rd _ hb1 (4 * k + 1) (by omega), rd _ hb1 (4 * k + 2) (by omega), rd _ hb1 (4 * k + 3) (by omega), Option.toList_some, Option.toList_none, List.cons_append, List.nil_append]
    refine c97f (Or.inl hc1) ?_
    simp (disch := first | assumption | omega | exact am_isr_ref | exact am_isr_null | exact am_isr_rf | exact am_c1_int | exact am_c1_ref | exact am_c1_null | exact am_c1_rf | exact am_b0 | exact am_b1 | exact RM_obj (by assumption) | exact MS_obj (by assumption) | (simp only [ne_eq]; done) | exact am_nz2 | exact am_nz3 | exact am_nz6 | exact am_lt (hB _ _) | exact am_lt (stF_lt hB) | exact b32_01) only [e0_221, Option.toList_some, Option.toList_none, List.cons_append, List.nil_append, if_true]
    exact hn h (hfin h pl GR_rf hM)
  · have hc1 : xs (4 * k + 1) < 0 ∨ nI 6 ≤ xs (4 * k + 1) := Or.inr hx
    simp (disch := first | assumption | omega | exact am_isr_ref | exact am_isr_null | exact am_isr_rf | exact am_c1_int | exact am_c1_ref | exact am_c1_null | exact am_c1_rf | exact am_b0 | exact am_b1 | exact RM_obj (by assumption) | (simp only [ne_eq]; done) | exact am_nz2 | exact am_nz3 | exact am_nz6 | exact am_lt (hB _ _) | exact am_lt (stF_lt hB) | exact b32_01) only [e0_183, e0_184, e0_185, e0_186, e0_187, e0_188, e0_189, e0_190, e0_191, e0_192, e0_193, e0_194, e0_195, e0_196, e0_197, e0_198, e0_199, nI_add, d1, d2', d3', Option.toList_some, Option.toList_none, List.cons_append, List.nil_append]
    refine d5f (Or.inl hc1) (fun i _ => fx.h15 i) hR hSC ?_
    obtain ⟨hb1, g, hM, hfin, hbk⟩ := toMod hW0 r1 r2 hR (by omega) (by omega) hSS hSC hSL hIb
    simp (disch := first | assumption | omega | exact am_isr_ref | exact am_isr_null | exact am_isr_rf | exact am_c1_int | exact am_c1_ref | exact am_c1_null | exact am_c1_rf | exact am_b0 | exact am_b1 | exact RM_obj (by assumption) | exact MS_obj (by assumption) | (simp only [ne_eq]; done) | exact am_nz2 | exact am_nz3 | exact am_nz6 | exact am_lt (hB _ _) | exact am_lt (stF_lt hB) | exact b32_01) only [e0_202, e0_203, e0_204, e0_205, e0_206, e0_207, e0_208, e0_209, e0_210, e0_211, e0_212, e0_213, e0_214, e0_215, e0_216, e0_217, e0_218, nI_add, rd _ hb1 (4 * k + 1) (by omega), rd _ hb1 (4 * k + 2) (by omega), rd _ hb1 (4 * k + 3) (by omega), Option.toList_some, Option.toList_none, List.cons_append, List.nil_append]
    refine c97f (Or.inl hc1) ?_
    simp (disch := first | assumption | omega | exact am_isr_ref | exact am_isr_null | exact am_isr_rf | exact am_c1_int | exact am_c1_ref | exact am_c1_null | exact am_c1_rf | exact am_b0 | exact am_b1 | exact RM_obj (by assumption) | exact MS_obj (by assumption) | (simp only [ne_eq]; done) | exact am_nz2 | exact am_nz3 | exact am_nz6 | exact am_lt (hB _ _) | exact am_lt (stF_lt hB) | exact b32_01) only [e0_221, Option.toList_some, Option.toList_none, List.cons_append, List.nil_append, if_true]
    exact hn h (hfin h pl GR_rf hM)
  · rcases pk_ix (xs (4 * k + 2)) (n := 8) (by omega) with hy | hy | ⟨j, hj, hy⟩
    · have hc2 : xs (4 * k + 2) < 0 ∨ nI 8 ≤ xs (4 * k + 2) := Or.inl hy
      simp (disch := first | assumption | omega | exact am_isr_ref | exact am_isr_null | exact am_isr_rf | exact am_c1_int | exact am_c1_ref | exact am_c1_null | exact am_c1_rf | exact am_b0 | exact am_b1 | exact RM_obj (by assumption) | (simp only [ne_eq]; done) | exact am_nz2 | exact am_nz3 | exact am_nz6 | exact am_lt (hB _ _) | exact am_lt (stF_lt hB) | exact b32_01) only [e0_183, e0_184, e0_185, e0_186, e0_187, e0_188, e0_189, e0_190, e0_191, e0_192, e0_193, e0_194, e0_195, e0_196, e0_197, e0_198, e0_199, nI_add, d1, d2', d3', Option.toList_some, Option.toList_none, List.cons_append, List.nil_append]
      refine d5f (Or.inr hc2) (fun i _ => fx.h15 i) hR hSC ?_
      obtain ⟨hb1, g, hM, hfin, hbk⟩ := toMod hW0 r1 r2 hR (by omega) (by omega) hSS hSC hSL hIb
      simp (disch := first | assumption | omega | exact am_isr_ref | exact am_isr_null | exact am_isr_rf | exact am_c1_int | exact am_c1_ref | exact am_c1_null | exact am_c1_rf | exact am_b0 | exact am_b1 | exact RM_obj (by assumption) | exact MS_obj (by assumption) | (simp only [ne_eq]; done) | exact am_nz2 | exact am_nz3 | exact am_nz6 | exact am_lt (hB _ _) | exact am_lt (stF_lt hB) | exact b32_01) only [e0_202, e0_203, e0_204, e0_205, e0_206, e0_207, e0_208, e0_209, e0_210, e0_211, e0_212, e0_213, e0_214, e0_215, e0_216, e0_217, e0_218, nI_add, rd _ hb1 (4 * k + 1) (by omega), rd _ hb1 (4 * k + 2) (by omega), rd _ hb1 (4 * k + 3) (by omega), Option.toList_some, Option.toList_none, List.cons_append, List.nil_append]
      refine c97f (Or.inr hc2) ?_
      simp (disch := first | assumption | omega | exact am_isr_ref | exact am_isr_null | exact am_isr_rf | exact am_c1_int | exact am_c1_ref | exact am_c1_null | exact am_c1_rf | exact am_b0 | exact am_b1 | exact RM_obj (by assumption) | exact MS_obj (by assumption) | (simp only [ne_eq]; done) | exact am_nz2 | exact am_nz3 | exact am_nz6 | exact am_lt (hB _ _) | exact am_lt (stF_lt hB) | exact b32_01) only [e0_221, Option.toList_some, Option.toList_none, List.cons_append, List.nil_append, if_true]
      exact hn h (hfin h pl GR_rf hM)
    · have hc2 : xs (4 * k + 2) < 0 ∨ nI 8 ≤ xs (4 * k + 2) := Or.inr hy
      simp (disch := first | assumption | omega | exact am_isr_ref | exact am_isr_null | exact am_isr_rf | exact am_c1_int | exact am_c1_ref | exact am_c1_null | exact am_c1_rf | exact am_b0 | exact am_b1 | exact RM_obj (by assumption) | (simp only [ne_eq]; done) | exact am_nz2 | exact am_nz3 | exact am_nz6 | exact am_lt (hB _ _) | exact am_lt (stF_lt hB) | exact b32_01) only [e0_183, e0_184, e0_185, e0_186, e0_187, e0_188, e0_189, e0_190, e0_191, e0_192, e0_193, e0_194, e0_195, e0_196, e0_197, e0_198, e0_199, nI_add, d1, d2', d3', Option.toList_some, Option.toList_none, List.cons_append, List.nil_append]
      refine d5f (Or.inr hc2) (fun i _ => fx.h15 i) hR hSC ?_
      obtain ⟨hb1, g, hM, hfin, hbk⟩ := toMod hW0 r1 r2 hR (by omega) (by omega) hSS hSC hSL hIb
      simp (disch := first | assumption | omega | exact am_isr_ref | exact am_isr_null | exact am_isr_rf | exact am_c1_int | exact am_c1_ref | exact am_c1_null | exact am_c1_rf | exact am_b0 | exact am_b1 | exact RM_obj (by assumption) | exact MS_obj (by assumption) | (simp only [ne_eq]; done) | exact am_nz2 | exact am_nz3 | exact am_nz6 | exact am_lt (hB _ _) | exact am_lt (stF_lt hB) | exact b32_01) only [e0_202, e0_203, e0_204, e0_205, e0_206, e0_207, e0_208, e0_209, e0_210, e0_211, e0_212, e0_213, e0_214, e0_215, e0_216, e0_217, e0_218, nI_add, rd _ hb1 (4 * k + 1) (by omega), rd _ hb1 (4 * k + 2) (by omega), rd _ hb1 (4 * k + 3) (by omega), Option.toList_some, Option.toList_none, List.cons_append, List.nil_append]
      refine c97f (Or.inr hc2) ?_
      simp (disch := first | assumption | omega | exact am_isr_ref | exact am_isr_null | exact am_isr_rf | exact am_c1_int | exact am_c1_ref | exact am_c1_null | exact am_c1_rf | exact am_b0 | exact am_b1 | exact RM_obj (by assumption) | exact MS_obj (by assumption) | (simp only [ne_eq]; done) | exact am_nz2 | exact am_nz3 | exact am_nz6 | exact am_lt (hB _ _) | exact am_lt (stF_lt hB) | exact b32_01) only [e0_221, Option.toList_some, Option.toList_none, List.cons_append, List.nil_append, if_true]
      exact hn h (hfin h pl GR_rf hM)
    · simp (disch := first | assumption | omega | exact am_isr_ref | exact am_isr_null | exact am_isr_rf | exact am_c1_int | exact am_c1_ref | exact am_c1_null | exact am_c1_rf | exact am_b0 | exact am_b1 | exact RM_obj (by assumption) | (simp only [ne_eq]; done) | exact am_nz2 | exact am_nz3 | exact am_nz6 | exact am_lt (hB _ _) | exact am_lt (stF_lt hB) | exact b32_01) only [e0_183, e0_184, e0_185, e0_186, e0_187, e0_188, e0_189, e0_190, e0_191, e0_192, e0_193, e0_194, e0_195, e0_196, e0_197, e0_198, e0_199, nI_add, d1, d2', d3', Option.toList_some, Option.toList_none, List.cons_append, List.nil_append, hx, hy]
      refine d5 hi hj (fx.h15 i) fx.h19 hR hSS hSC hSL (fun h1 X1 K1 LL1 tg1 s1 s0 s2 q1 q2 q3 q4 _ => ?_)
      obtain ⟨hb1, g, hM, hfin, hbk⟩ := toMod hW0 r1 r2 q1 (by omega) (by omega) q2 q3 q4 (by
        by_cases e : S.2.1 15 i = 1
        · rw [if_pos e]; exact INV_b (by omega) (INV_write hj e hI)
        · rw [if_neg e]; exact hIb)
      simp (disch := first | assumption | omega | exact am_isr_ref | exact am_isr_null | exact am_isr_rf | exact am_c1_int | exact am_c1_ref | exact am_c1_null | exact am_c1_rf | exact am_b0 | exact am_b1 | exact RM_obj (by assumption) | exact MS_obj (by assumption) | (simp only [ne_eq]; done) | exact am_nz2 | exact am_nz3 | exact am_nz6 | exact am_lt (hB _ _) | exact am_lt (stF_lt hB) | exact b32_01) only [e0_202, e0_203, e0_204, e0_205, e0_206, e0_207, e0_208, e0_209, e0_210, e0_211, e0_212, e0_213, e0_214, e0_215, e0_216, e0_217, e0_218, nI_add, rd _ hb1 (4 * k + 1) (by omega), rd _ hb1 (4 * k + 2) (by omega), rd _ hb1 (4 * k + 3) (by omega), Option.toList_some, Option.toList_none, List.cons_append, List.nil_append, hx, hy]
      refine c97 hi hj hM fx.hB (fun h2 gr hM2 => ?_)
      simp (disch := first | assumption | omega | exact am_isr_ref | exact am_isr_null | exact am_isr_rf | exact am_c1_int | exact am_c1_ref | exact am_c1_null | exact am_c1_rf | exact am_b0 | exact am_b1 | exact RM_obj (by assumption) | exact MS_obj (by assumption) | (simp only [ne_eq]; done) | exact am_nz2 | exact am_nz3 | exact am_nz6 | exact am_lt (hB _ _) | exact am_lt (stF_lt hB) | exact b32_01) only [e0_221, Option.toList_some, Option.toList_none, List.cons_append, List.nil_append, if_true]
      exact hn h2 (hfin h2 pl gr hM2)

theorem kz7 (hL : L ≤ 2048) (hk : 4 * k + 4 ≤ L) (hW : LWx c b L xs k h) (hn : ∀ h2, LWx c b L xs (k + 1) h2 → am_R (d + 20) 0 546 [some (.ref b), some (.ref c), some (.ref (c + 95)), some (.int (nI (4 * k)))] [] h2 Q) : am_R (d + 20) 0 295 [some (.ref b), some (.ref c), some (.ref (c + 95)), some (.int (nI (4 * k)))] [] h Q := by
  obtain ⟨S, X, T, K, LL, tg, pa, pl, P, hW0, hSS, hSC, hSL, hI, r1, r2⟩ := hW
  have hk5 : k + 1 ≤ 512 := by omega
  have fx := INV_fx hk5 hI
  have hIb : INV S (k + 1) 1000 := INV_b (by omega) hI
  have hR := hW0.1
  have hm := fx.hm
  have ho := oA0 hR
  have hsc : h.2.2 b = some (.inl (9, L, .inl xs)) := hW0.2.2.2.1
  have rd : ∀ (h1 : aH), h1.2.2 b = some (.inl (9, L, .inl xs)) → ∀ i, i < L → ∀ F : Int32 → Prop, am_ga h1 b (nI i) F = F (xs i) := fun h1 e i hi F => by
    rw [am_ga_of e (Or.inr rfl) (am_in_nI hi (by omega)), nI_clamp (by omega)]
  have d1 := rd h hsc (4 * k + 1) (by omega)
  have d2' := rd h hsc (4 * k + 2) (by omega)
  have d3' := rd h hsc (4 * k + 3) (by omega)
  rcases pk_ix (xs (4 * k + 1)) (n := 6) (by omega) with hx | hx | ⟨i, hi, hx⟩
  · have hc1 : xs (4 * k + 1) < 0 ∨ nI 6 ≤ xs (4 * k + 1) := Or.inl hx
    simp (disch := first | assumption | omega | exact am_isr_ref | exact am_isr_null | exact am_isr_rf | exact am_c1_int | exact am_c1_ref | exact am_c1_null | exact am_c1_rf | exact am_b0 | exact am_b1 | exact RM_obj (by assumption) | (simp only [ne_eq]; done) | exact am_nz2 | exact am_nz3 | exact am_nz6 | exact am_lt (hB _ _) | exact am_lt (stF_lt hB) | exact b32_01) only [e0_295, e0_296, e0_297, e0_298, e0_299, e0_300, e0_301, e0_302, e0_303, e0_304, e0_305, e0_306, nI_add, d1, d2', d3', Option.toList_some, Option.toList_none, List.cons_append, List.nil_append]
    refine d9f (Or.inl hc1) hR ?_
    obtain ⟨hb1, g, hM, hfin, hbk⟩ := toMod hW0 r1 r2 hR (by omega) (by omega) hSS hSC hSL hIb
    simp (disch := first | assumption | omega | exact am_isr_ref | exact am_isr_null | exact am_isr_rf | exact am_c1_int | exact am_c1_ref | exact am_c1_null | exact am_c1_rf | exact am_b0 | exact am_b1 | exact RM_obj (by assumption) | exact MS_obj (by assumption) | (simp only [ne_eq]; done) | exact am_nz2 | exact am_nz3 | exact am_nz6 | exact am_lt (hB _ _) | exact am_lt (stF_lt hB) | exact b32_01) only [e0_309, e0_310, e0_311, e0_312, e0_313, e0_314, e0_315, e0_316, e0_317, e0_318, e0_319, e0_320, nI_add, rd _ hb1 (4 * k + 1) (by omega), rd _ hb1 (4 * k + 2) (by omega), rd _ hb1 (4 * k + 3) (by omega), Option.toList_some, Option.toList_none, List.cons_append, List.nil_append]
    refine c101f (Or.inl hc1) ?_
    simp (disch := first | assumption | omega | exact am_isr_ref | exact am_isr_null | exact am_isr_rf | exact am_c1_int | exact am_c1_ref | exact am_c1_null | exact am_c1_rf | exact am_b0 | exact am_b1 | exact RM_obj (by assumption) | exact MS_obj (by assumption) | (simp only [ne_eq]; done) | exact am_nz2 | exact am_nz3 | exact am_nz6 | exact am_lt (hB _ _) | exact am_lt (stF_lt hB) | exact b32_01) only [e0_323, Option.toList_some, Option.toList_none, List.cons_append, List.nil_append, if_true]
    exact hn h (hfin h pl GR_rf hM)
  · have hc1 : xs (4 * k + 1) < 0 ∨ nI 6 ≤ xs (4 * k + 1) := Or.inr hx
    simp (disch := first | assumption | omega | exact am_isr_ref | exact am_isr_null | exact am_isr_rf | exact am_c1_int | exact am_c1_ref | exact am_c1_null | exact am_c1_rf | exact am_b0 | exact am_b1 | exact RM_obj (by assumption) | (simp only [ne_eq]; done) | exact am_nz2 | exact am_nz3 | exact am_nz6 | exact am_lt (hB _ _) | exact am_lt (stF_lt hB) | exact b32_01) only [e0_295, e0_296, e0_297, e0_298, e0_299, e0_300, e0_301, e0_302, e0_303, e0_304, e0_305, e0_306, nI_add, d1, d2', d3', Option.toList_some, Option.toList_none, List.cons_append, List.nil_append]
    refine d9f (Or.inl hc1) hR ?_
    obtain ⟨hb1, g, hM, hfin, hbk⟩ := toMod hW0 r1 r2 hR (by omega) (by omega) hSS hSC hSL hIb
    simp (disch := first | assumption | omega | exact am_isr_ref | exact am_isr_null | exact am_isr_rf | exact am_c1_int | exact am_c1_ref | exact am_c1_null | exact am_c1_rf | exact am_b0 | exact am_b1 | exact RM_obj (by assumption) | exact MS_obj (by assumption) | (simp only [ne_eq]; done) | exact am_nz2 | exact am_nz3 | exact am_nz6 | exact am_lt (hB _ _) | exact am_lt (stF_lt hB) | exact b32_01) only [e0_309, e0_310, e0_311, e0_312, e0_313, e0_314, e0_315, e0_316, e0_317, e0_318, e0_319, e0_320, nI_add, rd _ hb1 (4 * k + 1) (by omega), rd _ hb1 (4 * k + 2) (by omega), rd _ hb1 (4 * k + 3) (by omega), Option.toList_some, Option.toList_none, List.cons_append, List.nil_append]
    refine c101f (Or.inl hc1) ?_
    simp (disch := first | assumption | omega | exact am_isr_ref | exact am_isr_null | exact am_isr_rf | exact am_c1_int | exact am_c1_ref | exact am_c1_null | exact am_c1_rf | exact am_b0 | exact am_b1 | exact RM_obj (by assumption) | exact MS_obj (by assumption) | (simp only [ne_eq]; done) | exact am_nz2 | exact am_nz3 | exact am_nz6 | exact am_lt (hB _ _) | exact am_lt (stF_lt hB) | exact b32_01) only [e0_323, Option.toList_some, Option.toList_none, List.cons_append, List.nil_append, if_true]
    exact hn h (hfin h pl GR_rf hM)
  · rcases pk_ix (xs (4 * k + 2)) (n := 6) (by omega) with hy | hy | ⟨j, hj, hy⟩
    · have hc2 : xs (4 * k + 2) < 0 ∨ nI 6 ≤ xs (4 * k + 2) := Or.inl hy
      simp (disch := first | assumption | omega | exact am_isr_ref | exact am_isr_null | exact am_isr_rf | exact am_c1_int | exact am_c1_ref | exact am_c1_null | exact am_c1_rf | exact am_b0 | exact am_b1 | exact RM_obj (by assumption) | (simp only [ne_eq]; done) | exact am_nz2 | exact am_nz3 | exact am_nz6 | exact am_lt (hB _ _) | exact am_lt (stF_lt hB) | exact b32_01) only [e0_295, e0_296, e0_297, e0_298, e0_299, e0_300, e0_301, e0_302, e0_303, e0_304, e0_305, e0_306, nI_add, d1, d2', d3', Option.toList_some, Option.toList_none, List.cons_append, List.nil_append]
      refine d9f (Or.inr hc2) hR ?_
      obtain ⟨hb1, g, hM, hfin, hbk⟩ := toMod hW0 r1 r2 hR (by omega) (by omega) hSS hSC hSL hIb
      simp (disch := first | assumption | omega | exact am_isr_ref | exact am_isr_null | exact am_isr_rf | exact am_c1_int | exact am_c1_ref | exact am_c1_null | exact am_c1_rf | exact am_b0 | exact am_b1 | exact RM_obj (by assumption) | exact MS_obj (by assumption) | (simp only [ne_eq]; done) | exact am_nz2 | exact am_nz3 | exact am_nz6 | exact am_lt (hB _ _) | exact am_lt (stF_lt hB) | exact b32_01) only [e0_309, e0_310, e0_311, e0_312, e0_313, e0_314, e0_315, e0_316, e0_317, e0_318, e0_319, e0_320, nI_add, rd _ hb1 (4 * k + 1) (by omega), rd _ hb1 (4 * k + 2) (by omega), rd _ hb1 (4 * k + 3) (by omega), Option.toList_some, Option.toList_none, List.cons_append, List.nil_append]
      refine c101f (Or.inr hc2) ?_
      simp (disch := first | assumption | omega | exact am_isr_ref | exact am_isr_null | exact am_isr_rf | exact am_c1_int | exact am_c1_ref | exact am_c1_null | exact am_c1_rf | exact am_b0 | exact am_b1 | exact RM_obj (by assumption) | exact MS_obj (by assumption) | (simp only [ne_eq]; done) | exact am_nz2 | exact am_nz3 | exact am_nz6 | exact am_lt (hB _ _) | exact am_lt (stF_lt hB) | exact b32_01) only [e0_323, Option.toList_some, Option.toList_none, List.cons_append, List.nil_append, if_true]
      exact hn h (hfin h pl GR_rf hM)
    · have hc2 : xs (4 * k + 2) < 0 ∨ nI 6 ≤ xs (4 * k + 2) := Or.inr hy
      simp (disch := first | assumption | omega | exact am_isr_ref | exact am_isr_null | exact am_isr_rf | exact am_c1_int | exact am_c1_ref | exact am_c1_null | exact am_c1_rf | exact am_b0 | exact am_b1 | exact RM_obj (by assumption) | (simp only [ne_eq]; done) | exact am_nz2 | exact am_nz3 | exact am_nz6 | exact am_lt (hB _ _) | exact am_lt (stF_lt hB) | exact b32_01) only [e0_295, e0_296, e0_297, e0_298, e0_299, e0_300, e0_301, e0_302, e0_303, e0_304, e0_305, e0_306, nI_add, d1, d2', d3', Option.toList_some, Option.toList_none, List.cons_append, List.nil_append]
      refine d9f (Or.inr hc2) hR ?_
      obtain ⟨hb1, g, hM, hfin, hbk⟩ := toMod hW0 r1 r2 hR (by omega) (by omega) hSS hSC hSL hIb
      simp (disch := first | assumption | omega | exact am_isr_ref | exact am_isr_null | exact am_isr_rf | exact am_c1_int | exact am_c1_ref | exact am_c1_null | exact am_c1_rf | exact am_b0 | exact am_b1 | exact RM_obj (by assumption) | exact MS_obj (by assumption) | (simp only [ne_eq]; done) | exact am_nz2 | exact am_nz3 | exact am_nz6 | exact am_lt (hB _ _) | exact am_lt (stF_lt hB) | exact b32_01) only [e0_309, e0_310, e0_311, e0_312, e0_313, e0_314, e0_315, e0_316, e0_317, e0_318, e0_319, e0_320, nI_add, rd _ hb1 (4 * k + 1) (by omega), rd _ hb1 (4 * k + 2) (by omega), rd _ hb1 (4 * k + 3) (by omega), Option.toList_some, Option.toList_none, List.cons_append, List.nil_append]
      refine c101f (Or.inr hc2) ?_
      simp (disch := first | assumption | omega | exact am_isr_ref | exact am_isr_null | exact am_isr_rf | exact am_c1_int | exact am_c1_ref | exact am_c1_null | exact am_c1_rf | exact am_b0 | exact am_b1 | exact RM_obj (by assumption) | exact MS_obj (by assumption) | (simp only [ne_eq]; done) | exact am_nz2 | exact am_nz3 | exact am_nz6 | exact am_lt (hB _ _) | exact am_lt (stF_lt hB) | exact b32_01) only [e0_323, Option.toList_some, Option.toList_none, List.cons_append, List.nil_append, if_true]
      exact hn h (hfin h pl GR_rf hM)
    · by_cases hlk : lkF i j
      · simp (disch := first | assumption | omega | exact am_isr_ref | exact am_isr_null | exact am_isr_rf | exact am_c1_int | exact am_c1_ref | exact am_c1_null | exact am_c1_rf | exact am_b0 | exact am_b1 | exact RM_obj (by assumption) | (simp only [ne_eq]; done) | exact am_nz2 | exact am_nz3 | exact am_nz6 | exact am_lt (hB _ _) | exact am_lt (stF_lt hB) | exact b32_01) only [e0_295, e0_296, e0_297, e0_298, e0_299, e0_300, e0_301, e0_302, e0_303, e0_304, e0_305, e0_306, nI_add, d1, d2', d3', Option.toList_some, Option.toList_none, List.cons_append, List.nil_append, hx, hy]
        refine d9 hi hj hlk fx.hL hm fx.hB fx.h11 fx.hz (fun a q ha hq => (INV_dlv hk5 ha hq hI).2.1) hR hSS hSC hSL (fun h1 X1 K1 LL1 tg1 s1 s0 s2 q1 q2 q3 q4 _ => ?_)
        obtain ⟨hb1, g, hM, hfin, hbk⟩ := toMod hW0 r1 r2 q1 (by omega) (by omega) q2 q3 q4 (INV_dl hk5 hI)
        simp (disch := first | assumption | omega | exact am_isr_ref | exact am_isr_null | exact am_isr_rf | exact am_c1_int | exact am_c1_ref | exact am_c1_null | exact am_c1_rf | exact am_b0 | exact am_b1 | exact RM_obj (by assumption) | exact MS_obj (by assumption) | (simp only [ne_eq]; done) | exact am_nz2 | exact am_nz3 | exact am_nz6 | exact am_lt (hB _ _) | exact am_lt (stF_lt hB) | exact b32_01) only [e0_309, e0_310, e0_311, e0_312, e0_313, e0_314, e0_315, e0_316, e0_317, e0_318, e0_319, e0_320, nI_add, rd _ hb1 (4 * k + 1) (by omega), rd _ hb1 (4 * k + 2) (by omega), rd _ hb1 (4 * k + 3) (by omega), Option.toList_some, Option.toList_none, List.cons_append, List.nil_append, hx, hy]
        refine c101 hi hj hlk hM fx.hB hm fx.hL (by have := fx.hlen; omega) (fun a q ha hq => (INV_dlv hk5 ha hq hI).2.2) (fun h2 pl2 gr hM2 => ?_)
        simp (disch := first | assumption | omega | exact am_isr_ref | exact am_isr_null | exact am_isr_rf | exact am_c1_int | exact am_c1_ref | exact am_c1_null | exact am_c1_rf | exact am_b0 | exact am_b1 | exact RM_obj (by assumption) | exact MS_obj (by assumption) | (simp only [ne_eq]; done) | exact am_nz2 | exact am_nz3 | exact am_nz6 | exact am_lt (hB _ _) | exact am_lt (stF_lt hB) | exact b32_01) only [e0_323, Option.toList_some, Option.toList_none, List.cons_append, List.nil_append, if_true]
        exact hn h2 (hfin h2 pl2 gr hM2)
      · simp (disch := first | assumption | omega | exact am_isr_ref | exact am_isr_null | exact am_isr_rf | exact am_c1_int | exact am_c1_ref | exact am_c1_null | exact am_c1_rf | exact am_b0 | exact am_b1 | exact RM_obj (by assumption) | (simp only [ne_eq]; done) | exact am_nz2 | exact am_nz3 | exact am_nz6 | exact am_lt (hB _ _) | exact am_lt (stF_lt hB) | exact b32_01) only [e0_295, e0_296, e0_297, e0_298, e0_299, e0_300, e0_301, e0_302, e0_303, e0_304, e0_305, e0_306, nI_add, d1, d2', d3', Option.toList_some, Option.toList_none, List.cons_append, List.nil_append, hx, hy]
        refine d9n hi hj hlk hR ?_
        obtain ⟨hb1, g, hM, hfin, hbk⟩ := toMod hW0 r1 r2 hR (by omega) (by omega) hSS hSC hSL hIb
        simp (disch := first | assumption | omega | exact am_isr_ref | exact am_isr_null | exact am_isr_rf | exact am_c1_int | exact am_c1_ref | exact am_c1_null | exact am_c1_rf | exact am_b0 | exact am_b1 | exact RM_obj (by assumption) | exact MS_obj (by assumption) | (simp only [ne_eq]; done) | exact am_nz2 | exact am_nz3 | exact am_nz6 | exact am_lt (hB _ _) | exact am_lt (stF_lt hB) | exact b32_01) only [e0_309, e0_310, e0_311, e0_312, e0_313, e0_314, e0_315, e0_316, e0_317, e0_318, e0_319, e0_320, nI_add, rd _ hb1 (4 * k + 1) (by omega), rd _ hb1 (4 * k + 2) (by omega), rd _ hb1 (4 * k + 3) (by omega), Option.toList_some, Option.toList_none, List.cons_append, List.nil_append, hx, hy]
        refine c101n hi hj hlk ?_
        simp (disch := first | assumption | omega | exact am_isr_ref | exact am_isr_null | exact am_isr_rf | exact am_c1_int | exact am_c1_ref | exact am_c1_null | exact am_c1_rf | exact am_b0 | exact am_b1 | exact RM_obj (by assumption) | exact MS_obj (by assumption) | (simp only [ne_eq]; done) | exact am_nz2 | exact am_nz3 | exact am_nz6 | exact am_lt (hB _ _) | exact am_lt (stF_lt hB) | exact b32_01) only [e0_323, Option.toList_some, Option.toList_none, List.cons_append, List.nil_append, if_true]
        exact hn h (hfin h pl GR_rf hM)

theorem kz8 (hL : L ≤ 2048) (hk : 4 * k + 4 ≤ L) (hW : LWx c b L xs k h) (hn : ∀ h2, LWx c b L xs (k + 1) h2 → am_R (d + 20) 0 546 [some (.ref b), some (.ref c), some (.ref (c + 95)), some (.int (nI (4 * k)))] [] h2 Q) : am_R (d + 20) 0 328 [some (.ref b), some (.ref c), some (.ref (c + 95)), some (.int (nI (4 * k)))] [] h Q := by
  obtain ⟨S, X, T, K, LL, tg, pa, pl, P, hW0, hSS, hSC, hSL, hI, r1, r2⟩ := hW
  have hk5 : k + 1 ≤ 512 := by omega
  have fx := INV_fx hk5 hI
  have hIb : INV S (k + 1) 1000 := INV_b (by omega) hI
  have hR := hW0.1
  have hm := fx.hm
  have ho := oA0 hR
  have hsc : h.2.2 b = some (.inl (9, L, .inl xs)) := hW0.2.2.2.1
  have rd : ∀ (h1 : aH), h1.2.2 b = some (.inl (9, L, .inl xs)) → ∀ i, i < L → ∀ F : Int32 → Prop, am_ga h1 b (nI i) F = F (xs i) := fun h1 e i hi F => by
    rw [am_ga_of e (Or.inr rfl) (am_in_nI hi (by omega)), nI_clamp (by omega)]
  have d1 := rd h hsc (4 * k + 1) (by omega)
  have d2' := rd h hsc (4 * k + 2) (by omega)
  have d3' := rd h hsc (4 * k + 3) (by omega)
  rcases pk_ix (xs (4 * k + 1)) (n := 6) (by omega) with hx | hx | ⟨i, hi, hx⟩
  · have hc1 : xs (4 * k + 1) < 0 ∨ nI 6 ≤ xs (4 * k + 1) := Or.inl hx
    simp (disch := first | assumption | omega | exact am_isr_ref | exact am_isr_null | exact am_isr_rf | exact am_c1_int | exact am_c1_ref | exact am_c1_null | exact am_c1_rf | exact am_b0 | exact am_b1 | exact RM_obj (by assumption) | (simp only [ne_eq]; done) | exact am_nz2 | exact am_nz3 | exact am_nz6 | exact am_lt (hB _ _) | exact am_lt (stF_lt hB) | exact b32_01) only [e0_328, e0_329, e0_330, e0_331, e0_332, e0_333, e0_334, e0_335, e0_336, e0_337, e0_338, e0_339, nI_add, d1, d2', d3', Option.toList_some, Option.toList_none, List.cons_append, List.nil_append]
    refine d10f (Or.inl hc1) hR ?_
    obtain ⟨hb1, g, hM, hfin, hbk⟩ := toMod hW0 r1 r2 hR (by omega) (by omega) hSS hSC hSL hIb
    simp (disch := first | assumption | omega | exact am_isr_ref | exact am_isr_null | exact am_isr_rf | exact am_c1_int | exact am_c1_ref | exact am_c1_null | exact am_c1_rf | exact am_b0 | exact am_b1 | exact RM_obj (by assumption) | exact MS_obj (by assumption) | (simp only [ne_eq]; done) | exact am_nz2 | exact am_nz3 | exact am_nz6 | exact am_lt (hB _ _) | exact am_lt (stF_lt hB) | exact b32_01) only [e0_342, e0_343, e0_344, e0_345, e0_346, e0_347, e0_348, e0_349, e0_350, e0_351, e0_352, e0_353, nI_add, rd _ hb1 (4 * k + 1) (by omega), rd _ hb1 (4 * k + 2) (by omega), rd _ hb1 (4 * k + 3) (by omega), Option.toList_some, Option.toList_none, List.cons_append, List.nil_append]
    refine c103f (Or.inl hc1) ?_
    simp (disch := first | assumption | omega | exact am_isr_ref | exact am_isr_null | exact am_isr_rf | exact am_c1_int | exact am_c1_ref | exact am_c1_null | exact am_c1_rf | exact am_b0 | exact am_b1 | exact RM_obj (by assumption) | exact MS_obj (by assumption) | (simp only [ne_eq]; done) | exact am_nz2 | exact am_nz3 | exact am_nz6 | exact am_lt (hB _ _) | exact am_lt (stF_lt hB) | exact b32_01) only [e0_356, Option.toList_some, Option.toList_none, List.cons_append, List.nil_append, if_true]
    exact hn h (hfin h pl GR_rf hM)
  · have hc1 : xs (4 * k + 1) < 0 ∨ nI 6 ≤ xs (4 * k + 1) := Or.inr hx
    simp (disch := first | assumption | omega | exact am_isr_ref | exact am_isr_null | exact am_isr_rf | exact am_c1_int | exact am_c1_ref | exact am_c1_null | exact am_c1_rf | exact am_b0 | exact am_b1 | exact RM_obj (by assumption) | (simp only [ne_eq]; done) | exact am_nz2 | exact am_nz3 | exact am_nz6 | exact am_lt (hB _ _) | exact am_lt (stF_lt hB) | exact b32_01) only [e0_328, e0_329, e0_330, e0_331, e0_332, e0_333, e0_334, e0_335, e0_336, e0_337, e0_338, e0_339, nI_add, d1, d2', d3', Option.toList_some, Option.toList_none, List.cons_append, List.nil_append]
    refine d10f (Or.inl hc1) hR ?_
    obtain ⟨hb1, g, hM, hfin, hbk⟩ := toMod hW0 r1 r2 hR (by omega) (by omega) hSS hSC hSL hIb
    simp (disch := first | assumption | omega | exact am_isr_ref | exact am_isr_null | exact am_isr_rf | exact am_c1_int | exact am_c1_ref | exact am_c1_null | exact am_c1_rf | exact am_b0 | exact am_b1 | exact RM_obj (by assumption) | exact MS_obj (by assumption) | (simp only [ne_eq]; done) | exact am_nz2 | exact am_nz3 | exact am_nz6 | exact am_lt (hB _ _) | exact am_lt (stF_lt hB) | exact b32_01) only [e0_342, e0_343, e0_344, e0_345, e0_346, e0_347, e0_348, e0_349, e0_350, e0_351, e0_352, e0_353, nI_add, rd _ hb1 (4 * k + 1) (by omega), rd _ hb1 (4 * k + 2) (by omega), rd _ hb1 (4 * k + 3) (by omega), Option.toList_some, Option.toList_none, List.cons_append, List.nil_append]
    refine c103f (Or.inl hc1) ?_
    simp (disch := first | assumption | omega | exact am_isr_ref | exact am_isr_null | exact am_isr_rf | exact am_c1_int | exact am_c1_ref | exact am_c1_null | exact am_c1_rf | exact am_b0 | exact am_b1 | exact RM_obj (by assumption) | exact MS_obj (by assumption) | (simp only [ne_eq]; done) | exact am_nz2 | exact am_nz3 | exact am_nz6 | exact am_lt (hB _ _) | exact am_lt (stF_lt hB) | exact b32_01) only [e0_356, Option.toList_some, Option.toList_none, List.cons_append, List.nil_append, if_true]
    exact hn h (hfin h pl GR_rf hM)
  · rcases pk_ix (xs (4 * k + 2)) (n := 40) (by omega) with hy | hy | ⟨j, hj, hy⟩
    · have hc2 : xs (4 * k + 2) < 0 ∨ nI 40 ≤ xs (4 * k + 2) := Or.inl hy
      simp (disch := first | assumption | omega | exact am_isr_ref | exact am_isr_null | exact am_isr_rf | exact am_c1_int | exact am_c1_ref | exact am_c1_null | exact am_c1_rf | exact am_b0 | exact am_b1 | exact RM_obj (by assumption) | (simp only [ne_eq]; done) | exact am_nz2 | exact am_nz3 | exact am_nz6 | exact am_lt (hB _ _) | exact am_lt (stF_lt hB) | exact b32_01) only [e0_328, e0_329, e0_330, e0_331, e0_332, e0_333, e0_334, e0_335, e0_336, e0_337, e0_338, e0_339, nI_add, d1, d2', d3', Option.toList_some, Option.toList_none, List.cons_append, List.nil_append]
      refine d10f (Or.inr hc2) hR ?_
      obtain ⟨hb1, g, hM, hfin, hbk⟩ := toMod hW0 r1 r2 hR (by omega) (by omega) hSS hSC hSL hIb
      simp (disch := first | assumption | omega | exact am_isr_ref | exact am_isr_null | exact am_isr_rf | exact am_c1_int | exact am_c1_ref | exact am_c1_null | exact am_c1_rf | exact am_b0 | exact am_b1 | exact RM_obj (by assumption) | exact MS_obj (by assumption) | (simp only [ne_eq]; done) | exact am_nz2 | exact am_nz3 | exact am_nz6 | exact am_lt (hB _ _) | exact am_lt (stF_lt hB) | exact b32_01) only [e0_342, e0_343, e0_344, e0_345, e0_346, e0_347, e0_348, e0_349, e0_350, e0_351, e0_352, e0_353, nI_add, rd _ hb1 (4 * k + 1) (by omega), rd _ hb1 (4 * k + 2) (by omega), rd _ hb1 (4 * k + 3) (by omega), Option.toList_some, Option.toList_none, List.cons_append, List.nil_append]
      refine c103f (Or.inr hc2) ?_
      simp (disch := first | assumption | omega | exact am_isr_ref | exact am_isr_null | exact am_isr_rf | exact am_c1_int | exact am_c1_ref | exact am_c1_null | exact am_c1_rf | exact am_b0 | exact am_b1 | exact RM_obj (by assumption) | exact MS_obj (by assumption) | (simp only [ne_eq]; done) | exact am_nz2 | exact am_nz3 | exact am_nz6 | exact am_lt (hB _ _) | exact am_lt (stF_lt hB) | exact b32_01) only [e0_356, Option.toList_some, Option.toList_none, List.cons_append, List.nil_append, if_true]
      exact hn h (hfin h pl GR_rf hM)
    · have hc2 : xs (4 * k + 2) < 0 ∨ nI 40 ≤ xs (4 * k + 2) := Or.inr hy
      simp (disch := first | assumption | omega | exact am_isr_ref | exact am_isr_null | exact am_isr_rf | exact am_c1_int | exact am_c1_ref | exact am_c1_null | exact am_c1_rf | exact am_b0 | exact am_b1 | exact RM_obj (by assumption) | (simp only [ne_eq]; done) | exact am_nz2 | exact am_nz3 | exact am_nz6 | exact am_lt (hB _ _) | exact am_lt (stF_lt hB) | exact b32_01) only [e0_328, e0_329, e0_330, e0_331, e0_332, e0_333, e0_334, e0_335, e0_336, e0_337, e0_338, e0_339, nI_add, d1, d2', d3', Option.toList_some, Option.toList_none, List.cons_append, List.nil_append]
      refine d10f (Or.inr hc2) hR ?_
      obtain ⟨hb1, g, hM, hfin, hbk⟩ := toMod hW0 r1 r2 hR (by omega) (by omega) hSS hSC hSL hIb
      simp (disch := first | assumption | omega | exact am_isr_ref | exact am_isr_null | exact am_isr_rf | exact am_c1_int | exact am_c1_ref | exact am_c1_null | exact am_c1_rf | exact am_b0 | exact am_b1 | exact RM_obj (by assumption) | exact MS_obj (by assumption) | (simp only [ne_eq]; done) | exact am_nz2 | exact am_nz3 | exact am_nz6 | exact am_lt (hB _ _) | exact am_lt (stF_lt hB) | exact b32_01) only [e0_342, e0_343, e0_344, e0_345, e0_346, e0_347, e0_348, e0_349, e0_350, e0_351, e0_352, e0_353, nI_add, rd _ hb1 (4 * k + 1) (by omega), rd _ hb1 (4 * k + 2) (by omega), rd _ hb1 (4 * k + 3) (by omega), Option.toList_some, Option.toList_none, List.cons_append, List.nil_append]
      refine c103f (Or.inr hc2) ?_
      simp (disch := first | assumption | omega | exact am_isr_ref | exact am_isr_null | exact am_isr_rf | exact am_c1_int | exact am_c1_ref | exact am_c1_null | exact am_c1_rf | exact am_b0 | exact am_b1 | exact RM_obj (by assumption) | exact MS_obj (by assumption) | (simp only [ne_eq]; done) | exact am_nz2 | exact am_nz3 | exact am_nz6 | exact am_lt (hB _ _) | exact am_lt (stF_lt hB) | exact b32_01) only [e0_356, Option.toList_some, Option.toList_none, List.cons_append, List.nil_append, if_true]
      exact hn h (hfin h pl GR_rf hM)
    · simp (disch := first | assumption | omega | exact am_isr_ref | exact am_isr_null | exact am_isr_rf | exact am_c1_int | exact am_c1_ref | exact am_c1_null | exact am_c1_rf | exact am_b0 | exact am_b1 | exact RM_obj (by assumption) | (simp only [ne_eq]; done) | exact am_nz2 | exact am_nz3 | exact am_nz6 | exact am_lt (hB _ _) | exact am_lt (stF_lt hB) | exact b32_01) only [e0_328, e0_329, e0_330, e0_331, e0_332, e0_333, e0_334, e0_335, e0_336, e0_337, e0_338, e0_339, nI_add, d1, d2', d3', Option.toList_some, Option.toList_none, List.cons_append, List.nil_append, hx, hy]
      refine d10 hi hj fx.hB hR hSC ?_
      obtain ⟨hb1, g, hM, hfin, hbk⟩ := toMod hW0 r1 r2 hR (by omega) (by omega) hSS hSC hSL hIb
      simp (disch := first | assumption | omega | exact am_isr_ref | exact am_isr_null | exact am_isr_rf | exact am_c1_int | exact am_c1_ref | exact am_c1_null | exact am_c1_rf | exact am_b0 | exact am_b1 | exact RM_obj (by assumption) | exact MS_obj (by assumption) | (simp only [ne_eq]; done) | exact am_nz2 | exact am_nz3 | exact am_nz6 | exact am_lt (hB _ _) | exact am_lt (stF_lt hB) | exact b32_01) only [e0_342, e0_343, e0_344, e0_345, e0_346, e0_347, e0_348, e0_349, e0_350, e0_351, e0_352, e0_353, nI_add, rd _ hb1 (4 * k + 1) (by omega), rd _ hb1 (4 * k + 2) (by omega), rd _ hb1 (4 * k + 3) (by omega), Option.toList_some, Option.toList_none, List.cons_append, List.nil_append, hx, hy]
      refine c103 hi hj hM fx.hW (fx.h19 i) ?_
      simp (disch := first | assumption | omega | exact am_isr_ref | exact am_isr_null | exact am_isr_rf | exact am_c1_int | exact am_c1_ref | exact am_c1_null | exact am_c1_rf | exact am_b0 | exact am_b1 | exact RM_obj (by assumption) | exact MS_obj (by assumption) | (simp only [ne_eq]; done) | exact am_nz2 | exact am_nz3 | exact am_nz6 | exact am_lt (hB _ _) | exact am_lt (stF_lt hB) | exact b32_01) only [e0_356, Option.toList_some, Option.toList_none, List.cons_append, List.nil_append, if_true]
      exact hn h (hfin h pl GR_rf hM)

theorem kz9 (hL : L ≤ 2048) (hk : 4 * k + 4 ≤ L) (hW : LWx c b L xs k h) (hn : ∀ h2, LWx c b L xs (k + 1) h2 → am_R (d + 20) 0 546 [some (.ref b), some (.ref c), some (.ref (c + 95)), some (.int (nI (4 * k)))] [] h2 Q) : am_R (d + 20) 0 361 [some (.ref b), some (.ref c), some (.ref (c + 95)), some (.int (nI (4 * k)))] [] h Q := by
  obtain ⟨S, X, T, K, LL, tg, pa, pl, P, hW0, hSS, hSC, hSL, hI, r1, r2⟩ := hW
  have hk5 : k + 1 ≤ 512 := by omega
  have fx := INV_fx hk5 hI
  have hIb : INV S (k + 1) 1000 := INV_b (by omega) hI
  have hR := hW0.1
  have hm := fx.hm
  have ho := oA0 hR
  have hsc : h.2.2 b = some (.inl (9, L, .inl xs)) := hW0.2.2.2.1
  have rd : ∀ (h1 : aH), h1.2.2 b = some (.inl (9, L, .inl xs)) → ∀ i, i < L → ∀ F : Int32 → Prop, am_ga h1 b (nI i) F = F (xs i) := fun h1 e i hi F => by
    rw [am_ga_of e (Or.inr rfl) (am_in_nI hi (by omega)), nI_clamp (by omega)]
  have d1 := rd h hsc (4 * k + 1) (by omega)
  have d2' := rd h hsc (4 * k + 2) (by omega)
  have d3' := rd h hsc (4 * k + 3) (by omega)
  rcases pk_ix (xs (4 * k + 1)) (n := 6) (by omega) with hx | hx | ⟨i, hi, hx⟩
  · have hc1 : xs (4 * k + 1) < 0 ∨ nI 6 ≤ xs (4 * k + 1) := Or.inl hx
    simp (disch := first | assumption | omega | exact am_isr_ref | exact am_isr_null | exact am_isr_rf | exact am_c1_int | exact am_c1_ref | exact am_c1_null | exact am_c1_rf | exact am_b0 | exact am_b1 | exact RM_obj (by assumption) | (simp only [ne_eq]; done) | exact am_nz2 | exact am_nz3 | exact am_nz6 | exact am_lt (hB _ _) | exact am_lt (stF_lt hB) | exact b32_01) only [e0_361, e0_362, e0_363, e0_364, e0_365, e0_366, e0_367, e0_368, e0_369, e0_370, e0_371, e0_372, nI_add, d1, d2', d3', Option.toList_some, Option.toList_none, List.cons_append, List.nil_append]
    refine d11f (Or.inl hc1) hR ?_
    obtain ⟨hb1, g, hM, hfin, hbk⟩ := toMod hW0 r1 r2 hR (by omega) (by omega) hSS hSC hSL hIb
    simp (disch := first | assumption | omega | exact am_isr_ref | exact am_isr_null | exact am_isr_rf | exact am_c1_int | exact am_c1_ref | exact am_c1_null | exact am_c1_rf | exact am_b0 | exact am_b1 | exact RM_obj (by assumption) | exact MS_obj (by assumption) | (simp only [ne_eq]; done) | exact am_nz2 | exact am_nz3 | exact am_nz6 | exact am_lt (hB _ _) | exact am_lt (stF_lt hB) | exact b32_01) only [e0_375, e0_376, e0_377, e0_378, e0_379, e0_380, e0_381, e0_382, e0_383, e0_384, e0_385, e0_386, nI_add, rd _ hb1 (4 * k + 1) (by omega), rd _ hb1 (4 * k + 2) (by omega), rd _ hb1 (4 * k + 3) (by omega), Option.toList_some, Option.toList_none, List.cons_append, List.nil_append]
    refine c105f (Or.inl hc1) ?_
    simp (disch := first | assumption | omega | exact am_isr_ref | exact am_isr_null | exact am_isr_rf | exact am_c1_int | exact am_c1_ref | exact am_c1_null | exact am_c1_rf | exact am_b0 | exact am_b1 | exact RM_obj (by assumption) | exact MS_obj (by assumption) | (simp only [ne_eq]; done) | exact am_nz2 | exact am_nz3 | exact am_nz6 | exact am_lt (hB _ _) | exact am_lt (stF_lt hB) | exact b32_01) only [e0_389, Option.toList_some, Option.toList_none, List.cons_append, List.nil_append, if_true]
    exact hn h (hfin h pl GR_rf hM)
  · have hc1 : xs (4 * k + 1) < 0 ∨ nI 6 ≤ xs (4 * k + 1) := Or.inr hx
    simp (disch := first | assumption | omega | exact am_isr_ref | exact am_isr_null | exact am_isr_rf | exact am_c1_int | exact am_c1_ref | exact am_c1_null | exact am_c1_rf | exact am_b0 | exact am_b1 | exact RM_obj (by assumption) | (simp only [ne_eq]; done) | exact am_nz2 | exact am_nz3 | exact am_nz6 | exact am_lt (hB _ _) | exact am_lt (stF_lt hB) | exact b32_01) only [e0_361, e0_362, e0_363, e0_364, e0_365, e0_366, e0_367, e0_368, e0_369, e0_370, e0_371, e0_372, nI_add, d1, d2', d3', Option.toList_some, Option.toList_none, List.cons_append, List.nil_append]
    refine d11f (Or.inl hc1) hR ?_
    obtain ⟨hb1, g, hM, hfin, hbk⟩ := toMod hW0 r1 r2 hR (by omega) (by omega) hSS hSC hSL hIb
    simp (disch := first | assumption | omega | exact am_isr_ref | exact am_isr_null | exact am_isr_rf | exact am_c1_int | exact am_c1_ref | exact am_c1_null | exact am_c1_rf | exact am_b0 | exact am_b1 | exact RM_obj (by assumption) | exact MS_obj (by assumption) | (simp only [ne_eq]; done) | exact am_nz2 | exact am_nz3 | exact am_nz6 | exact am_lt (hB _ _) | exact am_lt (stF_lt hB) | exact b32_01) only [e0_375, e0_376, e0_377, e0_378, e0_379, e0_380, e0_381, e0_382, e0_383, e0_384, e0_385, e0_386, nI_add, rd _ hb1 (4 * k + 1) (by omega), rd _ hb1 (4 * k + 2) (by omega), rd _ hb1 (4 * k + 3) (by omega), Option.toList_some, Option.toList_none, List.cons_append, List.nil_append]
    refine c105f (Or.inl hc1) ?_
    simp (disch := first | assumption | omega | exact am_isr_ref | exact am_isr_null | exact am_isr_rf | exact am_c1_int | exact am_c1_ref | exact am_c1_null | exact am_c1_rf | exact am_b0 | exact am_b1 | exact RM_obj (by assumption) | exact MS_obj (by assumption) | (simp only [ne_eq]; done) | exact am_nz2 | exact am_nz3 | exact am_nz6 | exact am_lt (hB _ _) | exact am_lt (stF_lt hB) | exact b32_01) only [e0_389, Option.toList_some, Option.toList_none, List.cons_append, List.nil_append, if_true]
    exact hn h (hfin h pl GR_rf hM)
  · rcases pk_ix (xs (4 * k + 2)) (n := 40) (by omega) with hy | hy | ⟨j, hj, hy⟩
    · have hc2 : xs (4 * k + 2) < 0 ∨ nI 40 ≤ xs (4 * k + 2) := Or.inl hy
      simp (disch := first | assumption | omega | exact am_isr_ref | exact am_isr_null | exact am_isr_rf | exact am_c1_int | exact am_c1_ref | exact am_c1_null | exact am_c1_rf | exact am_b0 | exact am_b1 | exact RM_obj (by assumption) | (simp only [ne_eq]; done) | exact am_nz2 | exact am_nz3 | exact am_nz6 | exact am_lt (hB _ _) | exact am_lt (stF_lt hB) | exact b32_01) only [e0_361, e0_362, e0_363, e0_364, e0_365, e0_366, e0_367, e0_368, e0_369, e0_370, e0_371, e0_372, nI_add, d1, d2', d3', Option.toList_some, Option.toList_none, List.cons_append, List.nil_append]
      refine d11f (Or.inr hc2) hR ?_
      obtain ⟨hb1, g, hM, hfin, hbk⟩ := toMod hW0 r1 r2 hR (by omega) (by omega) hSS hSC hSL hIb
      simp (disch := first | assumption | omega | exact am_isr_ref | exact am_isr_null | exact am_isr_rf | exact am_c1_int | exact am_c1_ref | exact am_c1_null | exact am_c1_rf | exact am_b0 | exact am_b1 | exact RM_obj (by assumption) | exact MS_obj (by assumption) | (simp only [ne_eq]; done) | exact am_nz2 | exact am_nz3 | exact am_nz6 | exact am_lt (hB _ _) | exact am_lt (stF_lt hB) | exact b32_01) only [e0_375, e0_376, e0_377, e0_378, e0_379, e0_380, e0_381, e0_382, e0_383, e0_384, e0_385, e0_386, nI_add, rd _ hb1 (4 * k + 1) (by omega), rd _ hb1 (4 * k + 2) (by omega), rd _ hb1 (4 * k + 3) (by omega), Option.toList_some, Option.toList_none, List.cons_append, List.nil_append]
      refine c105f (Or.inr hc2) ?_
      simp (disch := first | assumption | omega | exact am_isr_ref | exact am_isr_null | exact am_isr_rf | exact am_c1_int | exact am_c1_ref | exact am_c1_null | exact am_c1_rf | exact am_b0 | exact am_b1 | exact RM_obj (by assumption) | exact MS_obj (by assumption) | (simp only [ne_eq]; done) | exact am_nz2 | exact am_nz3 | exact am_nz6 | exact am_lt (hB _ _) | exact am_lt (stF_lt hB) | exact b32_01) only [e0_389, Option.toList_some, Option.toList_none, List.cons_append, List.nil_append, if_true]
      exact hn h (hfin h pl GR_rf hM)
    · have hc2 : xs (4 * k + 2) < 0 ∨ nI 40 ≤ xs (4 * k + 2) := Or.inr hy
      simp (disch := first | assumption | omega | exact am_isr_ref | exact am_isr_null | exact am_isr_rf | exact am_c1_int | exact am_c1_ref | exact am_c1_null | exact am_c1_rf | exact am_b0 | exact am_b1 | exact RM_obj (by assumption) | (simp only [ne_eq]; done) | exact am_nz2 | exact am_nz3 | exact am_nz6 | exact am_lt (hB _ _) | exact am_lt (stF_lt hB) | exact b32_01) only [e0_361, e0_362, e0_363, e0_364, e0_365, e0_366, e0_367, e0_368, e0_369, e0_370, e0_371, e0_372, nI_add, d1, d2', d3', Option.toList_some, Option.toList_none, List.cons_append, List.nil_append]
      refine d11f (Or.inr hc2) hR ?_
      obtain ⟨hb1, g, hM, hfin, hbk⟩ := toMod hW0 r1 r2 hR (by omega) (by omega) hSS hSC hSL hIb
      simp (disch := first | assumption | omega | exact am_isr_ref | exact am_isr_null | exact am_isr_rf | exact am_c1_int | exact am_c1_ref | exact am_c1_null | exact am_c1_rf | exact am_b0 | exact am_b1 | exact RM_obj (by assumption) | exact MS_obj (by assumption) | (simp only [ne_eq]; done) | exact am_nz2 | exact am_nz3 | exact am_nz6 | exact am_lt (hB _ _) | exact am_lt (stF_lt hB) | exact b32_01) only [e0_375, e0_376, e0_377, e0_378, e0_379, e0_380, e0_381, e0_382, e0_383, e0_384, e0_385, e0_386, nI_add, rd _ hb1 (4 * k + 1) (by omega), rd _ hb1 (4 * k + 2) (by omega), rd _ hb1 (4 * k + 3) (by omega), Option.toList_some, Option.toList_none, List.cons_append, List.nil_append]
      refine c105f (Or.inr hc2) ?_
      simp (disch := first | assumption | omega | exact am_isr_ref | exact am_isr_null | exact am_isr_rf | exact am_c1_int | exact am_c1_ref | exact am_c1_null | exact am_c1_rf | exact am_b0 | exact am_b1 | exact RM_obj (by assumption) | exact MS_obj (by assumption) | (simp only [ne_eq]; done) | exact am_nz2 | exact am_nz3 | exact am_nz6 | exact am_lt (hB _ _) | exact am_lt (stF_lt hB) | exact b32_01) only [e0_389, Option.toList_some, Option.toList_none, List.cons_append, List.nil_append, if_true]
      exact hn h (hfin h pl GR_rf hM)
    · simp (disch := first | assumption | omega | exact am_isr_ref | exact am_isr_null | exact am_isr_rf | exact am_c1_int | exact am_c1_ref | exact am_c1_null | exact am_c1_rf | exact am_b0 | exact am_b1 | exact RM_obj (by assumption) | (simp only [ne_eq]; done) | exact am_nz2 | exact am_nz3 | exact am_nz6 | exact am_lt (hB _ _) | exact am_lt (stF_lt hB) | exact b32_01) only [e0_361, e0_362, e0_363, e0_364, e0_365, e0_366, e0_367, e0_368, e0_369, e0_370, e0_371, e0_372, nI_add, d1, d2', d3', Option.toList_some, Option.toList_none, List.cons_append, List.nil_append, hx, hy]
      refine d11 hi hj fx.hB hm fx.h11 (fun n => fx.hz i n hi) hR hSS ?_
      obtain ⟨hb1, g, hM, hfin, hbk⟩ := toMod hW0 r1 r2 hR (by omega) (by omega) hSS hSC hSL hIb
      simp (disch := first | assumption | omega | exact am_isr_ref | exact am_isr_null | exact am_isr_rf | exact am_c1_int | exact am_c1_ref | exact am_c1_null | exact am_c1_rf | exact am_b0 | exact am_b1 | exact RM_obj (by assumption) | exact MS_obj (by assumption) | (simp only [ne_eq]; done) | exact am_nz2 | exact am_nz3 | exact am_nz6 | exact am_lt (hB _ _) | exact am_lt (stF_lt hB) | exact b32_01) only [e0_375, e0_376, e0_377, e0_378, e0_379, e0_380, e0_381, e0_382, e0_383, e0_384, e0_385, e0_386, nI_add, rd _ hb1 (4 * k + 1) (by omega), rd _ hb1 (4 * k + 2) (by omega), rd _ hb1 (4 * k + 3) (by omega), Option.toList_some, Option.toList_none, List.cons_append, List.nil_append, hx, hy]
      refine c105 hi hj hM fx.hB hm ?_
      simp (disch := first | assumption | omega | exact am_isr_ref | exact am_isr_null | exact am_isr_rf | exact am_c1_int | exact am_c1_ref | exact am_c1_null | exact am_c1_rf | exact am_b0 | exact am_b1 | exact RM_obj (by assumption) | exact MS_obj (by assumption) | (simp only [ne_eq]; done) | exact am_nz2 | exact am_nz3 | exact am_nz6 | exact am_lt (hB _ _) | exact am_lt (stF_lt hB) | exact b32_01) only [e0_389, Option.toList_some, Option.toList_none, List.cons_append, List.nil_append, if_true]
      exact hn h (hfin h pl GR_rf hM)

theorem kz10 (hL : L ≤ 2048) (hk : 4 * k + 4 ≤ L) (hW : LWx c b L xs k h) (hn : ∀ h2, LWx c b L xs (k + 1) h2 → am_R (d + 20) 0 546 [some (.ref b), some (.ref c), some (.ref (c + 95)), some (.int (nI (4 * k)))] [] h2 Q) : am_R (d + 20) 0 394 [some (.ref b), some (.ref c), some (.ref (c + 95)), some (.int (nI (4 * k)))] [] h Q := by
  obtain ⟨S, X, T, K, LL, tg, pa, pl, P, hW0, hSS, hSC, hSL, hI, r1, r2⟩ := hW
  have hk5 : k + 1 ≤ 512 := by omega
  have fx := INV_fx hk5 hI
  have hIb : INV S (k + 1) 1000 := INV_b (by omega) hI
  have hR := hW0.1
  have hm := fx.hm
  have ho := oA0 hR
  have hsc : h.2.2 b = some (.inl (9, L, .inl xs)) := hW0.2.2.2.1
  have rd : ∀ (h1 : aH), h1.2.2 b = some (.inl (9, L, .inl xs)) → ∀ i, i < L → ∀ F : Int32 → Prop, am_ga h1 b (nI i) F = F (xs i) := fun h1 e i hi F => by
    rw [am_ga_of e (Or.inr rfl) (am_in_nI hi (by omega)), nI_clamp (by omega)]
  have d1 := rd h hsc (4 * k + 1) (by omega)
  have d2' := rd h hsc (4 * k + 2) (by omega)
  have d3' := rd h hsc (4 * k + 3) (by omega)
  rcases pk_ix (xs (4 * k + 1)) (n := S.1) (by omega) with hx | hx | ⟨i, hi, hx⟩
  · have hc1 : xs (4 * k + 1) < 0 ∨ nI S.1 ≤ xs (4 * k + 1) := Or.inl hx
    simp (disch := first | assumption | omega | exact am_isr_ref | exact am_isr_null | exact am_isr_rf | exact am_c1_int | exact am_c1_ref | exact am_c1_null | exact am_c1_rf | exact am_b0 | exact am_b1 | exact RM_obj (by assumption) | (simp only [ne_eq]; done) | exact am_nz2 | exact am_nz3 | exact am_nz6 | exact am_lt (hB _ _) | exact am_lt (stF_lt hB) | exact b32_01) only [e0_394, e0_395, e0_396, e0_397, e0_398, e0_399, e0_400, e0_401, e0_402, e0_403, e0_404, e0_405, nI_add, d1, d2', d3', Option.toList_some, Option.toList_none, List.cons_append, List.nil_append]
    refine d12f hm (Or.inl hc1) hR hSS ?_
    obtain ⟨hb1, g, hM, hfin, hbk⟩ := toMod hW0 r1 r2 hR (by omega) (by omega) hSS hSC hSL hIb
    simp (disch := first | assumption | omega | exact am_isr_ref | exact am_isr_null | exact am_isr_rf | exact am_c1_int | exact am_c1_ref | exact am_c1_null | exact am_c1_rf | exact am_b0 | exact am_b1 | exact RM_obj (by assumption) | exact MS_obj (by assumption) | (simp only [ne_eq]; done) | exact am_nz2 | exact am_nz3 | exact am_nz6 | exact am_lt (hB _ _) | exact am_lt (stF_lt hB) | exact b32_01) only [e0_408, e0_409, e0_410, e0_411, e0_412, e0_413, e0_414, e0_415, e0_416, e0_417, e0_418, e0_419, nI_add, rd _ hb1 (4 * k + 1) (by omega), rd _ hb1 (4 * k + 2) (by omega), rd _ hb1 (4 * k + 3) (by omega), Option.toList_some, Option.toList_none, List.cons_append, List.nil_append]
    refine c106f hm hM (Or.inl hc1) ?_
    simp (disch := first | assumption | omega | exact am_isr_ref | exact am_isr_null | exact am_isr_rf | exact am_c1_int | exact am_c1_ref | exact am_c1_null | exact am_c1_rf | exact am_b0 | exact am_b1 | exact RM_obj (by assumption) | exact MS_obj (by assumption) | (simp only [ne_eq]; done) | exact am_nz2 | exact am_nz3 | exact am_nz6 | exact am_lt (hB _ _) | exact am_lt (stF_lt hB) | exact b32_01) only [e0_422, Option.toList_some, Option.toList_none, List.cons_append, List.nil_append, if_true]
    exact hn h (hfin h pl GR_rf hM)
  · have hc1 : xs (4 * k + 1) < 0 ∨ nI S.1 ≤ xs (4 * k + 1) := Or.inr hx
    simp (disch := first | assumption | omega | exact am_isr_ref | exact am_isr_null | exact am_isr_rf | exact am_c1_int | exact am_c1_ref | exact am_c1_null | exact am_c1_rf | exact am_b0 | exact am_b1 | exact RM_obj (by assumption) | (simp only [ne_eq]; done) | exact am_nz2 | exact am_nz3 | exact am_nz6 | exact am_lt (hB _ _) | exact am_lt (stF_lt hB) | exact b32_01) only [e0_394, e0_395, e0_396, e0_397, e0_398, e0_399, e0_400, e0_401, e0_402, e0_403, e0_404, e0_405, nI_add, d1, d2', d3', Option.toList_some, Option.toList_none, List.cons_append, List.nil_append]
    refine d12f hm (Or.inl hc1) hR hSS ?_
    obtain ⟨hb1, g, hM, hfin, hbk⟩ := toMod hW0 r1 r2 hR (by omega) (by omega) hSS hSC hSL hIb
    simp (disch := first | assumption | omega | exact am_isr_ref | exact am_isr_null | exact am_isr_rf | exact am_c1_int | exact am_c1_ref | exact am_c1_null | exact am_c1_rf | exact am_b0 | exact am_b1 | exact RM_obj (by assumption) | exact MS_obj (by assumption) | (simp only [ne_eq]; done) | exact am_nz2 | exact am_nz3 | exact am_nz6 | exact am_lt (hB _ _) | exact am_lt (stF_lt hB) | exact b32_01) only [e0_408, e0_409, e0_410, e0_411, e0_412, e0_413, e0_414, e0_415, e0_416, e0_417, e0_418, e0_419, nI_add, rd _ hb1 (4 * k + 1) (by omega), rd _ hb1 (4 * k + 2) (by omega), rd _ hb1 (4 * k + 3) (by omega), Option.toList_some, Option.toList_none, List.cons_append, List.nil_append]
    refine c106f hm hM (Or.inl hc1) ?_
    simp (disch := first | assumption | omega | exact am_isr_ref | exact am_isr_null | exact am_isr_rf | exact am_c1_int | exact am_c1_ref | exact am_c1_null | exact am_c1_rf | exact am_b0 | exact am_b1 | exact RM_obj (by assumption) | exact MS_obj (by assumption) | (simp only [ne_eq]; done) | exact am_nz2 | exact am_nz3 | exact am_nz6 | exact am_lt (hB _ _) | exact am_lt (stF_lt hB) | exact b32_01) only [e0_422, Option.toList_some, Option.toList_none, List.cons_append, List.nil_append, if_true]
    exact hn h (hfin h pl GR_rf hM)
  · rcases pk_ix (xs (4 * k + 2)) (n := 40) (by omega) with hy | hy | ⟨j, hj, hy⟩
    · have hc2 : xs (4 * k + 2) < 0 ∨ nI 40 ≤ xs (4 * k + 2) := Or.inl hy
      simp (disch := first | assumption | omega | exact am_isr_ref | exact am_isr_null | exact am_isr_rf | exact am_c1_int | exact am_c1_ref | exact am_c1_null | exact am_c1_rf | exact am_b0 | exact am_b1 | exact RM_obj (by assumption) | (simp only [ne_eq]; done) | exact am_nz2 | exact am_nz3 | exact am_nz6 | exact am_lt (hB _ _) | exact am_lt (stF_lt hB) | exact b32_01) only [e0_394, e0_395, e0_396, e0_397, e0_398, e0_399, e0_400, e0_401, e0_402, e0_403, e0_404, e0_405, nI_add, d1, d2', d3', Option.toList_some, Option.toList_none, List.cons_append, List.nil_append]
      refine d12f hm (Or.inr hc2) hR hSS ?_
      obtain ⟨hb1, g, hM, hfin, hbk⟩ := toMod hW0 r1 r2 hR (by omega) (by omega) hSS hSC hSL hIb
      simp (disch := first | assumption | omega | exact am_isr_ref | exact am_isr_null | exact am_isr_rf | exact am_c1_int | exact am_c1_ref | exact am_c1_null | exact am_c1_rf | exact am_b0 | exact am_b1 | exact RM_obj (by assumption) | exact MS_obj (by assumption) | (simp only [ne_eq]; done) | exact am_nz2 | exact am_nz3 | exact am_nz6 | exact am_lt (hB _ _) | exact am_lt (stF_lt hB) | exact b32_01) only [e0_408, e0_409, e0_410, e0_411, e0_412, e0_413, e0_414, e0_415, e0_416, e0_417, e0_418, e0_419, nI_add, rd _ hb1 (4 * k + 1) (by omega), rd _ hb1 (4 * k + 2) (by omega), rd _ hb1 (4 * k + 3) (by omega), Option.toList_some, Option.toList_none, List.cons_append, List.nil_append]
      refine c106f hm hM (Or.inr hc2) ?_
      simp (disch := first | assumption | omega | exact am_isr_ref | exact am_isr_null | exact am_isr_rf | exact am_c1_int | exact am_c1_ref | exact am_c1_null | exact am_c1_rf | exact am_b0 | exact am_b1 | exact RM_obj (by assumption) | exact MS_obj (by assumption) | (simp only [ne_eq]; done) | exact am_nz2 | exact am_nz3 | exact am_nz6 | exact am_lt (hB _ _) | exact am_lt (stF_lt hB) | exact b32_01) only [e0_422, Option.toList_some, Option.toList_none, List.cons_append, List.nil_append, if_true]
      exact hn h (hfin h pl GR_rf hM)
    · have hc2 : xs (4 * k + 2) < 0 ∨ nI 40 ≤ xs (4 * k + 2) := Or.inr hy
      simp (disch := first | assumption | omega | exact am_isr_ref | exact am_isr_null | exact am_isr_rf | exact am_c1_int | exact am_c1_ref | exact am_c1_null | exact am_c1_rf | exact am_b0 | exact am_b1 | exact RM_obj (by assumption) | (simp only [ne_eq]; done) | exact am_nz2 | exact am_nz3 | exact am_nz6 | exact am_lt (hB _ _) | exact am_lt (stF_lt hB) | exact b32_01) only [e0_394, e0_395, e0_396, e0_397, e0_398, e0_399, e0_400, e0_401, e0_402, e0_403, e0_404, e0_405, nI_add, d1, d2', d3', Option.toList_some, Option.toList_none, List.cons_append, List.nil_append]
      refine d12f hm (Or.inr hc2) hR hSS ?_
      obtain ⟨hb1, g, hM, hfin, hbk⟩ := toMod hW0 r1 r2 hR (by omega) (by omega) hSS hSC hSL hIb
      simp (disch := first | assumption | omega | exact am_isr_ref | exact am_isr_null | exact am_isr_rf | exact am_c1_int | exact am_c1_ref | exact am_c1_null | exact am_c1_rf | exact am_b0 | exact am_b1 | exact RM_obj (by assumption) | exact MS_obj (by assumption) | (simp only [ne_eq]; done) | exact am_nz2 | exact am_nz3 | exact am_nz6 | exact am_lt (hB _ _) | exact am_lt (stF_lt hB) | exact b32_01) only [e0_408, e0_409, e0_410, e0_411, e0_412, e0_413, e0_414, e0_415, e0_416, e0_417, e0_418, e0_419, nI_add, rd _ hb1 (4 * k + 1) (by omega), rd _ hb1 (4 * k + 2) (by omega), rd _ hb1 (4 * k + 3) (by omega), Option.toList_some, Option.toList_none, List.cons_append, List.nil_append]
      refine c106f hm hM (Or.inr hc2) ?_
      simp (disch := first | assumption | omega | exact am_isr_ref | exact am_isr_null | exact am_isr_rf | exact am_c1_int | exact am_c1_ref | exact am_c1_null | exact am_c1_rf | exact am_b0 | exact am_b1 | exact RM_obj (by assumption) | exact MS_obj (by assumption) | (simp only [ne_eq]; done) | exact am_nz2 | exact am_nz3 | exact am_nz6 | exact am_lt (hB _ _) | exact am_lt (stF_lt hB) | exact b32_01) only [e0_422, Option.toList_some, Option.toList_none, List.cons_append, List.nil_append, if_true]
      exact hn h (hfin h pl GR_rf hM)
    · simp (disch := first | assumption | omega | exact am_isr_ref | exact am_isr_null | exact am_isr_rf | exact am_c1_int | exact am_c1_ref | exact am_c1_null | exact am_c1_rf | exact am_b0 | exact am_b1 | exact RM_obj (by assumption) | (simp only [ne_eq]; done) | exact am_nz2 | exact am_nz3 | exact am_nz6 | exact am_lt (hB _ _) | exact am_lt (stF_lt hB) | exact b32_01) only [e0_394, e0_395, e0_396, e0_397, e0_398, e0_399, e0_400, e0_401, e0_402, e0_403, e0_404, e0_405, nI_add, d1, d2', d3', Option.toList_some, Option.toList_none, List.cons_append, List.nil_append, hx, hy]
      refine d12 hi hm hj fx.hB (fx.h97 i hi) hR hSS ?_
      obtain ⟨hb1, g, hM, hfin, hbk⟩ := toMod hW0 r1 r2 hR (by omega) (by omega) hSS hSC hSL hIb
      simp (disch := first | assumption | omega | exact am_isr_ref | exact am_isr_null | exact am_isr_rf | exact am_c1_int | exact am_c1_ref | exact am_c1_null | exact am_c1_rf | exact am_b0 | exact am_b1 | exact RM_obj (by assumption) | exact MS_obj (by assumption) | (simp only [ne_eq]; done) | exact am_nz2 | exact am_nz3 | exact am_nz6 | exact am_lt (hB _ _) | exact am_lt (stF_lt hB) | exact b32_01) only [e0_408, e0_409, e0_410, e0_411, e0_412, e0_413, e0_414, e0_415, e0_416, e0_417, e0_418, e0_419, nI_add, rd _ hb1 (4 * k + 1) (by omega), rd _ hb1 (4 * k + 2) (by omega), rd _ hb1 (4 * k + 3) (by omega), Option.toList_some, Option.toList_none, List.cons_append, List.nil_append, hx, hy]
      refine c106 hi hj hM fx.hB hm (fx.h8 i) (fx.h4c i hi) ?_
      simp (disch := first | assumption | omega | exact am_isr_ref | exact am_isr_null | exact am_isr_rf | exact am_c1_int | exact am_c1_ref | exact am_c1_null | exact am_c1_rf | exact am_b0 | exact am_b1 | exact RM_obj (by assumption) | exact MS_obj (by assumption) | (simp only [ne_eq]; done) | exact am_nz2 | exact am_nz3 | exact am_nz6 | exact am_lt (hB _ _) | exact am_lt (stF_lt hB) | exact b32_01) only [e0_422, Option.toList_some, Option.toList_none, List.cons_append, List.nil_append, if_true]
      exact hn h (hfin h pl GR_rf hM)

theorem kz11 (hL : L ≤ 2048) (hk : 4 * k + 4 ≤ L) (hW : LWx c b L xs k h) (hn : ∀ h2, LWx c b L xs (k + 1) h2 → am_R (d + 20) 0 546 [some (.ref b), some (.ref c), some (.ref (c + 95)), some (.int (nI (4 * k)))] [] h2 Q) : am_R (d + 20) 0 427 [some (.ref b), some (.ref c), some (.ref (c + 95)), some (.int (nI (4 * k)))] [] h Q := by
  obtain ⟨S, X, T, K, LL, tg, pa, pl, P, hW0, hSS, hSC, hSL, hI, r1, r2⟩ := hW
  have hk5 : k + 1 ≤ 512 := by omega
  have fx := INV_fx hk5 hI
  have hIb : INV S (k + 1) 1000 := INV_b (by omega) hI
  have hR := hW0.1
  have hm := fx.hm
  have ho := oA0 hR
  have hsc : h.2.2 b = some (.inl (9, L, .inl xs)) := hW0.2.2.2.1
  have rd : ∀ (h1 : aH), h1.2.2 b = some (.inl (9, L, .inl xs)) → ∀ i, i < L → ∀ F : Int32 → Prop, am_ga h1 b (nI i) F = F (xs i) := fun h1 e i hi F => by
    rw [am_ga_of e (Or.inr rfl) (am_in_nI hi (by omega)), nI_clamp (by omega)]
  have d1 := rd h hsc (4 * k + 1) (by omega)
  have d2' := rd h hsc (4 * k + 2) (by omega)
  have d3' := rd h hsc (4 * k + 3) (by omega)
  rcases pk_ix (xs (4 * k + 1)) (n := S.1) (by omega) with hx | hx | ⟨i, hi, hx⟩
  · have hc1 : xs (4 * k + 1) < 0 ∨ nI S.1 ≤ xs (4 * k + 1) := Or.inl hx
    simp (disch := first | assumption | omega | exact am_isr_ref | exact am_isr_null | exact am_isr_rf | exact am_c1_int | exact am_c1_ref | exact am_c1_null | exact am_c1_rf | exact am_b0 | exact am_b1 | exact RM_obj (by assumption) | (simp only [ne_eq]; done) | exact am_nz2 | exact am_nz3 | exact am_nz6 | exact am_lt (hB _ _) | exact am_lt (stF_lt hB) | exact b32_01) only [e0_427, e0_428, e0_429, e0_430, e0_431, e0_432, e0_433, e0_434, e0_435, e0_436, e0_437, e0_438, nI_add, d1, d2', d3', Option.toList_some, Option.toList_none, List.cons_append, List.nil_append]
    refine d13f hm (hc1.elim Or.inl (fun z => Or.inr (Or.inl z))) hR hSS ?_
    obtain ⟨hb1, g, hM, hfin, hbk⟩ := toMod hW0 r1 r2 hR (by omega) (by omega) hSS hSC hSL hIb
    simp (disch := first | assumption | omega | exact am_isr_ref | exact am_isr_null | exact am_isr_rf | exact am_c1_int | exact am_c1_ref | exact am_c1_null | exact am_c1_rf | exact am_b0 | exact am_b1 | exact RM_obj (by assumption) | exact MS_obj (by assumption) | (simp only [ne_eq]; done) | exact am_nz2 | exact am_nz3 | exact am_nz6 | exact am_lt (hB _ _) | exact am_lt (stF_lt hB) | exact b32_01) only [e0_441, e0_442, e0_443, e0_444, e0_445, e0_446, e0_447, e0_448, e0_449, e0_450, e0_451, e0_452, nI_add, rd _ hb1 (4 * k + 1) (by omega), rd _ hb1 (4 * k + 2) (by omega), rd _ hb1 (4 * k + 3) (by omega), Option.toList_some, Option.toList_none, List.cons_append, List.nil_append]
    refine c107f hm (hc1.elim Or.inl (fun z => Or.inr (Or.inl z))) hM ?_
    simp (disch := first | assumption | omega | exact am_isr_ref | exact am_isr_null | exact am_isr_rf | exact am_c1_int | exact am_c1_ref | exact am_c1_null | exact am_c1_rf | exact am_b0 | exact am_b1 | exact RM_obj (by assumption) | exact MS_obj (by assumption) | (simp only [ne_eq]; done) | exact am_nz2 | exact am_nz3 | exact am_nz6 | exact am_lt (hB _ _) | exact am_lt (stF_lt hB) | exact b32_01) only [e0_455, Option.toList_some, Option.toList_none, List.cons_append, List.nil_append, if_true]
    exact hn h (hfin h pl GR_rf hM)
  · have hc1 : xs (4 * k + 1) < 0 ∨ nI S.1 ≤ xs (4 * k + 1) := Or.inr hx
    simp (disch := first | assumption | omega | exact am_isr_ref | exact am_isr_null | exact am_isr_rf | exact am_c1_int | exact am_c1_ref | exact am_c1_null | exact am_c1_rf | exact am_b0 | exact am_b1 | exact RM_obj (by assumption) | (simp only [ne_eq]; done) | exact am_nz2 | exact am_nz3 | exact am_nz6 | exact am_lt (hB _ _) | exact am_lt (stF_lt hB) | exact b32_01) only [e0_427, e0_428, e0_429, e0_430, e0_431, e0_432, e0_433, e0_434, e0_435, e0_436, e0_437, e0_438, nI_add, d1, d2', d3', Option.toList_some, Option.toList_none, List.cons_append, List.nil_append]
    refine d13f hm (hc1.elim Or.inl (fun z => Or.inr (Or.inl z))) hR hSS ?_
    obtain ⟨hb1, g, hM, hfin, hbk⟩ := toMod hW0 r1 r2 hR (by omega) (by omega) hSS hSC hSL hIb
    simp (disch := first | assumption | omega | exact am_isr_ref | exact am_isr_null | exact am_isr_rf | exact am_c1_int | exact am_c1_ref | exact am_c1_null | exact am_c1_rf | exact am_b0 | exact am_b1 | exact RM_obj (by assumption) | exact MS_obj (by assumption) | (simp only [ne_eq]; done) | exact am_nz2 | exact am_nz3 | exact am_nz6 | exact am_lt (hB _ _) | exact am_lt (stF_lt hB) | exact b32_01) only [e0_441, e0_442, e0_443, e0_444, e0_445, e0_446, e0_447, e0_448, e0_449, e0_450, e0_451, e0_452, nI_add, rd _ hb1 (4 * k + 1) (by omega), rd _ hb1 (4 * k + 2) (by omega), rd _ hb1 (4 * k + 3) (by omega), Option.toList_some, Option.toList_none, List.cons_append, List.nil_append]
    refine c107f hm (hc1.elim Or.inl (fun z => Or.inr (Or.inl z))) hM ?_
    simp (disch := first | assumption | omega | exact am_isr_ref | exact am_isr_null | exact am_isr_rf | exact am_c1_int | exact am_c1_ref | exact am_c1_null | exact am_c1_rf | exact am_b0 | exact am_b1 | exact RM_obj (by assumption) | exact MS_obj (by assumption) | (simp only [ne_eq]; done) | exact am_nz2 | exact am_nz3 | exact am_nz6 | exact am_lt (hB _ _) | exact am_lt (stF_lt hB) | exact b32_01) only [e0_455, Option.toList_some, Option.toList_none, List.cons_append, List.nil_append, if_true]
    exact hn h (hfin h pl GR_rf hM)
  · rcases pk_ix (xs (4 * k + 2)) (n := 8) (by omega) with hy | hy | ⟨j, hj, hy⟩
    · have hc2 : xs (4 * k + 2) < 0 ∨ nI 8 ≤ xs (4 * k + 2) := Or.inl hy
      simp (disch := first | assumption | omega | exact am_isr_ref | exact am_isr_null | exact am_isr_rf | exact am_c1_int | exact am_c1_ref | exact am_c1_null | exact am_c1_rf | exact am_b0 | exact am_b1 | exact RM_obj (by assumption) | (simp only [ne_eq]; done) | exact am_nz2 | exact am_nz3 | exact am_nz6 | exact am_lt (hB _ _) | exact am_lt (stF_lt hB) | exact b32_01) only [e0_427, e0_428, e0_429, e0_430, e0_431, e0_432, e0_433, e0_434, e0_435, e0_436, e0_437, e0_438, nI_add, d1, d2', d3', Option.toList_some, Option.toList_none, List.cons_append, List.nil_append]
      refine d13f hm (Or.inr (Or.inr hc2)) hR hSS ?_
      obtain ⟨hb1, g, hM, hfin, hbk⟩ := toMod hW0 r1 r2 hR (by omega) (by omega) hSS hSC hSL hIb
      simp (disch := first | assumption | omega | exact am_isr_ref | exact am_isr_null | exact am_isr_rf | exact am_c1_int | exact am_c1_ref | exact am_c1_null | exact am_c1_rf | exact am_b0 | exact am_b1 | exact RM_obj (by assumption) | exact MS_obj (by assumption) | (simp only [ne_eq]; done) | exact am_nz2 | exact am_nz3 | exact am_nz6 | exact am_lt (hB _ _) | exact am_lt (stF_lt hB) | exact b32_01) only [e0_441, e0_442, e0_443, e0_444, e0_445, e0_446, e0_447, e0_448, e0_449, e0_450, e0_451, e0_452, nI_add, rd _ hb1 (4 * k + 1) (by omega), rd _ hb1 (4 * k + 2) (by omega), rd _ hb1 (4 * k + 3) (by omega), Option.toList_some, Option.toList_none, List.cons_append, List.nil_append]
      refine c107f hm (Or.inr (Or.inr hc2)) hM ?_
      simp (disch := first | assumption | omega | exact am_isr_ref | exact am_isr_null | exact am_isr_rf | exact am_c1_int | exact am_c1_ref | exact am_c1_null | exact am_c1_rf | exact am_b0 | exact am_b1 | exact RM_obj (by assumption) | exact MS_obj (by assumption) | (simp only [ne_eq]; done) | exact am_nz2 | exact am_nz3 | exact am_nz6 | exact am_lt (hB _ _) | exact am_lt (stF_lt hB) | exact b32_01) only [e0_455, Option.toList_some, Option.toList_none, List.cons_append, List.nil_append, if_true]
      exact hn h (hfin h pl GR_rf hM)
    · have hc2 : xs (4 * k + 2) < 0 ∨ nI 8 ≤ xs (4 * k + 2) := Or.inr hy
      simp (disch := first | assumption | omega | exact am_isr_ref | exact am_isr_null | exact am_isr_rf | exact am_c1_int | exact am_c1_ref | exact am_c1_null | exact am_c1_rf | exact am_b0 | exact am_b1 | exact RM_obj (by assumption) | (simp only [ne_eq]; done) | exact am_nz2 | exact am_nz3 | exact am_nz6 | exact am_lt (hB _ _) | exact am_lt (stF_lt hB) | exact b32_01) only [e0_427, e0_428, e0_429, e0_430, e0_431, e0_432, e0_433, e0_434, e0_435, e0_436, e0_437, e0_438, nI_add, d1, d2', d3', Option.toList_some, Option.toList_none, List.cons_append, List.nil_append]
      refine d13f hm (Or.inr (Or.inr hc2)) hR hSS ?_
      obtain ⟨hb1, g, hM, hfin, hbk⟩ := toMod hW0 r1 r2 hR (by omega) (by omega) hSS hSC hSL hIb
      simp (disch := first | assumption | omega | exact am_isr_ref | exact am_isr_null | exact am_isr_rf | exact am_c1_int | exact am_c1_ref | exact am_c1_null | exact am_c1_rf | exact am_b0 | exact am_b1 | exact RM_obj (by assumption) | exact MS_obj (by assumption) | (simp only [ne_eq]; done) | exact am_nz2 | exact am_nz3 | exact am_nz6 | exact am_lt (hB _ _) | exact am_lt (stF_lt hB) | exact b32_01) only [e0_441, e0_442, e0_443, e0_444, e0_445, e0_446, e0_447, e0_448, e0_449, e0_450, e0_451, e0_452, nI_add, rd _ hb1 (4 * k + 1) (by omega), rd _ hb1 (4 * k + 2) (by omega), rd _ hb1 (4 * k + 3) (by omega), Option.toList_some, Option.toList_none, List.cons_append, List.nil_append]
      refine c107f hm (Or.inr (Or.inr hc2)) hM ?_
      simp (disch := first | assumption | omega | exact am_isr_ref | exact am_isr_null | exact am_isr_rf | exact am_c1_int | exact am_c1_ref | exact am_c1_null | exact am_c1_rf | exact am_b0 | exact am_b1 | exact RM_obj (by assumption) | exact MS_obj (by assumption) | (simp only [ne_eq]; done) | exact am_nz2 | exact am_nz3 | exact am_nz6 | exact am_lt (hB _ _) | exact am_lt (stF_lt hB) | exact b32_01) only [e0_455, Option.toList_some, Option.toList_none, List.cons_append, List.nil_append, if_true]
      exact hn h (hfin h pl GR_rf hM)
    · simp (disch := first | assumption | omega | exact am_isr_ref | exact am_isr_null | exact am_isr_rf | exact am_c1_int | exact am_c1_ref | exact am_c1_null | exact am_c1_rf | exact am_b0 | exact am_b1 | exact RM_obj (by assumption) | (simp only [ne_eq]; done) | exact am_nz2 | exact am_nz3 | exact am_nz6 | exact am_lt (hB _ _) | exact am_lt (stF_lt hB) | exact b32_01) only [e0_427, e0_428, e0_429, e0_430, e0_431, e0_432, e0_433, e0_434, e0_435, e0_436, e0_437, e0_438, nI_add, d1, d2', d3', Option.toList_some, Option.toList_none, List.cons_append, List.nil_append, hx, hy]
      refine d13 hi hm hj (fx.h5 i j hi hj) hR hSS ?_
      obtain ⟨hb1, g, hM, hfin, hbk⟩ := toMod hW0 r1 r2 hR (by omega) (by omega) hSS hSC hSL hIb
      simp (disch := first | assumption | omega | exact am_isr_ref | exact am_isr_null | exact am_isr_rf | exact am_c1_int | exact am_c1_ref | exact am_c1_null | exact am_c1_rf | exact am_b0 | exact am_b1 | exact RM_obj (by assumption) | exact MS_obj (by assumption) | (simp only [ne_eq]; done) | exact am_nz2 | exact am_nz3 | exact am_nz6 | exact am_lt (hB _ _) | exact am_lt (stF_lt hB) | exact b32_01) only [e0_441, e0_442, e0_443, e0_444, e0_445, e0_446, e0_447, e0_448, e0_449, e0_450, e0_451, e0_452, nI_add, rd _ hb1 (4 * k + 1) (by omega), rd _ hb1 (4 * k + 2) (by omega), rd _ hb1 (4 * k + 3) (by omega), Option.toList_some, Option.toList_none, List.cons_append, List.nil_append, hx, hy]
      refine c107 hm hi hj hM ?_
      simp (disch := first | assumption | omega | exact am_isr_ref | exact am_isr_null | exact am_isr_rf | exact am_c1_int | exact am_c1_ref | exact am_c1_null | exact am_c1_rf | exact am_b0 | exact am_b1 | exact RM_obj (by assumption) | exact MS_obj (by assumption) | (simp only [ne_eq]; done) | exact am_nz2 | exact am_nz3 | exact am_nz6 | exact am_lt (hB _ _) | exact am_lt (stF_lt hB) | exact b32_01) only [e0_455, Option.toList_some, Option.toList_none, List.cons_append, List.nil_append, if_true]
      exact hn h (hfin h pl GR_rf hM)

theorem kz12 (hL : L ≤ 2048) (hk : 4 * k + 4 ≤ L) (hW : LWx c b L xs k h) (hn : ∀ h2, LWx c b L xs (k + 1) h2 → am_R (d + 20) 0 546 [some (.ref b), some (.ref c), some (.ref (c + 95)), some (.int (nI (4 * k)))] [] h2 Q) : am_R (d + 20) 0 460 [some (.ref b), some (.ref c), some (.ref (c + 95)), some (.int (nI (4 * k)))] [] h Q := by
  obtain ⟨S, X, T, K, LL, tg, pa, pl, P, hW0, hSS, hSC, hSL, hI, r1, r2⟩ := hW
  have hk5 : k + 1 ≤ 512 := by omega
  have fx := INV_fx hk5 hI
  have hIb : INV S (k + 1) 1000 := INV_b (by omega) hI
  have hR := hW0.1
  have hm := fx.hm
  have ho := oA0 hR
  have hsc : h.2.2 b = some (.inl (9, L, .inl xs)) := hW0.2.2.2.1
  have rd : ∀ (h1 : aH), h1.2.2 b = some (.inl (9, L, .inl xs)) → ∀ i, i < L → ∀ F : Int32 → Prop, am_ga h1 b (nI i) F = F (xs i) := fun h1 e i hi F => by
    rw [am_ga_of e (Or.inr rfl) (am_in_nI hi (by omega)), nI_clamp (by omega)]
  have d1 := rd h hsc (4 * k + 1) (by omega)
  have d2' := rd h hsc (4 * k + 2) (by omega)
  have d3' := rd h hsc (4 * k + 3) (by omega)
  rcases pk_ix (xs (4 * k + 1)) (n := 6) (by omega) with hx | hx | ⟨i, hi, hx⟩
  · have hc1 : xs (4 * k + 1) < 0 ∨ nI 6 ≤ xs (4 * k + 1) := Or.inl hx
    simp (disch := first | assumption | omega | exact am_isr_ref | exact am_isr_null | exact am_isr_rf | exact am_c1_int | exact am_c1_ref | exact am_c1_null | exact am_c1_rf | exact am_b0 | exact am_b1 | exact RM_obj (by assumption) | (simp only [ne_eq]; done) | exact am_nz2 | exact am_nz3 | exact am_nz6 | exact am_lt (hB _ _) | exact am_lt (stF_lt hB) | exact b32_01) only [e0_460, e0_461, e0_462, e0_463, e0_464, e0_465, e0_466, e0_467, e0_468, e0_469, e0_470, e0_471, e0_472, e0_473, e0_474, e0_475, e0_476, nI_add, d1, d2', d3', Option.toList_some, Option.toList_none, List.cons_append, List.nil_append]
    refine d14f (Or.inl hc1) hR ?_
    obtain ⟨hb1, g, hM, hfin, hbk⟩ := toMod hW0 r1 r2 hR (by omega) (by omega) hSS hSC hSL hIb
    simp (disch := first | assumption | omega | exact am_isr_ref | exact am_isr_null | exact am_isr_rf | exact am_c1_int | exact am_c1_ref | exact am_c1_null | exact am_c1_rf | exact am_b0 | exact am_b1 | exact RM_obj (by assumption) | exact MS_obj (by assumption) | (simp only [ne_eq]; done) | exact am_nz2 | exact am_nz3 | exact am_nz6 | exact am_lt (hB _ _) | exact am_lt (stF_lt hB) | exact b32_01) only [e0_479, e0_480, e0_481, e0_482, e0_483, e0_484, e0_485, e0_486, e0_487, e0_488, e0_489, e0_490, e0_491, e0_492, e0_493, e0_494, e0_495, nI_add, rd _ hb1 (4 * k + 1) (by omega), rd _ hb1 (4 * k + 2) (by omega), rd _ hb1 (4 * k + 3) (by omega), Option.toList_some, Option.toList_none, List.cons_append, List.nil_append]
    refine c108f (Or.inl hc1) ?_
    simp (disch := first | assumption | omega | exact am_isr_ref | exact am_isr_null | exact am_isr_rf | exact am_c1_int | exact am_c1_ref | exact am_c1_null | exact am_c1_rf | exact am_b0 | exact am_b1 | exact RM_obj (by assumption) | exact MS_obj (by assumption) | (simp only [ne_eq]; done) | exact am_nz2 | exact am_nz3 | exact am_nz6 | exact am_lt (hB _ _) | exact am_lt (stF_lt hB) | exact b32_01) only [e0_498, Option.toList_some, Option.toList_none, List.cons_append, List.nil_append, if_true]
    exact hn h (hfin h pl GR_rf hM)
  · have hc1 : xs (4 * k + 1) < 0 ∨ nI 6 ≤ xs (4 * k + 1) := Or.inr hx
    simp (disch := first | assumption | omega | exact am_isr_ref | exact am_isr_null | exact am_isr_rf | exact am_c1_int | exact am_c1_ref | exact am_c1_null | exact am_c1_rf | exact am_b0 | exact am_b1 | exact RM_obj (by assumption) | (simp only [ne_eq]; done) | exact am_nz2 | exact am_nz3 | exact am_nz6 | exact am_lt (hB _ _) | exact am_lt (stF_lt hB) | exact b32_01) only [e0_460, e0_461, e0_462, e0_463, e0_464, e0_465, e0_466, e0_467, e0_468, e0_469, e0_470, e0_471, e0_472, e0_473, e0_474, e0_475, e0_476, nI_add, d1, d2', d3', Option.toList_some, Option.toList_none, List.cons_append, List.nil_append]
    refine d14f (Or.inl hc1) hR ?_
    obtain ⟨hb1, g, hM, hfin, hbk⟩ := toMod hW0 r1 r2 hR (by omega) (by omega) hSS hSC hSL hIb
    simp (disch := first | assumption | omega | exact am_isr_ref | exact am_isr_null | exact am_isr_rf | exact am_c1_int | exact am_c1_ref | exact am_c1_null | exact am_c1_rf | exact am_b0 | exact am_b1 | exact RM_obj (by assumption) | exact MS_obj (by assumption) | (simp only [ne_eq]; done) | exact am_nz2 | exact am_nz3 | exact am_nz6 | exact am_lt (hB _ _) | exact am_lt (stF_lt hB) | exact b32_01) only [e0_479, e0_480, e0_481, e0_482, e0_483, e0_484, e0_485, e0_486, e0_487, e0_488, e0_489, e0_490, e0_491, e0_492, e0_493, e0_494, e0_495, nI_add, rd _ hb1 (4 * k + 1) (by omega), rd _ hb1 (4 * k + 2) (by omega), rd _ hb1 (4 * k + 3) (by omega), Option.toList_some, Option.toList_none, List.cons_append, List.nil_append]
    refine c108f (Or.inl hc1) ?_
    simp (disch := first | assumption | omega | exact am_isr_ref | exact am_isr_null | exact am_isr_rf | exact am_c1_int | exact am_c1_ref | exact am_c1_null | exact am_c1_rf | exact am_b0 | exact am_b1 | exact RM_obj (by assumption) | exact MS_obj (by assumption) | (simp only [ne_eq]; done) | exact am_nz2 | exact am_nz3 | exact am_nz6 | exact am_lt (hB _ _) | exact am_lt (stF_lt hB) | exact b32_01) only [e0_498, Option.toList_some, Option.toList_none, List.cons_append, List.nil_append, if_true]
    exact hn h (hfin h pl GR_rf hM)
  · rcases pk_ix (xs (4 * k + 2)) (n := 8) (by omega) with hy | hy | ⟨j, hj, hy⟩
    · have hc2 : xs (4 * k + 2) < 0 ∨ nI 8 ≤ xs (4 * k + 2) := Or.inl hy
      simp (disch := first | assumption | omega | exact am_isr_ref | exact am_isr_null | exact am_isr_rf | exact am_c1_int | exact am_c1_ref | exact am_c1_null | exact am_c1_rf | exact am_b0 | exact am_b1 | exact RM_obj (by assumption) | (simp only [ne_eq]; done) | exact am_nz2 | exact am_nz3 | exact am_nz6 | exact am_lt (hB _ _) | exact am_lt (stF_lt hB) | exact b32_01) only [e0_460, e0_461, e0_462, e0_463, e0_464, e0_465, e0_466, e0_467, e0_468, e0_469, e0_470, e0_471, e0_472, e0_473, e0_474, e0_475, e0_476, nI_add, d1, d2', d3', Option.toList_some, Option.toList_none, List.cons_append, List.nil_append]
      refine d14f (Or.inr hc2) hR ?_
      obtain ⟨hb1, g, hM, hfin, hbk⟩ := toMod hW0 r1 r2 hR (by omega) (by omega) hSS hSC hSL hIb
      simp (disch := first | assumption | omega | exact am_isr_ref | exact am_isr_null | exact am_isr_rf | exact am_c1_int | exact am_c1_ref | exact am_c1_null | exact am_c1_rf | exact am_b0 | exact am_b1 | exact RM_obj (by assumption) | exact MS_obj (by assumption) | (simp only [ne_eq]; done) | exact am_nz2 | exact am_nz3 | exact am_nz6 | exact am_lt (hB _ _) | exact am_lt (stF_lt hB) | exact b32_01) only [e0_479, e0_480, e0_481, e0_482, e0_483, e0_484, e0_485, e0_486, e0_487, e0_488, e0_489, e0_490, e0_491, e0_492, e0_493, e0_494, e0_495, nI_add, rd _ hb1 (4 * k + 1) (by omega), rd _ hb1 (4 * k + 2) (by omega), rd _ hb1 (4 * k + 3) (by omega), Option.toList_some, Option.toList_none, List.cons_append, List.nil_append]
      refine c108f (Or.inr hc2) ?_
      simp (disch := first | assumption | omega | exact am_isr_ref | exact am_isr_null | exact am_isr_rf | exact am_c1_int | exact am_c1_ref | exact am_c1_null | exact am_c1_rf | exact am_b0 | exact am_b1 | exact RM_obj (by assumption) | exact MS_obj (by assumption) | (simp only [ne_eq]; done) | exact am_nz2 | exact am_nz3 | exact am_nz6 | exact am_lt (hB _ _) | exact am_lt (stF_lt hB) | exact b32_01) only [e0_498, Option.toList_some, Option.toList_none, List.cons_append, List.nil_append, if_true]
      exact hn h (hfin h pl GR_rf hM)
    · have hc2 : xs (4 * k + 2) < 0 ∨ nI 8 ≤ xs (4 * k + 2) := Or.inr hy
      simp (disch := first | assumption | omega | exact am_isr_ref | exact am_isr_null | exact am_isr_rf | exact am_c1_int | exact am_c1_ref | exact am_c1_null | exact am_c1_rf | exact am_b0 | exact am_b1 | exact RM_obj (by assumption) | (simp only [ne_eq]; done) | exact am_nz2 | exact am_nz3 | exact am_nz6 | exact am_lt (hB _ _) | exact am_lt (stF_lt hB) | exact b32_01) only [e0_460, e0_461, e0_462, e0_463, e0_464, e0_465, e0_466, e0_467, e0_468, e0_469, e0_470, e0_471, e0_472, e0_473, e0_474, e0_475, e0_476, nI_add, d1, d2', d3', Option.toList_some, Option.toList_none, List.cons_append, List.nil_append]
      refine d14f (Or.inr hc2) hR ?_
      obtain ⟨hb1, g, hM, hfin, hbk⟩ := toMod hW0 r1 r2 hR (by omega) (by omega) hSS hSC hSL hIb
      simp (disch := first | assumption | omega | exact am_isr_ref | exact am_isr_null | exact am_isr_rf | exact am_c1_int | exact am_c1_ref | exact am_c1_null | exact am_c1_rf | exact am_b0 | exact am_b1 | exact RM_obj (by assumption) | exact MS_obj (by assumption) | (simp only [ne_eq]; done) | exact am_nz2 | exact am_nz3 | exact am_nz6 | exact am_lt (hB _ _) | exact am_lt (stF_lt hB) | exact b32_01) only [e0_479, e0_480, e0_481, e0_482, e0_483, e0_484, e0_485, e0_486, e0_487, e0_488, e0_489, e0_490, e0_491, e0_492, e0_493, e0_494, e0_495, nI_add, rd _ hb1 (4 * k + 1) (by omega), rd _ hb1 (4 * k + 2) (by omega), rd _ hb1 (4 * k + 3) (by omega), Option.toList_some, Option.toList_none, List.cons_append, List.nil_append]
      refine c108f (Or.inr hc2) ?_
      simp (disch := first | assumption | omega | exact am_isr_ref | exact am_isr_null | exact am_isr_rf | exact am_c1_int | exact am_c1_ref | exact am_c1_null | exact am_c1_rf | exact am_b0 | exact am_b1 | exact RM_obj (by assumption) | exact MS_obj (by assumption) | (simp only [ne_eq]; done) | exact am_nz2 | exact am_nz3 | exact am_nz6 | exact am_lt (hB _ _) | exact am_lt (stF_lt hB) | exact b32_01) only [e0_498, Option.toList_some, Option.toList_none, List.cons_append, List.nil_append, if_true]
      exact hn h (hfin h pl GR_rf hM)
    · simp (disch := first | assumption | omega | exact am_isr_ref | exact am_isr_null | exact am_isr_rf | exact am_c1_int | exact am_c1_ref | exact am_c1_null | exact am_c1_rf | exact am_b0 | exact am_b1 | exact RM_obj (by assumption) | (simp only [ne_eq]; done) | exact am_nz2 | exact am_nz3 | exact am_nz6 | exact am_lt (hB _ _) | exact am_lt (stF_lt hB) | exact b32_01) only [e0_460, e0_461, e0_462, e0_463, e0_464, e0_465, e0_466, e0_467, e0_468, e0_469, e0_470, e0_471, e0_472, e0_473, e0_474, e0_475, e0_476, nI_add, d1, d2', d3', Option.toList_some, Option.toList_none, List.cons_append, List.nil_append, hx, hy]
      refine d14 hi hj hm (fun n hn h3 => fx.h97 n hn (fx.h38 i n hi hn h3)) hR hSS ?_
      obtain ⟨hb1, g, hM, hfin, hbk⟩ := toMod hW0 r1 r2 hR (by omega) (by omega) hSS hSC hSL hIb
      simp (disch := first | assumption | omega | exact am_isr_ref | exact am_isr_null | exact am_isr_rf | exact am_c1_int | exact am_c1_ref | exact am_c1_null | exact am_c1_rf | exact am_b0 | exact am_b1 | exact RM_obj (by assumption) | exact MS_obj (by assumption) | (simp only [ne_eq]; done) | exact am_nz2 | exact am_nz3 | exact am_nz6 | exact am_lt (hB _ _) | exact am_lt (stF_lt hB) | exact b32_01) only [e0_479, e0_480, e0_481, e0_482, e0_483, e0_484, e0_485, e0_486, e0_487, e0_488, e0_489, e0_490, e0_491, e0_492, e0_493, e0_494, e0_495, nI_add, rd _ hb1 (4 * k + 1) (by omega), rd _ hb1 (4 * k + 2) (by omega), rd _ hb1 (4 * k + 3) (by omega), Option.toList_some, Option.toList_none, List.cons_append, List.nil_append, hx, hy]
      refine c108 hi hj hM fx.hB hm ?_
      simp (disch := first | assumption | omega | exact am_isr_ref | exact am_isr_null | exact am_isr_rf | exact am_c1_int | exact am_c1_ref | exact am_c1_null | exact am_c1_rf | exact am_b0 | exact am_b1 | exact RM_obj (by assumption) | exact MS_obj (by assumption) | (simp only [ne_eq]; done) | exact am_nz2 | exact am_nz3 | exact am_nz6 | exact am_lt (hB _ _) | exact am_lt (stF_lt hB) | exact b32_01) only [e0_498, Option.toList_some, Option.toList_none, List.cons_append, List.nil_append, if_true]
      exact hn h (hfin h pl GR_rf hM)

theorem kz13 (hL : L ≤ 2048) (hk : 4 * k + 4 ≤ L) (hW : LWx c b L xs k h) (hn : ∀ h2, LWx c b L xs (k + 1) h2 → am_R (d + 20) 0 546 [some (.ref b), some (.ref c), some (.ref (c + 95)), some (.int (nI (4 * k)))] [] h2 Q) : am_R (d + 20) 0 503 [some (.ref b), some (.ref c), some (.ref (c + 95)), some (.int (nI (4 * k)))] [] h Q := by
  obtain ⟨S, X, T, K, LL, tg, pa, pl, P, hW0, hSS, hSC, hSL, hI, r1, r2⟩ := hW
  have hk5 : k + 1 ≤ 512 := by omega
  have fx := INV_fx hk5 hI
  have hIb : INV S (k + 1) 1000 := INV_b (by omega) hI
  have hR := hW0.1
  have hm := fx.hm
  have ho := oA0 hR
  have hsc : h.2.2 b = some (.inl (9, L, .inl xs)) := hW0.2.2.2.1
  have rd : ∀ (h1 : aH), h1.2.2 b = some (.inl (9, L, .inl xs)) → ∀ i, i < L → ∀ F : Int32 → Prop, am_ga h1 b (nI i) F = F (xs i) := fun h1 e i hi F => by
    rw [am_ga_of e (Or.inr rfl) (am_in_nI hi (by omega)), nI_clamp (by omega)]
  have d1 := rd h hsc (4 * k + 1) (by omega)
  have d2' := rd h hsc (4 * k + 2) (by omega)
  have d3' := rd h hsc (4 * k + 3) (by omega)
  rcases pk_ix (xs (4 * k + 1)) (n := 6) (by omega) with hx | hx | ⟨i, hi, hx⟩
  · have hc1 : xs (4 * k + 1) < 0 ∨ nI 6 ≤ xs (4 * k + 1) := Or.inl hx
    simp (disch := first | assumption | omega | exact am_isr_ref | exact am_isr_null | exact am_isr_rf | exact am_c1_int | exact am_c1_ref | exact am_c1_null | exact am_c1_rf | exact am_b0 | exact am_b1 | exact RM_obj (by assumption) | (simp only [ne_eq]; done) | exact am_nz2 | exact am_nz3 | exact am_nz6 | exact am_lt (hB _ _) | exact am_lt (stF_lt hB) | exact b32_01) only [e0_503, e0_504, e0_505, e0_506, e0_507, e0_508, e0_509, e0_510, e0_511, e0_512, e0_513, e0_514, e0_515, e0_516, e0_517, e0_518, e0_519, nI_add, d1, d2', d3', Option.toList_some, Option.toList_none, List.cons_append, List.nil_append]
    refine d15f (Or.inl hc1) hR ?_
    obtain ⟨hb1, g, hM, hfin, hbk⟩ := toMod hW0 r1 r2 hR (by omega) (by omega) hSS hSC hSL hIb
    simp (disch := first | assumption | omega | exact am_isr_ref | exact am_isr_null | exact am_isr_rf | exact am_c1_int | exact am_c1_ref | exact am_c1_null | exact am_c1_rf | exact am_b0 | exact am_b1 | exact RM_obj (by assumption) | exact MS_obj (by assumption) | (simp only [ne_eq]; done) | exact am_nz2 | exact am_nz3 | exact am_nz6 | exact am_lt (hB _ _) | exact am_lt (stF_lt hB) | exact b32_01) only [e0_522, e0_523, e0_524, e0_525, e0_526, e0_527, e0_528, e0_529, e0_530, e0_531, e0_532, e0_533, e0_534, e0_535, e0_536, e0_537, e0_538, nI_add, rd _ hb1 (4 * k + 1) (by omega), rd _ hb1 (4 * k + 2) (by omega), rd _ hb1 (4 * k + 3) (by omega), Option.toList_some, Option.toList_none, List.cons_append, List.nil_append]
    refine c109f (Or.inl hc1) ?_
    simp (disch := first | assumption | omega | exact am_isr_ref | exact am_isr_null | exact am_isr_rf | exact am_c1_int | exact am_c1_ref | exact am_c1_null | exact am_c1_rf | exact am_b0 | exact am_b1 | exact RM_obj (by assumption) | exact MS_obj (by assumption) | (simp only [ne_eq]; done) | exact am_nz2 | exact am_nz3 | exact am_nz6 | exact am_lt (hB _ _) | exact am_lt (stF_lt hB) | exact b32_01) only [e0_541, Option.toList_some, Option.toList_none, List.cons_append, List.nil_append, if_true]
    exact hn h (hfin h pl GR_rf hM)
  · have hc1 : xs (4 * k + 1) < 0 ∨ nI 6 ≤ xs (4 * k + 1) := Or.inr hx
    simp (disch := first | assumption | omega | exact am_isr_ref | exact am_isr_null | exact am_isr_rf | exact am_c1_int | exact am_c1_ref | exact am_c1_null | exact am_c1_rf | exact am_b0 | exact am_b1 | exact RM_obj (by assumption) | (simp only [ne_eq]; done) | exact am_nz2 | exact am_nz3 | exact am_nz6 | exact am_lt (hB _ _) | exact am_lt (stF_lt hB) | exact b32_01) only [e0_503, e0_504, e0_505, e0_506, e0_507, e0_508, e0_509, e0_510, e0_511, e0_512, e0_513, e0_514, e0_515, e0_516, e0_517, e0_518, e0_519, nI_add, d1, d2', d3', Option.toList_some, Option.toList_none, List.cons_append, List.nil_append]
    refine d15f (Or.inl hc1) hR ?_
    obtain ⟨hb1, g, hM, hfin, hbk⟩ := toMod hW0 r1 r2 hR (by omega) (by omega) hSS hSC hSL hIb
    simp (disch := first | assumption | omega | exact am_isr_ref | exact am_isr_null | exact am_isr_rf | exact am_c1_int | exact am_c1_ref | exact am_c1_null | exact am_c1_rf | exact am_b0 | exact am_b1 | exact RM_obj (by assumption) | exact MS_obj (by assumption) | (simp only [ne_eq]; done) | exact am_nz2 | exact am_nz3 | exact am_nz6 | exact am_lt (hB _ _) | exact am_lt (stF_lt hB) | exact b32_01) only [e0_522, e0_523, e0_524, e0_525, e0_526, e0_527, e0_528, e0_529, e0_530, e0_531, e0_532, e0_533, e0_534, e0_535, e0_536, e0_537, e0_538, nI_add, rd _ hb1 (4 * k + 1) (by omega), rd _ hb1 (4 * k + 2) (by omega), rd _ hb1 (4 * k + 3) (by omega), Option.toList_some, Option.toList_none, List.cons_append, List.nil_append]
    refine c109f (Or.inl hc1) ?_
    simp (disch := first | assumption | omega | exact am_isr_ref | exact am_isr_null | exact am_isr_rf | exact am_c1_int | exact am_c1_ref | exact am_c1_null | exact am_c1_rf | exact am_b0 | exact am_b1 | exact RM_obj (by assumption) | exact MS_obj (by assumption) | (simp only [ne_eq]; done) | exact am_nz2 | exact am_nz3 | exact am_nz6 | exact am_lt (hB _ _) | exact am_lt (stF_lt hB) | exact b32_01) only [e0_541, Option.toList_some, Option.toList_none, List.cons_append, List.nil_append, if_true]
    exact hn h (hfin h pl GR_rf hM)
  · rcases pk_ix (xs (4 * k + 2)) (n := 6) (by omega) with hy | hy | ⟨j, hj, hy⟩
    · have hc2 : xs (4 * k + 2) < 0 ∨ nI 6 ≤ xs (4 * k + 2) := Or.inl hy
      simp (disch := first | assumption | omega | exact am_isr_ref | exact am_isr_null | exact am_isr_rf | exact am_c1_int | exact am_c1_ref | exact am_c1_null | exact am_c1_rf | exact am_b0 | exact am_b1 | exact RM_obj (by assumption) | (simp only [ne_eq]; done) | exact am_nz2 | exact am_nz3 | exact am_nz6 | exact am_lt (hB _ _) | exact am_lt (stF_lt hB) | exact b32_01) only [e0_503, e0_504, e0_505, e0_506, e0_507, e0_508, e0_509, e0_510, e0_511, e0_512, e0_513, e0_514, e0_515, e0_516, e0_517, e0_518, e0_519, nI_add, d1, d2', d3', Option.toList_some, Option.toList_none, List.cons_append, List.nil_append]
      refine d15f (Or.inr hc2) hR ?_
      obtain ⟨hb1, g, hM, hfin, hbk⟩ := toMod hW0 r1 r2 hR (by omega) (by omega) hSS hSC hSL hIb
      simp (disch := first | assumption | omega | exact am_isr_ref | exact am_isr_null | exact am_isr_rf | exact am_c1_int | exact am_c1_ref | exact am_c1_null | exact am_c1_rf | exact am_b0 | exact am_b1 | exact RM_obj (by assumption) | exact MS_obj (by assumption) | (simp only [ne_eq]; done) | exact am_nz2 | exact am_nz3 | exact am_nz6 | exact am_lt (hB _ _) | exact am_lt (stF_lt hB) | exact b32_01) only [e0_522, e0_523, e0_524, e0_525, e0_526, e0_527, e0_528, e0_529, e0_530, e0_531, e0_532, e0_533, e0_534, e0_535, e0_536, e0_537, e0_538, nI_add, rd _ hb1 (4 * k + 1) (by omega), rd _ hb1 (4 * k + 2) (by omega), rd _ hb1 (4 * k + 3) (by omega), Option.toList_some, Option.toList_none, List.cons_append, List.nil_append]
      refine c109f (Or.inr hc2) ?_
      simp (disch := first | assumption | omega | exact am_isr_ref | exact am_isr_null | exact am_isr_rf | exact am_c1_int | exact am_c1_ref | exact am_c1_null | exact am_c1_rf | exact am_b0 | exact am_b1 | exact RM_obj (by assumption) | exact MS_obj (by assumption) | (simp only [ne_eq]; done) | exact am_nz2 | exact am_nz3 | exact am_nz6 | exact am_lt (hB _ _) | exact am_lt (stF_lt hB) | exact b32_01) only [e0_541, Option.toList_some, Option.toList_none, List.cons_append, List.nil_append, if_true]
      exact hn h (hfin h pl GR_rf hM)
    · have hc2 : xs (4 * k + 2) < 0 ∨ nI 6 ≤ xs (4 * k + 2) := Or.inr hy
      simp (disch := first | assumption | omega | exact am_isr_ref | exact am_isr_null | exact am_isr_rf | exact am_c1_int | exact am_c1_ref | exact am_c1_null | exact am_c1_rf | exact am_b0 | exact am_b1 | exact RM_obj (by assumption) | (simp only [ne_eq]; done) | exact am_nz2 | exact am_nz3 | exact am_nz6 | exact am_lt (hB _ _) | exact am_lt (stF_lt hB) | exact b32_01) only [e0_503, e0_504, e0_505, e0_506, e0_507, e0_508, e0_509, e0_510, e0_511, e0_512, e0_513, e0_514, e0_515, e0_516, e0_517, e0_518, e0_519, nI_add, d1, d2', d3', Option.toList_some, Option.toList_none, List.cons_append, List.nil_append]
      refine d15f (Or.inr hc2) hR ?_
      obtain ⟨hb1, g, hM, hfin, hbk⟩ := toMod hW0 r1 r2 hR (by omega) (by omega) hSS hSC hSL hIb
      simp (disch := first | assumption | omega | exact am_isr_ref | exact am_isr_null | exact am_isr_rf | exact am_c1_int | exact am_c1_ref | exact am_c1_null | exact am_c1_rf | exact am_b0 | exact am_b1 | exact RM_obj (by assumption) | exact MS_obj (by assumption) | (simp only [ne_eq]; done) | exact am_nz2 | exact am_nz3 | exact am_nz6 | exact am_lt (hB _ _) | exact am_lt (stF_lt hB) | exact b32_01) only [e0_522, e0_523, e0_524, e0_525, e0_526, e0_527, e0_528, e0_529, e0_530, e0_531, e0_532, e0_533, e0_534, e0_535, e0_536, e0_537, e0_538, nI_add, rd _ hb1 (4 * k + 1) (by omega), rd _ hb1 (4 * k + 2) (by omega), rd _ hb1 (4 * k + 3) (by omega), Option.toList_some, Option.toList_none, List.cons_append, List.nil_append]
      refine c109f (Or.inr hc2) ?_
      simp (disch := first | assumption | omega | exact am_isr_ref | exact am_isr_null | exact am_isr_rf | exact am_c1_int | exact am_c1_ref | exact am_c1_null | exact am_c1_rf | exact am_b0 | exact am_b1 | exact RM_obj (by assumption) | exact MS_obj (by assumption) | (simp only [ne_eq]; done) | exact am_nz2 | exact am_nz3 | exact am_nz6 | exact am_lt (hB _ _) | exact am_lt (stF_lt hB) | exact b32_01) only [e0_541, Option.toList_some, Option.toList_none, List.cons_append, List.nil_append, if_true]
      exact hn h (hfin h pl GR_rf hM)
    · simp (disch := first | assumption | omega | exact am_isr_ref | exact am_isr_null | exact am_isr_rf | exact am_c1_int | exact am_c1_ref | exact am_c1_null | exact am_c1_rf | exact am_b0 | exact am_b1 | exact RM_obj (by assumption) | (simp only [ne_eq]; done) | exact am_nz2 | exact am_nz3 | exact am_nz6 | exact am_lt (hB _ _) | exact am_lt (stF_lt hB) | exact b32_01) only [e0_503, e0_504, e0_505, e0_506, e0_507, e0_508, e0_509, e0_510, e0_511, e0_512, e0_513, e0_514, e0_515, e0_516, e0_517, e0_518, e0_519, nI_add, d1, d2', d3', Option.toList_some, Option.toList_none, List.cons_append, List.nil_append, hx, hy]
      refine d15 hi hj fx.hL hR hSL ?_
      obtain ⟨hb1, g, hM, hfin, hbk⟩ := toMod hW0 r1 r2 hR (by omega) (by omega) hSS hSC hSL hIb
      simp (disch := first | assumption | omega | exact am_isr_ref | exact am_isr_null | exact am_isr_rf | exact am_c1_int | exact am_c1_ref | exact am_c1_null | exact am_c1_rf | exact am_b0 | exact am_b1 | exact RM_obj (by assumption) | exact MS_obj (by assumption) | (simp only [ne_eq]; done) | exact am_nz2 | exact am_nz3 | exact am_nz6 | exact am_lt (hB _ _) | exact am_lt (stF_lt hB) | exact b32_01) only [e0_522, e0_523, e0_524, e0_525, e0_526, e0_527, e0_528, e0_529, e0_530, e0_531, e0_532, e0_533, e0_534, e0_535, e0_536, e0_537, e0_538, nI_add, rd _ hb1 (4 * k + 1) (by omega), rd _ hb1 (4 * k + 2) (by omega), rd _ hb1 (4 * k + 3) (by omega), Option.toList_some, Option.toList_none, List.cons_append, List.nil_append, hx, hy]
      refine c109 hi hj hM fx.hL ?_
      simp (disch := first | assumption | omega | exact am_isr_ref | exact am_isr_null | exact am_isr_rf | exact am_c1_int | exact am_c1_ref | exact am_c1_null | exact am_c1_rf | exact am_b0 | exact am_b1 | exact RM_obj (by assumption) | exact MS_obj (by assumption) | (simp only [ne_eq]; done) | exact am_nz2 | exact am_nz3 | exact am_nz6 | exact am_lt (hB _ _) | exact am_lt (stF_lt hB) | exact b32_01) only [e0_541, Option.toList_some, Option.toList_none, List.cons_append, List.nil_append, if_true]
      exact hn h (hfin h pl GR_rf hM)

end LC
