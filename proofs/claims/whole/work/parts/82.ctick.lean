/-! tick -/
section TI
variable {d : Nat} {g : Nat → Option aE} {c : Nat} {X : aX} {Q : Option Value → aH → Prop} {S : aSt} {T : Nat → Nat} {K : Nat → List Nat} {LL : List aLm} {tg : Nat → Nat} {h : aH}
theorem nb_lk {s : Nat} (hs : s < 6) : nbF s < 6 ∧ lkd (6 * s + nbF s) = true := by
  have : s = 0 ∨ s = 1 ∨ s = 2 ∨ s = 3 ∨ s = 4 ∨ s = 5 := by omega
  rcases this with rfl | rfl | rfl | rfl | rfl | rfl <;> exact ⟨by decide, by decide⟩
theorem d8 {s : Nat} (hs : s < 6) (hm : S.1 ≤ 200) (hB : am_BN S.2.1) (hck : S.2.1 10 s + 1 < 1000000) (h4 : ∀ e, S.2.1 11 e < 4) (hz : ∀ m, S.1 ≤ m → m < 200 → S.2.1 11 (200 * s + m) = 0) (h12 : ∀ n, n < 200 → (S.2.1 11 (200 * s + n) = 1 ∨ S.2.1 11 (200 * s + n) = 2) → 1 ≤ S.2.1 12 (200 * s + n))
  (hc : ∀ r, r < 3 → ¬ r = s / 2 → cnL S.2.2.2.2 (6 * s + (2 * r + s % 2)) < 512) (hcn : cnL S.2.2.2.2 (6 * s + nbF s) < 512)
  (hR : RC g h c X) (hSS : SS c X S T K) (hSC : SC X S T) (hSL : SL X S.2.2.2.2 LL tg) (hQ : OutQ g c T h X (tickF S s) (fun h1 => Q (some (.int (nI (S.2.1 10 s + 1)))) h1)) : am_R (d + 4) 8 0 [some (.ref c), some (.int (nI s)), none, none] [] h Q := by
  have ho := oA0 hR
  have rck : x_ck X s = S.2.1 10 s := congrFun hSS.2.1 s
  have ep : (fun i : Nat => i) = id := rfl
  simp (disch := first | assumption | omega | exact am_isr_ref | exact am_isr_null | exact am_isr_rf | exact am_c1_int | exact am_c1_ref | exact am_c1_null | exact am_c1_rf | exact am_b0 | exact am_b1 | exact RM_obj (by assumption) | (simp only [ne_eq]; done) | exact am_nz2 | exact am_nz3 | exact am_nz6 | exact am_lt (hB _ _) | exact am_lt (stF_lt hB) | exact b32_01) only [e8_0, e8_1, e8_2, e8_5, e8_6, e8_7r, e8_7n, e8_7q, e8_10, e8_11, e8_12, e8_13, e8_14, e8_17, e8_18, e8_19, d18t hs hR, gV0_8 hs hR, rck, nI_add, Option.toList_some, List.cons_append, List.nil_append]
  refine pV0_ck (v := S.2.1 10 s + 1) hs hR (fun h1 g1 g2 hR1 => ?_)
  have hS1 := SS_ck (s := s) (v := S.2.1 10 s + 1) hSS
  generalize hX1 : xs_ck X (va_up (x_ck X) s (S.2.1 10 s + 1)) = X1 at hR1 hS1
  have hC1 : SC X1 S T := by rw [← hX1]; exact hSC
  have hL1 : SL X1 S.2.2.2.2 LL tg := by rw [← hX1]; exact SL_cg rfl rfl rfl (fun b e q _ => q) hSL
  have hM1 : Xm (x_Y X) (x_Y X1) := by rw [← hX1]; exact Xm_rf
  clear hX1
  have ho1 := oV0 hs hR1
  have hoA1 := oA0 hR1
  have n11 : (setN S 10 s (S.2.1 10 s + 1)).2.1 11 = S.2.1 11 := sN_n (by decide)
  have n12 : (setN S 10 s (S.2.1 10 s + 1)).2.1 12 = S.2.1 12 := sN_n (by decide)
  have hBk : am_BN (setN S 10 s (S.2.1 10 s + 1)).2.1 := fun k e => by
    unfold setN up2
    simp only []
    split
    · exact hck
    · exact hB k e
  obtain ⟨a1, a2, a3, a4, a5, a6, a7, a8, a9⟩ := id hS1
  rw [n11] at a5
  rw [n11, n12] at a6
  have hsg : ∀ n, n < 200 → x_sg X1 s n = S.2.1 11 (200 * s + n) := fun n hn => by rw [a5]; exact cl_at hn
  have hb : ∀ e, x_sg X1 s e < 4 := fun e => by
    rw [a5]; unfold clF; split
    · exact h4 _
    · omega
  have hp1 : ∀ e, (x_sg X1 s e = 1 ∨ x_sg X1 s e = 2) → 1 ≤ x_tm X1 s e := fun e q => by
    by_cases he : e < 200
    · rw [hsg e he] at q
      rw [a6 s e hs he q]
      exact h12 e he q
    · rw [a5] at q
      unfold clF at q
      rw [if_neg he] at q
      omega
  have rck1 : x_ck X1 s = S.2.1 10 s + 1 := by rw [a2, sN_s, vu_s]
  have ere : reF (x_sg X1 s) (x_tm X1 s) (x_ck X1 s) = tkU S s := by
    have key := up_re (N := (setN S 10 s (S.2.1 10 s + 1)).2.1) (s := s) (sg := x_sg X1 s) (tm := x_tm X1 s) (by rw [n11]; exact hsg) (by rw [n11, n12]; exact fun n hn q => a6 s n hs hn q) hBk (by rw [n11, n12]; exact h12) 200 (Nat.le_refl _)
    have e2 := up_200 (N := (setN S 10 s (S.2.1 10 s + 1)).2.1) (s := s) (m := S.1) (by rw [n11]; exact hz) (200 - S.1) (by omega)
    rw [show S.1 + (200 - S.1) = 200 by omega] at e2
    rw [e2] at key
    unfold reF tkU
    rw [rck1]
    cases hu : upF (setN S 10 s (S.2.1 10 s + 1)).2.1 s S.1 with
    | none =>
      rw [hu] at key
      simp only [] at key
      rw [if_pos key]
      rfl
    | some b =>
      rw [hu] at key
      simp only [] at key
      rw [if_neg (by omega), key.1]
      rfl
  have hre : tkU S s < 1000000 := by
    unfold tkU
    have key := up_re (N := (setN S 10 s (S.2.1 10 s + 1)).2.1) (s := s) (sg := x_sg X1 s) (tm := x_tm X1 s) (by rw [n11]; exact hsg) (by rw [n11, n12]; exact fun n hn q => a6 s n hs hn q) hBk (by rw [n11, n12]; exact h12) S.1 (by omega)
    cases hu : upF (setN S 10 s (S.2.1 10 s + 1)).2.1 s S.1 with
    | none => exact hck
    | some b =>
      rw [hu] at key
      exact key.2
  simp (disch := first | assumption | omega | exact am_isr_ref | exact am_isr_null | exact am_isr_rf | exact am_c1_int | exact am_c1_ref | exact am_c1_null | exact am_c1_rf | exact am_b0 | exact am_b1 | exact RM_obj (by assumption) | (simp only [ne_eq]; done) | exact am_nz2 | exact am_nz3 | exact am_nz6 | exact am_lt (hB _ _) | exact am_lt (stF_lt hB) | exact b32_01) only [e8_22, e8_23, e8_26, e8_27, e8_28, e8_29, e8_32, e8_33, d53 hs hR1 hb (a7 s) hp1, ere, gV0_1 hs hR1, Option.toList_some, List.cons_append, List.nil_append]
  refine d47 hs (by omega) hR1 (fun h2 g3 g4 hR2 => ?_)
  have hS2 := SS_kn (s := s) (p := s / 2) (v := tkU S s) (by omega) hS1
  generalize hX2 : xs_kn X1 (va_up (x_kn X1) s (va_up (x_kn X1 s) (s / 2) (tkU S s))) = X2 at hR2 hS2
  have hC2 : SC X2 S T := by rw [← hX2]; exact hC1
  have hL2 : SL X2 S.2.2.2.2 LL tg := by rw [← hX2]; exact SL_cg rfl rfl rfl (fun b e q _ => q) hL1
  have hM2 : Xm (x_Y X) (x_Y X2) := by rw [← hX2]; exact hM1
  clear hX2
  have hoA2 := oA0 hR2
  simp (disch := first | assumption | omega | exact am_isr_ref | exact am_isr_null | exact am_isr_rf | exact am_c1_int | exact am_c1_ref | exact am_c1_null | exact am_c1_rf | exact am_b0 | exact am_b1 | exact RM_obj (by assumption) | (simp only [ne_eq]; done) | exact am_nz2 | exact am_nz3 | exact am_nz6 | exact am_lt (hB _ _) | exact am_lt (stF_lt hB) | exact b32_01) only [e8_36, e8_37, e8_38, e8_39, e8_40, Option.toList_none, List.nil_append]
  refine d31 hs (by decide) hL2 (fun r a b => ?_) hR2 (fun h3 X3 LL3 tg3 g5 g6 g7 hR3 hL3 hx3 => ?_)
  · rw [SL_len hL2]
    exact hc r a b
  have hS3 := SS_lk hx3 hS2
  have hC3 := SC_lk hx3 hC2
  have hM3 := Xm_tr hM2 (Xc_lk hx3).2.2.2.2.2.2.2
  have ho3 := oV0 hs hR3
  have enb : (if s % 2 = 0 then s + 1 else s - 1) = nbF s := rfl
  have hkn3 : x_kn X3 = clF 3 ((tkS S s).2.1 13) := hS3.2.2.1
  simp (disch := first | assumption | omega | exact am_isr_ref | exact am_isr_null | exact am_isr_rf | exact am_c1_int | exact am_c1_ref | exact am_c1_null | exact am_c1_rf | exact am_b0 | exact am_b1 | exact RM_obj (by assumption) | (simp only [ne_eq]; done) | exact am_nz2 | exact am_nz3 | exact am_nz6 | exact am_lt (hB _ _) | exact am_lt (stF_lt hB) | exact b32_01) only [e8_43, e8_44, e8_45, e8_48, e8_49, e8_52, gV0_0 hs hR3, d45 hs hR3, enb, Option.toList_none, Option.toList_some, List.cons_append, List.nil_append]
  have hR4 := nY (k := 5) (e := .inr (3, am_df 3)) hR3
  simp (disch := first | assumption | omega | exact am_isr_ref | exact am_isr_null | exact am_isr_rf | exact am_c1_int | exact am_c1_ref | exact am_c1_null | exact am_c1_rf | exact am_b0 | exact am_b1 | exact RM_obj (by assumption) | (simp only [ne_eq]; done) | exact am_nz2 | exact am_nz3 | exact am_nz6 | exact am_lt (hB _ _) | exact am_lt (stF_lt hB) | exact b32_01) only [e8_55, e8_56, e8_58, e8_59, e8_60, e8_61, gV0_2 hs hR4]
  rw [e8_64 am_c1_int am_c1_int am_c1_int am_c1_ref am_c1_ref am_c1_int am_c1_int am_c1_ref (kV1 hR4 s hs)]
  have hR5 := nY (k := 3) (e := .inl (0, 3, .inl (fun p => nI (x_kn X3 s p)))) hR4
  have a4n : (am_nw h3 5 (.inr (3, am_df 3))).1 = h3.1 + 1 := rfl
  rw [a4n] at hR5 ⊢
  have e70 := kY hR5 (vu_s (f := va_up (x_Y X3) h3.1 (some (.inr (3, am_df 3)))) (i := h3.1 + 1) (v := some (.inl (0, 3, .inl (fun p => nI (x_kn X3 s p))))))
  rw [e8_67 e70]
  simp (disch := first | assumption | omega | exact am_isr_ref | exact am_isr_null | exact am_isr_rf | exact am_c1_int | exact am_c1_ref | exact am_c1_null | exact am_c1_rf | exact am_b0 | exact am_b1 | exact RM_obj (by assumption) | (simp only [ne_eq]; done) | exact am_nz2 | exact am_nz3 | exact am_nz6 | exact am_lt (hB _ _) | exact am_lt (stF_lt hB) | exact b32_01) only [e8_70]
  have hb5 : va_up (va_up (x_Y X3) h3.1 (some (.inr (3, am_df 3)))) (h3.1 + 1) (some (.inl (0, 3, .inl (fun p => nI (x_kn X3 s p))))) h3.1 = some (.inr (3, am_df 3)) := (vu_n (by omega)).trans vu_s
  refine d42 (v := some (h3.1 + 1)) hb5 hR5 (fun h6 g8 g9 hR6 => ?_)
  have hex : ∀ b e, x_Y X3 b = some e → va_up (va_up (va_up (x_Y X3) h3.1 (some (.inr (3, am_df 3)))) (h3.1 + 1) (some (.inl (0, 3, .inl (fun p => nI (x_kn X3 s p)))))) h3.1 (some (msC (nI 6) (-1) (nI 0) (some (h3.1 + 1)) none)) b = some e := fun b e hb => by
    have hlt := (hR3.2.2.2.2.2.2.2.2.2.2.2.2.2.2.2.2.2.2.1 b e hb).2.2
    exact (vu_n (by omega)).trans ((vu_n (by omega)).trans ((vu_n (by omega)).trans hb))
  have hL6 := SL_ex hex hL3
  have hx6 := Xlk_Y hex
  generalize hX6 : xs_Y X3 (va_up (va_up (va_up (x_Y X3) h3.1 (some (.inr (3, am_df 3)))) (h3.1 + 1) (some (.inl (0, 3, .inl (fun p => nI (x_kn X3 s p)))))) h3.1 (some (msC (nI 6) (-1) (nI 0) (some (h3.1 + 1)) none))) = X6 at hL6 hx6
  have hR6 : RC g h6 c X6 := by rw [← hX6]; exact hR6
  have hm6 : x_Y X6 h3.1 = some (msC (nI 6) (-1) (nI 0) (some (h3.1 + 1)) none) := by rw [← hX6]; exact vu_s
  have hv6 : x_Y X6 (h3.1 + 1) = some (.inl (0, 3, .inl (fun p => nI (x_kn X3 s p)))) := by rw [← hX6]; exact (vu_n (by omega)).trans vu_s
  have n6 : h6.1 = h3.1 + 2 := by rw [g8]; rfl
  have m6 : h6.2.1 = h3.2.1 + 8 := by rw [g9]; rfl
  have ho6 := oA0 hR6
  simp (disch := first | assumption | omega | exact am_isr_ref | exact am_isr_null | exact am_isr_rf | exact am_c1_int | exact am_c1_ref | exact am_c1_null | exact am_c1_rf | exact am_b0 | exact am_b1 | exact RM_obj (by assumption) | (simp only [ne_eq]; done) | exact am_nz2 | exact am_nz3 | exact am_nz6 | exact am_lt (hB _ _) | exact am_lt (stF_lt hB) | exact b32_01) only [e8_73, Option.toList_none, List.nil_append]
  refine d32s (k := 6) (n := -1) (x := (tkS S s).2.1 13 (3 * s)) (y := (tkS S s).2.1 13 (3 * s + 1)) (z := (tkS S s).2.1 13 (3 * s + 2)) (vc := some (h3.1 + 1)) hs (nb_lk hs).1 (nb_lk hs).2 hL6 hm6 (fun _ => ⟨h3.1 + 1, x_kn X3 s, rfl, hv6, ?_, ?_, ?_⟩) (fun z hz => SL_lt hR3 hL3 hz) ?_ hR6 (fun h7 X7 tg7 g10 g11 hR7 hL7 hx7 => ?_)
  · rw [hkn3]; exact cl_at (by decide)
  · rw [hkn3]; exact cl_at (by decide)
  · rw [hkn3]; exact cl_at (by decide)
  · rw [SL_len hL3, cn_oth0]
    · exact hcn
    · intro p hp hne
      unfold nbF
      split <;> omega
  · have rck7 : x_ck X7 s = S.2.1 10 s + 1 := by
      rw [(SS_lk hx7 (SS_lk hx6 hS3)).2.1, sN_n (by decide), sN_s, vu_s]
    simp (disch := first | assumption | omega | exact am_isr_ref | exact am_isr_null | exact am_isr_rf | exact am_c1_int | exact am_c1_ref | exact am_c1_null | exact am_c1_rf | exact am_b0 | exact am_b1 | exact RM_obj (by assumption) | (simp only [ne_eq]; done) | exact am_nz2 | exact am_nz3 | exact am_nz6 | exact am_lt (hB _ _) | exact am_lt (stF_lt hB) | exact b32_01) only [e8_76, e8_77, e8_80, gV0_8 hs hR7, rck7, Option.toList_none, List.nil_append]
    have etk : tickF S s = (S.1, (tkS S s).2.1, S.2.2.1, S.2.2.2.1, othL s (fun p => (s, 2 * p + s % 2, 5, nI (tkU S s), 0, 0, 0)) 3 0 S.2.2.2.2 ++ [(s, nbF s, 6, -1, (tkS S s).2.1 13 (3 * s), (tkS S s).2.1 13 (3 * s + 1), (tkS S s).2.1 13 (3 * s + 2))]) := by
      unfold tickF
      rw [othF_L]
      rfl
    refine hQ h7 X7 K (LL3 ++ [(h3.1, some (h3.1 + 1), s, nbF s, 6, -1, (tkS S s).2.1 13 (3 * s), (tkS S s).2.1 13 (3 * s + 1), (tkS S s).2.1 13 (3 * s + 2))]) tg7 (by omega) (by omega) (by omega) hR7 ?_ ?_ ?_ ?_
    · rw [etk]
      exact SS_lk hx7 (SS_lk hx6 hS3)
    · rw [etk]
      refine SC_lk hx7 (SC_lk hx6 ?_)
      exact SC_cg (S := tkS S s) rfl rfl rfl rfl rfl rfl rfl (SC_N (by decide) (by decide) (by decide) (by decide) (SC_N (by decide) (by decide) (by decide) (by decide) hC3))
    · rw [etk]
      exact hL7
    · exact Xm_tr hM3 (Xm_tr (Xc_lk hx6).2.2.2.2.2.2.2 (Xc_lk hx7).2.2.2.2.2.2.2)
theorem d8f {x : Int32} (hx : x < 0 ∨ nI 6 ≤ x) (hR : RC g h c X) (hQ : Q (some (.int (-1))) h) : am_R (d + 4) 8 0 [some (.ref c), some (.int x), none, none] [] h Q := by
  have ho := oA0 hR
  simp (disch := first | assumption | omega | exact am_isr_ref | exact am_isr_null | exact am_isr_rf | exact am_c1_int | exact am_c1_ref | exact am_c1_null | exact am_c1_rf | exact am_b0 | exact am_b1 | exact RM_obj (by assumption) | (simp only [ne_eq]; done) | exact am_nz2 | exact am_nz3 | exact am_nz6 | exact am_lt (hB _ _) | exact am_lt (stF_lt hB) | exact b32_01) only [e8_0, e8_1, e8_2, e8_5, e8_6, e8_7r, e8_7n, e8_7q, e8_10, e8_11, d18f hx hR, Option.toList_some, List.cons_append, List.nil_append]
  exact hQ
end TI
