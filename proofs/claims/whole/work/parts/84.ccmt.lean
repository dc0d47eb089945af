/-! commit -/
theorem w_cnt : ∀ w, w < 256 → (cntF (fun j => decide (wF w j)) 8 = 0 ↔ w = 0) := by decide +kernel
theorem w_co : ∀ w, w < 256 → ¬ w = 0 → exB (fun k => decide (w / 2 ^ k % 2 = 1 ∧ k % 2 = 0)) 8 0 = true ∨ exB (fun k => decide (w / 2 ^ k % 2 = 1 ∧ k % 2 = 1)) 8 0 = true := by decide +kernel
section CMT
variable {d : Nat} {g : Nat → Option aE} {c : Nat} {X : aX} {Q : Option Value → aH → Prop} {S : aSt} {T : Nat → Nat} {K : Nat → List Nat} {LL : List aLm} {tg : Nat → Nat} {h : aH}
theorem co_ex {N : Nat → Nat → Nat} {n ld : Nat} (h4 : N 4 n < 256) (h0 : ¬ N 4 n = 0) (hl : ld % 2 = 0) : coF N n ld = true ∨ coF N n (ld + 1) = true := by
  have e1 : coF N n ld = exB (fun k => decide (N 4 n / 2 ^ k % 2 = 1 ∧ k % 2 = 0)) 8 0 := by
    unfold coF coB
    rw [hl]
  have e2 : coF N n (ld + 1) = exB (fun k => decide (N 4 n / 2 ^ k % 2 = 1 ∧ k % 2 = 1)) 8 0 := by
    unfold coF coB
    rw [show (ld + 1) % 2 = 1 by omega]
  rw [e1, e2]
  exact w_co _ h4 h0
def OutT (g : Nat → Option aE) (c : Nat) (T : Nat → Nat) (h : aH) (X : aX) (S S1 : aSt) (P : aH → Prop) : Prop := ∀ (h1 : aH) (X1 : aX) (T1 : Nat → Nat) (K1 : Nat → List Nat) (LL1 : List aLm) (tg1 : Nat → Nat), h1.1 ≤ h.1 + 620 → h.1 ≤ h1.1 → h1.2.1 ≤ h.2.1 + 3200 → RC g h1 c X1 → SS c X1 S1 T1 K1 → SC X1 S1 T1 → SL X1 S1.2.2.2.2 LL1 tg1 → P h1
theorem SC_T {T1 : Nat → Nat} (hO : ∀ e n, e < 48 → S.2.2.2.1 e = some n → T1 n = T n) (h : SC X S T) : SC X S T1 := by
  obtain ⟨b1, b2, b3, b4, b5, b6, b7⟩ := h
  refine ⟨b1, b2, b3, b4, ?_, b6, b7⟩
  rw [b5]
  funext i k
  by_cases hk : i < 6 ∧ k < 8
  · simp only [if_pos hk]
    cases ho : S.2.2.2.1 (8 * i + k) with
    | none => rfl
    | some n => rw [Option.map_some, Option.map_some, hO _ n (by omega) ho]
  · simp only [if_neg hk]
    rfl
theorem prpF_N {s n k : Nat} (h10 : ¬ k = 10) (h11 : ¬ k = 11) (h12 : ¬ k = 12) : (prpF S s n).2.1 k = S.2.1 k := by
  unfold prpF
  rw [sN_n h12, sN_n h11, sN_n h10]
theorem prpF_BN {s n : Nat} (hB : am_BN S.2.1) (ht : tmF S.2.1 s n < 1000000) : am_BN (prpF S s n).2.1 := by
  intro k e
  have := hB k e
  unfold prpF setN up2
  simp only []
  repeat' split
  all_goals omega
theorem d6 {i : Nat} (hi : i < 6) (hm : S.1 ≤ 200) (hB : am_BN S.2.1) (h15 : S.2.1 15 i < 3) (h19 : S.2.1 19 i < 256) (h4 : ∀ e, S.2.1 11 e < 4) (hz : ∀ s m, s < 6 → S.1 ≤ m → m < 200 → S.2.1 11 (200 * s + m) = 0) (h8 : S.2.1 8 S.1 = 0) (hO : ∀ e n, e < 48 → S.2.2.2.1 e = some n → n < S.1) (ht : tmF (cm1 S i).2.1 (2 * (i % 3)) S.1 < 1000000)
  (hc : S.1 < 200 → ∀ r, r < 3 → ¬ r = (2 * (i % 3)) / 2 → cnL S.2.2.2.2 (6 * (2 * (i % 3)) + (2 * r + (2 * (i % 3)) % 2)) + (nkF S (2 * (i % 3)) + 1) ≤ 512) (hcn : cnL S.2.2.2.2 (6 * (2 * (i % 3)) + (2 * (i % 3) + 1)) < 512)
  (hR : RC g h c X) (hSS : SS c X S T K) (hSC : SC X S T) (hSL : SL X S.2.2.2.2 LL tg) (hQ : OutT g c T h X S (cmtF S i) (fun h1 => Q (some (.int (cmtA S i))) h1)) : am_R (d + 6) 6 0 [some (.ref c), some (.int (nI i)), none, none, none] [] h Q := by
  have ho := oA0 hR
  have hdg : x_dg X i = S.2.1 15 i := congrFun hSC.1 i
  have hd3 : x_dg X i < 3 := by rw [hdg]; exact h15
  have ehs : x_hs X i = fun k => S.2.1 19 i / 2 ^ k % 2 := by rw [hSC.2.2.2.2.2.1]
  have hhs : ∀ k, x_hs X i k < 2 := fun k => by rw [ehs]; exact Nat.mod_lt _ (by decide)
  have hw : Wr h (c + 5 + 6 * i) (x_hs X i) (x_iv X i) := WrC hi hR hhs
  have how := oW hw
  unfold cmtF cmtA at hQ
  by_cases hop : S.2.1 15 i = 1
  · rw [if_pos hop, if_pos hop] at hQ
    have hdo : x_dg X i = 1 := by rw [hdg]; exact hop
    simp (disch := first | assumption | omega | exact am_isr_ref | exact am_isr_null | exact am_isr_rf | exact am_c1_int | exact am_c1_ref | exact am_c1_null | exact am_c1_rf | exact am_b0 | exact am_b1 | exact RM_obj (by assumption) | (simp only [ne_eq]; done) | exact am_nz2 | exact am_nz3 | exact am_nz6 | exact am_lt (hB _ _) | exact am_lt (stF_lt hB) | exact b32_01) only [e6_0, e6_1, e6_2, e6_5, e6_6, e6_7r, e6_7n, e6_7q, e6_10, e6_11, e6_12, e6_13, e6_16, d17t hi hR hd3, if_pos hdo, gC0_3 hi hR, d69 hw, Option.toList_some, List.cons_append, List.nil_append]
    have ecn : cntF (fun j => decide (x_hs X i j = 1)) 8 = cntF (fun j => decide (wF (S.2.1 19 i) j)) 8 := by rw [ehs]
    rw [ecn, e6_19]
    have hcl := cntF_le (fun j => decide (wF (S.2.1 19 i) j)) 8
    by_cases h0 : S.2.1 19 i = 0
    · rw [if_pos h0, if_pos h0] at hQ
      have e0 := (w_cnt _ h19).mpr h0
      rw [e0, if_neg (show ¬ ¬ nI 0 = 0 by decide)]
      simp (disch := first | assumption | omega | exact am_isr_ref | exact am_isr_null | exact am_isr_rf | exact am_c1_int | exact am_c1_ref | exact am_c1_null | exact am_c1_rf | exact am_b0 | exact am_b1 | exact RM_obj (by assumption) | (simp only [ne_eq]; done) | exact am_nz2 | exact am_nz3 | exact am_nz6 | exact am_lt (hB _ _) | exact am_lt (stF_lt hB) | exact b32_01) only [e6_22, e6_23, e6_24]
      refine pC0_dg (v := 0) hi hR (fun h1 g1 g2 hR1 => ?_)
      simp (disch := first | assumption | omega | exact am_isr_ref | exact am_isr_null | exact am_isr_rf | exact am_c1_int | exact am_c1_ref | exact am_c1_null | exact am_c1_rf | exact am_b0 | exact am_b1 | exact RM_obj (by assumption) | (simp only [ne_eq]; done) | exact am_nz2 | exact am_nz3 | exact am_nz6 | exact am_lt (hB _ _) | exact am_lt (stF_lt hB) | exact b32_01) only [e6_27, e6_29]
      exact hQ h1 _ T K LL tg (by omega) (by omega) (by omega) hR1 (SS_N (by decide) hSS) (SC_dg hSC) (SL_cg rfl rfl rfl (fun b e q _ => q) hSL)
    · rw [if_neg h0, if_neg h0] at hQ
      have e0 : ¬ cntF (fun j => decide (wF (S.2.1 19 i) j)) 8 = 0 := fun q => h0 ((w_cnt _ h19).mp q)
      rw [if_pos (show ¬ nI (cntF (fun j => decide (wF (S.2.1 19 i) j)) 8) = 0 from fun q => e0 ((nI_eq (b := 0) (by omega) (by decide)).mp q))]
      have ecnt : x_cnt X = S.1 := hSS.1
      by_cases h200 : S.1 = 200
      · rw [if_pos h200, if_pos h200] at hQ
        simp (disch := first | assumption | omega | exact am_isr_ref | exact am_isr_null | exact am_isr_rf | exact am_c1_int | exact am_c1_ref | exact am_c1_null | exact am_c1_rf | exact am_b0 | exact am_b1 | exact RM_obj (by assumption) | (simp only [ne_eq]; done) | exact am_nz2 | exact am_nz3 | exact am_nz6 | exact am_lt (hB _ _) | exact am_lt (stF_lt hB) | exact b32_01) only [e6_30, e6_31, e6_34, e6_35, e6_38, gA0_4 hR, gA0_3 hR, nA4 hR, ecnt]
        rw [e6_39, if_neg (by rw [h200]; decide)]
        simp (disch := first | assumption | omega | exact am_isr_ref | exact am_isr_null | exact am_isr_rf | exact am_c1_int | exact am_c1_ref | exact am_c1_null | exact am_c1_rf | exact am_b0 | exact am_b1 | exact RM_obj (by assumption) | (simp only [ne_eq]; done) | exact am_nz2 | exact am_nz3 | exact am_nz6 | exact am_lt (hB _ _) | exact am_lt (stF_lt hB) | exact b32_01) only [e6_42, e6_44]
        exact hQ h X T K LL tg (by omega) (by omega) (by omega) hR hSS hSC hSL
      · rw [if_neg h200, if_neg h200] at hQ
        have hlt : S.1 < 200 := by omega
        have hc := hc hlt
        simp (disch := first | assumption | omega | exact am_isr_ref | exact am_isr_null | exact am_isr_rf | exact am_c1_int | exact am_c1_ref | exact am_c1_null | exact am_c1_rf | exact am_b0 | exact am_b1 | exact RM_obj (by assumption) | (simp only [ne_eq]; done) | exact am_nz2 | exact am_nz3 | exact am_nz6 | exact am_lt (hB _ _) | exact am_lt (stF_lt hB) | exact b32_01) only [e6_30, e6_31, e6_34, e6_35, e6_38, gA0_4 hR, gA0_3 hR, nA4 hR, ecnt]
        rw [e6_39, if_pos ((nI_ltI (by omega) (by decide)).mpr hlt), e6_45]
        have hR1 := nY (k := 8) (e := .inr (5, am_df 5)) hR
        have ho1 := oA0 hR1
        have hh1 : (am_nw h 8 (.inr (5, am_df 5))).1 = h.1 + 1 := rfl
        have hh2 : (am_nw h 8 (.inr (5, am_df 5))).2.1 = h.2.1 + 8 := rfl
        generalize am_nw h 8 (.inr (5, am_df 5)) = h1 at hR1 ho1 hh1 hh2 ⊢
        have ecnt1 : x_cnt (xs_Y X (va_up (x_Y X) h.1 (some (.inr (5, am_df 5))))) = S.1 := hSS.1
        simp (disch := first | assumption | omega | exact am_isr_ref | exact am_isr_null | exact am_isr_rf | exact am_c1_int | exact am_c1_ref | exact am_c1_null | exact am_c1_rf | exact am_b0 | exact am_b1 | exact RM_obj (by assumption) | (simp only [ne_eq]; done) | exact am_nz2 | exact am_nz3 | exact am_nz6 | exact am_lt (hB _ _) | exact am_lt (stF_lt hB) | exact b32_01) only [e6_48, e6_49, e6_50, e6_53, e6_54, gA0_4 hR1, ecnt1]
        refine d58 (X := xs_Y X (va_up (x_Y X) h.1 (some (.inr (5, am_df 5))))) hh1 hi hhs vu_s hR1 (fun h2 Y2 g3 g4 hR2 hTr hY2 => ?_)
        have hex : ∀ b e, x_Y X b = some e → Y2 b = some e := fun b e hb => by
          have hbl := (hR.2.2.2.2.2.2.2.2.2.2.2.2.2.2.2.2.2.2.1 b e hb).2.2
          exact (hY2 b hbl).trans ((vu_n (by omega)).trans hb)
        have hTh := TrH hR2 hTr
        have hz5 : am_isc h2 5 (some h.1) = true := oT hTh
        have ecnt2 : x_cnt (xs_Y (xs_Y X (va_up (x_Y X) h.1 (some (.inr (5, am_df 5))))) Y2) = S.1 := hSS.1
        simp (disch := first | assumption | omega | exact am_isr_ref | exact am_isr_null | exact am_isr_rf | exact am_c1_int | exact am_c1_ref | exact am_c1_null | exact am_c1_rf | exact am_b0 | exact am_b1 | exact RM_obj (by assumption) | (simp only [ne_eq]; done) | exact am_nz2 | exact am_nz3 | exact am_nz6 | exact am_lt (hB _ _) | exact am_lt (stF_lt hB) | exact b32_01) only [e6_57, e6_58, e6_59, e6_62, e6_63, e6_66, e6_67q, e6_67r, e6_67n, gA0_3 hR2, gA0_4 hR2, ecnt2, Option.toList_none, List.nil_append]
        refine wA4 (o := some h.1) hlt hR2 hz5 (fun h3 g5 g6 hR3 => ?_)
        have ecnt3 : x_cnt (xs_ta (xs_Y (xs_Y X (va_up (x_Y X) h.1 (some (.inr (5, am_df 5))))) Y2) (va_up (x_ta X) S.1 (some h.1))) = S.1 := hSS.1
        have hR3 : RC g h3 c (xs_ta (xs_Y (xs_Y X (va_up (x_Y X) h.1 (some (.inr (5, am_df 5))))) Y2) (va_up (x_ta X) S.1 (some h.1))) := hR3
        simp (disch := first | assumption | omega | exact am_isr_ref | exact am_isr_null | exact am_isr_rf | exact am_c1_int | exact am_c1_ref | exact am_c1_null | exact am_c1_rf | exact am_b0 | exact am_b1 | exact RM_obj (by assumption) | (simp only [ne_eq]; done) | exact am_nz2 | exact am_nz3 | exact am_nz6 | exact am_lt (hB _ _) | exact am_lt (stF_lt hB) | exact b32_01) only [e6_68, e6_69, e6_70, e6_73, e6_74, e6_75, gA0_4 hR3, ecnt3, nI_add]
        refine pA0_4 (v := S.1 + 1) hR3 (fun hp4 g7 g8 hR4 => ?_)
        simp (disch := first | assumption | omega | exact am_isr_ref | exact am_isr_null | exact am_isr_rf | exact am_c1_int | exact am_c1_ref | exact am_c1_null | exact am_c1_rf | exact am_b0 | exact am_b1 | exact RM_obj (by assumption) | (simp only [ne_eq]; done) | exact am_nz2 | exact am_nz3 | exact am_nz6 | exact am_lt (hB _ _) | exact am_lt (stF_lt hB) | exact b32_01) only [e6_78, e6_79, e6_80]
        refine pC0_dg (v := 2) hi hR4 (fun h5 g9 g10 hR5 => ?_)
        have how5 : (am_fld h5 6 (c + 5 + 6 * i)).isSome = true := oW (WrC hi hR5 hhs)
        simp (disch := first | assumption | omega | exact am_isr_ref | exact am_isr_null | exact am_isr_rf | exact am_c1_int | exact am_c1_ref | exact am_c1_null | exact am_c1_rf | exact am_b0 | exact am_b1 | exact RM_obj (by assumption) | (simp only [ne_eq]; done) | exact am_nz2 | exact am_nz3 | exact am_nz6 | exact am_lt (hB _ _) | exact am_lt (stF_lt hB) | exact b32_01) only [e6_83, e6_84, e6_87, gC0_3 hi hR5]
        refine d64 hi hR5 (fun h6 g11 g12 hR6 => ?_)
        have hSN := SS_new (T := T) (K := K) (t := h.1) (Y2 := Y2) hi h19 (fun s hs => hz s S.1 hs (Nat.le_refl _) hlt) h8 hex hTr hSC hSS
        obtain ⟨q1, q2, q3, n1, n2, n3, n4, n7, n15, n19, qV, v5⟩ := cmS_is (S := S) (i := i)
        have hLq : SL (xs_Y X Y2) S.2.2.2.2 LL tg := SL_ex hex hSL
        have hCq : SC (clX (xs_dg X (va_up (x_dg X) i 2)) i 8) (cmS S i) (va_up T S.1 h.1) := by
          have c1 := SC_T (T1 := va_up T S.1 h.1) (fun e n he hn => vu_n (by have := hO e n he hn; omega)) hSC
          have c2 := SC_clr (i := i) (S := setN S 15 i 2) (by rw [sN_n (by decide)]; exact h19) (SC_dg (i := i) (v := 2) c1)
          refine SC_cg ?_ ?_ ?_ ?_ ?_ ?_ ?_ c2
          · rw [n15, sN_n (by decide), sN_s]
          · rw [q3 16 (by decide) (by decide) (by decide) (by decide) (by decide) (by decide) (by decide) (by decide), sN_n (by decide), sN_n (by decide)]
          · rw [q3 17 (by decide) (by decide) (by decide) (by decide) (by decide) (by decide) (by decide) (by decide), sN_n (by decide), sN_n (by decide)]
          · rw [n19, sN_s, sN_n (by decide)]
          · rw [qV 20 (by decide)]; rfl
          · rw [qV 21 (by decide)]; rfl
          · rw [q2]; rfl
        generalize hX6 : clX (xs_dg (xs_cnt (xs_ta (xs_Y (xs_Y X (va_up (x_Y X) h.1 (some (.inr (5, am_df 5))))) Y2) (va_up (x_ta X) S.1 (some h.1))) (S.1 + 1)) (va_up (x_dg X) i 2)) i 8 = X6 at *
        have hR6 : RC g h6 c X6 := hR6
        have hS6 : SS c X6 (cmS S i) (va_up T S.1 h.1) K := by rw [← hX6]; exact hSN
        have hC6 : SC X6 (cmS S i) (va_up T S.1 h.1) := by rw [← hX6]; exact hCq
        have hL6 : SL X6 (cmS S i).2.2.2.2 LL tg := by
          rw [← hX6, q2]
          exact SL_cg (X := xs_Y X Y2) rfl rfl rfl (fun b e q _ => q) hLq
        have eT : va_up T S.1 h.1 S.1 = h.1 := vu_s
        generalize va_up T S.1 h.1 = T1 at hS6 hC6 eT
        clear hSN hCq hLq hX6 hTr hTh hY2
        have hld2 : 2 * (i % 3) % 2 = 0 := by omega
        have hl7 : 2 * (i % 3) + 1 < 6 := by omega
        have hl6 : 2 * (i % 3) < 6 := by omega
        have hn : S.1 < (cmS S i).1 := by rw [q1]; omega
        have hm2 : (cmS S i).1 ≤ 200 := by rw [q1]; omega
        have m11 := q3 11 (by decide) (by decide) (by decide) (by decide) (by decide) (by decide) (by decide) (by decide)
        have m8 := q3 8 (by decide) (by decide) (by decide) (by decide) (by decide) (by decide) (by decide) (by decide)
        have hcs := cm1_same (S := S) (c := i) hB hi
        have hco2 : ∀ s, coN (cm1 S i).2.1 S.1 s ≤ 1 := fun s => by unfold coN; split <;> omega
        have hB2 : am_BN (cmS S i).2.1 := fun k e => by
          have b1 := hcs.2.1 k e
          have b2 := hco2 (2 * (i % 3))
          have b3 := hco2 (2 * (i % 3) + 1)
          unfold cmS cm2 setN up2
          simp only []
          repeat' split
          all_goals omega
        have e1n : (cmS S i).2.1 1 S.1 = i := by rw [n1, vu_s]
        have e4n : (cmS S i).2.1 4 S.1 = S.2.1 19 i := by rw [n4, vu_s]
        have hld : 2 * (i % 3) = 2 * ((cmS S i).2.1 1 S.1 % 3) := by rw [e1n]
        have h3n : ∀ s, s < 6 → ¬ (cmS S i).2.1 11 (200 * s + S.1) = 3 := fun s hs => by rw [m11, hz s S.1 hs (Nat.le_refl _) hlt]; omega
        have etm : tmF (cmS S i).2.1 (2 * (i % 3)) S.1 = tmF (cm1 S i).2.1 (2 * (i % 3)) S.1 := by
          unfold tmF cmS cm2
          simp only [sN_n (show ¬ 10 = 6 by decide), sN_n (show ¬ 3 = 6 by decide), sN_n (show ¬ 2 = 6 by decide)]
        have ht2 : tmF (cmS S i).2.1 (2 * (i % 3)) S.1 < 1000000 := by rw [etm]; exact ht
        have eL : (cmS S i).2.2.2.2 = S.2.2.2.2 := by rw [q2]
        have eco : ∀ s, coF (cmS S i).2.1 S.1 s = coF (cm1 S i).2.1 S.1 s := fun s => coB_congr (by
          unfold cmS cm2
          rw [sN_n (by decide), sN_n (by decide)])
        have e6n : (cmS S i).2.1 6 S.1 = coN (cmS S i).2.1 S.1 (2 * (i % 3)) + coN (cmS S i).2.1 S.1 (2 * (i % 3) + 1) := by
          have : ∀ s, coN (cmS S i).2.1 S.1 s = coN (cm1 S i).2.1 S.1 s := fun s => by unfold coN; rw [eco]
          rw [this, this]
          unfold cmS cm2
          rw [sN_s, vu_s]
        have ecm : commitF S i = cm3 (cmS S i) (2 * (i % 3)) S.1 := rfl
        rw [ecm] at hQ
        have hnk : nkF (cmS S i) (2 * (i % 3)) = nkF S (2 * (i % 3)) + 1 := by
          unfold nkF
          rw [q1, m11, cntF, if_pos (decide_eq_true (by rw [hz _ S.1 hl6 (Nat.le_refl _) hlt]; omega))]
        generalize hS2 : cmS S i = S2 at *
        generalize hldg : 2 * (i % 3) = ld at *
        generalize hng : S.1 = n at *
        have ho6 := oA0 hR6
        simp (disch := first | assumption | omega | exact am_isr_ref | exact am_isr_null | exact am_isr_rf | exact am_c1_int | exact am_c1_ref | exact am_c1_null | exact am_c1_rf | exact am_b0 | exact am_b1 | exact RM_obj (by assumption) | (simp only [ne_eq]; done) | exact am_nz2 | exact am_nz3 | exact am_nz6 | exact am_lt (hB _ _) | exact am_lt (stF_lt hB) | exact b32_01) only [e6_90, e6_91, e6_92, Option.toList_none, List.nil_append]
        rw [← eT]
        -- the end: from pc 107
        have fin : ∀ (h8 : aH) (X8 : aX) (S8 : aSt) (K8 : Nat → List Nat) (LL8 : List aLm) (tg8 : Nat → Nat) (l4 : Option Value), h8.1 ≤ h.1 + 620 → h.1 ≤ h8.1 → h8.2.1 ≤ h.2.1 + 3200 → RC g h8 c X8 → SS c X8 S8 T1 K8 → SC X8 S8 T1 → SL X8 S8.2.2.2.2 LL8 tg8 → n < S8.1 → cm3 S2 ld n = S8 → am_R (d + 6) 6 107 [some (.ref c), some (.int (nI i)), some (.ref (c + 2 + 6 * i)), some (.ref (T1 n)), l4] [] h8 Q := by
          intro h8 X8 S8 K8 LL8 tg8 l4 c1 c2 c3 hR8 hS8 hC8 hL8 hn8 e8
          have hT8 := TrNH hR8 (hS8.2.2.2.2.2.2.2.2 n hn8).2
          simp (disch := first | assumption | omega | exact am_isr_ref | exact am_isr_null | exact am_isr_rf | exact am_c1_int | exact am_c1_ref | exact am_c1_null | exact am_c1_rf | exact am_b0 | exact am_b1 | exact RM_obj (by assumption) | (simp only [ne_eq]; done) | exact am_nz2 | exact am_nz3 | exact am_nz6 | exact am_lt (hB _ _) | exact am_lt (stF_lt hB) | exact b32_01) only [e6_107, e6_108, e6_111, gT_0 hT8]
          rw [e8] at hQ
          exact hQ h8 X8 T1 K8 LL8 tg8 c1 c2 c3 hR8 hS8 hC8 hL8
        have eco4 : ∀ (S9 : aSt) s, S9.2.1 4 n = S2.2.1 4 n → coF S9.2.1 n s = coF S2.2.1 n s := fun S9 s q => coB_congr q
        refine d27 hn hm2 hB2 hld h3n (by rw [m8, h8]; decide) ht2 (by rw [eL]; exact hcn) hR6 hS6 hL6 (fun hf h7 X7 g13 g14 hR7 hS7 hL7 hx7 => ?_) (fun hf h7 X7 LL7 tg7 g13 g14 hR7 hS7 hL7 hx7 => ?_)
        · -- the second server is not concerned: decide
          have hco : coF S2.2.1 n ld = true := by
            rcases co_ex (N := S2.2.1) (n := n) (ld := ld) (by rw [e4n]; exact h19) (by rw [e4n]; exact h0) hld2 with q | q
            · exact q
            · rw [hf] at q; cases q
          have ho7 := oA0 hR7
          simp (disch := first | assumption | omega | exact am_isr_ref | exact am_isr_null | exact am_isr_rf | exact am_c1_int | exact am_c1_ref | exact am_c1_null | exact am_c1_rf | exact am_b0 | exact am_b1 | exact RM_obj (by assumption) | (simp only [ne_eq]; done) | exact am_nz2 | exact am_nz3 | exact am_nz6 | exact am_lt (hB _ _) | exact am_lt (stF_lt hB) | exact b32_01) only [e6_95, e6_97, Option.toList_some, List.cons_append, List.nil_append]
          rw [e6_99, if_neg (show ¬ ¬ nI 0 = 0 by decide)]
          simp (disch := first | assumption | omega | exact am_isr_ref | exact am_isr_null | exact am_isr_rf | exact am_c1_int | exact am_c1_ref | exact am_c1_null | exact am_c1_rf | exact am_b0 | exact am_b1 | exact RM_obj (by assumption) | (simp only [ne_eq]; done) | exact am_nz2 | exact am_nz3 | exact am_nz6 | exact am_lt (hB _ _) | exact am_lt (stF_lt hB) | exact b32_01) only [e6_102, e6_103, e6_104]
          have p7 : (prpF S2 ld n).2.1 7 = S2.2.1 7 := prpF_N (by decide) (by decide) (by decide)
          have p1 : (prpF S2 ld n).2.1 1 = S2.2.1 1 := prpF_N (by decide) (by decide) (by decide)
          have p11 : (prpF S2 ld n).2.1 11 = va_up (S2.2.1 11) (200 * ld + n) 1 := by
            unfold prpF
            rw [sN_n (by decide), sN_s, sN_n (by decide)]
          have hS7 : SS c X7 (setN (prpF S2 ld n) 7 n (max ((prpF S2 ld n).2.1 7 n) (tmF S2.2.1 ld n))) T1 K := by
            have := hS7
            unfold spS at this
            rw [if_pos hco] at this
            rw [p7]
            exact this
          have hC7 : SC X7 (prpF S2 ld n) T1 := SC_c hx7 (SC_N (by decide) (by decide) (by decide) (by decide) (SC_N (by decide) (by decide) (by decide) (by decide) (SC_N (by decide) (by decide) (by decide) (by decide) hC6)))
          refine d28 (S := prpF S2 ld n) (ld := ld) (t := tmF S2.2.1 ld n) hn hm2 (prpF_BN hB2 ht2) ht2 (by rw [p1, e1n]; exact hi) (by rw [p1]; exact hld) (fun s hs => ?_) (fun e => ?_) (fun s m hs hm1 hm3 => ?_) (fun r a b => ?_) ?_ hR7 hS7 hC7 hL7 (fun h8 X8 K8 LL8 tg8 b1 b2 b3 r1 r2 r3 r4 r5 => ?_)
          · rw [p11]
            unfold va_up
            split
            · omega
            · exact h3n s hs
          · rw [p11, m11]
            unfold va_up
            split
            · omega
            · exact h4 e
          · rw [p11, m11]
            have hm1 : S2.1 ≤ m := hm1
            rw [vu_n (by omega)]
            exact hz s m hs (by omega) hm3
          · show cnL S2.2.2.2.2 _ + nkF (prpF S2 ld n) ld ≤ 512
            rw [eL]
            have e9 : nkF (prpF S2 ld n) ld = nkF S2 ld := by
              unfold nkF
              rw [p11]
              refine cntF_congr _ (fun j hj => ?_)
              by_cases q : 200 * ld + j = 200 * ld + n
              · rw [q, vu_s]
                have := h3n ld hl6
                rw [decide_eq_true (show ¬ 1 = 3 by decide), decide_eq_true this]
              · rw [vu_n q]
            rw [e9, hnk]
            exact hc hlt r a b
          · show cnL S2.2.2.2.2 _ < 512
            rw [eL]; exact hcn
          · simp (disch := first | assumption | omega | exact am_isr_ref | exact am_isr_null | exact am_isr_rf | exact am_c1_int | exact am_c1_ref | exact am_c1_null | exact am_c1_rf | exact am_b0 | exact am_b1 | exact RM_obj (by assumption) | (simp only [ne_eq]; done) | exact am_nz2 | exact am_nz3 | exact am_nz6 | exact am_lt (hB _ _) | exact am_lt (stF_lt hB) | exact b32_01) only [Option.toList_none, List.nil_append]
            have hds := dcdF_same (S := toldF (prpF S2 ld n) n (tmF S2.2.1 ld n)) (ld := ld) (n := n) ((toldF_same (prpF_BN hB2 ht2) ht2).2.1)
            refine fin h8 X8 _ K8 LL8 tg8 _ (by omega) (by omega) (by omega) r1 r2 r3 r4 (by rw [hds.1, toldF_is.1]; exact hn) ?_
            have e6p : (prpF S2 ld n).2.1 6 n = 1 := by
              rw [prpF_N (by decide) (by decide) (by decide), e6n]
              unfold coN
              rw [if_pos hco, hf]
              rfl
            unfold cm3
            simp only [hco, if_true]
            have ep : prepF S2 ld ld n = dcdF (toldF (prpF S2 ld n) n (tmF S2.2.1 ld n)) ld n := by
              unfold prepF prdF
              rw [if_pos rfl, e6p, if_neg (by decide)]
            rw [ep, eco4 _ _ ?_, hf]
            · rfl
            · rw [hds.2.2.2 4 n (by decide) (by decide) (by decide), told_N (by decide) (by decide) (by decide) (by decide) (by decide) (by decide), prpF_N (by decide) (by decide) (by decide)]
        · -- the second server is asked
          simp (disch := first | assumption | omega | exact am_isr_ref | exact am_isr_null | exact am_isr_rf | exact am_c1_int | exact am_c1_ref | exact am_c1_null | exact am_c1_rf | exact am_b0 | exact am_b1 | exact RM_obj (by assumption) | (simp only [ne_eq]; done) | exact am_nz2 | exact am_nz3 | exact am_nz6 | exact am_lt (hB _ _) | exact am_lt (stF_lt hB) | exact b32_01) only [e6_95, e6_97, Option.toList_some, List.cons_append, List.nil_append]
          rw [e6_99, if_pos (show ¬ nI 1 = 0 by decide)]
          by_cases hco : coF S2.2.1 n ld = true
          · have e6p : (prpF S2 ld n).2.1 6 n = 2 := by
              rw [prpF_N (by decide) (by decide) (by decide), e6n]
              unfold coN
              rw [if_pos hco, if_pos hf]
            have ep : prepF S2 ld ld n = setN (spS S2 ld n) 6 n 1 := by
              unfold prepF prdF spS
              rw [if_pos rfl, e6p, if_pos (by decide), if_pos hco, prpF_N (by decide) (by decide) (by decide)]
            refine fin h7 X7 (pushF (setN (spS S2 ld n) 6 n 1) (ld, ld + 1, 1, nI n, 0, 0, 0)) K LL7 tg7 _ (by omega) (by omega) (by omega) hR7 ?_ ?_ ?_ ?_ ?_
            · show SS c X7 (setN (spS S2 ld n) 6 n 1) T1 K
              exact SS_N (by decide) hS7
            · have := SC_c hx7 hC6
              refine SC_cg (S := S2) ?_ ?_ ?_ ?_ ?_ ?_ ?_ this
              · show (setN (spS S2 ld n) 6 n 1).2.1 15 = _
                rw [sN_n (by decide), spS_N (by decide) (by decide) (by decide) (by decide)]
              · show (setN (spS S2 ld n) 6 n 1).2.1 16 = _
                rw [sN_n (by decide), spS_N (by decide) (by decide) (by decide) (by decide)]
              · show (setN (spS S2 ld n) 6 n 1).2.1 17 = _
                rw [sN_n (by decide), spS_N (by decide) (by decide) (by decide) (by decide)]
              · show (setN (spS S2 ld n) 6 n 1).2.1 19 = _
                rw [sN_n (by decide), spS_N (by decide) (by decide) (by decide) (by decide)]
              · unfold spS; rw [if_pos hco]; rfl
              · unfold spS; rw [if_pos hco]; rfl
              · unfold spS; rw [if_pos hco]; rfl
            · have : (pushF (setN (spS S2 ld n) 6 n 1) (ld, ld + 1, 1, nI n, 0, 0, 0)).2.2.2.2 = S2.2.2.2.2 ++ [(ld, ld + 1, 1, nI n, 0, 0, 0)] := by
                unfold spS
                rw [if_pos hco]
                rfl
              rw [this]
              exact hL7
            · show n < (spS S2 ld n).1
              rw [spS_1]; exact hn
            · unfold cm3
              simp only [hco, if_true]
              rw [ep, eco4 (setN (spS S2 ld n) 6 n 1) _ (by rw [sN_n (by decide), spS_N (by decide) (by decide) (by decide) (by decide)]), if_pos hf]
          · have esp : spS S2 ld n = S2 := by unfold spS; rw [if_neg hco]
            rw [esp] at hS7
            refine fin h7 X7 (pushF S2 (ld, ld + 1, 1, nI n, 0, 0, 0)) K LL7 tg7 _ (by omega) (by omega) (by omega) hR7 hS7 ?_ hL7 hn ?_
            · exact SC_cg (S := S2) rfl rfl rfl rfl rfl rfl rfl (SC_c hx7 hC6)
            · unfold cm3
              simp only [hco, Bool.false_eq_true, if_false, hf, if_true]
  · rw [if_neg hop, if_neg hop] at hQ
    have hdo : ¬ x_dg X i = 1 := by rw [hdg]; exact hop
    simp (disch := first | assumption | omega | exact am_isr_ref | exact am_isr_null | exact am_isr_rf | exact am_c1_int | exact am_c1_ref | exact am_c1_null | exact am_c1_rf | exact am_b0 | exact am_b1 | exact RM_obj (by assumption) | (simp only [ne_eq]; done) | exact am_nz2 | exact am_nz3 | exact am_nz6 | exact am_lt (hB _ _) | exact am_lt (stF_lt hB) | exact b32_01) only [e6_0, e6_1, e6_2, e6_5, e6_6, e6_7r, e6_7n, e6_7q, e6_10, e6_11, d17t hi hR hd3, if_neg hdo, Option.toList_some, List.cons_append, List.nil_append]
    exact hQ h X T K LL tg (by omega) (by omega) (by omega) hR hSS hSC hSL
theorem d6f {x : Int32} (hx : x < 0 ∨ nI 6 ≤ x) (hR : RC g h c X) (hQ : Q (some (.int (-1))) h) : am_R (d + 6) 6 0 [some (.ref c), some (.int x), none, none, none] [] h Q := by
  have ho := oA0 hR
  simp (disch := first | assumption | omega | exact am_isr_ref | exact am_isr_null | exact am_isr_rf | exact am_c1_int | exact am_c1_ref | exact am_c1_null | exact am_c1_rf | exact am_b0 | exact am_b1 | exact RM_obj (by assumption) | (simp only [ne_eq]; done) | exact am_nz2 | exact am_nz3 | exact am_nz6 | exact am_lt (hB _ _) | exact am_lt (stF_lt hB) | exact b32_01) only [e6_0, e6_1, e6_2, e6_5, e6_6, e6_7r, e6_7n, e6_7q, e6_10, e6_11, d17f hx hR, Option.toList_some, List.cons_append, List.nil_append]
  exact hQ
end CMT
