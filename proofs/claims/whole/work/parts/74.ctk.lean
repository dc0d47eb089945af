/-! prepareNext, setKnown, hear by the reference's state; sendPrepares; takeMessage -/
def OutQ (g : Nat → Option aE) (c : Nat) (T : Nat → Nat) (h : aH) (X : aX) (S : aSt) (P : aH → Prop) : Prop := ∀ (h1 : aH) (X1 : aX) (K1 : Nat → List Nat) (LL1 : List aLm) (tg1 : Nat → Nat), h1.1 ≤ h.1 + 610 → h.1 ≤ h1.1 → h1.2.1 ≤ h.2.1 + 3100 → RC g h1 c X1 → SS c X1 S T K1 → SC X1 S T → SL X1 S.2.2.2.2 LL1 tg1 → Xm (x_Y X) (x_Y X1) → P h1
section TK
variable {d : Nat} {g : Nat → Option aE} {c : Nat} {X X1 : aX} {Q : Option Value → aH → Prop} {S S1 : aSt} {T : Nat → Nat} {K : Nat → List Nat} {L : List aMsg} {LL : List aLm} {tg : Nat → Nat}
theorem SS_prp {s n : Nat} (hs : s < 6) (hn : n < 200) (hm : S.1 ≤ 200) (hn3 : ¬ S.2.1 11 (200 * s + n) = 3) (ht : tmF S.2.1 s n < 1000000) (h : SS c X S T K) : SS c (xs_tm (xs_sg (xs_ck X (va_up (x_ck X) s (tmF S.2.1 s n))) (va_up (x_sg X) s (va_up (x_sg X s) n 1))) (va_up (x_tm X) s (va_up (x_tm X s) n (tmF S.2.1 s n)))) (prpF S s n) T K :=
  SS_st (S := setN S 10 s (tmF S.2.1 s n)) (X := xs_ck X (va_up (x_ck X) s (tmF S.2.1 s n))) hs hn hm (by decide) (by rw [sN_n (by decide)]; exact hn3) ht (SS_ck h)
theorem d49s {h : aH} {s n : Nat} (hs : s < 6) (hn : n < S.1) (hm : S.1 ≤ 200) (hB : am_BN S.2.1) (hn3 : ¬ S.2.1 11 (200 * s + n) = 3) (ht : tmF S.2.1 s n < 1000000) (hR : RC g h c X) (hSS : SS c X S T K) (hSL : SL X L LL tg) (hQ : ∀ (h1 : aH) (X1 : aX), h1.1 = h.1 → h1.2.1 = h.2.1 → RC g h1 c X1 → SS c X1 (prpF S s n) T K → SL X1 L LL tg → Xc X X1 → Q (some (.int (nI (tmF S.2.1 s n)))) h1) : am_R (d + 1) 49 0 [some (.ref (c + 39 + 6 * s)), some (.ref (T n)), none, none] [] h Q := by
  have hck : x_ck X s = S.2.1 10 s := congrFun hSS.2.1 s
  have e : pnF (x_ck X s) (S.2.1 3 n) (sN S.2.1 n) = tmF S.2.1 s n := by rw [hck]; rfl
  refine d49 hs (by omega) (hSS.2.2.2.2.2.2.2.2 n hn).2 (by rw [hck]; exact hB _ _) (hB _ _) (fun p => sN_lt hB) hR (fun h1 g1 g2 hR1 => ?_)
  rw [e] at hR1 ⊢
  exact hQ h1 _ g1 g2 hR1 (SS_prp hs (by omega) hm hn3 ht hSS) (SL_cg rfl rfl rfl (fun b e q _ => q) hSL) ⟨rfl, rfl, rfl, rfl, rfl, rfl, rfl, Xm_rf⟩
theorem SS_kn {s p v : Nat} (hp : p < 3) (h : SS c X S T K) : SS c (xs_kn X (va_up (x_kn X) s (va_up (x_kn X s) p v))) (setN S 13 (3 * s + p) v) T K := by
  obtain ⟨a1, a2, a3, a4, a5, a6, a7, a8, a9⟩ := h
  have hcg : Ncg S.2.1 (setN S 13 (3 * s + p) v).2.1 := Ncg_u (by omega)
  refine ⟨a1, ?_, ?_, ?_, ?_, ?_, a7, ?_, ?_⟩
  · rw [sN_n (by decide)]; exact a2
  · rw [sN_s, ← cl_up hp, ← a3]
  · rw [sN_n (by decide)]; exact a4
  · rw [sN_n (by decide)]; exact a5
  · rw [sN_n (by decide), sN_n (by decide)]; exact a6
  · rw [sN_n (by decide), nw7_cg hcg]; exact a8
  · intro m hm
    exact ⟨(a9 m hm).1, TrN_cg hcg rfl (a9 m hm).2⟩
theorem th3_cl {s x y z : Nat} {f b : Nat → Nat} (h0 : b 0 = x) (h1 : b 1 = y) (h2 : b 2 = z) : va_up (clF 3 f) s (thF 3 b (clF 3 f s)) = clF 3 (va_up (va_up (va_up f (3 * s) x) (3 * s + 1) y) (3 * s + 2) z) := by
  funext j p
  unfold clF
  by_cases hj : j = s
  · subst hj
    rw [vu_s]
    unfold thF
    by_cases hp : p < 3
    · rw [if_pos hp, if_pos hp]
      have : p = 0 ∨ p = 1 ∨ p = 2 := by omega
      rcases this with rfl | rfl | rfl
      · rw [vu_n (by omega), vu_n (by omega), Nat.add_zero, vu_s, h0]
      · rw [vu_n (by omega), vu_s, h1]
      · rw [vu_s, h2]
    · rw [if_neg hp, if_neg hp]
      exact if_neg hp
  · rw [vu_n hj]
    by_cases hp : p < 3
    · rw [if_pos hp, if_pos hp, vu_n (by omega), vu_n (by omega), vu_n (by omega)]
    · rw [if_neg hp, if_neg hp]
theorem SS_hd {s x y z : Nat} {b : Nat → Nat} (h0 : b 0 = x) (h1 : b 1 = y) (h2 : b 2 = z) (h : SS c X S T K) : SS c (xs_hd X (va_up (x_hd X) s (thF 3 b (x_hd X s)))) (hearF S s x y z) T K := by
  obtain ⟨a1, a2, a3, a4, a5, a6, a7, a8, a9⟩ := h
  have hk : ∀ k, ¬ k = 14 → (hearF S s x y z).2.1 k = S.2.1 k := fun k h => by
    unfold hearF
    rw [sN_n h, sN_n h, sN_n h]
  have hcg : Ncg S.2.1 (hearF S s x y z).2.1 := ⟨hk _ (by decide), hk _ (by decide), hk _ (by decide), hk _ (by decide), hk _ (by decide), hk _ (by decide)⟩
  refine ⟨a1, ?_, ?_, ?_, ?_, ?_, a7, ?_, ?_⟩
  · rw [hk _ (by decide)]; exact a2
  · rw [hk _ (by decide)]; exact a3
  · show va_up (x_hd X) s (thF 3 b (x_hd X s)) = clF 3 ((hearF S s x y z).2.1 14)
    unfold hearF
    rw [sN_s, sN_s, sN_s, a4, th3_cl h0 h1 h2]
  · rw [hk _ (by decide)]; exact a5
  · rw [hk _ (by decide), hk _ (by decide)]; exact a6
  · rw [hk _ (by decide), nw7_cg hcg]; exact a8
  · intro m hm
    exact ⟨(a9 m hm).1, TrN_cg hcg rfl (a9 m hm).2⟩
theorem lkd_n {ld : Nat} (h : ld + 1 < 6) (h2 : ld % 2 = 0) : lkd (6 * ld + (ld + 1)) = true := by
  unfold lkd lkF
  rw [Bool.and_eq_true, decide_eq_true_eq, decide_eq_true_eq, show (6 * ld + (ld + 1)) / 6 = ld by omega, show (6 * ld + (ld + 1)) % 6 = ld + 1 by omega]
  omega
theorem lkd_m {ld : Nat} (h : ld + 1 < 6) (h2 : ld % 2 = 0) : lkd (6 * (ld + 1) + ld) = true := by
  unfold lkd lkF
  rw [Bool.and_eq_true, decide_eq_true_eq, decide_eq_true_eq, show (6 * (ld + 1) + ld) / 6 = ld + 1 by omega, show (6 * (ld + 1) + ld) % 6 = ld by omega]
  omega
abbrev spS (S : aSt) (ld n : Nat) : aSt := if coF S.2.1 n ld = true then setN (prpF S ld n) 7 n (max (S.2.1 7 n) (tmF S.2.1 ld n)) else S
theorem spS_N {ld n k : Nat} (h7 : ¬ k = 7) (h10 : ¬ k = 10) (h11 : ¬ k = 11) (h12 : ¬ k = 12) : (spS S ld n).2.1 k = S.2.1 k := by
  unfold spS prpF
  split
  · rw [sN_n h7, sN_n h12, sN_n h11, sN_n h10]
  · rfl
theorem spS_1 {ld n : Nat} : (spS S ld n).1 = S.1 := by
  unfold spS
  split <;> rfl
theorem d27 {h : aH} {n ld : Nat} (hn : n < S.1) (hm : S.1 ≤ 200) (hB : am_BN S.2.1) (hld : ld = 2 * (S.2.1 1 n % 3)) (h3 : ∀ s, s < 6 → ¬ S.2.1 11 (200 * s + n) = 3) (h8 : S.2.1 8 n < 2) (ht : tmF S.2.1 ld n < 1000000) (hcn : cnL L (6 * ld + (ld + 1)) < 512)
  (hR : RC g h c X) (hSS : SS c X S T K) (hSL : SL X L LL tg)
  (hQ0 : coF S.2.1 n (ld + 1) = false → ∀ (h1 : aH) (X1 : aX), h1.1 = h.1 → h1.2.1 = h.2.1 → RC g h1 c X1 → SS c X1 (spS S ld n) T K → SL X1 L LL tg → Xc X X1 → Q (some (.int (nI 0))) h1)
  (hQ1 : coF S.2.1 n (ld + 1) = true → ∀ (h1 : aH) (X1 : aX) (LL1 : List aLm) (tg1 : Nat → Nat), h1.1 = h.1 + 1 → h1.2.1 = h.2.1 + 5 → RC g h1 c X1 → SS c X1 (spS S ld n) T K → SL X1 (L ++ [(ld, ld + 1, 1, nI n, 0, 0, 0)]) LL1 tg1 → Xc X X1 → Q (some (.int (nI 1))) h1) : am_R (d + 4) 27 0 [some (.ref c), some (.ref (T n)), none, none, none] [] h Q := by
  have hpl : S.2.1 1 n % 3 < 3 := Nat.mod_lt _ (by decide)
  have hl6 : ld < 6 := by omega
  have hl7 : ld + 1 < 6 := by omega
  have hT1 := TrNH hR (hSS.2.2.2.2.2.2.2.2 n hn).2
  have ho := oA0 hR
  have hw := oW hT1.2.2.1
  have epl : plT S.2.1 n * 2 = ld := by unfold plT; omega
  have second : ∀ (h2 : aH) (X2 : aX), h2.1 = h.1 → h2.2.1 = h.2.1 → RC g h2 c X2 → SS c X2 (spS S ld n) T K → SL X2 L LL tg → Xc X X2 → am_R (d + 4) 27 38 [some (.ref c), some (.ref (T n)), some (.int (nI ld)), some (.ref (c + 39 + 6 * ld)), none] [] h2 Q := by
    intro h2 X2 b1 b2 hR2 hS2 hL2 hx2
    have hn2 : n < (spS S ld n).1 := by rw [spS_1]; exact hn
    have hT2 := TrNH hR2 (hS2.2.2.2.2.2.2.2.2 n hn2).2
    have ho2 := oA0 hR2
    have hw2 := oW hT2.2.2.1
    have e4 : (spS S ld n).2.1 4 = S.2.1 4 := spS_N (by decide) (by decide) (by decide) (by decide)
    have eho2 : hoF (fun k => (spS S ld n).2.1 4 n / 2 ^ k % 2) (ld + 1) = coF S.2.1 n (ld + 1) := by rw [e4]; rfl
    simp (disch := first | assumption | omega | exact am_isr_ref | exact am_isr_null | exact am_isr_rf | exact am_c1_int | exact am_c1_ref | exact am_c1_null | exact am_c1_rf | exact am_b0 | exact am_b1 | exact RM_obj (by assumption) | (simp only [ne_eq]; done) | exact am_nz2 | exact am_nz3 | exact am_nz6 | exact am_lt (hB _ _) | exact am_lt (stF_lt hB) | exact b32_01) only [e27_38, e27_39, e27_40, e27_41, e27_42, e27_45, e27_47, e27_49r, e27_49n, e27_49q, e27_52, e27_53, e27_56, e27_58, nI_add, d18t hl7 hR2, gT_5 hT2, d70 hl7 hT2.2.2.1 hR2, Option.toList_some, List.cons_append, List.nil_append]
    rw [eho2]
    simp (disch := first | assumption | omega | exact am_isr_ref | exact am_isr_null | exact am_isr_rf | exact am_c1_int | exact am_c1_ref | exact am_c1_null | exact am_c1_rf | exact am_b0 | exact am_b1 | exact RM_obj (by assumption) | (simp only [ne_eq]; done) | exact am_nz2 | exact am_nz3 | exact am_nz6 | exact am_lt (hB _ _) | exact am_lt (stF_lt hB) | exact b32_01) only [e27_61, b32_q0]
    by_cases hco : coF S.2.1 n (ld + 1) = true
    · rw [if_pos (fun q => q hco)]
      simp (disch := first | assumption | omega | exact am_isr_ref | exact am_isr_null | exact am_isr_rf | exact am_c1_int | exact am_c1_ref | exact am_c1_null | exact am_c1_rf | exact am_b0 | exact am_b1 | exact RM_obj (by assumption) | (simp only [ne_eq]; done) | exact am_nz2 | exact am_nz3 | exact am_nz6 | exact am_lt (hB _ _) | exact am_lt (stF_lt hB) | exact b32_01) only [e27_66, e27_67, e27_68, e27_70, e27_73, gV0_0 hl7 hR2]
      have hR2n := nY (k := 5) (e := .inr (3, am_df 3)) hR2
      have hT2n := TrNH hR2n (TrN_cg (N := (spS S ld n).2.1) (V := (spS S ld n).2.2.1) ⟨rfl, rfl, rfl, rfl, rfl, rfl⟩ rfl (Tr_kp (Y := x_Y X2) (fun b e q _ => ex_nw hR2 b e q) (hS2.2.2.2.2.2.2.2.2 n hn2).2))
      simp (disch := first | assumption | omega | exact am_isr_ref | exact am_isr_null | exact am_isr_rf | exact am_c1_int | exact am_c1_ref | exact am_c1_null | exact am_c1_rf | exact am_b0 | exact am_b1 | exact RM_obj (by assumption) | (simp only [ne_eq]; done) | exact am_nz2 | exact am_nz3 | exact am_nz6 | exact am_lt (hB _ _) | exact am_lt (stF_lt hB) | exact b32_01) only [e27_76, e27_77, e27_78, e27_79, e27_82, e27_83, e27_84, gT_0 hT2n]
      refine d42n (v := none) hL2 hR2 (fun h3 X3 g3 g4 hR3 hL3 hx3 hm3 hex => ?_)
      have ho3 := oA0 hR3
      simp (disch := first | assumption | omega | exact am_isr_ref | exact am_isr_null | exact am_isr_rf | exact am_c1_int | exact am_c1_ref | exact am_c1_null | exact am_c1_rf | exact am_b0 | exact am_b1 | exact RM_obj (by assumption) | (simp only [ne_eq]; done) | exact am_nz2 | exact am_nz3 | exact am_nz6 | exact am_lt (hB _ _) | exact am_lt (stF_lt hB) | exact b32_01) only [e27_87, Option.toList_none, List.nil_append]
      refine d32s (k := 1) (n := nI n) (x := 0) (y := 0) (z := 0) (vc := none) hl6 hl7 (lkd_n hl7 (by omega)) hL3 hm3 (fun q => absurd (show (1 : Nat) = 6 from q) (by decide)) (fun z hz => SL_lt hR2 hL2 hz) (by rw [SL_len hL2]; exact hcn) hR3 (fun h4 X4 tg4 g5 g6 hR4 hL4 hx4 => ?_)
      simp (disch := first | assumption | omega | exact am_isr_ref | exact am_isr_null | exact am_isr_rf | exact am_c1_int | exact am_c1_ref | exact am_c1_null | exact am_c1_rf | exact am_b0 | exact am_b1 | exact RM_obj (by assumption) | (simp only [ne_eq]; done) | exact am_nz2 | exact am_nz3 | exact am_nz6 | exact am_lt (hB _ _) | exact am_lt (stF_lt hB) | exact b32_01) only [e27_90, e27_91, Option.toList_none, List.nil_append]
      exact hQ1 hco h4 X4 _ tg4 (by omega) (by omega) hR4 (SS_lk hx4 (SS_lk hx3 hS2)) hL4 (Xc_tr hx2 (Xc_tr (Xc_lk hx3) (Xc_lk hx4)))
    · rw [if_neg (fun q => q hco)]
      simp (disch := first | assumption | omega | exact am_isr_ref | exact am_isr_null | exact am_isr_rf | exact am_c1_int | exact am_c1_ref | exact am_c1_null | exact am_c1_rf | exact am_b0 | exact am_b1 | exact RM_obj (by assumption) | (simp only [ne_eq]; done) | exact am_nz2 | exact am_nz3 | exact am_nz6 | exact am_lt (hB _ _) | exact am_lt (stF_lt hB) | exact b32_01) only [e27_64, e27_65]
      exact hQ0 (by simpa using hco) h2 X2 b1 b2 hR2 hS2 hL2 hx2
  simp (disch := first | assumption | omega | exact am_isr_ref | exact am_isr_null | exact am_isr_rf | exact am_c1_int | exact am_c1_ref | exact am_c1_null | exact am_c1_rf | exact am_b0 | exact am_b1 | exact RM_obj (by assumption) | (simp only [ne_eq]; done) | exact am_nz2 | exact am_nz3 | exact am_nz6 | exact am_lt (hB _ _) | exact am_lt (stF_lt hB) | exact b32_01) only [e27_0, e27_1, e27_4, e27_7, e27_8, e27_9, e27_10, e27_13, e27_14, e27_15r, e27_15n, e27_15q, e27_18, e27_19, e27_22, e27_23, gT_1 hT1, d23, epl, d18t hl6 hR, gT_5 hT1, d70 hl6 hT1.2.2.1 hR, Option.toList_some, List.cons_append, List.nil_append]
  have eho : hoF (fun k => S.2.1 4 n / 2 ^ k % 2) ld = coF S.2.1 n ld := rfl
  rw [eho]
  simp (disch := first | assumption | omega | exact am_isr_ref | exact am_isr_null | exact am_isr_rf | exact am_c1_int | exact am_c1_ref | exact am_c1_null | exact am_c1_rf | exact am_b0 | exact am_b1 | exact RM_obj (by assumption) | (simp only [ne_eq]; done) | exact am_nz2 | exact am_nz3 | exact am_nz6 | exact am_lt (hB _ _) | exact am_lt (stF_lt hB) | exact b32_01) only [e27_26, b32_q0]
  by_cases hco : coF S.2.1 n ld = true
  · rw [if_neg (fun q => q hco)]
    have hov := oV0 hl6 hR
    simp (disch := first | assumption | omega | exact am_isr_ref | exact am_isr_null | exact am_isr_rf | exact am_c1_int | exact am_c1_ref | exact am_c1_null | exact am_c1_rf | exact am_b0 | exact am_b1 | exact RM_obj (by assumption) | (simp only [ne_eq]; done) | exact am_nz2 | exact am_nz3 | exact am_nz6 | exact am_lt (hB _ _) | exact am_lt (stF_lt hB) | exact b32_01) only [e27_29, e27_30, e27_31, e27_32]
    refine d49s hl6 hn hm hB (h3 ld hl6) ht hR hSS hSL (fun h1 X1 g1 g2 hR1 hS1 hL1 hx1 => ?_)
    have hn1 : n < (prpF S ld n).1 := hn
    have hT3 := TrNH hR1 (hS1.2.2.2.2.2.2.2.2 n hn1).2
    have hoT := oT hT3
    simp (disch := first | assumption | omega | exact am_isr_ref | exact am_isr_null | exact am_isr_rf | exact am_c1_int | exact am_c1_ref | exact am_c1_null | exact am_c1_rf | exact am_b0 | exact am_b1 | exact RM_obj (by assumption) | (simp only [ne_eq]; done) | exact am_nz2 | exact am_nz3 | exact am_nz6 | exact am_lt (hB _ _) | exact am_lt (stF_lt hB) | exact b32_01) only [e27_35, Option.toList_some, List.cons_append, List.nil_append]
    have e7 : (prpF S ld n).2.1 7 n = S.2.1 7 n := by unfold prpF; rw [sN_n (by decide), sN_n (by decide), sN_n (by decide)]
    have e8 : (prpF S ld n).2.1 8 n = S.2.1 8 n := by unfold prpF; rw [sN_n (by decide), sN_n (by decide), sN_n (by decide)]
    refine d59s (S := prpF S ld n) hn1 hm ?_ ht ?_ (by rw [e8]; exact h8) hR1 hS1 hL1 (fun h2 X2 g3 g4 hR2 hS2 hL2 hx2 => ?_)
    · intro k e
      have := hB k e
      unfold prpF setN up2
      simp only []
      repeat' split
      all_goals omega
    · intro s hs
      unfold prpF
      rw [sN_n (by decide), sN_s]
      unfold va_up
      split
      · omega
      · rw [sN_n (by decide)]; exact h3 s hs
    · simp (disch := first | assumption | omega | exact am_isr_ref | exact am_isr_null | exact am_isr_rf | exact am_c1_int | exact am_c1_ref | exact am_c1_null | exact am_c1_rf | exact am_b0 | exact am_b1 | exact RM_obj (by assumption) | (simp only [ne_eq]; done) | exact am_nz2 | exact am_nz3 | exact am_nz6 | exact am_lt (hB _ _) | exact am_lt (stF_lt hB) | exact b32_01) only [Option.toList_none, List.nil_append]
      refine second h2 X2 (by omega) (by omega) hR2 ?_ hL2 (Xc_tr hx1 hx2)
      unfold spS
      rw [if_pos hco, ← e7]
      exact hS2
  · rw [if_pos hco]
    refine second h X rfl rfl hR ?_ hSL Xc_rf
    unfold spS
    rw [if_neg hco]
    exact hSS
end TK
