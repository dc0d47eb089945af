/-! decide -/
def nkF (S : aSt) (s : Nat) : Nat := cntF (fun j => decide (¬ S.2.1 11 (200 * s + j) = 3)) S.1
theorem cntF_mono {f f' : Nat → Bool} : ∀ n, (∀ j, j < n → f j = true → f' j = true) → cntF f n ≤ cntF f' n := by
  intro n
  induction n with
  | zero => intro _; exact Nat.le_refl _
  | succ n ih =>
    intro h
    have h1 := ih (fun j hj => h j (by omega))
    have h2 := h n (by omega)
    rw [cntF, cntF]
    by_cases q : f n = true
    · rw [if_pos q, if_pos (h2 q)]; omega
    · rw [if_neg q]; omega
theorem c2_nk {S : aSt} {s n : Nat} (hn3 : ¬ S.2.1 11 (200 * s + n) = 3) : c2F (setN S 11 (200 * s + n) 2) s ≤ nkF S s := by
  unfold c2F nkF
  refine cntF_mono _ (fun j hj h => ?_)
  have h := of_decide_eq_true h
  rw [sN_s] at h
  refine decide_eq_true (fun q => ?_)
  unfold va_up at h
  by_cases w : 200 * s + j = 200 * s + n
  · rw [w] at q; exact hn3 q
  · rw [if_neg w, q] at h
    omega
theorem cn_oth0 {s k l : Nat} {n : Int32} {L : List aMsg} (hl : ∀ p, p < 3 → ¬ p = s / 2 → ¬ 6 * s + (2 * p + s % 2) = l) : cnL (othL s (fun p => (s, 2 * p + s % 2, k, n, 0, 0, 0)) 3 0 L) l = cnL L l := by
  have e : ∀ p, p < 3 → ¬ p = s / 2 → cnL [(s, 2 * p + s % 2, k, n, 0, 0, 0)] l = 0 := fun p h1 h2 => by
    rw [cnL_1, if_neg]
    exact hl p h1 h2
  simp only [othL]
  by_cases h0 : 0 = s / 2
  · rw [if_pos h0, if_neg (by omega), if_neg (by omega), cnL_app, cnL_app, e _ (by omega) (by omega), e _ (by omega) (by omega)]; rfl
  · rw [if_neg h0]
    by_cases h1 : 0 + 1 = s / 2
    · rw [if_pos h1, if_neg (by omega), cnL_app, cnL_app, e _ (by omega) (by omega), e _ (by omega) (by omega)]; rfl
    · rw [if_neg h1]
      by_cases h2 : 0 + 1 + 1 = s / 2
      · rw [if_pos h2, cnL_app, cnL_app, e _ (by omega) (by omega), e _ (by omega) (by omega)]; rfl
      · rw [if_neg h2, cnL_app, cnL_app, cnL_app, e _ (by omega) (by omega), e _ (by omega) (by omega), e _ (by omega) (by omega)]; rfl
theorem stA_L {S : aSt} {s n : Nat} : (stA S s n).2.2.2.2 = othL s (fun p => (s, 2 * p + s % 2, 4, nI n, 0, 0, 0)) 3 0 S.2.2.2.2 := by
  unfold stA
  rw [othF_L]
  rfl
theorem apF_cn {s l : Nat} {f : Option Nat} (hl : ∀ p, p < 3 → ¬ p = s / 2 → ¬ 6 * s + (2 * p + s % 2) = l) : ∀ t (S : aSt), cnL (apF t S s f).2.2.2.2 l = cnL S.2.2.2.2 l := by
  intro t
  induction t with
  | zero => intro S; rfl
  | succ t ih =>
    intro S
    rw [apF]
    cases h1 : leF S.2.1 s 2 S.1 with
    | none => rfl
    | some n =>
      simp only []
      split
      · rw [ih, stA_L, cn_oth0 hl]
      · rfl
section DC2
variable {d : Nat} {g : Nat → Option aE} {c : Nat} {X X1 : aX} {Q : Option Value → aH → Prop} {S S1 : aSt} {T : Nat → Nat} {K : Nat → List Nat} {LL : List aLm} {tg : Nat → Nat}
abbrev told6 (S : aSt) (n t : Nat) : aSt := setN (setN (setN (setN (setN (setN S 7 n (max (S.2.1 7 n) t)) 6 n (S.2.1 6 n - 1)) 8 n 1) 9 n (max (S.2.1 7 n) t)) 15 (S.2.1 1 n) 0) 16 (S.2.1 1 n) (max (S.2.1 7 n) t)
theorem toldF_is {n t : Nat} : (toldF S n t).1 = S.1 ∧ (toldF S n t).2.1 = (told6 S n t).2.1 ∧ (toldF S n t).2.2.1 = S.2.2.1 ∧ (toldF S n t).2.2.2.2 = S.2.2.2.2 ∧ ∀ e, (toldF S n t).2.2.2.1 e = if (8 * S.2.1 1 n + 0 ≤ e ∧ e < 8 * S.2.1 1 n + 0 + 8) ∧ wF (S.2.1 4 n) (e - 8 * S.2.1 1 n) then some n else S.2.2.2.1 e := by
  have h := owF_same (c := S.2.1 1 n) (n := n) 8 0 (told6 S n t)
  refine ⟨h.1, h.2.1, h.2.2.1, h.2.2.2, fun e => ?_⟩
  refine (owF_O 8 0 (told6 S n t) e).trans ?_
  have e4 : (told6 S n t).2.1 4 = S.2.1 4 := by rw [sN_n (by decide), sN_n (by decide), sN_n (by decide), sN_n (by decide), sN_n (by decide), sN_n (by decide)]
  rw [e4]
  rfl
theorem told_N {n t k : Nat} (h7 : ¬ k = 7) (h6 : ¬ k = 6) (h8 : ¬ k = 8) (h9 : ¬ k = 9) (h15 : ¬ k = 15) (h16 : ¬ k = 16) : (toldF S n t).2.1 k = S.2.1 k := by
  rw [toldF_is.2.1, sN_n h16, sN_n h15, sN_n h9, sN_n h8, sN_n h6, sN_n h7]
theorem told_7 {n t : Nat} : (toldF S n t).2.1 7 = va_up (S.2.1 7) n (max (S.2.1 7 n) t) := by
  rw [toldF_is.2.1, sN_n (by decide), sN_n (by decide), sN_n (by decide), sN_n (by decide), sN_n (by decide), sN_s]
theorem told_8 {n t : Nat} : (toldF S n t).2.1 8 = va_up (S.2.1 8) n 1 := by
  rw [toldF_is.2.1, sN_n (by decide), sN_n (by decide), sN_n (by decide), sN_s, sN_n (by decide), sN_n (by decide)]
theorem told_9 {n t : Nat} : (toldF S n t).2.1 9 = va_up (S.2.1 9) n (max (S.2.1 7 n) t) := by
  rw [toldF_is.2.1, sN_n (by decide), sN_n (by decide), sN_s, sN_n (by decide), sN_n (by decide), sN_n (by decide)]
theorem told_15 {n t : Nat} : (toldF S n t).2.1 15 = va_up (S.2.1 15) (S.2.1 1 n) 0 := by
  rw [toldF_is.2.1, sN_n (by decide), sN_s, sN_n (by decide), sN_n (by decide), sN_n (by decide), sN_n (by decide)]
theorem told_16 {n t : Nat} : (toldF S n t).2.1 16 = va_up (S.2.1 16) (S.2.1 1 n) (max (S.2.1 7 n) t) := by
  rw [toldF_is.2.1, sN_s, sN_n (by decide), sN_n (by decide), sN_n (by decide), sN_n (by decide), sN_n (by decide)]
theorem SS_told {n t : Nat} (h : SS c X (setN (setN (setN S 7 n (max (S.2.1 7 n) t)) 7 n (max (S.2.1 7 n) t)) 8 n 1) T K) : SS c X (toldF S n t) T K := by
  refine SS_cg (S := setN (setN (setN S 7 n (max (S.2.1 7 n) t)) 7 n (max (S.2.1 7 n) t)) 8 n 1) toldF_is.1 (fun k k6 k9 k15 k16 k17 k19 => ?_) (by rw [toldF_is.2.2.1]; rfl) h
  by_cases k7 : k = 7
  · rw [k7, told_7, sN_n (by decide), sN_s, sN_s, vu_u]
  · by_cases k8 : k = 8
    · rw [k8, told_8, sN_s, sN_n (by decide), sN_n (by decide)]
    · rw [told_N k7 k6 k8 k9 k15 k16, sN_n k8, sN_n k7, sN_n k7]
theorem d28 {h : aH} {n t ld : Nat} (hn : n < S.1) (hm : S.1 ≤ 200) (hB : am_BN S.2.1) (ht : t < 1000000) (h1 : S.2.1 1 n < 6) (hld : ld = 2 * (S.2.1 1 n % 3)) (h3 : ∀ s, s < 6 → ¬ S.2.1 11 (200 * s + n) = 3) (h4 : ∀ e, S.2.1 11 e < 4) (hz : ∀ s m, s < 6 → S.1 ≤ m → m < 200 → S.2.1 11 (200 * s + m) = 0)
  (hc : ∀ r, r < 3 → ¬ r = ld / 2 → cnL S.2.2.2.2 (6 * ld + (2 * r + ld % 2)) + nkF S ld ≤ 512) (hcn : cnL S.2.2.2.2 (6 * ld + (ld + 1)) < 512)
  (hR : RC g h c X) (hSS : SS c X (setN S 7 n (max (S.2.1 7 n) t)) T K) (hSC : SC X S T) (hSL : SL X S.2.2.2.2 LL tg)
  (hQ : ∀ (h1 : aH) (X1 : aX) (K1 : Nat → List Nat) (LL1 : List aLm) (tg1 : Nat → Nat), h1.1 ≤ h.1 + 601 → h.1 ≤ h1.1 → h1.2.1 ≤ h.2.1 + 3005 → RC g h1 c X1 → SS c X1 (dcdF (toldF S n t) ld n) T K1 → SC X1 (dcdF (toldF S n t) ld n) T → SL X1 (dcdF (toldF S n t) ld n).2.2.2.2 LL1 tg1 → Xm (x_Y X) (x_Y X1) → Q none h1) : am_R (d + 4) 28 0 [some (.ref c), some (.ref (T n)), none, none, none] [] h Q := by
  have hpl : S.2.1 1 n % 3 < 3 := Nat.mod_lt _ (by decide)
  have hl6 : ld < 6 := by omega
  have hl7 : ld + 1 < 6 := by omega
  have hT0 := (hSS.2.2.2.2.2.2.2.2 n hn).2
  have hgt : max (S.2.1 7 n) t < 1000000 := by have := hB 7 n; omega
  have hS1 := SS_told (SS_tr (tm := max (S.2.1 7 n) t) (td := 1) hn hm (by decide) (Or.inl (by rw [sN_s, vu_s])) hSS)
  have hL1 := SL_tr (S := setN S 7 n (max (S.2.1 7 n) t)) (tm := max (S.2.1 7 n) t) (td := 1) hn hSS hSL
  rw [e28_0 am_isr_ref, e28_1, e28_2 am_b1]
  refine pY hT0.1 (Nat.le_of_ble_eq_true rfl) hR (fun h1 g1 g2 hR1 => ?_)
  have e7 : (setN S 7 n (max (S.2.1 7 n) t)).2.1 7 n = max (S.2.1 7 n) t := by rw [sN_s, vu_s]
  have hR1 : RC g h1 c (xs_Y X (va_up (x_Y X) (T n) (some (trC c (setN S 7 n (max (S.2.1 7 n) t)).2.1 T n (max (S.2.1 7 n) t) 1)))) := by
    have := hR1
    rw [e7] at this
    exact this
  generalize hX1 : xs_Y X (va_up (x_Y X) (T n) (some (trC c (setN S 7 n (max (S.2.1 7 n) t)).2.1 T n (max (S.2.1 7 n) t) 1))) = X1 at hR1 hS1 hL1
  have hC1 : SC X1 S T := by rw [← hX1]; exact hSC
  have hM1 : Xm (x_Y X) (x_Y X1) := by rw [← hX1]; exact Xm_tr5 hT0.1
  clear hX1 hSS hSL hSC hR hT0
  have hBt : am_BN (toldF S n t).2.1 := (toldF_same hB ht).2.1
  have t1 : (toldF S n t).2.1 1 = S.2.1 1 := told_N (by decide) (by decide) (by decide) (by decide) (by decide) (by decide)
  have t4 : (toldF S n t).2.1 4 = S.2.1 4 := told_N (by decide) (by decide) (by decide) (by decide) (by decide) (by decide)
  have t11 : (toldF S n t).2.1 11 = S.2.1 11 := told_N (by decide) (by decide) (by decide) (by decide) (by decide) (by decide)
  have t7 : (toldF S n t).2.1 7 n = max (S.2.1 7 n) t := by rw [told_7, vu_s]
  have t9 : (toldF S n t).2.1 9 n = max (S.2.1 7 n) t := by rw [told_9, vu_s]
  have tL : (toldF S n t).2.2.2.2 = S.2.2.2.2 := toldF_is.2.2.2.1
  have tm1 : (toldF S n t).1 = S.1 := toldF_is.1
  have hn1 : n < (toldF S n t).1 := by rw [tm1]; exact hn
  have hT1 := TrNH hR1 (hS1.2.2.2.2.2.2.2.2 n hn1).2
  have ho := oA0 hR1
  have hw := oW hT1.2.2.1
  have epl : plT (toldF S n t).2.1 n * 2 = ld := by unfold plT; rw [t1, hld]; omega
  simp (disch := first | assumption | omega | exact am_isr_ref | exact am_isr_null | exact am_isr_rf | exact am_c1_int | exact am_c1_ref | exact am_c1_null | exact am_c1_rf | exact am_b0 | exact am_b1 | exact RM_obj (by assumption) | (simp only [ne_eq]; done) | exact am_nz2 | exact am_nz3 | exact am_nz6 | exact am_lt (hB _ _) | exact am_lt (stF_lt hB) | exact b32_01) only [e28_5, e28_6, e28_9, e28_12, e28_13, e28_14, e28_15, e28_18, e28_19, e28_20r, e28_20n, e28_20q, e28_23, e28_24, e28_27, e28_28, gT_1 hT1, d23, epl, d18t hl6 hR1, gT_5 hT1, d70 hl6 hT1.2.2.1 hR1, Option.toList_some, List.cons_append, List.nil_append, b32_q0]
  have eho : ∀ s, hoF (fun k => (toldF S n t).2.1 4 n / 2 ^ k % 2) s = coF (toldF S n t).2.1 n s := fun s => rfl
  rw [eho]
  simp (disch := first | assumption | omega | exact am_isr_ref | exact am_isr_null | exact am_isr_rf | exact am_c1_int | exact am_c1_ref | exact am_c1_null | exact am_c1_rf | exact am_b0 | exact am_b1 | exact RM_obj (by assumption) | (simp only [ne_eq]; done) | exact am_nz2 | exact am_nz3 | exact am_nz6 | exact am_lt (hB _ _) | exact am_lt (stF_lt hB) | exact b32_01) only [e28_31, b32_q0]
  -- the second half: from pc 44
  have second : ∀ (h2 : aH) (X2 : aX) (S2 : aSt) (K2 : Nat → List Nat) (LL2 : List aLm) (tg2 : Nat → Nat), h2.1 ≤ h.1 + 600 → h.1 ≤ h2.1 → h2.2.1 ≤ h.2.1 + 3000 → RC g h2 c X2 → SS c X2 S2 T K2 → SL X2 S2.2.2.2.2 LL2 tg2 → SC X2 S T → Xm (x_Y X) (x_Y X2) → S2.1 = S.1 → (∀ k, ¬ k = 11 → ¬ k = 12 → ¬ k = 10 → S2.2.1 k = (toldF S n t).2.1 k) → S2.2.2.1 = (toldF S n t).2.2.1 → S2.2.2.2.1 = (toldF S n t).2.2.2.1 → cnL S2.2.2.2.2 (6 * ld + (ld + 1)) < 512 → dcdF (toldF S n t) ld n = (if coF S2.2.1 n (ld + 1) = true then pushF S2 (ld, ld + 1, 3, nI n, S2.2.1 9 n, 0, 0) else S2) → am_R (d + 4) 28 44 [some (.ref c), some (.ref (T n)), some (.int (nI ld)), some (.ref (c + 39 + 6 * ld)), none] [] h2 Q := by
    intro h2 X2 S2 K2 LL2 tg2 b1 b2 b3 hR2 hS2 hL2 hC2 hM2 m2 N2 V2 O2 cn2 edc
    have hn2 : n < S2.1 := by rw [m2]; exact hn
    have hT2 := TrNH hR2 (hS2.2.2.2.2.2.2.2.2 n hn2).2
    have ho2 := oA0 hR2
    have hw2 := oW hT2.2.2.1
    have u1 : S2.2.1 1 = S.2.1 1 := (N2 1 (by decide) (by decide) (by decide)).trans t1
    have u4 : S2.2.1 4 = S.2.1 4 := (N2 4 (by decide) (by decide) (by decide)).trans t4
    have u7 : S2.2.1 7 n = max (S.2.1 7 n) t := by rw [N2 7 (by decide) (by decide) (by decide)]; exact t7
    have u9 : S2.2.1 9 n = max (S.2.1 7 n) t := by rw [N2 9 (by decide) (by decide) (by decide)]; exact t9
    -- the end: from pc 97
    have fin : ∀ (h3 : aH) (X3 : aX) (S3 : aSt) (LL3 : List aLm) (tg3 : Nat → Nat) (l4 : Option Value), h3.1 ≤ h.1 + 601 → h.1 ≤ h3.1 → h3.2.1 ≤ h.2.1 + 3005 → RC g h3 c X3 → SS c X3 S3 T K2 → SL X3 S3.2.2.2.2 LL3 tg3 → SC X3 S T → Xm (x_Y X) (x_Y X3) → S3.1 = S2.1 → S3.2.1 = S2.2.1 → S3.2.2.1 = S2.2.2.1 → S3.2.2.2.1 = S2.2.2.2.1 → dcdF (toldF S n t) ld n = S3 → am_R (d + 4) 28 97 [some (.ref c), some (.ref (T n)), some (.int (nI ld)), some (.ref (c + 39 + 6 * ld)), l4] [] h3 Q := by
      intro h3 X3 S3 LL3 tg3 l4 c1 c2 c3 hR3 hS3 hL3 hC3 hM3 m3 N3 V3 O3 edc3
      have hn3 : n < S3.1 := by rw [m3]; exact hn2
      have hTy := (hS3.2.2.2.2.2.2.2.2 n hn3).2
      have hT3 := TrNH hR3 hTy
      have v1 : S3.2.1 1 n = S.2.1 1 n := by rw [N3, u1]
      have v4 : S3.2.1 4 n = S.2.1 4 n := by rw [N3, u4]
      have v7 : S3.2.1 7 n = max (S.2.1 7 n) t := by rw [N3]; exact u7
      have h16 : S3.2.1 1 n < 6 := by rw [v1]; assumption
      have hoc := oC0 h16 hR3
      simp (disch := first | assumption | omega | exact am_isr_ref | exact am_isr_null | exact am_isr_rf | exact am_c1_int | exact am_c1_ref | exact am_c1_null | exact am_c1_rf | exact am_b0 | exact am_b1 | exact RM_obj (by assumption) | (simp only [ne_eq]; done) | exact am_nz2 | exact am_nz3 | exact am_nz6 | exact am_lt (hB _ _) | exact am_lt (stF_lt hB) | exact b32_01) only [e28_97, e28_98, e28_101, e28_102, gT_2 hT3]
      refine d36 h16 hTy hR3 (fun h4 g5 g6 hR4 => ?_)
      simp (disch := first | assumption | omega | exact am_isr_ref | exact am_isr_null | exact am_isr_rf | exact am_c1_int | exact am_c1_ref | exact am_c1_null | exact am_c1_rf | exact am_b0 | exact am_b1 | exact RM_obj (by assumption) | (simp only [ne_eq]; done) | exact am_nz2 | exact am_nz3 | exact am_nz6 | exact am_lt (hB _ _) | exact am_lt (stF_lt hB) | exact b32_01) only [e28_105, Option.toList_none, List.nil_append]
      rw [v1, v4, v7] at hR4
      refine hQ h4 _ K2 LL3 tg3 (by omega) (by omega) (by omega) hR4 ?_ ?_ ?_ hM3
      · rw [edc3]
        exact hS3
      · rw [edc3]
        refine SC_fc (S := S) (i := S.2.1 1 n) (n := n) (tm := max (S.2.1 7 n) t) (by assumption) ?_ ?_ ?_ ?_ ?_ ?_ hC3
        · rw [N3, N2 15 (by decide) (by decide) (by decide), told_15]
        · rw [N3, N2 16 (by decide) (by decide) (by decide), told_16]
        · rw [N3, N2 17 (by decide) (by decide) (by decide)]
          exact told_N (by decide) (by decide) (by decide) (by decide) (by decide) (by decide)
        · rw [N3, N2 19 (by decide) (by decide) (by decide)]
          exact told_N (by decide) (by decide) (by decide) (by decide) (by decide) (by decide)
        · rw [V3, V2, toldF_is.2.2.1]
        · rw [O3, O2]
          exact toldF_is.2.2.2.2
      · rw [edc3]
        exact SL_cg rfl rfl rfl (fun b e q _ => q) hL3
    simp (disch := first | assumption | omega | exact am_isr_ref | exact am_isr_null | exact am_isr_rf | exact am_c1_int | exact am_c1_ref | exact am_c1_null | exact am_c1_rf | exact am_b0 | exact am_b1 | exact RM_obj (by assumption) | (simp only [ne_eq]; done) | exact am_nz2 | exact am_nz3 | exact am_nz6 | exact am_lt (hB _ _) | exact am_lt (stF_lt hB) | exact b32_01) only [e28_44, e28_45, e28_46, e28_47, e28_48, e28_51, e28_53, e28_55r, e28_55n, e28_55q, e28_58, e28_59, e28_62, e28_64, nI_add, d18t hl7 hR2, gT_5 hT2, d70 hl7 hT2.2.2.1 hR2, Option.toList_some, List.cons_append, List.nil_append]
    have eho2 : hoF (fun k => S2.2.1 4 n / 2 ^ k % 2) (ld + 1) = coF S2.2.1 n (ld + 1) := rfl
    rw [eho2]
    simp (disch := first | assumption | omega | exact am_isr_ref | exact am_isr_null | exact am_isr_rf | exact am_c1_int | exact am_c1_ref | exact am_c1_null | exact am_c1_rf | exact am_b0 | exact am_b1 | exact RM_obj (by assumption) | (simp only [ne_eq]; done) | exact am_nz2 | exact am_nz3 | exact am_nz6 | exact am_lt (hB _ _) | exact am_lt (stF_lt hB) | exact b32_01) only [e28_67, b32_q0]
    by_cases hco : coF S2.2.1 n (ld + 1) = true
    · rw [if_neg (fun q => q hco)]
      rw [if_pos hco] at edc
      simp (disch := first | assumption | omega | exact am_isr_ref | exact am_isr_null | exact am_isr_rf | exact am_c1_int | exact am_c1_ref | exact am_c1_null | exact am_c1_rf | exact am_b0 | exact am_b1 | exact RM_obj (by assumption) | (simp only [ne_eq]; done) | exact am_nz2 | exact am_nz3 | exact am_nz6 | exact am_lt (hB _ _) | exact am_lt (stF_lt hB) | exact b32_01) only [e28_70, e28_71, e28_72, e28_74, e28_77, gV0_0 hl7 hR2]
      have hR2n := nY (k := 5) (e := .inr (3, am_df 3)) hR2
      have hT2n := TrNH hR2n (TrN_cg (N := S2.2.1) (V := S2.2.2.1) ⟨rfl, rfl, rfl, rfl, rfl, rfl⟩ rfl (Tr_kp (Y := x_Y X2) (fun b e q _ => ex_nw hR2 b e q) (hS2.2.2.2.2.2.2.2.2 n hn2).2))
      simp (disch := first | assumption | omega | exact am_isr_ref | exact am_isr_null | exact am_isr_rf | exact am_c1_int | exact am_c1_ref | exact am_c1_null | exact am_c1_rf | exact am_b0 | exact am_b1 | exact RM_obj (by assumption) | (simp only [ne_eq]; done) | exact am_nz2 | exact am_nz3 | exact am_nz6 | exact am_lt (hB _ _) | exact am_lt (stF_lt hB) | exact b32_01) only [e28_80, e28_81, e28_82, e28_83, e28_86, e28_87, e28_90, e28_91, gT_0 hT2n, gT_6 hT2n]
      refine d42n (v := none) hL2 hR2 (fun h3 X3 g3 g4 hR3 hL3 hx3 hm3 hex => ?_)
      have ho3 := oA0 hR3
      simp (disch := first | assumption | omega | exact am_isr_ref | exact am_isr_null | exact am_isr_rf | exact am_c1_int | exact am_c1_ref | exact am_c1_null | exact am_c1_rf | exact am_b0 | exact am_b1 | exact RM_obj (by assumption) | (simp only [ne_eq]; done) | exact am_nz2 | exact am_nz3 | exact am_nz6 | exact am_lt (hB _ _) | exact am_lt (stF_lt hB) | exact b32_01) only [e28_94, Option.toList_none, List.nil_append]
      refine d32s (k := 3) (n := nI n) (x := S2.2.1 9 n) (y := 0) (z := 0) (vc := none) hl6 hl7 ?_ hL3 ?_ (fun q => absurd (show (3 : Nat) = 6 from q) (by decide)) (fun z hz => SL_lt hR2 hL2 hz) ?_ hR3 (fun h4 X4 tg4 g5 g6 hR4 hL4 hx4 => ?_)
      · unfold lkd lkF
        rw [Bool.and_eq_true, decide_eq_true_eq, decide_eq_true_eq, show (6 * ld + (ld + 1)) / 6 = ld by omega, show (6 * ld + (ld + 1)) % 6 = ld + 1 by omega]
        omega
      · rw [u9, ← u7]; exact hm3
      · rw [SL_len hL2]; exact cn2
      · simp (disch := first | assumption | omega | exact am_isr_ref | exact am_isr_null | exact am_isr_rf | exact am_c1_int | exact am_c1_ref | exact am_c1_null | exact am_c1_rf | exact am_b0 | exact am_b1 | exact RM_obj (by assumption) | (simp only [ne_eq]; done) | exact am_nz2 | exact am_nz3 | exact am_nz6 | exact am_lt (hB _ _) | exact am_lt (stF_lt hB) | exact b32_01) only [Option.toList_none, List.nil_append]
        refine fin h4 X4 (pushF S2 (ld, ld + 1, 3, nI n, S2.2.1 9 n, 0, 0)) _ tg4 _ (by omega) (by omega) (by omega) hR4 ?_ hL4 ?_ (Xm_tr hM2 (Xm_tr (Xc_lk hx3).2.2.2.2.2.2.2 (Xc_lk hx4).2.2.2.2.2.2.2)) rfl rfl rfl rfl edc
        · exact SS_lk hx4 (SS_lk hx3 hS2)
        · exact SC_lk hx4 (SC_lk hx3 hC2)
    · rw [if_pos hco]
      rw [if_neg hco] at edc
      exact fin h2 X2 S2 LL2 tg2 _ (by omega) (by omega) (by omega) hR2 hS2 hL2 hC2 hM2 rfl rfl rfl rfl edc
  by_cases hco : coF (toldF S n t).2.1 n ld = true
  · rw [if_neg (fun q => q hco)]
    simp (disch := first | assumption | omega | exact am_isr_ref | exact am_isr_null | exact am_isr_rf | exact am_c1_int | exact am_c1_ref | exact am_c1_null | exact am_c1_rf | exact am_b0 | exact am_b1 | exact RM_obj (by assumption) | (simp only [ne_eq]; done) | exact am_nz2 | exact am_nz3 | exact am_nz6 | exact am_lt (hB _ _) | exact am_lt (stF_lt hB) | exact b32_01) only [e28_34, e28_35, e28_36, e28_37, e28_38, e28_41, gT_6 hT1, t7]
    refine d29 (S := toldF S n t) hl6 hn1 (by rw [tm1]; exact hm) hBt hgt (by rw [t11]; exact h3 ld hl6) (by rw [t11]; exact h4) (by rw [t11, tm1]; exact fun m => hz ld m hl6) ?_ hR1 hS1 (by rw [tL]; exact hL1) (fun h2 X2 K2 LL2 tg2 b1 b2 b3 hR2 hS2 hL2 hx2 => ?_)
    · intro r a b
      rw [tL]
      have e2 : c2F (setN (toldF S n t) 11 (200 * ld + n) 2) ld ≤ nkF S ld := by
        refine Nat.le_trans (c2_nk (by rw [t11]; exact h3 ld hl6)) ?_
        unfold nkF
        rw [t11, tm1]
        exact Nat.le_refl _
      have := hc r a b
      omega
    · have hs := decF_same (S := toldF S n t) (s := ld) (n := n) (t := max (S.2.1 7 n) t) hBt hgt
      simp (disch := first | assumption | omega | exact am_isr_ref | exact am_isr_null | exact am_isr_rf | exact am_c1_int | exact am_c1_ref | exact am_c1_null | exact am_c1_rf | exact am_b0 | exact am_b1 | exact RM_obj (by assumption) | (simp only [ne_eq]; done) | exact am_nz2 | exact am_nz3 | exact am_nz6 | exact am_lt (hB _ _) | exact am_lt (stF_lt hB) | exact b32_01) only [Option.toList_none, List.nil_append]
      refine second h2 X2 (decF (toldF S n t) ld n (max (S.2.1 7 n) t)) K2 LL2 tg2 (by omega) (by omega) (by omega) hR2 hS2 hL2 (SC_c hx2 hC1) (Xm_tr hM1 hx2.2.2.2.2.2.2.2) (hs.1.trans tm1) (fun k a b e => funext (fun x => hs.2.2.2.1 k x a b e)) hs.2.1 hs.2.2.1 ?_ ?_
      · unfold decF
        rw [apF_cn]
        · show cnL (toldF S n t).2.2.2.2 _ < 512
          rw [tL]; exact hcn
        · intro p hp hne
          omega
      · unfold dcdF
        simp only [hco, if_true, t9]
  · rw [if_pos hco]
    refine second h1 X1 (toldF S n t) K LL tg (by omega) (by omega) (by omega) hR1 hS1 (by rw [tL]; exact hL1) hC1 hM1 tm1 (fun k _ _ _ => rfl) rfl rfl (by rw [tL]; exact hcn) ?_
    unfold dcdF
    simp only [hco, Bool.false_eq_true, if_false]
end DC2
