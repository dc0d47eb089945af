/-! takeDecide -/
def cnL (L : List aMsg) (l : Nat) : Nat := L.countP (fun q => decide (lkM q = l))
theorem cnL_app {A B : List aMsg} {l : Nat} : cnL (A ++ B) l = cnL A l + cnL B l := List.countP_append
theorem cnL_1 {q : aMsg} {l : Nat} : cnL [q] l = if lkM q = l then 1 else 0 := by
  unfold cnL
  rw [List.countP_singleton]
  by_cases h : lkM q = l
  · rw [if_pos h, decide_eq_true h]; rfl
  · rw [if_neg h, decide_eq_false h]; rfl
theorem cn_oth {s k r l : Nat} {n : Int32} {L : List aMsg} (hl : l = 6 * s + (2 * r + s % 2)) (hr : r < 3) (hne : ¬ r = s / 2) : cnL (othL s (fun p => (s, 2 * p + s % 2, k, n, 0, 0, 0)) 3 0 L) l = cnL L l + 1 := by
  have e : ∀ p, (if lkM (s, 2 * p + s % 2, k, n, 0, 0, 0) = l then 1 else 0) = if p = r then 1 else 0 := fun p => by
    have : (lkM (s, 2 * p + s % 2, k, n, 0, 0, 0) = l) = (p = r) := by
      rw [hl]
      show (6 * s + (2 * p + s % 2) = 6 * s + (2 * r + s % 2)) = (p = r)
      exact propext ⟨fun q => by omega, fun q => by omega⟩
    simp only [this]
  simp only [othL]
  by_cases h0 : 0 = s / 2
  · rw [if_pos h0, if_neg (by omega), if_neg (by omega), cnL_app, cnL_app, cnL_1, cnL_1, e, e]
    have : r = 1 ∨ r = 2 := by omega
    rcases this with rfl | rfl <;> simp
  · rw [if_neg h0]
    by_cases h1 : 0 + 1 = s / 2
    · rw [if_pos h1, if_neg (by omega), cnL_app, cnL_app, cnL_1, cnL_1, e, e]
      have : r = 0 ∨ r = 2 := by omega
      rcases this with rfl | rfl <;> simp
    · rw [if_neg h1]
      by_cases h2 : 0 + 1 + 1 = s / 2
      · rw [if_pos h2, cnL_app, cnL_app, cnL_1, cnL_1, e, e]
        have : r = 0 ∨ r = 1 := by omega
        rcases this with rfl | rfl <;> simp
      · rw [if_neg h2, cnL_app, cnL_app, cnL_app, cnL_1, cnL_1, cnL_1, e, e, e]
        have : r = 0 ∨ r = 1 ∨ r = 2 := by omega
        rcases this with rfl | rfl | rfl <;> simp
theorem SL_len {X : aX} {L : List aMsg} {LL : List aLm} {tg : Nat → Nat} {l : Nat} (h : SL X L LL tg) : (QLf LL l).length = cnL L l := by
  unfold QLf cnL
  rw [List.length_map, ← h.1, List.countP_map, List.countP_eq_length_filter]
  rfl
theorem le_up {N : Nat → Nat → Nat} {s n w : Nat} (h2 : ¬ N 11 (200 * s + n) = w) (h3 : ¬ 3 = w) : ∀ k, leF (up2 N 11 (200 * s + n) 3) s w k = leF N s w k := by
  intro k
  induction k with
  | zero => rfl
  | succ k ih =>
    rw [leF, leF, ih]
    have e12 : up2 N 11 (200 * s + n) 3 12 = N 12 := u2_n (by decide)
    rw [e12]
    by_cases hk : k = n
    · rw [hk, up2_eq, if_neg h3, if_neg h2]
    · rw [show up2 N 11 (200 * s + n) 3 11 (200 * s + k) = N 11 (200 * s + k) from if_neg (fun q => by omega)]
section TD
variable {d : Nat} {g : Nat → Option aE} {c : Nat} {Q : Option Value → aH → Prop} {T : Nat → Nat}
theorem l29 {s : Nat} {f : Option Nat} {l2 l3 : Option Value} (hs : s < 6) : ∀ t i (h : aH) (X : aX) (S : aSt) (K : Nat → List Nat) (LL : List aLm) (tg : Nat → Nat) l5, i + t = S.1 → S.1 ≤ 200 → am_BN S.2.1 → (∀ e, S.2.1 11 e < 4) → (∀ n, S.1 ≤ n → n < 200 → S.2.1 11 (200 * s + n) = 0) → f = leF S.2.1 s 1 S.1 → (∀ r, r < 3 → ¬ r = s / 2 → cnL S.2.2.2.2 (6 * s + (2 * r + s % 2)) + c2F S s ≤ 512) → RC g h c X → SS c X S T K → SL X S.2.2.2.2 LL tg → (∀ (h1 : aH) (X1 : aX) (K1 : Nat → List Nat) (LL1 : List aLm) (tg1 : Nat → Nat), h1.1 ≤ h.1 + 3 * t → h.1 ≤ h1.1 → h1.2.1 ≤ h.2.1 + 15 * t → RC g h1 c X1 → SS c X1 (apF t S s f) T K1 → SL X1 (apF t S s f).2.2.2.2 LL1 tg1 → Xc X X1 → Q none h1) → am_R (d + 3) 29 25 [some (.ref c), some (.ref (c + 39 + 6 * s)), l2, l3, some (.int (nI i)), l5] [] h Q := by
  intro t
  induction t with
  | zero =>
    intro i h X S K LL tg l5 hi hm hB h4 hz hf hc hR hSS hSL hQ
    have ho := oA0 hR
    rw [e29_25]
    simp (disch := first | assumption | omega | exact am_isr_ref | exact am_isr_null | exact am_isr_rf | exact am_c1_int | exact am_c1_ref | exact am_c1_null | exact am_c1_rf | exact am_b0 | exact am_b1 | exact RM_obj (by assumption) | (simp only [ne_eq]; done) | exact am_nz2 | exact am_nz3 | exact am_nz6 | exact am_lt (hB _ _) | exact am_lt (stF_lt hB) | exact b32_01) only [e29_27, e29_28, e29_31, e29_73, gA0_4 hR, hSS.1, nle, if_pos (show S.1 ≤ i by omega)]
    exact hQ h X K LL tg (by omega) (by omega) (by omega) hR hSS hSL Xc_rf
  | succ t ih =>
    intro i h X S K LL tg l5 hi hm hB h4 hz hf hc hR hSS hSL hQ
    have ho := oA0 hR
    have ho2 := oV0 hs hR
    rw [e29_25]
    simp (disch := first | assumption | omega | exact am_isr_ref | exact am_isr_null | exact am_isr_rf | exact am_c1_int | exact am_c1_ref | exact am_c1_null | exact am_c1_rf | exact am_b0 | exact am_b1 | exact RM_obj (by assumption) | (simp only [ne_eq]; done) | exact am_nz2 | exact am_nz3 | exact am_nz6 | exact am_lt (hB _ _) | exact am_lt (stF_lt hB) | exact b32_01) only [e29_27, e29_28, e29_31, e29_34, e29_35, e29_36, gA0_4 hR, hSS.1, nle, if_neg (show ¬ S.1 ≤ i by omega), d54s hs hm hB h4 hz hR hSS, Option.toList_some, List.cons_append, List.nil_append]
    rw [apF] at hQ
    have none_case : (∀ (h1 : aH) (X1 : aX) (K1 : Nat → List Nat) (LL1 : List aLm) (tg1 : Nat → Nat), h1.1 ≤ h.1 + 3 * (t + 1) → h.1 ≤ h1.1 → h1.2.1 ≤ h.2.1 + 15 * (t + 1) → RC g h1 c X1 → SS c X1 S T K1 → SL X1 S.2.2.2.2 LL1 tg1 → Xc X X1 → Q none h1) → am_R (d + 3) 29 39 [some (.ref c), some (.ref (c + 39 + 6 * s)), l2, l3, some (.int (nI i)), l5] [.int (eO none), .ref c] h Q := by
      intro hQ
      have hneg : eO none < 0 ∨ nI (x_cnt X) ≤ eO none := Or.inl (by decide)
      simp (disch := first | assumption | omega | exact am_isr_ref | exact am_isr_null | exact am_isr_rf | exact am_c1_int | exact am_c1_ref | exact am_c1_null | exact am_c1_rf | exact am_b0 | exact am_b1 | exact RM_obj (by assumption) | (simp only [ne_eq]; done) | exact am_nz2 | exact am_nz3 | exact am_nz6 | exact am_lt (hB _ _) | exact am_lt (stF_lt hB) | exact b32_01) only [e29_39, e29_42, e29_44, e29_46r, e29_46n, e29_46q, e29_49, d19f hneg hR, Option.toList_some, List.cons_append, List.nil_append]
      exact hQ h X K LL tg (by omega) (by omega) (by omega) hR hSS hSL Xc_rf
    cases hl : leF S.2.1 s 2 S.1 with
    | none =>
      simp only [hl] at hQ
      exact none_case hQ
    | some n =>
      simp only [hl] at hQ
      simp only []
      rw [← hf]
      by_cases hb : bfF S.2.1 s n f = true
      · rw [if_pos hb] at hQ
        rw [if_pos hb]
        have hn : n < S.1 := leF_lt _ _ hl
        have h2 : S.2.1 11 (200 * s + n) = 2 := leF_is _ _ hl
        have hTn := (hSS.2.2.2.2.2.2.2.2 n hn)
        have hcn : n < x_cnt X := by rw [hSS.1]; exact hn
        have hcm : x_cnt X ≤ 200 := by rw [hSS.1]; exact hm
        have eo : eO (some n) = nI n := rfl
        simp (disch := first | assumption | omega | exact am_isr_ref | exact am_isr_null | exact am_isr_rf | exact am_c1_int | exact am_c1_ref | exact am_c1_null | exact am_c1_rf | exact am_b0 | exact am_b1 | exact RM_obj (by assumption) | (simp only [ne_eq]; done) | exact am_nz2 | exact am_nz3 | exact am_nz6 | exact am_lt (hB _ _) | exact am_lt (stF_lt hB) | exact b32_01) only [eo, e29_39, e29_42, e29_44, e29_46r, e29_46n, e29_46q, e29_49, e29_50, e29_51, e29_53, d19t hcn hcm hR, hTn.1, va_rf, Option.toList_some, List.cons_append, List.nil_append]
        refine d55s hs hn hm hB (by omega) hR hSS hSL (fun h1 X1 K1 g1 g2 hR1 hSS1 hSL1 hx1 => ?_)
        have hT1 := TrNH hR1 (hSS1.2.2.2.2.2.2.2.2 n hn).2
        have ho1 := oA0 hR1
        simp (disch := first | assumption | omega | exact am_isr_ref | exact am_isr_null | exact am_isr_rf | exact am_c1_int | exact am_c1_ref | exact am_c1_null | exact am_c1_rf | exact am_b0 | exact am_b1 | exact RM_obj (by assumption) | (simp only [ne_eq]; done) | exact am_nz2 | exact am_nz3 | exact am_nz6 | exact am_lt (hB _ _) | exact am_lt (stF_lt hB) | exact b32_01) only [e29_56, e29_57, e29_58, e29_59, e29_61, e29_64, gT_0 hT1, Option.toList_none, List.nil_append]
        have hst := stA_1 (S := S) (s := s) (n := n)
        have hc2 := stA_c2 (S := S) (s := s) (n := n) hn h2
        have eL : (stA S s n).2.2.2.2 = othL s (fun p => (s, 2 * p + s % 2, 4, nI n, 0, 0, 0)) 3 0 S.2.2.2.2 := by
          unfold stA
          rw [othF_L]
          rfl
        refine d31 hs (by decide) hSL1 (fun r a b => ?_) hR1 (fun h2 X2 LL2 tg2 g3 g4 g5 hR2 hSL2 hx2 => ?_)
        · rw [SL_len hSL1]
          have := hc r a b
          omega
        · simp (disch := first | assumption | omega | exact am_isr_ref | exact am_isr_null | exact am_isr_rf | exact am_c1_int | exact am_c1_ref | exact am_c1_null | exact am_c1_rf | exact am_b0 | exact am_b1 | exact RM_obj (by assumption) | (simp only [ne_eq]; done) | exact am_nz2 | exact am_nz3 | exact am_nz6 | exact am_lt (hB _ _) | exact am_lt (stF_lt hB) | exact b32_01) only [e29_67, e29_70, nI_add, Option.toList_none, List.nil_append]
          refine ih (i + 1) h2 X2 (stA S s n) K1 LL2 tg2 _ (by rw [hst.1]; omega) (by rw [hst.1]; exact hm) ?_ ?_ ?_ ?_ ?_ hR2 ?_ (by rw [eL]; exact hSL2) (fun h3 X3 K3 LL3 tg3 b1 b2 b3 r1 r2 r3 r4 => hQ h3 X3 K3 LL3 tg3 (by omega) (by omega) (by omega) r1 r2 r3 (Xc_tr hx1 (Xc_tr (Xc_lk hx2) r4)))
          · rw [hst.2.1]
            intro k e
            unfold up2
            split
            · omega
            · exact hB k e
          · rw [hst.2.1]
            intro e
            unfold up2
            split
            · omega
            · exact h4 e
          · rw [hst.1, hst.2.1]
            intro m hm1 hm2
            rw [show up2 S.2.1 11 (200 * s + n) 3 11 (200 * s + m) = S.2.1 11 (200 * s + m) from if_neg (fun q => by omega)]
            exact hz m hm1 hm2
          · rw [hst.1, hst.2.1, le_up (by omega) (by omega)]
            exact hf
          · intro r a b
            rw [eL, cn_oth rfl a b]
            have := hc r a b
            omega
          · have := SS_lk hx2 hSS1
            refine ⟨by rw [hst.1]; exact this.1, ?_⟩
            have e : (stA S s n).2.1 = (setN S 11 (200 * s + n) 3).2.1 ∧ (stA S s n).2.2.1 = (setN S 11 (200 * s + n) 3).2.2.1 ∧ (stA S s n).1 = (setN S 11 (200 * s + n) 3).1 := ⟨hst.2.1, hst.2.2.1, hst.1⟩
            rw [e.1, e.2.1, e.2.2]
            exact this.2
      · rw [if_neg hb] at hQ
        rw [if_neg hb]
        exact none_case hQ
theorem SS_st {X : aX} {S : aSt} {K : Nat → List Nat} {s n v t : Nat} (hs : s < 6) (hn : n < 200) (hm : S.1 ≤ 200) (hv : ¬ v = 3) (hn3 : ¬ S.2.1 11 (200 * s + n) = 3) (ht : t < 1000000) (h : SS c X S T K) : SS c (xs_tm (xs_sg X (va_up (x_sg X) s (va_up (x_sg X s) n v))) (va_up (x_tm X) s (va_up (x_tm X s) n t))) (setN (setN S 11 (200 * s + n) v) 12 (200 * s + n) t) T K := by
  obtain ⟨a1, a2, a3, a4, a5, a6, a7, a8, a9⟩ := h
  have hcg : Ncg S.2.1 (setN (setN S 11 (200 * s + n) v) 12 (200 * s + n) t).2.1 := by
    refine ⟨?_, ?_, ?_, ?_, ?_, ?_⟩ <;> rw [sN_n (by decide), sN_n (by decide)]
  refine ⟨a1, ?_, ?_, ?_, ?_, ?_, ?_, ?_, ?_⟩
  · rw [sN_n (by decide), sN_n (by decide)]; exact a2
  · rw [sN_n (by decide), sN_n (by decide)]; exact a3
  · rw [sN_n (by decide), sN_n (by decide)]; exact a4
  · rw [sN_n (by decide), sN_s, ← cl_up hn, ← a5]
  · intro s2 n2 hs2 hn2 hf
    rw [sN_n (by decide), sN_s] at hf
    rw [sN_s, sN_n (by decide)]
    show va_up (x_tm X) s (va_up (x_tm X s) n t) s2 n2 = _
    unfold va_up at *
    by_cases q1 : s2 = s
    · subst q1
      rw [if_pos rfl]
      by_cases q2 : n2 = n
      · rw [if_pos q2, if_pos (by omega)]
      · rw [if_neg q2, if_neg (by omega)]
        rw [if_neg (by omega)] at hf
        exact a6 s2 n2 hs2 hn2 hf
    · rw [if_neg q1, if_neg (by omega)]
      rw [if_neg (by omega)] at hf
      exact a6 s2 n2 hs2 hn2 hf
  · intro s2 e
    show va_up (x_tm X) s (va_up (x_tm X s) n t) s2 e < 1000000
    unfold va_up
    by_cases q1 : s2 = s
    · rw [if_pos q1]
      by_cases q2 : e = n
      · rw [if_pos q2]; exact ht
      · rw [if_neg q2]; exact a7 _ _
    · rw [if_neg q1]; exact a7 _ _
  · intro s2 hs2
    obtain ⟨k1, k2, k3, k4⟩ := a8 s2 hs2
    rw [nw7_cg hcg]
    refine ⟨k1, k2, k3, fun m => ?_⟩
    rw [k4, sN_n (by decide), sN_s]
    unfold va_up
    show (m < S.1 ∧ S.2.1 11 (200 * s2 + m) = 3) ↔ (m < S.1 ∧ (if 200 * s2 + m = 200 * s + n then v else S.2.1 11 (200 * s2 + m)) = 3)
    by_cases q : 200 * s2 + m = 200 * s + n
    · rw [if_pos q, q]
      exact ⟨fun w => absurd w.2 hn3, fun w => absurd w.2 hv⟩
    · rw [if_neg q]
  · intro m hm
    exact ⟨(a9 m hm).1, TrN_cg hcg rfl (a9 m hm).2⟩
theorem SS_ck {X : aX} {S : aSt} {K : Nat → List Nat} {s v : Nat} (h : SS c X S T K) : SS c (xs_ck X (va_up (x_ck X) s v)) (setN S 10 s v) T K := by
  obtain ⟨a1, a2, a3, a4, a5, a6, a7, a8, a9⟩ := h
  have hcg : Ncg S.2.1 (setN S 10 s v).2.1 := Ncg_u (by omega)
  refine ⟨a1, ?_, ?_, ?_, ?_, ?_, a7, ?_, ?_⟩
  · rw [sN_s, ← a2]
  · rw [sN_n (by decide)]; exact a3
  · rw [sN_n (by decide)]; exact a4
  · rw [sN_n (by decide)]; exact a5
  · rw [sN_n (by decide), sN_n (by decide)]; exact a6
  · rw [sN_n (by decide), nw7_cg hcg]; exact a8
  · intro m hm
    exact ⟨(a9 m hm).1, TrN_cg hcg rfl (a9 m hm).2⟩
theorem d29 {h : aH} {X : aX} {S : aSt} {K : Nat → List Nat} {LL : List aLm} {tg : Nat → Nat} {s n t : Nat} (hs : s < 6) (hn : n < S.1) (hm : S.1 ≤ 200) (hB : am_BN S.2.1) (ht : t < 1000000) (hn3 : ¬ S.2.1 11 (200 * s + n) = 3) (h4 : ∀ e, S.2.1 11 e < 4) (hz : ∀ n, S.1 ≤ n → n < 200 → S.2.1 11 (200 * s + n) = 0) (hc : ∀ r, r < 3 → ¬ r = s / 2 → cnL S.2.2.2.2 (6 * s + (2 * r + s % 2)) + c2F (setN S 11 (200 * s + n) 2) s ≤ 512) (hR : RC g h c X) (hSS : SS c X S T K) (hSL : SL X S.2.2.2.2 LL tg) (hQ : ∀ (h1 : aH) (X1 : aX) (K1 : Nat → List Nat) (LL1 : List aLm) (tg1 : Nat → Nat), h1.1 ≤ h.1 + 600 → h.1 ≤ h1.1 → h1.2.1 ≤ h.2.1 + 3000 → RC g h1 c X1 → SS c X1 (decF S s n t) T K1 → SL X1 (decF S s n t).2.2.2.2 LL1 tg1 → Xc X X1 → Q none h1) : am_R (d + 3) 29 0 [some (.ref c), some (.ref (c + 39 + 6 * s)), some (.ref (T n)), some (.int (nI t)), none, none] [] h Q := by
  have hT := TrNH hR (hSS.2.2.2.2.2.2.2.2 n hn).2
  have ho := oV0 hs hR
  have hck := hB 10 s
  simp (disch := first | assumption | omega | exact am_isr_ref | exact am_isr_null | exact am_isr_rf | exact am_c1_int | exact am_c1_ref | exact am_c1_null | exact am_c1_rf | exact am_b0 | exact am_b1 | exact RM_obj (by assumption) | (simp only [ne_eq]; done) | exact am_nz2 | exact am_nz3 | exact am_nz6 | exact am_lt (hB _ _) | exact am_lt (stF_lt hB) | exact b32_01) only [e29_0, e29_1, e29_2, e29_5, e29_6, e29_7, gT_0 hT]
  refine d50 hs (by omega) hR (fun h1 g1 g2 hR1 => ?_)
  have r1 : x_ck (xs_tm (xs_sg X (va_up (x_sg X) s (va_up (x_sg X s) n 2))) (va_up (x_tm X) s (va_up (x_tm X s) n t))) s = S.2.1 10 s := congrFun hSS.2.1 s
  simp (disch := first | assumption | omega | exact am_isr_ref | exact am_isr_null | exact am_isr_rf | exact am_c1_int | exact am_c1_ref | exact am_c1_null | exact am_c1_rf | exact am_b0 | exact am_b1 | exact RM_obj (by assumption) | (simp only [ne_eq]; done) | exact am_nz2 | exact am_nz3 | exact am_nz6 | exact am_lt (hB _ _) | exact am_lt (stF_lt hB) | exact b32_01) only [e29_10, e29_11, e29_12, e29_15, e29_16, gV0_8 hs hR1, r1, Option.toList_none, List.nil_append, nI_max]
  rw [e29_19]
  refine pV0_ck hs hR1 (fun h2 g3 g4 hR2 => ?_)
  simp (disch := first | assumption | omega | exact am_isr_ref | exact am_isr_null | exact am_isr_rf | exact am_c1_int | exact am_c1_ref | exact am_c1_null | exact am_c1_rf | exact am_b0 | exact am_b1 | exact RM_obj (by assumption) | (simp only [ne_eq]; done) | exact am_nz2 | exact am_nz3 | exact am_nz6 | exact am_lt (hB _ _) | exact am_lt (stF_lt hB) | exact b32_01) only [e29_22, e29_23]
  have hS1 := SS_ck (s := s) (v := max (S.2.1 10 s) t) (SS_st (v := 2) hs (by omega) hm (by decide) hn3 ht hSS)
  refine l29 (f := leF (setN (setN (setN S 11 (200 * s + n) 2) 12 (200 * s + n) t) 10 s (max (S.2.1 10 s) t)).2.1 s 1 S.1) hs S.1 0 h2 _ (setN (setN (setN S 11 (200 * s + n) 2) 12 (200 * s + n) t) 10 s (max (S.2.1 10 s) t)) K LL tg _ (Nat.zero_add _) hm ?_ ?_ ?_ rfl ?_ hR2 hS1 (SL_cg rfl rfl rfl (fun b e q _ => q) hSL) (fun h3 X3 K3 LL3 tg3 b1 b2 b3 r1 r2 r3 r4 => hQ h3 X3 K3 LL3 tg3 (by omega) (by omega) (by omega) r1 r2 r3 (Xc_tr ⟨rfl, rfl, rfl, rfl, rfl, rfl, rfl, Xm_rf⟩ r4))
  · intro k e
    unfold setN up2
    simp only []
    have := hB k e
    split
    · omega
    · split
      · exact ht
      · split
        · omega
        · exact this
  · intro e
    rw [sN_n (by decide), sN_n (by decide), sN_s]
    unfold va_up
    split
    · omega
    · exact h4 e
  · intro m h1 h2
    rw [sN_n (by decide), sN_n (by decide), sN_s]
    unfold va_up
    have h1 : S.1 ≤ m := h1
    rw [if_neg (by omega)]
    exact hz m h1 h2
  · intro r a b
    have e : c2F (setN (setN (setN S 11 (200 * s + n) 2) 12 (200 * s + n) t) 10 s (max (S.2.1 10 s) t)) s = c2F (setN S 11 (200 * s + n) 2) s := by
      unfold c2F
      rw [sN_n (by decide), sN_n (by decide)]
      rfl
    rw [e]
    exact hc r a b
end TD
