/-! write, abort, tick -/
theorem or_bit {w k j : Nat} : (w ||| 2 ^ k) / 2 ^ j % 2 = if j = k then 1 else w / 2 ^ j % 2 := by
  have tb : ∀ x j : Nat, x / 2 ^ j % 2 = if x.testBit j = true then 1 else 0 := fun x j => by
    rw [Nat.testBit_eq_decide_div_mod_eq]
    by_cases q : x / 2 ^ j % 2 = 1
    · simp [q]
    · simp [q]; omega
  rw [tb, tb, Nat.testBit_or]
  by_cases h : j = k
  · subst h
    rw [if_pos rfl, Nat.testBit_two_pow_self, Bool.or_true, if_pos rfl]
  · rw [if_neg h, Nat.testBit_two_pow_of_ne (fun q => h q.symm), Bool.or_false]
theorem big_bit {w k : Nat} (hw : w < 256) (hk : 8 ≤ k) : w / 2 ^ k % 2 = 0 := by
  have : 2 ^ 8 ≤ 2 ^ k := Nat.pow_le_pow_right (by decide) hk
  rw [Nat.div_eq_of_lt (by omega)]
section PB2
variable {d : Nat} {g : Nat → Option aE} {c : Nat} {X : aX} {Q : Option Value → aH → Prop} {S : aSt} {T : Nat → Nat} {K : Nat → List Nat} {LL : List aLm} {tg : Nat → Nat} {h : aH}
theorem SS_N {k e v : Nat} (hk : k = 6 ∨ k = 9 ∨ k = 15 ∨ k = 16 ∨ k = 17 ∨ k = 19) (h : SS c X S T K) : SS c X (setN S k e v) T K := SS_cg (S := S) rfl (fun j a1 a2 a3 a4 a5 a6 => sN_n (by omega)) rfl h
theorem SC_wr {i k : Nat} {v : Int32} (h19 : ∀ i, S.2.1 19 i < 256) (hk : k < 8) (h : SC X S T) : SC (xs_iv (xs_hs X (va_up (x_hs X) i (va_up (x_hs X i) k 1))) (va_up (x_iv X) i (va_up (x_iv X i) k v))) (writeF S i k v) T := by
  obtain ⟨b1, b2, b3, b4, b5, b6, b7⟩ := h
  have e19 : (writeF S i k v).2.1 19 = va_up (S.2.1 19) i (S.2.1 19 i ||| 2 ^ k) := sN_s
  have eN : ∀ j, ¬ j = 19 → (writeF S i k v).2.1 j = S.2.1 j := fun j hj => sN_n hj
  have e20 : (writeF S i k v).2.2.1 20 = va_up (S.2.2.1 20) (8 * i + k) v := sV_s
  have e21 : (writeF S i k v).2.2.1 21 = S.2.2.1 21 := sV_n (by decide)
  refine ⟨?_, ?_, ?_, ?_, b5, ?_, ?_⟩
  · rw [eN 15 (by decide)]; exact b1
  · rw [eN 16 (by decide)]; exact b2
  · rw [e21]; exact b3
  · rw [eN 17 (by decide)]; exact b4
  · rw [e19]
    funext j m
    show va_up (x_hs X) i (va_up (x_hs X i) k 1) j m = _
    rw [b6]
    by_cases hj : j = i
    · subst hj
      rw [vu_s, vu_s, or_bit]
      rfl
    · rw [vu_n hj, vu_n hj]
  · rw [e19, e20]
    funext j m
    show va_up (x_iv X) i (va_up (x_iv X i) k v) j m = _
    rw [b7]
    by_cases hj : j = i
    · subst hj
      rw [vu_s, vu_s]
      unfold wF
      rw [or_bit]
      by_cases hmk : m = k
      · subst hmk
        rw [vu_s, if_pos rfl, if_pos rfl, vu_s]
      · rw [vu_n hmk, if_neg hmk, vu_n (by omega)]
    · rw [vu_n hj, vu_n hj]
      by_cases hw : wF (S.2.1 19 j) m
      · have hm8 : m < 8 := by
          by_cases q : m < 8
          · exact q
          · have := big_bit (h19 j) (show 8 ≤ m by omega)
            unfold wF at hw
            omega
        rw [if_pos hw, if_pos hw, vu_n (by omega)]
      · rw [if_neg hw, if_neg hw]
theorem d5 {i k : Nat} {v : Int32} (hi : i < 6) (hk : k < 8) (h15 : S.2.1 15 i < 3) (h19 : ∀ i, S.2.1 19 i < 256) (hR : RC g h c X) (hSS : SS c X S T K) (hSC : SC X S T) (hSL : SL X S.2.2.2.2 LL tg) (hQ : OutQ g c T h X (if S.2.1 15 i = 1 then writeF S i k v else S) (fun h1 => Q (some (.int (if S.2.1 15 i = 1 then nI 1 else nI 0))) h1)) : am_R (d + 3) 5 0 [some (.ref c), some (.int (nI i)), some (.int (nI k)), some (.int v), none] [] h Q := by
  have ho := oA0 hR
  have hdg : x_dg X i = S.2.1 15 i := congrFun hSC.1 i
  have hd3 : x_dg X i < 3 := by rw [hdg]; exact h15
  have hw : Wr h (c + 5 + 6 * i) (x_hs X i) (x_iv X i) := WrC hi hR (fun k => by rw [hSC.2.2.2.2.2.1]; exact Nat.mod_lt _ (by decide))
  have how := oW hw
  by_cases hop : S.2.1 15 i = 1
  · rw [if_pos hop, if_pos hop] at hQ
    have hdo : x_dg X i = 1 := by rw [hdg]; exact hop
    simp (disch := first | assumption | omega | exact am_isr_ref | exact am_isr_null | exact am_isr_rf | exact am_c1_int | exact am_c1_ref | exact am_c1_null | exact am_c1_rf | exact am_b0 | exact am_b1 | exact RM_obj (by assumption) | (simp only [ne_eq]; done) | exact am_nz2 | exact am_nz3 | exact am_nz6 | exact am_lt (hB _ _) | exact am_lt (stF_lt hB) | exact b32_01) only [e5_0, e5_1, e5_2, e5_5, e5_7, e5_9r, e5_9n, e5_9q, e5_12, e5_13, e5_16, e5_19, e5_20, e5_21, e5_23, e5_26, e5_27, e5_28, d17t hi hR hd3, if_pos hdo, d22t hk, if_pos (show ¬ nI 1 = 0 by decide), gC0_3 hi hR, Option.toList_some, List.cons_append, List.nil_append]
    refine d65 hi hk hR (fun h1 g1 g2 hR1 => ?_)
    simp (disch := first | assumption | omega | exact am_isr_ref | exact am_isr_null | exact am_isr_rf | exact am_c1_int | exact am_c1_ref | exact am_c1_null | exact am_c1_rf | exact am_b0 | exact am_b1 | exact RM_obj (by assumption) | (simp only [ne_eq]; done) | exact am_nz2 | exact am_nz3 | exact am_nz6 | exact am_lt (hB _ _) | exact am_lt (stF_lt hB) | exact b32_01) only [e5_31, e5_32, Option.toList_none, List.nil_append]
    refine hQ h1 _ K LL tg (by omega) (by omega) (by omega) hR1 ?_ (SC_wr h19 hk hSC) (SL_cg rfl rfl rfl (fun b e q _ => q) hSL) Xm_rf
    exact SS_V (S := setN S 19 i (S.2.1 19 i ||| 2 ^ k)) (by decide) (SS_N (by decide) hSS)
  · rw [if_neg hop, if_neg hop] at hQ
    have hdo : ¬ x_dg X i = 1 := by rw [hdg]; exact hop
    simp (disch := first | assumption | omega | exact am_isr_ref | exact am_isr_null | exact am_isr_rf | exact am_c1_int | exact am_c1_ref | exact am_c1_null | exact am_c1_rf | exact am_b0 | exact am_b1 | exact RM_obj (by assumption) | (simp only [ne_eq]; done) | exact am_nz2 | exact am_nz3 | exact am_nz6 | exact am_lt (hB _ _) | exact am_lt (stF_lt hB) | exact b32_01) only [e5_0, e5_1, e5_2, e5_5, e5_7, e5_9r, e5_9n, e5_9q, e5_12, e5_13, e5_16, e5_19, e5_20, d17t hi hR hd3, if_neg hdo, Option.toList_some, List.cons_append, List.nil_append]
    exact hQ h X K LL tg (by omega) (by omega) (by omega) hR hSS hSC hSL Xm_rf
theorem d5f {x y v : Int32} (hc : (x < 0 ∨ nI 6 ≤ x) ∨ (y < 0 ∨ nI 8 ≤ y)) (h15 : ∀ i, i < 6 → S.2.1 15 i < 3) (hR : RC g h c X) (hSC : SC X S T) (hQ : Q (some (.int (nI 0))) h) : am_R (d + 3) 5 0 [some (.ref c), some (.int x), some (.int y), some (.int v), none] [] h Q := by
  have ho := oA0 hR
  have out : (x < 0 ∨ nI 6 ≤ x) → am_R (d + 3) 5 0 [some (.ref c), some (.int x), some (.int y), some (.int v), none] [] h Q := fun hx => by
    simp (disch := first | assumption | omega | exact am_isr_ref | exact am_isr_null | exact am_isr_rf | exact am_c1_int | exact am_c1_ref | exact am_c1_null | exact am_c1_rf | exact am_b0 | exact am_b1 | exact RM_obj (by assumption) | (simp only [ne_eq]; done) | exact am_nz2 | exact am_nz3 | exact am_nz6 | exact am_lt (hB _ _) | exact am_lt (stF_lt hB) | exact b32_01) only [e5_0, e5_1, e5_2, e5_5, e5_7, e5_9r, e5_9n, e5_9q, e5_12, e5_13, e5_16, e5_19, e5_20, d17f hx hR, Option.toList_some, List.cons_append, List.nil_append]
    exact hQ
  rcases pk_ix x (n := 6) (by decide) with h1 | h1 | ⟨i, hi, rfl⟩
  · exact out (Or.inl h1)
  · exact out (Or.inr h1)
  · have hy : y < 0 ∨ nI 8 ≤ y := by
      rcases hc with (q | q) | q
      · exact absurd q (nI_pos (by omega))
      · have := (nI_leI (by decide) (by omega)).mp q
        omega
      · exact q
    have hd3 : x_dg X i < 3 := by rw [hSC.1]; exact h15 i hi
    by_cases hdo : x_dg X i = 1
    · simp (disch := first | assumption | omega | exact am_isr_ref | exact am_isr_null | exact am_isr_rf | exact am_c1_int | exact am_c1_ref | exact am_c1_null | exact am_c1_rf | exact am_b0 | exact am_b1 | exact RM_obj (by assumption) | (simp only [ne_eq]; done) | exact am_nz2 | exact am_nz3 | exact am_nz6 | exact am_lt (hB _ _) | exact am_lt (stF_lt hB) | exact b32_01) only [e5_0, e5_1, e5_2, e5_5, e5_7, e5_9r, e5_9n, e5_9q, e5_12, e5_13, e5_16, e5_19, e5_20, d17t hi hR hd3, if_pos hdo, d22f hy, Option.toList_some, List.cons_append, List.nil_append, if_neg (show ¬ ¬ nI 0 = 0 by decide)]
      exact hQ
    · simp (disch := first | assumption | omega | exact am_isr_ref | exact am_isr_null | exact am_isr_rf | exact am_c1_int | exact am_c1_ref | exact am_c1_null | exact am_c1_rf | exact am_b0 | exact am_b1 | exact RM_obj (by assumption) | (simp only [ne_eq]; done) | exact am_nz2 | exact am_nz3 | exact am_nz6 | exact am_lt (hB _ _) | exact am_lt (stF_lt hB) | exact b32_01) only [e5_0, e5_1, e5_2, e5_5, e5_7, e5_9r, e5_9n, e5_9q, e5_12, e5_13, e5_16, e5_19, e5_20, d17t hi hR hd3, if_neg hdo, Option.toList_some, List.cons_append, List.nil_append]
      exact hQ
theorem SC_clr {i : Nat} (h19 : S.2.1 19 i < 256) (h : SC X S T) : SC (clX X i 8) (setN S 19 i 0) T := by
  obtain ⟨b1, b2, b3, b4, b5, b6, b7⟩ := h
  refine ⟨?_, ?_, b3, ?_, b5, ?_, ?_⟩
  · rw [sN_n (by decide)]; exact b1
  · rw [sN_n (by decide)]; exact b2
  · rw [sN_n (by decide)]; exact b4
  · rw [sN_s]
    show va_up (x_hs X) i (thF 8 (fun _ => 0) (x_hs X i)) = _
    funext j m
    rw [b6]
    by_cases hj : j = i
    · subst hj
      rw [vu_s, vu_s, Nat.zero_div]
      unfold thF
      by_cases hm : m < 8
      · rw [if_pos hm]
      · rw [if_neg hm]
        exact big_bit h19 (by omega)
    · rw [vu_n hj, vu_n hj]
  · rw [sN_s]
    show va_up (x_iv X) i (thF 8 (fun _ => nI 0) (x_iv X i)) = _
    funext j m
    rw [b7]
    by_cases hj : j = i
    · subst hj
      rw [vu_s, vu_s]
      unfold thF wF
      rw [Nat.zero_div, if_neg (show ¬ 0 % 2 = 1 by decide)]
      by_cases hm : m < 8
      · rw [if_pos hm]
      · rw [if_neg hm]
        have := big_bit h19 (show 8 ≤ m by omega)
        exact if_neg (by omega)
    · rw [vu_n hj, vu_n hj]
      rfl
theorem SC_dg {i v : Nat} (h : SC X S T) : SC (xs_dg X (va_up (x_dg X) i v)) (setN S 15 i v) T := by
  obtain ⟨b1, b2, b3, b4, b5, b6, b7⟩ := h
  refine ⟨?_, ?_, b3, ?_, b5, ?_, ?_⟩
  · rw [sN_s, ← b1]
  · rw [sN_n (by decide)]; exact b2
  · rw [sN_n (by decide)]; exact b4
  · rw [sN_n (by decide)]; exact b6
  · rw [sN_n (by decide)]; exact b7
theorem d7 {i : Nat} (hi : i < 6) (h15 : S.2.1 15 i < 3) (h19 : S.2.1 19 i < 256) (hR : RC g h c X) (hSS : SS c X S T K) (hSC : SC X S T) (hSL : SL X S.2.2.2.2 LL tg) (hQ : OutQ g c T h X (if S.2.1 15 i = 1 then abortF S i else S) (fun h1 => Q (some (.int (if S.2.1 15 i = 1 then nI 1 else nI 0))) h1)) : am_R (d + 3) 7 0 [some (.ref c), some (.int (nI i)), none] [] h Q := by
  have ho := oA0 hR
  have hdg : x_dg X i = S.2.1 15 i := congrFun hSC.1 i
  have hd3 : x_dg X i < 3 := by rw [hdg]; exact h15
  have hw : Wr h (c + 5 + 6 * i) (x_hs X i) (x_iv X i) := WrC hi hR (fun k => by rw [hSC.2.2.2.2.2.1]; exact Nat.mod_lt _ (by decide))
  have how := oW hw
  by_cases hop : S.2.1 15 i = 1
  · rw [if_pos hop, if_pos hop] at hQ
    have hdo : x_dg X i = 1 := by rw [hdg]; exact hop
    simp (disch := first | assumption | omega | exact am_isr_ref | exact am_isr_null | exact am_isr_rf | exact am_c1_int | exact am_c1_ref | exact am_c1_null | exact am_c1_rf | exact am_b0 | exact am_b1 | exact RM_obj (by assumption) | (simp only [ne_eq]; done) | exact am_nz2 | exact am_nz3 | exact am_nz6 | exact am_lt (hB _ _) | exact am_lt (stF_lt hB) | exact b32_01) only [e7_0, e7_1, e7_2, e7_5, e7_6, e7_7r, e7_7n, e7_7q, e7_10, e7_11, e7_12, e7_13, e7_16, d17t hi hR hd3, if_pos hdo, gC0_3 hi hR, Option.toList_some, List.cons_append, List.nil_append]
    refine d64 hi hR (fun h1 g1 g2 hR1 => ?_)
    simp (disch := first | assumption | omega | exact am_isr_ref | exact am_isr_null | exact am_isr_rf | exact am_c1_int | exact am_c1_ref | exact am_c1_null | exact am_c1_rf | exact am_b0 | exact am_b1 | exact RM_obj (by assumption) | (simp only [ne_eq]; done) | exact am_nz2 | exact am_nz3 | exact am_nz6 | exact am_lt (hB _ _) | exact am_lt (stF_lt hB) | exact b32_01) only [e7_19, e7_20, e7_21, Option.toList_none, List.nil_append]
    refine pC0_dg (v := 0) hi hR1 (fun h2 g3 g4 hR2 => ?_)
    simp (disch := first | assumption | omega | exact am_isr_ref | exact am_isr_null | exact am_isr_rf | exact am_c1_int | exact am_c1_ref | exact am_c1_null | exact am_c1_rf | exact am_b0 | exact am_b1 | exact RM_obj (by assumption) | (simp only [ne_eq]; done) | exact am_nz2 | exact am_nz3 | exact am_nz6 | exact am_lt (hB _ _) | exact am_lt (stF_lt hB) | exact b32_01) only [e7_24, e7_25]
    have e : abortF S i = setN (setN S 19 i 0) 15 i 0 := by
      unfold abortF setN
      simp only [Prod.mk.injEq, true_and, and_true]
      funext k e
      unfold up2
      by_cases a : k = 19 ∧ e = i
      · rw [if_pos a, if_neg (by omega)]; simp [a]
      · rw [if_neg a, if_neg a]
    refine hQ h2 _ K LL tg (by omega) (by omega) (by omega) hR2 ?_ ?_ (SL_cg rfl rfl rfl (fun b e q _ => q) hSL) Xm_rf
    · rw [e]
      exact SS_N (by decide) (SS_N (by decide) hSS)
    · rw [e]
      exact SC_dg (SC_clr h19 hSC)
  · rw [if_neg hop, if_neg hop] at hQ
    have hdo : ¬ x_dg X i = 1 := by rw [hdg]; exact hop
    simp (disch := first | assumption | omega | exact am_isr_ref | exact am_isr_null | exact am_isr_rf | exact am_c1_int | exact am_c1_ref | exact am_c1_null | exact am_c1_rf | exact am_b0 | exact am_b1 | exact RM_obj (by assumption) | (simp only [ne_eq]; done) | exact am_nz2 | exact am_nz3 | exact am_nz6 | exact am_lt (hB _ _) | exact am_lt (stF_lt hB) | exact b32_01) only [e7_0, e7_1, e7_2, e7_5, e7_6, e7_7r, e7_7n, e7_7q, e7_10, e7_11, d17t hi hR hd3, if_neg hdo, Option.toList_some, List.cons_append, List.nil_append]
    exact hQ h X K LL tg (by omega) (by omega) (by omega) hR hSS hSC hSL Xm_rf
theorem d7f {x : Int32} (hx : x < 0 ∨ nI 6 ≤ x) (hR : RC g h c X) (hQ : Q (some (.int (nI 0))) h) : am_R (d + 3) 7 0 [some (.ref c), some (.int x), none] [] h Q := by
  have ho := oA0 hR
  simp (disch := first | assumption | omega | exact am_isr_ref | exact am_isr_null | exact am_isr_rf | exact am_c1_int | exact am_c1_ref | exact am_c1_null | exact am_c1_rf | exact am_b0 | exact am_b1 | exact RM_obj (by assumption) | (simp only [ne_eq]; done) | exact am_nz2 | exact am_nz3 | exact am_nz6 | exact am_lt (hB _ _) | exact am_lt (stF_lt hB) | exact b32_01) only [e7_0, e7_1, e7_2, e7_5, e7_6, e7_7r, e7_7n, e7_7q, e7_10, e7_11, d17f hx hR, Option.toList_some, List.cons_append, List.nil_append]
  exact hQ
/-- what a tick tells -/
theorem up_re {N : Nat → Nat → Nat} {sg tm : Nat → Nat} {s : Nat} (hsg : ∀ n, n < 200 → sg n = N 11 (200 * s + n)) (htm : ∀ n, n < 200 → (N 11 (200 * s + n) = 1 ∨ N 11 (200 * s + n) = 2) → tm n = N 12 (200 * s + n)) (hB : am_BN N) (h12 : ∀ n, n < 200 → (N 11 (200 * s + n) = 1 ∨ N 11 (200 * s + n) = 2) → 1 ≤ N 12 (200 * s + n)) : ∀ k, k ≤ 200 → (match upF N s k with
  | none => min (lmF sg tm 1 k) (lmF sg tm 2 k) = 2147483647
  | some b => min (lmF sg tm 1 k) (lmF sg tm 2 k) = b + 1 ∧ b < 1000000) := by
  intro k
  induction k with
  | zero => intro _; rfl
  | succ k ih =>
    intro hk
    have ih := ih (by omega)
    have hb := hB 12 (200 * s + k)
    rw [upF, lmF, lmF, hsg k (by omega)]
    by_cases h1 : N 11 (200 * s + k) = 1
    · have ht := htm k (by omega) (Or.inl h1)
      have h0 := h12 k (by omega) (Or.inl h1)
      rw [if_pos (Or.inl h1), if_pos h1, if_neg (by omega), ht]
      cases hu : upF N s k with
      | none => rw [hu] at ih; simp only [] at ih ⊢; omega
      | some b => rw [hu] at ih; simp only [] at ih ⊢; omega
    · by_cases h2 : N 11 (200 * s + k) = 2
      · have ht := htm k (by omega) (Or.inr h2)
        have h0 := h12 k (by omega) (Or.inr h2)
        rw [if_pos (Or.inr h2), if_neg h1, if_pos h2, ht]
        cases hu : upF N s k with
        | none => rw [hu] at ih; simp only [] at ih ⊢; omega
        | some b => rw [hu] at ih; simp only [] at ih ⊢; omega
      · rw [if_neg (fun q => q.elim h1 h2), if_neg h1, if_neg h2]
        exact ih
theorem up_200 {N : Nat → Nat → Nat} {s m : Nat} (hz : ∀ n, m ≤ n → n < 200 → N 11 (200 * s + n) = 0) : ∀ k, m + k ≤ 200 → upF N s (m + k) = upF N s m := by
  intro k
  induction k with
  | zero => intro _; rfl
  | succ k ih =>
    intro hk
    rw [show m + (k + 1) = (m + k) + 1 by omega, upF, if_neg (by rw [hz (m + k) (by omega) (by omega)]; omega)]
    exact ih (by omega)
end PB2
