/-! deliver -/
/-- what a message that is taken must be -/
def TkOk (S : aSt) (f t : Nat) (q : aMsg) : Prop := (1 ≤ q.2.2.1 ∧ q.2.2.1 ≤ 6) ∧ (q.2.2.1 ≤ 5 → q.2.2.2.1 = nI (qn q)) ∧ (q.2.2.1 ≤ 4 → qn q < S.1) ∧ q.2.2.2.2.1 < 1000000 ∧
  (q.2.2.1 = 1 → (t = f + 1 ∧ f % 2 = 0) ∧ ¬ S.2.1 11 (200 * t + qn q) = 3 ∧ tmF S.2.1 t (qn q) < 1000000 ∧ cnL S.2.2.2.2 (6 * t + f) < 512) ∧
  (q.2.2.1 = 2 → S.2.1 1 (qn q) < 6 ∧ t = 2 * (S.2.1 1 (qn q) % 3) ∧ ¬ 1 < S.2.1 6 (qn q) ∧ S.2.1 8 (qn q) < 2 ∧ (∀ s, s < 6 → ¬ S.2.1 11 (200 * s + qn q) = 3) ∧ (∀ r, r < 3 → ¬ r = t / 2 → cnL S.2.2.2.2 (6 * t + (2 * r + t % 2)) + nkF S t ≤ 512) ∧ cnL S.2.2.2.2 (6 * t + (t + 1)) < 512) ∧
  (q.2.2.1 = 3 → ¬ S.2.1 11 (200 * t + qn q) = 3 ∧ ∀ r, r < 3 → ¬ r = t / 2 → cnL S.2.2.2.2 (6 * t + (2 * r + t % 2)) + nkF S t ≤ 512) ∧
  (q.2.2.1 = 4 → ¬ S.2.1 11 (200 * t + qn q) = 3)
section DLV
variable {d : Nat} {g : Nat → Option aE} {c : Nat} {X : aX} {Q : Option Value → aH → Prop} {S : aSt} {T : Nat → Nat} {K : Nat → List Nat} {LL : List aLm} {tg : Nat → Nat} {h : aH}
theorem d30 {f t a : Nat} {q : aMsg} {vc w : Option Nat} (hf : f < 6) (ht : t < 6) (hm : S.1 ≤ 200) (hB : am_BN S.2.1) (h4 : ∀ e, S.2.1 11 e < 4) (hz : ∀ s m, s < 6 → S.1 ≤ m → m < 200 → S.2.1 11 (200 * s + m) = 0) (hk : TkOk S f t q) (ha : x_Y X a = some (msC (nI q.2.2.1) q.2.2.2.1 (if q.2.2.1 = 6 then nI 0 else nI q.2.2.2.2.1) vc w)) (hv : vcO (x_Y X) (a, vc, q)) (hR : RC g h c X) (hSS : SS c X S T K) (hSC : SC X S T) (hSL : SL X S.2.2.2.2 LL tg) (hQ : OutQ g c T h X (takeF S f t q) (fun h1 => Q none h1)) : am_R (d + 5) 30 0 [some (.ref c), some (.ref a), some (.ref (c + 39 + 6 * f)), some (.ref (c + 39 + 6 * t)), none, none] [] h Q := by
  obtain ⟨k0, knum, kn, kx, k1, k2, k3, k4⟩ := hk
  unfold takeF at hQ
  by_cases e1 : q.2.2.1 = 1
  · rw [if_pos e1] at hQ
    rw [e1, knum (by omega)] at ha
    obtain ⟨⟨c1, c2⟩, c3, c4, c5⟩ := k1 e1
    refine tk30_1 c1 c2 (by omega) (kn (by omega)) hm hB c3 c4 c5 ha hR hSS hSC hSL ?_
    unfold prepF at hQ
    rw [if_neg (by omega)] at hQ
    exact hQ
  · rw [if_neg e1] at hQ
    by_cases e2 : q.2.2.1 = 2
    · rw [if_pos e2] at hQ
      rw [e2, if_neg (by decide), knum (by omega)] at ha
      obtain ⟨c1, c2, c3, c4, c5, c6, c7⟩ := k2 e2
      exact tk30_2 (kn (by omega)) hm hB kx c1 c2 c3 c4 c5 h4 hz c6 c7 ha hR hSS hSC hSL hQ
    · rw [if_neg e2] at hQ
      by_cases e3 : q.2.2.1 = 3
      · rw [if_pos e3] at hQ
        rw [e3, if_neg (by decide), knum (by omega)] at ha
        obtain ⟨c1, c2⟩ := k3 e3
        exact tk30_3 ht (kn (by omega)) hm hB kx c1 h4 hz c2 ha hR hSS hSC hSL hQ
      · rw [if_neg e3] at hQ
        by_cases e4 : q.2.2.1 = 4
        · rw [if_pos e4] at hQ
          rw [e4, knum (by omega)] at ha
          exact tk30_4 ht (kn (by omega)) hm hB (k4 e4) ha hR hSS hSC hSL hQ
        · rw [if_neg e4] at hQ
          by_cases e5 : q.2.2.1 = 5
          · rw [if_pos e5] at hQ
            rw [e5, knum (by omega)] at ha
            exact tk30_5 hf ht hm ha hR hSS hSC hSL hQ
          · rw [if_neg e5] at hQ
            have e6 : q.2.2.1 = 6 := by omega
            obtain ⟨va, b, v1, v2, v3, v4, v5⟩ := hv e6
            have v1 : vc = some va := v1
            rw [e6, v1] at ha
            exact tk30_6 hf ht hm ha v2 v3 v4 v5 hR hSS hSC hSL hQ
theorem d9 {f t : Nat} (hf : f < 6) (ht : t < 6) (hlk : lkF f t) (hWL : WfL S.2.2.2.2) (hm : S.1 ≤ 200) (hB : am_BN S.2.1) (h4 : ∀ e, S.2.1 11 e < 4) (hz : ∀ s m, s < 6 → S.1 ≤ m → m < 200 → S.2.1 11 (200 * s + m) = 0) (hk : ∀ j q, foL f t S.2.2.2.2 0 = some j → S.2.2.2.2[j]? = some q → TkOk (dropF S j) f t q) (hR : RC g h c X) (hSS : SS c X S T K) (hSC : SC X S T) (hSL : SL X S.2.2.2.2 LL tg) (hQ : OutQ g c T h X (dlvF S f t) (fun h1 => Q (some (.int (dlvA S f t))) h1)) : am_R (d + 6) 9 0 [some (.ref c), some (.int (nI f)), some (.int (nI t)), none, none, none, none] [] h Q := by
  have ho := oA0 hR
  have hl : 6 * f + t < 36 := by omega
  have hkd : lkd (6 * f + t) = true := by
    unfold lkd
    rw [Bool.and_eq_true, decide_eq_true_eq, decide_eq_true_eq, show (6 * f + t) / 6 = f by omega, show (6 * f + t) % 6 = t by omega]
    exact ⟨hl, hlk⟩
  have hol := oL0 hl hkd hR
  simp (disch := first | assumption | omega | exact am_isr_ref | exact am_isr_null | exact am_isr_rf | exact am_c1_int | exact am_c1_ref | exact am_c1_null | exact am_c1_rf | exact am_b0 | exact am_b1 | exact RM_obj (by assumption) | (simp only [ne_eq]; done) | exact am_nz2 | exact am_nz3 | exact am_nz6 | exact am_lt (hB _ _) | exact am_lt (stF_lt hB) | exact b32_01) only [e9_0, e9_1, e9_2, e9_3, e9_6, e9_7, e9_8, e9_9, e9_12, e9_14, e9_15, e9_16, e9_19, e9_21, e9_22r, e9_22n, e9_22q, e9_25, e9_27r, e9_27n, e9_27q, e9_30, e9_32r, e9_32n, e9_32q, e9_35, e9_36, e9_37, e9_38, d20t hf ht hR, if_pos hkd, d18t hf hR, d18t ht hR, Option.toList_some, List.cons_append, List.nil_append]
  unfold dlvF dlvA at hQ
  cases hfo : foL f t S.2.2.2.2 0 with
  | none =>
    simp only [hfo] at hQ
    have hq := SL_none ht hWL hSL hfo
    rw [d41qe hl hkd hSL.2.1 hq hR]
    simp (disch := first | assumption | omega | exact am_isr_ref | exact am_isr_null | exact am_isr_rf | exact am_c1_int | exact am_c1_ref | exact am_c1_null | exact am_c1_rf | exact am_b0 | exact am_b1 | exact RM_obj (by assumption) | (simp only [ne_eq]; done) | exact am_nz2 | exact am_nz3 | exact am_nz6 | exact am_lt (hB _ _) | exact am_lt (stF_lt hB) | exact b32_01) only [e9_41, e9_43, e9_45r, e9_45n, e9_45q, e9_48, e9_49, Option.toList_some, List.cons_append, List.nil_append]
    exact hQ h X K LL tg (by omega) (by omega) (by omega) hR hSS hSC hSL Xm_rf
  | some j =>
    obtain ⟨A, z, B, e1, e2, e3, e4, e5, e6⟩ := SL_some ht hWL hSL hfo
    simp only [hfo, e2] at hQ
    have hzm : z ∈ LL := by rw [e1]; exact List.mem_append_right _ List.mem_cons_self
    obtain ⟨w, hcell⟩ := SL_at hSL hzm
    have hlz : lkM z.2.2 = 6 * f + t := by unfold lkM; rw [e5, e6]
    have hpop := QLf_pop (A := A) (B := B) (z := z) e4
    rw [← e1, hlz] at hpop
    refine d41q hl hkd hSL.2.1 hpop.1 hR (fun h1 X1 g1 g2 hR1 hW1 hx1 hY1 => ?_)
    rw [hpop.2] at hW1
    have ho1 := oA0 hR1
    have hL1 : SL X1 (dropF S j).2.2.2.2 (A ++ B) tg := by
      refine ⟨e3.symm, hW1, fun y hy => ?_⟩
      rw [hY1]
      refine hSL.2.2 y ?_
      rw [e1]
      rcases List.mem_append.mp hy with q | q
      · exact List.mem_append_left _ q
      · exact List.mem_append_right _ (List.mem_cons_of_mem _ q)
    have hS1 : SS c X1 (dropF S j) T K := SS_lk hx1 hSS
    have hC1 : SC X1 (dropF S j) T := SC_lk hx1 hSC
    have hcell1 : x_Y X1 z.1 = some (msC (nI z.2.2.2.2.1) z.2.2.2.2.2.1 (if z.2.2.2.2.1 = 6 then nI 0 else nI z.2.2.2.2.2.2.1) z.2.1 w) := by rw [hY1]; exact hcell
    have hv1 : vcO (x_Y X1) z := by rw [hY1]; exact (hSL.2.2 z hzm).1
    have em : (msOf z).1 = z.1 := rfl
    simp (disch := first | assumption | omega | exact am_isr_ref | exact am_isr_null | exact am_isr_rf | exact am_c1_int | exact am_c1_ref | exact am_c1_null | exact am_c1_rf | exact am_b0 | exact am_b1 | exact RM_obj (by assumption) | (simp only [ne_eq]; done) | exact am_nz2 | exact am_nz3 | exact am_nz6 | exact am_lt (hB _ _) | exact am_lt (stF_lt hB) | exact b32_01) only [em, e9_41, e9_43, e9_45r, e9_45n, e9_45q, e9_48, e9_49, e9_50, e9_51, e9_53, e9_55, e9_57, Option.toList_some, List.cons_append, List.nil_append]
    refine d30 (S := dropF S j) (q := z.2.2) (vc := z.2.1) (w := w) hf ht hm hB h4 hz (hk j z.2.2 hfo e2) hcell1 hv1 hR1 hS1 hC1 hL1 (fun h2 X2 K2 LL2 tg2 b1 b2 b3 r1 r2 r3 r4 r5 => ?_)
    obtain ⟨fs, hfs, htk⟩ := r5 z.1 _ hcell1
    have h0 : fs[0]? = some (.int (nI z.2.2.2.2.1)) := by
      have := congrArg (fun l : List Value => l[0]?) htk
      simp only [List.getElem?_take_of_lt (show 0 < 4 by decide)] at this
      exact this
    simp (disch := first | assumption | omega | exact am_isr_ref | exact am_isr_null | exact am_isr_rf | exact am_c1_int | exact am_c1_ref | exact am_c1_null | exact am_c1_rf | exact am_b0 | exact am_b1 | exact RM_obj (by assumption) | (simp only [ne_eq]; done) | exact am_nz2 | exact am_nz3 | exact am_nz6 | exact am_lt (hB _ _) | exact am_lt (stF_lt hB) | exact b32_01) only [e9_60, e9_62, e9_65, gY (k := 0) hfs h0 r1, Option.toList_none, List.nil_append]
    exact hQ h2 X2 K2 LL2 tg2 (by omega) (by omega) (by omega) r1 r2 r3 r4 (Xm_tr (by rw [hY1]; exact Xm_rf) r5)
theorem d9n {f t : Nat} (hf : f < 6) (ht : t < 6) (hlk : ¬ lkF f t) (hR : RC g h c X) (hQ : Q (some (.int (-1))) h) : am_R (d + 6) 9 0 [some (.ref c), some (.int (nI f)), some (.int (nI t)), none, none, none, none] [] h Q := by
  have ho := oA0 hR
  have hkd : ¬ lkd (6 * f + t) = true := by
    unfold lkd
    rw [Bool.and_eq_true, decide_eq_true_eq, decide_eq_true_eq, show (6 * f + t) / 6 = f by omega, show (6 * f + t) % 6 = t by omega]
    exact fun q => hlk q.2
  simp (disch := first | assumption | omega | exact am_isr_ref | exact am_isr_null | exact am_isr_rf | exact am_c1_int | exact am_c1_ref | exact am_c1_null | exact am_c1_rf | exact am_b0 | exact am_b1 | exact RM_obj (by assumption) | (simp only [ne_eq]; done) | exact am_nz2 | exact am_nz3 | exact am_nz6 | exact am_lt (hB _ _) | exact am_lt (stF_lt hB) | exact b32_01) only [e9_0, e9_1, e9_2, e9_3, e9_6, e9_7, e9_8, e9_9, e9_12, e9_14, e9_15, e9_16, e9_19, e9_21, e9_22r, e9_22n, e9_22q, e9_25, e9_27r, e9_27n, e9_27q, e9_30, e9_32r, e9_32n, e9_32q, e9_35, e9_36, d20t hf ht hR, if_neg hkd, d18t hf hR, d18t ht hR, Option.toList_some, List.cons_append, List.nil_append]
  exact hQ
theorem d18x {x : Int32} (hR : RC g h c X) (hQ : ∀ o : Option Nat, Q (some (va_rf o)) h) : am_R d 18 0 [some (.ref c), some (.int x)] [] h Q := by
  rcases pk_ix x (n := 6) (by omega) with h1 | h1 | ⟨j, hj, rfl⟩
  · rw [d18f (Or.inl h1) hR]
    exact hQ none
  · rw [d18f (Or.inr h1) hR]
    exact hQ none
  · rw [d18t hj hR]
    exact hQ (some _)
theorem d9f {x y : Int32} (hc : (x < 0 ∨ nI 6 ≤ x) ∨ (y < 0 ∨ nI 6 ≤ y)) (hR : RC g h c X) (hQ : Q (some (.int (-1))) h) : am_R (d + 6) 9 0 [some (.ref c), some (.int x), some (.int y), none, none, none, none] [] h Q := by
  have ho := oA0 hR
  simp (disch := first | assumption | omega | exact am_isr_ref | exact am_isr_null | exact am_isr_rf | exact am_c1_int | exact am_c1_ref | exact am_c1_null | exact am_c1_rf | exact am_b0 | exact am_b1 | exact RM_obj (by assumption) | (simp only [ne_eq]; done) | exact am_nz2 | exact am_nz3 | exact am_nz6 | exact am_lt (hB _ _) | exact am_lt (stF_lt hB) | exact b32_01) only [e9_0, e9_1, e9_2, e9_3, e9_6, e9_7, e9_8, e9_9, d20f hc, Option.toList_some, List.cons_append, List.nil_append]
  refine d18x hR (fun o => ?_)
  simp (disch := first | assumption | omega | exact am_isr_ref | exact am_isr_null | exact am_isr_rf | exact am_c1_int | exact am_c1_ref | exact am_c1_null | exact am_c1_rf | exact am_b0 | exact am_b1 | exact RM_obj (by assumption) | (simp only [ne_eq]; done) | exact am_nz2 | exact am_nz3 | exact am_nz6 | exact am_lt (hB _ _) | exact am_lt (stF_lt hB) | exact b32_01) only [e9_12, e9_14, e9_15, e9_16, Option.toList_some, List.cons_append, List.nil_append]
  refine d18x hR (fun o2 => ?_)
  simp (disch := first | assumption | omega | exact am_isr_ref | exact am_isr_null | exact am_isr_rf | exact am_c1_int | exact am_c1_ref | exact am_c1_null | exact am_c1_rf | exact am_b0 | exact am_b1 | exact RM_obj (by assumption) | (simp only [ne_eq]; done) | exact am_nz2 | exact am_nz3 | exact am_nz6 | exact am_lt (hB _ _) | exact am_lt (stF_lt hB) | exact b32_01) only [e9_19, e9_21, e9_22r, e9_22n, e9_22q, e9_25, e9_27r, e9_27n, e9_27q, e9_30, e9_32r, e9_32n, e9_32q, e9_35, e9_36, Option.toList_some, List.cons_append, List.nil_append]
  exact hQ
end DLV
