/-! the class's public readers: transaction, written, link -/
theorem foL_no {f t : Nat} : ∀ (L : List aMsg) j, foL f t L j = none → ∀ q, q ∈ L → ¬ (q.1 = f ∧ q.2.1 = t) := by
  intro L
  induction L with
  | nil => intro j _ q hq; cases hq
  | cons x r ih =>
    intro j h q hq
    rw [foL] at h
    by_cases hx : x.1 = f ∧ x.2.1 = t
    · rw [if_pos hx] at h
      cases h
    · rw [if_neg hx] at h
      rcases List.mem_cons.mp hq with e | e
      · rw [e]; exact hx
      · exact ih (j + 1) h q e
theorem foL_at {f t : Nat} : ∀ (L : List aMsg) j i, foL f t L j = some i → ∃ A q B, L = A ++ q :: B ∧ i = j + A.length ∧ (∀ y, y ∈ A → ¬ (y.1 = f ∧ y.2.1 = t)) ∧ q.1 = f ∧ q.2.1 = t := by
  intro L
  induction L with
  | nil => intro j i h; cases h
  | cons x r ih =>
    intro j i h
    rw [foL] at h
    by_cases hx : x.1 = f ∧ x.2.1 = t
    · rw [if_pos hx] at h
      cases h
      exact ⟨[], x, r, rfl, rfl, fun y hy => (by cases hy), hx.1, hx.2⟩
    · rw [if_neg hx] at h
      obtain ⟨A, q, B, h1, h2, h3, h4⟩ := ih (j + 1) i h
      refine ⟨x :: A, q, B, by rw [h1]; rfl, by rw [h2, List.length_cons]; omega, fun y hy => ?_, h4⟩
      rcases List.mem_cons.mp hy with e | e
      · rw [e]; exact hx
      · exact h3 y e
theorem cnt_idx {P : aMsg → Bool} {L : List aMsg} : ∀ n, n ≤ L.length → cntF (fun j => match L[j]? with
  | some q => P q
  | none => false) n = (L.take n).countP P := by
  intro n
  induction n with
  | zero => intro _; rfl
  | succ n ih =>
    intro hn
    rw [cntF, ih (by omega), List.take_add_one, List.countP_append, List.getElem?_eq_getElem (by omega)]
    simp only [Option.toList_some, List.countP_singleton]
theorem cm_cn {L : List aMsg} {f t : Nat} (ht : t < 6) (hL : WfL L) : cmF L f t = cnL L (6 * f + t) := by
  unfold cmF
  refine (cnt_idx (P := lkB f t) (L := L) L.length (Nat.le_refl _)).trans ?_
  rw [List.take_length]
  unfold cnL
  refine List.countP_congr (fun q hq => ?_)
  have := hL q hq
  unfold lkB lkM
  simp only [decide_eq_true_eq]
  omega
section AN2
variable {d : Nat} {g : Nat → Option aE} {c : Nat} {X : aX} {Q : Option Value → aH → Prop} {S : aSt} {T : Nat → Nat} {K : Nat → List Nat} {LL : List aLm} {L : List aMsg} {tg : Nat → Nat} {h : aH}
theorem SL_none {f t : Nat} (ht : t < 6) (hWL : WfL L) (hSL : SL X L LL tg) (hn : foL f t L 0 = none) : QLf LL (6 * f + t) = [] := by
  refine QLf_no (fun y hy q => ?_)
  have hm : y.2.2 ∈ L := by rw [← hSL.1]; exact List.mem_map.mpr ⟨y, hy, rfl⟩
  have := hWL _ hm
  have h2 := foL_no L 0 hn _ hm
  unfold lkM at q
  omega
theorem SL_some {f t j : Nat} (ht : t < 6) (hWL : WfL L) (hSL : SL X L LL tg) (hn : foL f t L 0 = some j) : ∃ A z B, LL = A ++ z :: B ∧ L[j]? = some z.2.2 ∧ L.eraseIdx j = (A ++ B).map (fun z => z.2.2) ∧ (∀ y, y ∈ A → ¬ lkM y.2.2 = lkM z.2.2) ∧ z.2.2.1 = f ∧ z.2.2.2.1 = t := by
  obtain ⟨A, q, B, h1, h2, h3, h4, h5⟩ := foL_at L 0 j hn
  have hmap := hSL.1
  rw [h1] at hmap
  obtain ⟨A1, B1, e1, e2, e3⟩ := List.map_eq_append_iff.mp hmap
  obtain ⟨z, B2, e4, e5, e6⟩ := List.map_eq_cons_iff.mp e3
  have hj : j = A.length := by omega
  refine ⟨A1, z, B2, by rw [e1, e4], ?_, ?_, fun y hy q1 => ?_, by rw [e5]; exact h4, by rw [e5]; exact h5⟩
  · rw [h1, hj, List.getElem?_append_right (Nat.le_refl _), Nat.sub_self, e5]
    rfl
  · rw [h1, hj, List.eraseIdx_append_of_length_le (Nat.le_refl _), Nat.sub_self, List.map_append, e2, e6]
    rfl
  · have hyA : y.2.2 ∈ A := by rw [← e2]; exact List.mem_map.mpr ⟨y, hy, rfl⟩
    have a1 := hWL y.2.2 (by rw [h1]; exact List.mem_append_left _ hyA)
    have a2 := h3 _ hyA
    unfold lkM at q1
    rw [e5, h4, h5] at q1
    omega
theorem d15 {f t : Nat} {w : Int32} (hf : f < 6) (ht : t < 6) (hWL : WfL S.2.2.2.2) (hR : RC g h c X) (hSL : SL X S.2.2.2.2 LL tg) (hQ : Q (some (.int (if lkF f t then ansK S f t w else -1))) h) : am_R (d + 1) 15 0 [some (.ref c), some (.int (nI f)), some (.int (nI t)), some (.int w), none] [] h Q := by
  have ho := oA0 hR
  have hl : 6 * f + t < 36 := by omega
  have hlk : (lkd (6 * f + t) = true) = lkF f t := by
    unfold lkd
    rw [Bool.and_eq_true, decide_eq_true_eq, decide_eq_true_eq, show (6 * f + t) / 6 = f by omega, show (6 * f + t) % 6 = t by omega]
    exact propext ⟨fun q => q.2, fun q => ⟨by omega, q⟩⟩
  by_cases hk : lkd (6 * f + t) = true
  · rw [if_pos (hlk ▸ hk)] at hQ
    obtain ⟨p1, p2, p3, p4, p5, p6⟩ := hSL.2.1 (6 * f + t) hl hk
    have elc : x_lc X (6 * f + t) = cmF S.2.2.2.2 f t := by rw [p3, SL_len hSL, cm_cn ht hWL]
    unfold ansK at hQ
    simp (disch := first | assumption | omega | exact am_isr_ref | exact am_isr_null | exact am_isr_rf | exact am_c1_int | exact am_c1_ref | exact am_c1_null | exact am_c1_rf | exact am_b0 | exact am_b1 | exact RM_obj (by assumption) | (simp only [ne_eq]; done) | exact am_nz2 | exact am_nz3 | exact am_nz6 | exact am_lt (hB _ _) | exact am_lt (stF_lt hB) | exact b32_01) only [e15_0, e15_1, e15_2, e15_3, e15_6, e15_8, e15_10r, e15_10n, e15_10q, e15_13, e15_14, e15_15, d20t hf ht hR, if_pos hk, Option.toList_some, List.cons_append, List.nil_append]
    rw [e15_16]
    by_cases h0 : w = 0
    · rw [if_pos h0] at hQ ⊢
      simp (disch := first | assumption | omega | exact am_isr_ref | exact am_isr_null | exact am_isr_rf | exact am_c1_int | exact am_c1_ref | exact am_c1_null | exact am_c1_rf | exact am_b0 | exact am_b1 | exact RM_obj (by assumption) | (simp only [ne_eq]; done) | exact am_nz2 | exact am_nz3 | exact am_nz6 | exact am_lt (hB _ _) | exact am_lt (stF_lt hB) | exact b32_01) only [e15_0, e15_1, e15_2, e15_3, e15_6, e15_8, e15_10r, e15_10n, e15_10q, e15_13, e15_14, e15_15, e15_16, e15_44, e15_46, e15_49, e15_50, e15_52, e15_55r, e15_55n, e15_55q, e15_58, e15_59, e15_62, e15_64, e15_67, e15_70, e15_71, e15_73, e15_76r, e15_76n, e15_76q, e15_79, e15_80, e15_83, e15_85, e15_88, e15_91, e15_92, e15_93, gL0_2 hl hk hR, elc]
      exact hQ
    · rw [if_neg h0] at hQ ⊢
      cases hfo : foL f t S.2.2.2.2 0 with
      | none =>
        have hq := SL_none ht hWL hSL hfo
        rw [hq] at p1
        have p1 : x_lf X (6 * f + t) = none := p1
        simp only [hfo] at hQ
        by_cases h1 : w = 1
        · rw [if_pos h1] at hQ ⊢
          simp (disch := first | assumption | omega | exact am_isr_ref | exact am_isr_null | exact am_isr_rf | exact am_c1_int | exact am_c1_ref | exact am_c1_null | exact am_c1_rf | exact am_b0 | exact am_b1 | exact RM_obj (by assumption) | (simp only [ne_eq]; done) | exact am_nz2 | exact am_nz3 | exact am_nz6 | exact am_lt (hB _ _) | exact am_lt (stF_lt hB) | exact b32_01) only [e15_0, e15_1, e15_2, e15_3, e15_6, e15_8, e15_10r, e15_10n, e15_10q, e15_13, e15_14, e15_15, e15_16, e15_44, e15_46, e15_49, e15_50, e15_52, e15_55r, e15_55n, e15_55q, e15_58, e15_59, e15_62, e15_64, e15_67, e15_70, e15_71, e15_73, e15_76r, e15_76n, e15_76q, e15_79, e15_80, e15_83, e15_85, e15_88, e15_91, e15_92, e15_93, gL0_0 hl hk hR, p1, va_rf]
          exact hQ
        · rw [if_neg h1] at hQ ⊢
          by_cases h2 : w = 2
          · rw [if_pos h2] at hQ ⊢
            simp (disch := first | assumption | omega | exact am_isr_ref | exact am_isr_null | exact am_isr_rf | exact am_c1_int | exact am_c1_ref | exact am_c1_null | exact am_c1_rf | exact am_b0 | exact am_b1 | exact RM_obj (by assumption) | (simp only [ne_eq]; done) | exact am_nz2 | exact am_nz3 | exact am_nz6 | exact am_lt (hB _ _) | exact am_lt (stF_lt hB) | exact b32_01) only [e15_0, e15_1, e15_2, e15_3, e15_6, e15_8, e15_10r, e15_10n, e15_10q, e15_13, e15_14, e15_15, e15_16, e15_44, e15_46, e15_49, e15_50, e15_52, e15_55r, e15_55n, e15_55q, e15_58, e15_59, e15_62, e15_64, e15_67, e15_70, e15_71, e15_73, e15_76r, e15_76n, e15_76q, e15_79, e15_80, e15_83, e15_85, e15_88, e15_91, e15_92, e15_93, gL0_0 hl hk hR, p1, va_rf]
            exact hQ
          · rw [if_neg h2] at hQ ⊢
            simp (disch := first | assumption | omega | exact am_isr_ref | exact am_isr_null | exact am_isr_rf | exact am_c1_int | exact am_c1_ref | exact am_c1_null | exact am_c1_rf | exact am_b0 | exact am_b1 | exact RM_obj (by assumption) | (simp only [ne_eq]; done) | exact am_nz2 | exact am_nz3 | exact am_nz6 | exact am_lt (hB _ _) | exact am_lt (stF_lt hB) | exact b32_01) only [e15_0, e15_1, e15_2, e15_3, e15_6, e15_8, e15_10r, e15_10n, e15_10q, e15_13, e15_14, e15_15, e15_16, e15_44, e15_46, e15_49, e15_50, e15_52, e15_55r, e15_55n, e15_55q, e15_58, e15_59, e15_62, e15_64, e15_67, e15_70, e15_71, e15_73, e15_76r, e15_76n, e15_76q, e15_79, e15_80, e15_83, e15_85, e15_88, e15_91, e15_92, e15_93]
            exact hQ
      | some j =>
        obtain ⟨A, z, B, e1, e2, e3, e4, e5, e6⟩ := SL_some ht hWL hSL hfo
        have hzm : z ∈ LL := by rw [e1]; exact List.mem_append_right _ List.mem_cons_self
        obtain ⟨w2, hcell⟩ := SL_at hSL hzm
        have hlz : lkM z.2.2 = 6 * f + t := by unfold lkM; rw [e5, e6]
        have hq := (QLf_pop (A := A) (B := B) (z := z) e4).1
        rw [← e1, hlz] at hq
        rw [hq] at p1
        have p1 : x_lf X (6 * f + t) = some z.1 := p1
        simp only [hfo, e2] at hQ
        by_cases h1 : w = 1
        · rw [if_pos h1] at hQ ⊢
          simp (disch := first | assumption | omega | exact am_isr_ref | exact am_isr_null | exact am_isr_rf | exact am_c1_int | exact am_c1_ref | exact am_c1_null | exact am_c1_rf | exact am_b0 | exact am_b1 | exact RM_obj (by assumption) | (simp only [ne_eq]; done) | exact am_nz2 | exact am_nz3 | exact am_nz6 | exact am_lt (hB _ _) | exact am_lt (stF_lt hB) | exact b32_01) only [e15_0, e15_1, e15_2, e15_3, e15_6, e15_8, e15_10r, e15_10n, e15_10q, e15_13, e15_14, e15_15, e15_16, e15_44, e15_46, e15_49, e15_50, e15_52, e15_55r, e15_55n, e15_55q, e15_58, e15_59, e15_62, e15_64, e15_67, e15_70, e15_71, e15_73, e15_76r, e15_76n, e15_76q, e15_79, e15_80, e15_83, e15_85, e15_88, e15_91, e15_92, e15_93, gL0_0 hl hk hR, p1, va_rf, gY (k := 0) hcell rfl hR]
          exact hQ
        · rw [if_neg h1] at hQ ⊢
          by_cases h2 : w = 2
          · rw [if_pos h2] at hQ ⊢
            simp (disch := first | assumption | omega | exact am_isr_ref | exact am_isr_null | exact am_isr_rf | exact am_c1_int | exact am_c1_ref | exact am_c1_null | exact am_c1_rf | exact am_b0 | exact am_b1 | exact RM_obj (by assumption) | (simp only [ne_eq]; done) | exact am_nz2 | exact am_nz3 | exact am_nz6 | exact am_lt (hB _ _) | exact am_lt (stF_lt hB) | exact b32_01) only [e15_0, e15_1, e15_2, e15_3, e15_6, e15_8, e15_10r, e15_10n, e15_10q, e15_13, e15_14, e15_15, e15_16, e15_44, e15_46, e15_49, e15_50, e15_52, e15_55r, e15_55n, e15_55q, e15_58, e15_59, e15_62, e15_64, e15_67, e15_70, e15_71, e15_73, e15_76r, e15_76n, e15_76q, e15_79, e15_80, e15_83, e15_85, e15_88, e15_91, e15_92, e15_93, gL0_0 hl hk hR, p1, va_rf, gY (k := 1) hcell rfl hR]
            exact hQ
          · rw [if_neg h2] at hQ ⊢
            simp (disch := first | assumption | omega | exact am_isr_ref | exact am_isr_null | exact am_isr_rf | exact am_c1_int | exact am_c1_ref | exact am_c1_null | exact am_c1_rf | exact am_b0 | exact am_b1 | exact RM_obj (by assumption) | (simp only [ne_eq]; done) | exact am_nz2 | exact am_nz3 | exact am_nz6 | exact am_lt (hB _ _) | exact am_lt (stF_lt hB) | exact b32_01) only [e15_0, e15_1, e15_2, e15_3, e15_6, e15_8, e15_10r, e15_10n, e15_10q, e15_13, e15_14, e15_15, e15_16, e15_44, e15_46, e15_49, e15_50, e15_52, e15_55r, e15_55n, e15_55q, e15_58, e15_59, e15_62, e15_64, e15_67, e15_70, e15_71, e15_73, e15_76r, e15_76n, e15_76q, e15_79, e15_80, e15_83, e15_85, e15_88, e15_91, e15_92, e15_93]
            exact hQ
  · rw [if_neg (fun q => hk (hlk ▸ q))] at hQ
    simp (disch := first | assumption | omega | exact am_isr_ref | exact am_isr_null | exact am_isr_rf | exact am_c1_int | exact am_c1_ref | exact am_c1_null | exact am_c1_rf | exact am_b0 | exact am_b1 | exact RM_obj (by assumption) | (simp only [ne_eq]; done) | exact am_nz2 | exact am_nz3 | exact am_nz6 | exact am_lt (hB _ _) | exact am_lt (stF_lt hB) | exact b32_01) only [e15_0, e15_1, e15_2, e15_3, e15_6, e15_8, e15_10r, e15_10n, e15_10q, e15_13, e15_14, d20t hf ht hR, if_neg hk, Option.toList_some, List.cons_append, List.nil_append]
    exact hQ
theorem d15f {x y w : Int32} (hc : (x < 0 ∨ nI 6 ≤ x) ∨ (y < 0 ∨ nI 6 ≤ y)) (hR : RC g h c X) (hQ : Q (some (.int (-1))) h) : am_R (d + 1) 15 0 [some (.ref c), some (.int x), some (.int y), some (.int w), none] [] h Q := by
  have ho := oA0 hR
  simp (disch := first | assumption | omega | exact am_isr_ref | exact am_isr_null | exact am_isr_rf | exact am_c1_int | exact am_c1_ref | exact am_c1_null | exact am_c1_rf | exact am_b0 | exact am_b1 | exact RM_obj (by assumption) | (simp only [ne_eq]; done) | exact am_nz2 | exact am_nz3 | exact am_nz6 | exact am_lt (hB _ _) | exact am_lt (stF_lt hB) | exact b32_01) only [e15_0, e15_1, e15_2, e15_3, e15_6, e15_8, e15_10r, e15_10n, e15_10q, e15_13, e15_14, d20f hc, Option.toList_some, List.cons_append, List.nil_append]
  exact hQ
theorem d13 {n k : Nat} (hn : n < S.1) (hm : S.1 ≤ 200) (hk : k < 8) (h5 : ¬ wF (S.2.1 4 n) k → S.2.2.1 5 (8 * n + k) = nI 0) (hR : RC g h c X) (hSS : SS c X S T K) (hQ : Q (some (.int (S.2.2.1 5 (8 * n + k)))) h) : am_R (d + 3) 13 0 [some (.ref c), some (.int (nI n)), some (.int (nI k)), none] [] h Q := by
  have ho := oA0 hR
  have hTn := hSS.2.2.2.2.2.2.2.2 n hn
  have hT := TrNH hR hTn.2
  have how := oW hT.2.2.1
  have hcn : n < x_cnt X := by rw [hSS.1]; exact hn
  have hcm : x_cnt X ≤ 200 := by rw [hSS.1]; exact hm
  simp (disch := first | assumption | omega | exact am_isr_ref | exact am_isr_null | exact am_isr_rf | exact am_c1_int | exact am_c1_ref | exact am_c1_null | exact am_c1_rf | exact am_b0 | exact am_b1 | exact RM_obj (by assumption) | (simp only [ne_eq]; done) | exact am_nz2 | exact am_nz3 | exact am_nz6 | exact am_lt (hB _ _) | exact am_lt (stF_lt hB) | exact b32_01) only [e13_0, e13_1, e13_2, e13_5, e13_6, e13_7r, e13_7n, e13_7q, e13_10, e13_11, e13_14, e13_15, e13_18, e13_19, e13_22, d19t hcn hcm hR, hTn.1, va_rf, gT_5 hT, d68t hk hT.2.2.1, Option.toList_some, List.cons_append, List.nil_append]
  have e : (if S.2.1 4 n / 2 ^ k % 2 = 1 then vN S.2.2.1 n k else nI 0) = S.2.2.1 5 (8 * n + k) := by
    by_cases hw : wF (S.2.1 4 n) k
    · rw [if_pos hw]
      exact if_pos hk
    · rw [if_neg hw, h5 hw]
  rw [e]
  exact hQ
theorem d13f {x y : Int32} (hm : S.1 ≤ 200) (hc : x < 0 ∨ nI S.1 ≤ x ∨ (y < 0 ∨ nI 8 ≤ y)) (hR : RC g h c X) (hSS : SS c X S T K) (hQ : Q (some (.int (nI 0))) h) : am_R (d + 3) 13 0 [some (.ref c), some (.int x), some (.int y), none] [] h Q := by
  have ho := oA0 hR
  have out : (x < 0 ∨ nI S.1 ≤ x) → am_R (d + 3) 13 0 [some (.ref c), some (.int x), some (.int y), none] [] h Q := fun hx => by
    rw [← hSS.1] at hx
    simp (disch := first | assumption | omega | exact am_isr_ref | exact am_isr_null | exact am_isr_rf | exact am_c1_int | exact am_c1_ref | exact am_c1_null | exact am_c1_rf | exact am_b0 | exact am_b1 | exact RM_obj (by assumption) | (simp only [ne_eq]; done) | exact am_nz2 | exact am_nz3 | exact am_nz6 | exact am_lt (hB _ _) | exact am_lt (stF_lt hB) | exact b32_01) only [e13_0, e13_1, e13_2, e13_5, e13_6, e13_7r, e13_7n, e13_7q, e13_10, e13_11, e13_14, e13_15, e13_18, e13_19, e13_22, d19f hx hR, Option.toList_some, List.cons_append, List.nil_append]
    exact hQ
  rcases pk_ix x (n := S.1) (by omega) with h1 | h1 | ⟨n, hn, rfl⟩
  · exact out (Or.inl h1)
  · exact out (Or.inr h1)
  · have hy : y < 0 ∨ nI 8 ≤ y := by
      rcases hc with q | q | q
      · exact absurd q (nI_pos (by omega))
      · have := (nI_leI (by omega) (by omega)).mp q
        omega
      · exact q
    have hTn := hSS.2.2.2.2.2.2.2.2 n hn
    have hT := TrNH hR hTn.2
    have how := oW hT.2.2.1
    have hcn : n < x_cnt X := by rw [hSS.1]; exact hn
    have hcm : x_cnt X ≤ 200 := by rw [hSS.1]; exact hm
    simp (disch := first | assumption | omega | exact am_isr_ref | exact am_isr_null | exact am_isr_rf | exact am_c1_int | exact am_c1_ref | exact am_c1_null | exact am_c1_rf | exact am_b0 | exact am_b1 | exact RM_obj (by assumption) | (simp only [ne_eq]; done) | exact am_nz2 | exact am_nz3 | exact am_nz6 | exact am_lt (hB _ _) | exact am_lt (stF_lt hB) | exact b32_01) only [e13_0, e13_1, e13_2, e13_5, e13_6, e13_7r, e13_7n, e13_7q, e13_10, e13_11, e13_14, e13_15, e13_18, e13_19, e13_22, d19t hcn hcm hR, hTn.1, va_rf, gT_5 hT, d68f hy hT.2.2.1, Option.toList_some, List.cons_append, List.nil_append]
    exact hQ
theorem ts_st {N : Nat → Nat → Nat} {n p : Nat} (h97 : N 8 n = 1 → N 9 n = N 7 n) (hp : p < 3) : tsF (N 8 n) (plT N n) (N 7 n) (sN N n) p = stF N n p := by
  unfold tsF stF
  by_cases q : N 8 n = 1 ∧ p = plT N n
  · rw [if_pos q, if_pos q, h97 q.1]
  · rw [if_neg q, if_neg q]
    exact if_pos hp
theorem d12 {n w : Nat} (hn : n < S.1) (hm : S.1 ≤ 200) (hw : w < 40) (hB : am_BN S.2.1) (h97 : S.2.1 8 n = 1 → S.2.1 9 n = S.2.1 7 n) (hR : RC g h c X) (hSS : SS c X S T K) (hQ : Q (some (.int (ansT S n w))) h) : am_R (d + 2) 12 0 [some (.ref c), some (.int (nI n)), some (.int (nI w)), none] [] h Q := by
  have ho := oA0 hR
  have hTn := hSS.2.2.2.2.2.2.2.2 n hn
  have hT := TrNH hR hTn.2
  have hoT := oT hT
  have how := oW hT.2.2.1
  have hcn : n < x_cnt X := by rw [hSS.1]; exact hn
  have hcm : x_cnt X ≤ 200 := by rw [hSS.1]; exact hm
  have h82 : S.2.1 8 n < 2 := hT.2.2.2
  have hpl : plT S.2.1 n < 3 := Nat.mod_lt _ (by decide)
  unfold ansT at hQ
  by_cases g1 : 10 ≤ w ∧ w < 13
  · rw [if_pos g1] at hQ
    have ep : nI w - nI 10 = nI (w - 10) := pk_sub g1.1
    have hp3 : w - 10 < 3 := by omega
    simp (disch := first | assumption | omega | exact am_isr_ref | exact am_isr_null | exact am_isr_rf | exact am_c1_int | exact am_c1_ref | exact am_c1_null | exact am_c1_rf | exact am_b0 | exact am_b1 | exact RM_obj (by assumption) | (simp only [ne_eq]; done) | exact am_nz2 | exact am_nz3 | exact am_nz6 | exact am_lt (hB _ _) | exact am_lt (stF_lt hB) | exact b32_01) only [e12_0, e12_1, e12_2, e12_5, e12_6, e12_7r, e12_7n, e12_7q, e12_10, e12_11, e12_12, e12_13, e12_15, e12_16, e12_19, e12_22, e12_23, e12_24, e12_26, e12_27, e12_30, d19t hcn hcm hR, hTn.1, va_rf, ep, d21t hp3, d60 hp3 hpl hT, Option.toList_some, List.cons_append, List.nil_append, if_neg (show ¬ nI 1 = 0 by decide)]
    rw [ts_st h97 hp3]
    exact hQ
  · have hx1 := in_sub (b := 10) (n := 3) hw (by decide) (by decide) g1
    rw [if_neg g1] at hQ
    by_cases g2 : 20 ≤ w ∧ w < 28
    · rw [if_pos g2] at hQ
      have ep : nI w - nI 20 = nI (w - 20) := pk_sub g2.1
      have hp8 : w - 20 < 8 := by omega
      simp (disch := first | assumption | omega | exact am_isr_ref | exact am_isr_null | exact am_isr_rf | exact am_c1_int | exact am_c1_ref | exact am_c1_null | exact am_c1_rf | exact am_b0 | exact am_b1 | exact RM_obj (by assumption) | (simp only [ne_eq]; done) | exact am_nz2 | exact am_nz3 | exact am_nz6 | exact am_lt (hB _ _) | exact am_lt (stF_lt hB) | exact b32_01) only [e12_0, e12_1, e12_2, e12_5, e12_6, e12_7r, e12_7n, e12_7q, e12_10, e12_11, e12_12, e12_13, e12_15, e12_16, e12_19, e12_22, e12_23, e12_24, e12_26, e12_27, e12_30, e12_31, e12_32, e12_34, e12_35, e12_38, e12_41, e12_42, e12_45, e12_46, e12_48, e12_49, e12_52, e12_55, e12_56, e12_59, e12_60, d19t hcn hcm hR, hTn.1, va_rf, ep, d21f hx1, d22t hp8, gT_5 hT, d67t hp8 hT.2.2.1, Option.toList_some, List.cons_append, List.nil_append, if_neg (show ¬ nI 1 = 0 by decide), if_pos (show nI 0 = 0 by decide), b32_q0]
      by_cases hb : wF (S.2.1 4 n) (w - 20)
      · rw [if_neg (fun q => q hb)]
        rw [b32_t hb] at hQ
        exact hQ
      · rw [if_pos hb]
        rw [b32_f hb] at hQ
        exact hQ
    · have hx2 := in_sub (b := 20) (n := 8) hw (by decide) (by decide) g2
      rw [if_neg g2] at hQ
      by_cases g0 : w = 0
      · subst g0
        rw [if_pos rfl] at hQ
        simp (disch := first | assumption | omega | exact am_isr_ref | exact am_isr_null | exact am_isr_rf | exact am_c1_int | exact am_c1_ref | exact am_c1_null | exact am_c1_rf | exact am_b0 | exact am_b1 | exact RM_obj (by assumption) | (simp only [ne_eq]; done) | exact am_nz2 | exact am_nz3 | exact am_nz6 | exact am_lt (hB _ _) | exact am_lt (stF_lt hB) | exact b32_01) only [e12_0, e12_1, e12_2, e12_5, e12_6, e12_7r, e12_7n, e12_7q, e12_10, e12_11, e12_12, e12_13, e12_15, e12_16, e12_19, e12_22, e12_23, e12_24, e12_26, e12_27, e12_30, e12_31, e12_32, e12_34, e12_35, e12_38, e12_41, e12_42, e12_45, e12_46, e12_48, e12_49, e12_52, e12_55, e12_56, e12_59, e12_60, e12_61, e12_62, e12_92, e12_93, e12_96, e12_97, e12_98, e12_101, e12_104, e12_105, e12_108, e12_111, e12_112, e12_113, e12_114, e12_117, e12_120, e12_121, e12_124, e12_125, e12_126, e12_127, e12_130, e12_133, e12_134, e12_135, d19t hcn hcm hR, hTn.1, va_rf, d21f hx1, d22f hx2, gT_1 hT, Option.toList_some, List.cons_append, List.nil_append, if_pos (show nI 0 = 0 by decide)]
        exact hQ
      · have q0 : ¬ nI w = 0 := n_ne hw (by decide) g0
        rw [if_neg g0] at hQ
        by_cases gg1 : w = 1
        · subst gg1
          rw [if_pos rfl] at hQ
          simp (disch := first | assumption | omega | exact am_isr_ref | exact am_isr_null | exact am_isr_rf | exact am_c1_int | exact am_c1_ref | exact am_c1_null | exact am_c1_rf | exact am_b0 | exact am_b1 | exact RM_obj (by assumption) | (simp only [ne_eq]; done) | exact am_nz2 | exact am_nz3 | exact am_nz6 | exact am_lt (hB _ _) | exact am_lt (stF_lt hB) | exact b32_01) only [e12_0, e12_1, e12_2, e12_5, e12_6, e12_7r, e12_7n, e12_7q, e12_10, e12_11, e12_12, e12_13, e12_15, e12_16, e12_19, e12_22, e12_23, e12_24, e12_26, e12_27, e12_30, e12_31, e12_32, e12_34, e12_35, e12_38, e12_41, e12_42, e12_45, e12_46, e12_48, e12_49, e12_52, e12_55, e12_56, e12_59, e12_60, e12_61, e12_62, e12_92, e12_93, e12_96, e12_97, e12_98, e12_101, e12_104, e12_105, e12_108, e12_111, e12_112, e12_113, e12_114, e12_117, e12_120, e12_121, e12_124, e12_125, e12_126, e12_127, e12_130, e12_133, e12_134, e12_135, d19t hcn hcm hR, hTn.1, va_rf, d21f hx1, d22f hx2, gT_7 hT, gT_6 hT, Option.toList_some, List.cons_append, List.nil_append, if_pos (show nI 0 = 0 by decide), if_neg q0, if_pos (show nI 1 = 1 by decide), n0_b h82]
          by_cases h8 : S.2.1 8 n = 1
          · rw [if_neg (fun q => q h8)]
            rw [if_neg (by omega), h97 h8] at hQ
            exact hQ
          · rw [if_pos h8]
            rw [if_pos (by omega)] at hQ
            exact hQ
        · have q1 : ¬ nI w = 1 := n_ne hw (by decide) gg1
          rw [if_neg gg1] at hQ
          by_cases gg2 : w = 2
          · subst gg2
            rw [if_pos rfl] at hQ
            simp (disch := first | assumption | omega | exact am_isr_ref | exact am_isr_null | exact am_isr_rf | exact am_c1_int | exact am_c1_ref | exact am_c1_null | exact am_c1_rf | exact am_b0 | exact am_b1 | exact RM_obj (by assumption) | (simp only [ne_eq]; done) | exact am_nz2 | exact am_nz3 | exact am_nz6 | exact am_lt (hB _ _) | exact am_lt (stF_lt hB) | exact b32_01) only [e12_0, e12_1, e12_2, e12_5, e12_6, e12_7r, e12_7n, e12_7q, e12_10, e12_11, e12_12, e12_13, e12_15, e12_16, e12_19, e12_22, e12_23, e12_24, e12_26, e12_27, e12_30, e12_31, e12_32, e12_34, e12_35, e12_38, e12_41, e12_42, e12_45, e12_46, e12_48, e12_49, e12_52, e12_55, e12_56, e12_59, e12_60, e12_61, e12_62, e12_92, e12_93, e12_96, e12_97, e12_98, e12_101, e12_104, e12_105, e12_108, e12_111, e12_112, e12_113, e12_114, e12_117, e12_120, e12_121, e12_124, e12_125, e12_126, e12_127, e12_130, e12_133, e12_134, e12_135, d19t hcn hcm hR, hTn.1, va_rf, d21f hx1, d22f hx2, gT_7 hT, Option.toList_some, List.cons_append, List.nil_append, if_pos (show nI 0 = 0 by decide), if_neg q0, if_neg q1, if_pos (show nI 2 = 2 by decide), n0_b h82]
            by_cases h8 : S.2.1 8 n = 1
            · rw [if_neg (fun q => q h8)]
              rw [if_neg (by omega)] at hQ
              exact hQ
            · rw [if_pos h8]
              rw [if_pos (by omega)] at hQ
              exact hQ
          · have q2 : ¬ nI w = 2 := n_ne hw (by decide) gg2
            rw [if_neg gg2] at hQ
            by_cases gg3 : w = 3
            · subst gg3
              rw [if_pos rfl] at hQ
              simp (disch := first | assumption | omega | exact am_isr_ref | exact am_isr_null | exact am_isr_rf | exact am_c1_int | exact am_c1_ref | exact am_c1_null | exact am_c1_rf | exact am_b0 | exact am_b1 | exact RM_obj (by assumption) | (simp only [ne_eq]; done) | exact am_nz2 | exact am_nz3 | exact am_nz6 | exact am_lt (hB _ _) | exact am_lt (stF_lt hB) | exact b32_01) only [e12_0, e12_1, e12_2, e12_5, e12_6, e12_7r, e12_7n, e12_7q, e12_10, e12_11, e12_12, e12_13, e12_15, e12_16, e12_19, e12_22, e12_23, e12_24, e12_26, e12_27, e12_30, e12_31, e12_32, e12_34, e12_35, e12_38, e12_41, e12_42, e12_45, e12_46, e12_48, e12_49, e12_52, e12_55, e12_56, e12_59, e12_60, e12_61, e12_62, e12_92, e12_93, e12_96, e12_97, e12_98, e12_101, e12_104, e12_105, e12_108, e12_111, e12_112, e12_113, e12_114, e12_117, e12_120, e12_121, e12_124, e12_125, e12_126, e12_127, e12_130, e12_133, e12_134, e12_135, d19t hcn hcm hR, hTn.1, va_rf, d21f hx1, d22f hx2, gT_5 hT, d69 hT.2.2.1, Option.toList_some, List.cons_append, List.nil_append, if_pos (show nI 0 = 0 by decide), if_neg q0, if_neg q1, if_neg q2, if_pos (show nI 3 = 3 by decide)]
              exact hQ
            · have q3 : ¬ nI w = 3 := n_ne hw (by decide) gg3
              rw [if_neg gg3] at hQ
              simp (disch := first | assumption | omega | exact am_isr_ref | exact am_isr_null | exact am_isr_rf | exact am_c1_int | exact am_c1_ref | exact am_c1_null | exact am_c1_rf | exact am_b0 | exact am_b1 | exact RM_obj (by assumption) | (simp only [ne_eq]; done) | exact am_nz2 | exact am_nz3 | exact am_nz6 | exact am_lt (hB _ _) | exact am_lt (stF_lt hB) | exact b32_01) only [e12_0, e12_1, e12_2, e12_5, e12_6, e12_7r, e12_7n, e12_7q, e12_10, e12_11, e12_12, e12_13, e12_15, e12_16, e12_19, e12_22, e12_23, e12_24, e12_26, e12_27, e12_30, e12_31, e12_32, e12_34, e12_35, e12_38, e12_41, e12_42, e12_45, e12_46, e12_48, e12_49, e12_52, e12_55, e12_56, e12_59, e12_60, e12_61, e12_62, e12_92, e12_93, e12_96, e12_97, e12_98, e12_101, e12_104, e12_105, e12_108, e12_111, e12_112, e12_113, e12_114, e12_117, e12_120, e12_121, e12_124, e12_125, e12_126, e12_127, e12_130, e12_133, e12_134, e12_135, d19t hcn hcm hR, hTn.1, va_rf, d21f hx1, d22f hx2, Option.toList_some, List.cons_append, List.nil_append, if_pos (show nI 0 = 0 by decide), if_neg q0, if_neg q1, if_neg q2, if_neg q3]
              exact hQ
theorem d12f {x w : Int32} (hm : S.1 ≤ 200) (hc : (x < 0 ∨ nI S.1 ≤ x) ∨ oddQ w) (hR : RC g h c X) (hSS : SS c X S T K) (hQ : Q (some (.int (-1))) h) : am_R (d + 2) 12 0 [some (.ref c), some (.int x), some (.int w), none] [] h Q := by
  have ho := oA0 hR
  have out : (x < 0 ∨ nI S.1 ≤ x) → am_R (d + 2) 12 0 [some (.ref c), some (.int x), some (.int w), none] [] h Q := fun hx => by
    rw [← hSS.1] at hx
    simp (disch := first | assumption | omega | exact am_isr_ref | exact am_isr_null | exact am_isr_rf | exact am_c1_int | exact am_c1_ref | exact am_c1_null | exact am_c1_rf | exact am_b0 | exact am_b1 | exact RM_obj (by assumption) | (simp only [ne_eq]; done) | exact am_nz2 | exact am_nz3 | exact am_nz6 | exact am_lt (hB _ _) | exact am_lt (stF_lt hB) | exact b32_01) only [e12_0, e12_1, e12_2, e12_5, e12_6, e12_7r, e12_7n, e12_7q, e12_10, e12_11, d19f hx hR, Option.toList_some, List.cons_append, List.nil_append]
    exact hQ
  rcases pk_ix x (n := S.1) (by omega) with h1 | h1 | ⟨n, hn, rfl⟩
  · exact out (Or.inl h1)
  · exact out (Or.inr h1)
  · have hw : oddQ w := by
      rcases hc with hc | hc
      · exfalso
        rcases hc with q | q
        · exact nI_pos (by omega) q
        · have := (nI_leI (by omega) (by omega)).mp q
          omega
      · exact hc
    have hTn := hSS.2.2.2.2.2.2.2.2 n hn
    have hT := TrNH hR hTn.2
    have hcn : n < x_cnt X := by rw [hSS.1]; exact hn
    have hcm : x_cnt X ≤ 200 := by rw [hSS.1]; exact hm
    have q0 : ¬ w = 0 := odd_ne hw (k := 0) (by decide)
    have q1 : ¬ w = 1 := odd_ne hw (k := 1) (by decide)
    have q2 : ¬ w = 2 := odd_ne hw (k := 2) (by decide)
    have q3 : ¬ w = 3 := odd_ne hw (k := 3) (by decide)
    have hx1 := odd_sub (b := 10) (n := 3) hw (by decide)
    have hx2 := odd_sub (b := 20) (n := 8) hw (by decide)
    simp (disch := first | assumption | omega | exact am_isr_ref | exact am_isr_null | exact am_isr_rf | exact am_c1_int | exact am_c1_ref | exact am_c1_null | exact am_c1_rf | exact am_b0 | exact am_b1 | exact RM_obj (by assumption) | (simp only [ne_eq]; done) | exact am_nz2 | exact am_nz3 | exact am_nz6 | exact am_lt (hB _ _) | exact am_lt (stF_lt hB) | exact b32_01) only [e12_0, e12_1, e12_2, e12_5, e12_6, e12_7r, e12_7n, e12_7q, e12_10, e12_11, e12_12, e12_13, e12_15, e12_16, e12_19, e12_22, e12_23, e12_24, e12_26, e12_27, e12_30, e12_31, e12_32, e12_34, e12_35, e12_38, e12_41, e12_42, e12_45, e12_46, e12_48, e12_49, e12_52, e12_55, e12_56, e12_59, e12_60, e12_61, e12_62, e12_92, e12_93, e12_96, e12_97, e12_98, e12_101, e12_104, e12_105, e12_108, e12_111, e12_112, e12_113, e12_114, e12_117, e12_120, e12_121, e12_124, e12_125, e12_126, e12_127, e12_130, e12_133, e12_134, e12_135, d19t hcn hcm hR, hTn.1, va_rf, d21f hx1, d22f hx2, Option.toList_some, List.cons_append, List.nil_append, if_pos (show nI 0 = 0 by decide), if_neg q0, if_neg q1, if_neg q2, if_neg q3]
    exact hQ
end AN2
