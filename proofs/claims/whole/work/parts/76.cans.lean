/-! the class's public readers: value, client, server, transaction, written -/
theorem cntF_zero {f : Nat → Bool} : ∀ n, (∀ j, j < n → f j = false) → cntF f n = 0 := by
  intro n
  induction n with
  | zero => intro _; rfl
  | succ n ih =>
    intro h
    rw [cntF, ih (fun j hj => h j (by omega)), h n (by omega)]
    rfl
theorem cnt_list {f : Nat → Bool} : ∀ (l : List Nat) (m : Nat), l.Nodup → (∀ a, a ∈ l → a < m) → cntF (fun x => decide (x ∈ l) && f x) m = l.countP f := by
  intro l
  induction l with
  | nil =>
    intro m _ _
    rw [cntF_zero m (fun j _ => by simp)]
    rfl
  | cons x r ih =>
    intro m hn hm
    have hn := List.nodup_cons.mp hn
    have ih := ih m hn.2 (fun a ha => hm a (List.mem_cons_of_mem _ ha))
    by_cases hf : f x = true
    · rw [List.countP_cons_of_pos hf, ← ih]
      refine cntF_drop m (hm x List.mem_cons_self) (by simp [hf]) (by simp [hn.1]) (fun j hj => ?_)
      simp [hj]
    · rw [List.countP_cons_of_neg hf, ← ih]
      refine cntF_congr m (fun j _ => ?_)
      by_cases hj : j = x
      · subst hj
        simp [hf]
      · simp [hj]
theorem nw_nd {N : Nat → Nat → Nat} {l : List Nat} (h : l.Pairwise (fun a b => nw7 N a b = true)) : l.Nodup := h.imp (fun {a b} q e => by
  subst e
  exact nw7_ir q)
theorem odd_sub {w : Int32} {b n : Nat} (hw : oddQ w) (hb : b + n ≤ 40) : w - nI b < 0 ∨ nI n ≤ w - nI b := by
  rcases pk_ix (w - nI b) (n := n) (by omega) with h | h | ⟨j, hj, h⟩
  · exact Or.inl h
  · exact Or.inr h
  · exfalso
    have e : w = nI (j + b) := by
      rw [← nI_add, ← h]
      exact (Int32.sub_add_cancel w (nI b)).symm
    rcases hw with q | q
    · rw [e] at q
      exact nI_pos (by omega) q
    · rw [e] at q
      have := (nI_leI (by decide) (by omega)).mp q
      omega
theorem in_sub {w b n : Nat} (hw : w < 40) (hb : b < 40) (hn : n < 40) (h : ¬ (b ≤ w ∧ w < b + n)) : nI w - nI b < 0 ∨ nI n ≤ nI w - nI b := by
  by_cases q : b ≤ w
  · rw [pk_sub q]
    exact Or.inr ((nI_leI (by omega) (by omega)).mpr (by omega))
  · exact Or.inl (pk_sneg (by omega) (by omega))
theorem odd_ne {w : Int32} {k : Nat} (hw : oddQ w) (hk : k < 40) : ¬ w = nI k := fun e => by
  rcases hw with q | q
  · rw [e] at q
    exact nI_pos (by omega) q
  · rw [e] at q
    have := (nI_leI (by decide) (by omega)).mp q
    omega
theorem n_ne {w k : Nat} (hw : w < 40) (hk : k < 40) (h : ¬ w = k) : ¬ nI w = nI k := fun q => h ((nI_eq (by omega) (by omega)).mp q)
section AN
variable {d : Nat} {g : Nat → Option aE} {c : Nat} {X : aX} {Q : Option Value → aH → Prop} {S : aSt} {T : Nat → Nat} {K : Nat → List Nat} {LL : List aLm} {tg : Nat → Nat} {h : aH}
theorem d4 {i : Nat} (hi : i < 6) (hR : RC g h c X) (hSC : SC X S T) (hQ : Q (some (.int (S.2.2.1 21 i))) h) : am_R (d + 1) 4 0 [some (.ref c), some (.int (nI i)), none] [] h Q := by
  have ho := oA0 hR
  have r : x_lr X i = S.2.2.1 21 i := congrFun hSC.2.2.1 i
  simp (disch := first | assumption | omega | exact am_isr_ref | exact am_isr_null | exact am_isr_rf | exact am_c1_int | exact am_c1_ref | exact am_c1_null | exact am_c1_rf | exact am_b0 | exact am_b1 | exact RM_obj (by assumption) | (simp only [ne_eq]; done) | exact am_nz2 | exact am_nz3 | exact am_nz6 | exact am_lt (hB _ _) | exact am_lt (stF_lt hB) | exact b32_01) only [e4_0, e4_1, e4_2, e4_5, e4_6, e4_7r, e4_7n, e4_7q, e4_10, e4_11, e4_14, e4_15, e4_18, d16t hi hR, Option.toList_some, List.cons_append, List.nil_append, gC0_6 hi hR, r]
  exact hQ
theorem d4f {x : Int32} (hx : x < 0 ∨ nI 6 ≤ x) (hR : RC g h c X) (hQ : Q (some (.int (nI 0))) h) : am_R (d + 1) 4 0 [some (.ref c), some (.int x), none] [] h Q := by
  have ho := oA0 hR
  simp (disch := first | assumption | omega | exact am_isr_ref | exact am_isr_null | exact am_isr_rf | exact am_c1_int | exact am_c1_ref | exact am_c1_null | exact am_c1_rf | exact am_b0 | exact am_b1 | exact RM_obj (by assumption) | (simp only [ne_eq]; done) | exact am_nz2 | exact am_nz3 | exact am_nz6 | exact am_lt (hB _ _) | exact am_lt (stF_lt hB) | exact b32_01) only [e4_0, e4_1, e4_2, e4_5, e4_6, e4_7r, e4_7n, e4_7q, e4_10, e4_11, e4_14, e4_15, e4_18, d16f hx hR, Option.toList_some, List.cons_append, List.nil_append]
  exact hQ
theorem d10 {i w : Nat} (hi : i < 6) (hw : w < 40) (hB : am_BN S.2.1) (hR : RC g h c X) (hSC : SC X S T) (hQ : Q (some (.int (ansC S i w))) h) : am_R (d + 1) 10 0 [some (.ref c), some (.int (nI i)), some (.int (nI w)), none] [] h Q := by
  have ho := oA0 hR
  have hoc := oC0 hi hR
  obtain ⟨b1, b2, b3, b4, b5, b6, b7⟩ := hSC
  have r1 : x_dg X i = S.2.1 15 i := congrFun b1 i
  have r2 : x_lt X i = S.2.1 16 i := congrFun b2 i
  have hsn : h.2.2 (c + 3 + 6 * i) = some (.inl (0, 3, .inl (fun p => nI (x_sn X i p)))) := kC1 hR i hi
  have hw2 : Wr h (c + 5 + 6 * i) (x_hs X i) (x_iv X i) := WrC hi hR (fun k => by rw [b6]; exact Nat.mod_lt _ (by decide))
  have how := oW hw2
  unfold ansC at hQ
  by_cases h0 : w = 0
  · subst h0
    rw [if_neg (by omega), if_pos rfl] at hQ
    simp (disch := first | assumption | omega | exact am_isr_ref | exact am_isr_null | exact am_isr_rf | exact am_c1_int | exact am_c1_ref | exact am_c1_null | exact am_c1_rf | exact am_b0 | exact am_b1 | exact RM_obj (by assumption) | (simp only [ne_eq]; done) | exact am_nz2 | exact am_nz3 | exact am_nz6 | exact am_lt (hB _ _) | exact am_lt (stF_lt hB) | exact b32_01) only [e10_0, e10_1, e10_2, e10_5, e10_6, e10_7r, e10_7n, e10_7q, e10_10, e10_11, e10_12, e10_13, e10_44, e10_45, e10_48, e10_49, e10_50, e10_53, e10_54, e10_55, e10_58, e10_59, e10_60, e10_63, e10_66, e10_67, e10_68, e10_71, e10_72, e10_74, e10_75, e10_78, d16t hi hR, Option.toList_some, List.cons_append, List.nil_append, if_pos (show nI 0 = 0 by decide), gC0_4 hi hR, r1]
    exact hQ
  · have q0 : ¬ nI w = 0 := n_ne hw (by decide) h0
    by_cases h1 : w = 1
    · subst h1
      rw [if_neg (by omega), if_neg (by omega), if_pos rfl] at hQ
      simp (disch := first | assumption | omega | exact am_isr_ref | exact am_isr_null | exact am_isr_rf | exact am_c1_int | exact am_c1_ref | exact am_c1_null | exact am_c1_rf | exact am_b0 | exact am_b1 | exact RM_obj (by assumption) | (simp only [ne_eq]; done) | exact am_nz2 | exact am_nz3 | exact am_nz6 | exact am_lt (hB _ _) | exact am_lt (stF_lt hB) | exact b32_01) only [e10_0, e10_1, e10_2, e10_5, e10_6, e10_7r, e10_7n, e10_7q, e10_10, e10_11, e10_12, e10_13, e10_44, e10_45, e10_48, e10_49, e10_50, e10_53, e10_54, e10_55, e10_58, e10_59, e10_60, e10_63, e10_66, e10_67, e10_68, e10_71, e10_72, e10_74, e10_75, e10_78, d16t hi hR, Option.toList_some, List.cons_append, List.nil_append, if_neg q0, if_pos (show nI 1 = 1 by decide), gC0_5 hi hR, r2]
      exact hQ
    · have q1 : ¬ nI w = 1 := n_ne hw (by decide) h1
      by_cases h2 : w = 2
      · subst h2
        rw [if_neg (by omega), if_neg (by omega), if_neg (by omega), if_pos rfl] at hQ
        simp (disch := first | assumption | omega | exact am_isr_ref | exact am_isr_null | exact am_isr_rf | exact am_c1_int | exact am_c1_ref | exact am_c1_null | exact am_c1_rf | exact am_b0 | exact am_b1 | exact RM_obj (by assumption) | (simp only [ne_eq]; done) | exact am_nz2 | exact am_nz3 | exact am_nz6 | exact am_lt (hB _ _) | exact am_lt (stF_lt hB) | exact b32_01) only [e10_0, e10_1, e10_2, e10_5, e10_6, e10_7r, e10_7n, e10_7q, e10_10, e10_11, e10_12, e10_13, e10_44, e10_45, e10_48, e10_49, e10_50, e10_53, e10_54, e10_55, e10_58, e10_59, e10_60, e10_63, e10_66, e10_67, e10_68, e10_71, e10_72, e10_74, e10_75, e10_78, d16t hi hR, Option.toList_some, List.cons_append, List.nil_append, if_neg q0, if_neg q1, if_pos (show nI 2 = 2 by decide), d38 hi hR]
        have e : cntF (fun j => (x_ow X i j).isSome) 8 = cntF (fun j => (S.2.2.2.1 (8 * i + j)).isSome) 8 := by
          refine cntF_congr 8 (fun j hj => ?_)
          rw [b5]
          simp only [if_pos (And.intro hi hj), Option.isSome_map]
        rw [e]
        exact hQ
      · have q2 : ¬ nI w = 2 := n_ne hw (by decide) h2
        by_cases h3 : w = 3
        · subst h3
          rw [if_neg (by omega), if_neg (by omega), if_neg (by omega), if_neg (by omega), if_pos rfl] at hQ
          simp (disch := first | assumption | omega | exact am_isr_ref | exact am_isr_null | exact am_isr_rf | exact am_c1_int | exact am_c1_ref | exact am_c1_null | exact am_c1_rf | exact am_b0 | exact am_b1 | exact RM_obj (by assumption) | (simp only [ne_eq]; done) | exact am_nz2 | exact am_nz3 | exact am_nz6 | exact am_lt (hB _ _) | exact am_lt (stF_lt hB) | exact b32_01) only [e10_0, e10_1, e10_2, e10_5, e10_6, e10_7r, e10_7n, e10_7q, e10_10, e10_11, e10_12, e10_13, e10_44, e10_45, e10_48, e10_49, e10_50, e10_53, e10_54, e10_55, e10_58, e10_59, e10_60, e10_63, e10_66, e10_67, e10_68, e10_71, e10_72, e10_74, e10_75, e10_78, d16t hi hR, Option.toList_some, List.cons_append, List.nil_append, if_neg q0, if_neg q1, if_neg q2, if_pos (show nI 3 = 3 by decide), gC0_3 hi hR, d69 hw2]
          have e : cntF (fun j => decide (x_hs X i j = 1)) 8 = cntF (fun j => decide (wF (S.2.1 19 i) j)) 8 := by
            rw [b6]
          rw [e]
          exact hQ
        · have q3 : ¬ nI w = 3 := n_ne hw (by decide) h3
          by_cases h4 : 10 ≤ w ∧ w < 13
          · rw [if_pos h4] at hQ
            have ep : nI w - nI 10 = nI (w - 10) := pk_sub h4.1
            have hp3 : w - 10 < 3 := by omega
            simp (disch := first | assumption | omega | exact am_isr_ref | exact am_isr_null | exact am_isr_rf | exact am_c1_int | exact am_c1_ref | exact am_c1_null | exact am_c1_rf | exact am_b0 | exact am_b1 | exact RM_obj (by assumption) | (simp only [ne_eq]; done) | exact am_nz2 | exact am_nz3 | exact am_nz6 | exact am_lt (hB _ _) | exact am_lt (stF_lt hB) | exact b32_01) only [e10_0, e10_1, e10_2, e10_5, e10_6, e10_7r, e10_7n, e10_7q, e10_10, e10_11, e10_12, e10_13, e10_44, e10_45, e10_48, e10_49, e10_50, e10_53, e10_54, e10_55, e10_58, e10_59, e10_60, e10_63, e10_66, e10_67, e10_68, e10_71, e10_72, e10_74, e10_75, e10_78, d16t hi hR, Option.toList_some, List.cons_append, List.nil_append, if_neg q0, if_neg q1, if_neg q2, if_neg q3, gC0_1 hi hR, ep, d25t hsn (by decide) hp3]
            have e : x_sn X i (w - 10) = S.2.1 17 (3 * i + (w - 10)) := by rw [b4]; exact cl_at hp3
            rw [e]
            exact hQ
          · rw [if_neg h4, if_neg h0, if_neg h1, if_neg h2, if_neg h3] at hQ
            have hx := in_sub (b := 10) (n := 3) hw (by decide) (by decide) h4
            simp (disch := first | assumption | omega | exact am_isr_ref | exact am_isr_null | exact am_isr_rf | exact am_c1_int | exact am_c1_ref | exact am_c1_null | exact am_c1_rf | exact am_b0 | exact am_b1 | exact RM_obj (by assumption) | (simp only [ne_eq]; done) | exact am_nz2 | exact am_nz3 | exact am_nz6 | exact am_lt (hB _ _) | exact am_lt (stF_lt hB) | exact b32_01) only [e10_0, e10_1, e10_2, e10_5, e10_6, e10_7r, e10_7n, e10_7q, e10_10, e10_11, e10_12, e10_13, e10_44, e10_45, e10_48, e10_49, e10_50, e10_53, e10_54, e10_55, e10_58, e10_59, e10_60, e10_63, e10_66, e10_67, e10_68, e10_71, e10_72, e10_74, e10_75, e10_78, d16t hi hR, Option.toList_some, List.cons_append, List.nil_append, if_neg q0, if_neg q1, if_neg q2, if_neg q3, gC0_1 hi hR, d25f hsn hx]
            exact hQ
theorem d10f {x w : Int32} (hc : (x < 0 ∨ nI 6 ≤ x) ∨ oddQ w) (hR : RC g h c X) (hQ : Q (some (.int (-1))) h) : am_R (d + 1) 10 0 [some (.ref c), some (.int x), some (.int w), none] [] h Q := by
  have ho := oA0 hR
  have out : (x < 0 ∨ nI 6 ≤ x) → am_R (d + 1) 10 0 [some (.ref c), some (.int x), some (.int w), none] [] h Q := fun hx => by
    simp (disch := first | assumption | omega | exact am_isr_ref | exact am_isr_null | exact am_isr_rf | exact am_c1_int | exact am_c1_ref | exact am_c1_null | exact am_c1_rf | exact am_b0 | exact am_b1 | exact RM_obj (by assumption) | (simp only [ne_eq]; done) | exact am_nz2 | exact am_nz3 | exact am_nz6 | exact am_lt (hB _ _) | exact am_lt (stF_lt hB) | exact b32_01) only [e10_0, e10_1, e10_2, e10_5, e10_6, e10_7r, e10_7n, e10_7q, e10_10, e10_11, e10_12, e10_13, e10_44, e10_45, e10_48, e10_49, e10_50, e10_53, e10_54, e10_55, e10_58, e10_59, e10_60, e10_63, e10_66, e10_67, e10_68, e10_71, e10_72, e10_74, e10_75, e10_78, d16f hx hR, Option.toList_some, List.cons_append, List.nil_append]
    exact hQ
  rcases pk_ix x (n := 6) (by decide) with h1 | h1 | ⟨i, hi, rfl⟩
  · exact out (Or.inl h1)
  · exact out (Or.inr h1)
  · have hw : oddQ w := by
      rcases hc with hc | hc
      · exfalso
        rcases hc with q | q
        · exact nI_pos (by omega) q
        · have := (nI_leI (by decide) (by omega)).mp q
          omega
      · exact hc
    have hsn : h.2.2 (c + 3 + 6 * i) = some (.inl (0, 3, .inl (fun p => nI (x_sn X i p)))) := kC1 hR i hi
    have q0 : ¬ w = 0 := odd_ne hw (k := 0) (by decide)
    have q1 : ¬ w = 1 := odd_ne hw (k := 1) (by decide)
    have q2 : ¬ w = 2 := odd_ne hw (k := 2) (by decide)
    have q3 : ¬ w = 3 := odd_ne hw (k := 3) (by decide)
    have hx := odd_sub (b := 10) (n := 3) hw (by decide)
    simp (disch := first | assumption | omega | exact am_isr_ref | exact am_isr_null | exact am_isr_rf | exact am_c1_int | exact am_c1_ref | exact am_c1_null | exact am_c1_rf | exact am_b0 | exact am_b1 | exact RM_obj (by assumption) | (simp only [ne_eq]; done) | exact am_nz2 | exact am_nz3 | exact am_nz6 | exact am_lt (hB _ _) | exact am_lt (stF_lt hB) | exact b32_01) only [e10_0, e10_1, e10_2, e10_5, e10_6, e10_7r, e10_7n, e10_7q, e10_10, e10_11, e10_12, e10_13, e10_44, e10_45, e10_48, e10_49, e10_50, e10_53, e10_54, e10_55, e10_58, e10_59, e10_60, e10_63, e10_66, e10_67, e10_68, e10_71, e10_72, e10_74, e10_75, e10_78, d16t hi hR, Option.toList_some, List.cons_append, List.nil_append, if_neg q0, if_neg q1, if_neg q2, if_neg q3, gC0_1 hi hR, d25f hsn hx]
    exact hQ
theorem d11 {s w : Nat} (hs : s < 6) (hw : w < 40) (hB : am_BN S.2.1) (hm : S.1 ≤ 200) (h4 : ∀ e, S.2.1 11 e < 4) (hz : ∀ n, S.1 ≤ n → n < 200 → S.2.1 11 (200 * s + n) = 0) (hR : RC g h c X) (hSS : SS c X S T K) (hQ : Q (some (.int (ansS S s w))) h) : am_R (d + 2) 11 0 [some (.ref c), some (.int (nI s)), some (.int (nI w)), none] [] h Q := by
  have ho := oA0 hR
  have hov := oV0 hs hR
  have hlen := K_len hs hSS
  obtain ⟨a1, a2, a3, a4, a5, a6, a7, a8, a9⟩ := hSS
  obtain ⟨k1, k2, k3, k4⟩ := a8 s hs
  have r1 : x_ck X s = S.2.1 10 s := congrFun a2 s
  have hkn : h.2.2 (c + 40 + 6 * s) = some (.inl (0, 3, .inl (fun p => nI (x_kn X s p)))) := kV1 hR s hs
  have hhd : h.2.2 (c + 41 + 6 * s) = some (.inl (0, 3, .inl (fun p => nI (x_hd X s p)))) := kV2 hR s hs
  have hb : ∀ e, x_sg X s e < 4 := fun e => by
    rw [a5]; unfold clF; split
    · exact h4 _
    · omega
  have hcnt : ∀ v, ¬ v = 0 → cntF (fun j => decide (x_sg X s j = v)) 200 = cntF (fun j => decide (S.2.1 11 (200 * s + j) = v)) S.1 := by
    intro v hv
    have e1 : cntF (fun j => decide (x_sg X s j = v)) 200 = cntF (fun j => decide (S.2.1 11 (200 * s + j) = v)) 200 := by
      refine cntF_congr 200 (fun j hj => ?_)
      rw [a5, cl_at hj]
    rw [e1]
    have e2 : ∀ t, S.1 + t ≤ 200 → cntF (fun j => decide (S.2.1 11 (200 * s + j) = v)) (S.1 + t) = cntF (fun j => decide (S.2.1 11 (200 * s + j) = v)) S.1 := by
      intro t
      induction t with
      | zero => intro _; rfl
      | succ t ih =>
        intro ht
        rw [show S.1 + (t + 1) = (S.1 + t) + 1 by omega, cntF, ih (by omega), hz (S.1 + t) (by omega) (by omega), if_neg]
        · rfl
        · simp only [decide_eq_true_eq]; omega
    have := e2 (200 - S.1) (by omega)
    rw [show S.1 + (200 - S.1) = 200 by omega] at this
    exact this
  have n10 : ¬ nI 0 = nI 1 := by decide
  unfold ansS at hQ
  by_cases g3 : 30 ≤ w ∧ w < 33
  · rw [if_neg (by omega), if_neg (by omega), if_pos g3] at hQ
    have ep : nI w - nI 30 = nI (w - 30) := pk_sub g3.1
    have hp3 : w - 30 < 3 := by omega
    have e1 : x_kn X s (w - 30) = S.2.1 13 (3 * s + (w - 30)) := by rw [a3]; exact cl_at hp3
    have e2 : x_hd X s (w - 30) = S.2.1 14 (3 * s + (w - 30)) := by rw [a4]; exact cl_at hp3
    have f1 : x_kn X s (w - 30) < 1000000 := by rw [e1]; exact hB _ _
    have f2 : x_hd X s (w - 30) < 1000000 := by rw [e2]; exact hB _ _
    simp (disch := first | assumption | omega | exact am_isr_ref | exact am_isr_null | exact am_isr_rf | exact am_c1_int | exact am_c1_ref | exact am_c1_null | exact am_c1_rf | exact am_b0 | exact am_b1 | exact RM_obj (by assumption) | (simp only [ne_eq]; done) | exact am_nz2 | exact am_nz3 | exact am_nz6 | exact am_lt (hB _ _) | exact am_lt (stF_lt hB) | exact b32_01) only [e11_0, e11_1, e11_2, e11_5, e11_6, e11_7r, e11_7n, e11_7q, e11_10, e11_11, e11_12, e11_13, e11_15, e11_16, e11_19, e11_22, e11_23, e11_24, e11_26, e11_27, e11_30, d18t hs hR, ep, d21t hp3, d46 hs hp3 hR f1 f2, Option.toList_some, List.cons_append, List.nil_append, if_neg (show ¬ nI 1 = 0 by decide)]
    rw [e1, e2]
    exact hQ
  · have hx3 := in_sub (b := 30) (n := 3) hw (by decide) (by decide) g3
    by_cases g2 : 20 ≤ w ∧ w < 23
    · rw [if_neg (by omega), if_pos g2] at hQ
      have ep : nI w - nI 20 = nI (w - 20) := pk_sub g2.1
      have hp3 : w - 20 < 3 := by omega
      have e2 : x_hd X s (w - 20) = S.2.1 14 (3 * s + (w - 20)) := by rw [a4]; exact cl_at hp3
      simp (disch := first | assumption | omega | exact am_isr_ref | exact am_isr_null | exact am_isr_rf | exact am_c1_int | exact am_c1_ref | exact am_c1_null | exact am_c1_rf | exact am_b0 | exact am_b1 | exact RM_obj (by assumption) | (simp only [ne_eq]; done) | exact am_nz2 | exact am_nz3 | exact am_nz6 | exact am_lt (hB _ _) | exact am_lt (stF_lt hB) | exact b32_01) only [e11_0, e11_1, e11_2, e11_5, e11_6, e11_7r, e11_7n, e11_7q, e11_10, e11_11, e11_12, e11_13, e11_15, e11_16, e11_19, e11_22, e11_23, e11_24, e11_26, e11_27, e11_30, e11_31, e11_32, e11_34, e11_35, e11_38, e11_41, e11_42, e11_45, e11_46, e11_48, e11_49, e11_52, d18t hs hR, ep, d21t hp3, d21f hx3, d25t hhd (by decide) hp3, gV0_3 hs hR, Option.toList_some, List.cons_append, List.nil_append, if_neg (show ¬ nI 1 = 0 by decide), if_pos (show nI 0 = 0 by decide)]
      rw [e2]
      exact hQ
    · have hx2 := in_sub (b := 20) (n := 3) hw (by decide) (by decide) g2
      by_cases g0 : w = 0
      · subst g0
        rw [if_neg (by omega), if_neg g2, if_neg g3, if_pos rfl] at hQ
        simp (disch := first | assumption | omega | exact am_isr_ref | exact am_isr_null | exact am_isr_rf | exact am_c1_int | exact am_c1_ref | exact am_c1_null | exact am_c1_rf | exact am_b0 | exact am_b1 | exact RM_obj (by assumption) | (simp only [ne_eq]; done) | exact am_nz2 | exact am_nz3 | exact am_nz6 | exact am_lt (hB _ _) | exact am_lt (stF_lt hB) | exact b32_01) only [e11_0, e11_1, e11_2, e11_5, e11_6, e11_7r, e11_7n, e11_7q, e11_10, e11_11, e11_12, e11_13, e11_15, e11_16, e11_19, e11_22, e11_23, e11_24, e11_26, e11_27, e11_30, e11_31, e11_32, e11_34, e11_35, e11_38, e11_41, e11_42, e11_45, e11_46, e11_48, e11_49, e11_52, e11_53, e11_54, e11_84, e11_85, e11_88, e11_89, e11_90, e11_91, e11_94, e11_95, e11_96, e11_97, e11_100, e11_101, e11_102, e11_105, e11_106, e11_107, e11_110, e11_111, e11_113, e11_114, e11_117, d18t hs hR, d21f hx3, d21f hx2, gV0_8 hs hR, r1, Option.toList_some, List.cons_append, List.nil_append, if_pos (show nI 0 = 0 by decide)]
        exact hQ
      · have q0 : ¬ nI w = 0 := n_ne hw (by decide) g0
        by_cases g1 : w = 1
        · subst g1
          rw [if_neg (by omega), if_neg g2, if_neg g3, if_neg g0, if_pos rfl] at hQ
          simp (disch := first | assumption | omega | exact am_isr_ref | exact am_isr_null | exact am_isr_rf | exact am_c1_int | exact am_c1_ref | exact am_c1_null | exact am_c1_rf | exact am_b0 | exact am_b1 | exact RM_obj (by assumption) | (simp only [ne_eq]; done) | exact am_nz2 | exact am_nz3 | exact am_nz6 | exact am_lt (hB _ _) | exact am_lt (stF_lt hB) | exact b32_01) only [e11_0, e11_1, e11_2, e11_5, e11_6, e11_7r, e11_7n, e11_7q, e11_10, e11_11, e11_12, e11_13, e11_15, e11_16, e11_19, e11_22, e11_23, e11_24, e11_26, e11_27, e11_30, e11_31, e11_32, e11_34, e11_35, e11_38, e11_41, e11_42, e11_45, e11_46, e11_48, e11_49, e11_52, e11_53, e11_54, e11_84, e11_85, e11_88, e11_89, e11_90, e11_91, e11_94, e11_95, e11_96, e11_97, e11_100, e11_101, e11_102, e11_105, e11_106, e11_107, e11_110, e11_111, e11_113, e11_114, e11_117, d18t hs hR, d21f hx3, d21f hx2, d51 hs (show 1 < 4 by decide) hR hb, hcnt 1 (by decide), Option.toList_some, List.cons_append, List.nil_append, if_pos (show nI 0 = 0 by decide), if_neg q0, if_pos (show nI 1 = 1 by decide)]
          exact hQ
        · have q1 : ¬ nI w = 1 := n_ne hw (by decide) g1
          by_cases gg2 : w = 2
          · subst gg2
            rw [if_neg (by omega), if_neg g2, if_neg g3, if_neg g0, if_neg g1, if_pos rfl] at hQ
            simp (disch := first | assumption | omega | exact am_isr_ref | exact am_isr_null | exact am_isr_rf | exact am_c1_int | exact am_c1_ref | exact am_c1_null | exact am_c1_rf | exact am_b0 | exact am_b1 | exact RM_obj (by assumption) | (simp only [ne_eq]; done) | exact am_nz2 | exact am_nz3 | exact am_nz6 | exact am_lt (hB _ _) | exact am_lt (stF_lt hB) | exact b32_01) only [e11_0, e11_1, e11_2, e11_5, e11_6, e11_7r, e11_7n, e11_7q, e11_10, e11_11, e11_12, e11_13, e11_15, e11_16, e11_19, e11_22, e11_23, e11_24, e11_26, e11_27, e11_30, e11_31, e11_32, e11_34, e11_35, e11_38, e11_41, e11_42, e11_45, e11_46, e11_48, e11_49, e11_52, e11_53, e11_54, e11_84, e11_85, e11_88, e11_89, e11_90, e11_91, e11_94, e11_95, e11_96, e11_97, e11_100, e11_101, e11_102, e11_105, e11_106, e11_107, e11_110, e11_111, e11_113, e11_114, e11_117, d18t hs hR, d21f hx3, d21f hx2, d51 hs (show 2 < 4 by decide) hR hb, hcnt 2 (by decide), Option.toList_some, List.cons_append, List.nil_append, if_pos (show nI 0 = 0 by decide), if_neg q0, if_neg q1, if_pos (show nI 2 = 2 by decide)]
            exact hQ
          · have q2 : ¬ nI w = 2 := n_ne hw (by decide) gg2
            by_cases gg3 : w = 3
            · subst gg3
              rw [if_neg (by omega), if_neg g2, if_neg g3, if_neg g0, if_neg g1, if_neg gg2, if_pos rfl] at hQ
              have e : x_kc X s = cntF (fun j => decide (S.2.1 11 (200 * s + j) = 3)) S.1 := by
                rw [k1]
                have e := cnt_list (f := fun _ => true) (K s) S.1 (nw_nd k3) (fun a ha => ((k4 a).mp ha).1)
                rw [List.countP_eq_length.mpr (fun a _ => rfl)] at e
                rw [← e]
                refine cntF_congr S.1 (fun j hj => ?_)
                rw [Bool.and_true]
                exact decide_eq_decide.mpr ((k4 j).trans ⟨fun w => w.2, fun w => ⟨hj, w⟩⟩)
              simp (disch := first | assumption | omega | exact am_isr_ref | exact am_isr_null | exact am_isr_rf | exact am_c1_int | exact am_c1_ref | exact am_c1_null | exact am_c1_rf | exact am_b0 | exact am_b1 | exact RM_obj (by assumption) | (simp only [ne_eq]; done) | exact am_nz2 | exact am_nz3 | exact am_nz6 | exact am_lt (hB _ _) | exact am_lt (stF_lt hB) | exact b32_01) only [e11_0, e11_1, e11_2, e11_5, e11_6, e11_7r, e11_7n, e11_7q, e11_10, e11_11, e11_12, e11_13, e11_15, e11_16, e11_19, e11_22, e11_23, e11_24, e11_26, e11_27, e11_30, e11_31, e11_32, e11_34, e11_35, e11_38, e11_41, e11_42, e11_45, e11_46, e11_48, e11_49, e11_52, e11_53, e11_54, e11_84, e11_85, e11_88, e11_89, e11_90, e11_91, e11_94, e11_95, e11_96, e11_97, e11_100, e11_101, e11_102, e11_105, e11_106, e11_107, e11_110, e11_111, e11_113, e11_114, e11_117, d18t hs hR, d21f hx3, d21f hx2, gV0_7 hs hR, e, Option.toList_some, List.cons_append, List.nil_append, if_pos (show nI 0 = 0 by decide), if_neg q0, if_neg q1, if_neg q2, if_pos (show nI 3 = 3 by decide)]
              exact hQ
            · have q3 : ¬ nI w = 3 := n_ne hw (by decide) gg3
              by_cases h4 : 10 ≤ w ∧ w < 13
              · rw [if_pos h4] at hQ
                have ep : nI w - nI 10 = nI (w - 10) := pk_sub h4.1
                have hp3 : w - 10 < 3 := by omega
                have e1 : x_kn X s (w - 10) = S.2.1 13 (3 * s + (w - 10)) := by rw [a3]; exact cl_at hp3
                simp (disch := first | assumption | omega | exact am_isr_ref | exact am_isr_null | exact am_isr_rf | exact am_c1_int | exact am_c1_ref | exact am_c1_null | exact am_c1_rf | exact am_b0 | exact am_b1 | exact RM_obj (by assumption) | (simp only [ne_eq]; done) | exact am_nz2 | exact am_nz3 | exact am_nz6 | exact am_lt (hB _ _) | exact am_lt (stF_lt hB) | exact b32_01) only [e11_0, e11_1, e11_2, e11_5, e11_6, e11_7r, e11_7n, e11_7q, e11_10, e11_11, e11_12, e11_13, e11_15, e11_16, e11_19, e11_22, e11_23, e11_24, e11_26, e11_27, e11_30, e11_31, e11_32, e11_34, e11_35, e11_38, e11_41, e11_42, e11_45, e11_46, e11_48, e11_49, e11_52, e11_53, e11_54, e11_84, e11_85, e11_88, e11_89, e11_90, e11_91, e11_94, e11_95, e11_96, e11_97, e11_100, e11_101, e11_102, e11_105, e11_106, e11_107, e11_110, e11_111, e11_113, e11_114, e11_117, d18t hs hR, d21f hx3, d21f hx2, ep, d25t hkn (by decide) hp3, gV0_2 hs hR, Option.toList_some, List.cons_append, List.nil_append, if_pos (show nI 0 = 0 by decide), if_neg q0, if_neg q1, if_neg q2, if_neg q3]
                rw [e1]
                exact hQ
              · rw [if_neg h4, if_neg g2, if_neg g3, if_neg g0, if_neg g1, if_neg gg2, if_neg gg3] at hQ
                have hx := in_sub (b := 10) (n := 3) hw (by decide) (by decide) h4
                simp (disch := first | assumption | omega | exact am_isr_ref | exact am_isr_null | exact am_isr_rf | exact am_c1_int | exact am_c1_ref | exact am_c1_null | exact am_c1_rf | exact am_b0 | exact am_b1 | exact RM_obj (by assumption) | (simp only [ne_eq]; done) | exact am_nz2 | exact am_nz3 | exact am_nz6 | exact am_lt (hB _ _) | exact am_lt (stF_lt hB) | exact b32_01) only [e11_0, e11_1, e11_2, e11_5, e11_6, e11_7r, e11_7n, e11_7q, e11_10, e11_11, e11_12, e11_13, e11_15, e11_16, e11_19, e11_22, e11_23, e11_24, e11_26, e11_27, e11_30, e11_31, e11_32, e11_34, e11_35, e11_38, e11_41, e11_42, e11_45, e11_46, e11_48, e11_49, e11_52, e11_53, e11_54, e11_84, e11_85, e11_88, e11_89, e11_90, e11_91, e11_94, e11_95, e11_96, e11_97, e11_100, e11_101, e11_102, e11_105, e11_106, e11_107, e11_110, e11_111, e11_113, e11_114, e11_117, d18t hs hR, d21f hx3, d21f hx2, d25f hkn hx, gV0_2 hs hR, Option.toList_some, List.cons_append, List.nil_append, if_pos (show nI 0 = 0 by decide), if_neg q0, if_neg q1, if_neg q2, if_neg q3]
                exact hQ
theorem d11f {x w : Int32} (hc : (x < 0 ∨ nI 6 ≤ x) ∨ oddQ w) (hR : RC g h c X) (hQ : Q (some (.int (-1))) h) : am_R (d + 2) 11 0 [some (.ref c), some (.int x), some (.int w), none] [] h Q := by
  have ho := oA0 hR
  have out : (x < 0 ∨ nI 6 ≤ x) → am_R (d + 2) 11 0 [some (.ref c), some (.int x), some (.int w), none] [] h Q := fun hx => by
    simp (disch := first | assumption | omega | exact am_isr_ref | exact am_isr_null | exact am_isr_rf | exact am_c1_int | exact am_c1_ref | exact am_c1_null | exact am_c1_rf | exact am_b0 | exact am_b1 | exact RM_obj (by assumption) | (simp only [ne_eq]; done) | exact am_nz2 | exact am_nz3 | exact am_nz6 | exact am_lt (hB _ _) | exact am_lt (stF_lt hB) | exact b32_01) only [e11_0, e11_1, e11_2, e11_5, e11_6, e11_7r, e11_7n, e11_7q, e11_10, e11_11, d18f hx hR, Option.toList_some, List.cons_append, List.nil_append]
    exact hQ
  rcases pk_ix x (n := 6) (by decide) with h1 | h1 | ⟨s, hs, rfl⟩
  · exact out (Or.inl h1)
  · exact out (Or.inr h1)
  · have hw : oddQ w := by
      rcases hc with hc | hc
      · exfalso
        rcases hc with q | q
        · exact nI_pos (by omega) q
        · have := (nI_leI (by decide) (by omega)).mp q
          omega
      · exact hc
    have hkn : h.2.2 (c + 40 + 6 * s) = some (.inl (0, 3, .inl (fun p => nI (x_kn X s p)))) := kV1 hR s hs
    have q0 : ¬ w = 0 := odd_ne hw (k := 0) (by decide)
    have q1 : ¬ w = 1 := odd_ne hw (k := 1) (by decide)
    have q2 : ¬ w = 2 := odd_ne hw (k := 2) (by decide)
    have q3 : ¬ w = 3 := odd_ne hw (k := 3) (by decide)
    have hx := odd_sub (b := 10) (n := 3) hw (by decide)
    have hx2 := odd_sub (b := 20) (n := 3) hw (by decide)
    have hx3 := odd_sub (b := 30) (n := 3) hw (by decide)
    simp (disch := first | assumption | omega | exact am_isr_ref | exact am_isr_null | exact am_isr_rf | exact am_c1_int | exact am_c1_ref | exact am_c1_null | exact am_c1_rf | exact am_b0 | exact am_b1 | exact RM_obj (by assumption) | (simp only [ne_eq]; done) | exact am_nz2 | exact am_nz3 | exact am_nz6 | exact am_lt (hB _ _) | exact am_lt (stF_lt hB) | exact b32_01) only [e11_0, e11_1, e11_2, e11_5, e11_6, e11_7r, e11_7n, e11_7q, e11_10, e11_11, e11_12, e11_13, e11_15, e11_16, e11_19, e11_22, e11_23, e11_24, e11_26, e11_27, e11_30, e11_31, e11_32, e11_34, e11_35, e11_38, e11_41, e11_42, e11_45, e11_46, e11_48, e11_49, e11_52, e11_53, e11_54, e11_84, e11_85, e11_88, e11_89, e11_90, e11_91, e11_94, e11_95, e11_96, e11_97, e11_100, e11_101, e11_102, e11_105, e11_106, e11_107, e11_110, e11_111, e11_113, e11_114, e11_117, d18t hs hR, d21f hx3, d21f hx2, d25f hkn hx, gV0_2 hs hR, Option.toList_some, List.cons_append, List.nil_append, if_pos (show nI 0 = 0 by decide), if_neg q0, if_neg q1, if_neg q2, if_neg q3]
    exact hQ
end AN
