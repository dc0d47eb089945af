/-! start, write, abort -/
section PB
variable {d : Nat} {g : Nat → Option aE} {c : Nat} {X : aX} {Q : Option Value → aH → Prop} {S : aSt} {T : Nat → Nat} {K : Nat → List Nat} {LL : List aLm} {tg : Nat → Nat} {h : aH}
abbrev fo1 (N : Nat → Nat → Nat) (i : Nat) (o : Option Nat) : Option Nat := match o with
  | none => none
  | some n => if snF N n i then none else some n
theorem fgF_is {i : Nat} : ∀ t k (S : aSt), (fgF i t k S).1 = S.1 ∧ (fgF i t k S).2.1 = S.2.1 ∧ (fgF i t k S).2.2.1 = S.2.2.1 ∧ (fgF i t k S).2.2.2.2 = S.2.2.2.2 ∧ ∀ e, (fgF i t k S).2.2.2.1 e = if 8 * i + k ≤ e ∧ e < 8 * i + k + t then fo1 S.2.1 i (S.2.2.2.1 e) else S.2.2.2.1 e := by
  intro t
  induction t with
  | zero => intro k S; exact ⟨rfl, rfl, rfl, rfl, fun e => by rw [if_neg (by omega)]; rfl⟩
  | succ t ih =>
    intro k S
    rw [fgF]
    have key : ∀ S2 : aSt, S2.1 = S.1 → S2.2.1 = S.2.1 → S2.2.2.1 = S.2.2.1 → S2.2.2.2.2 = S.2.2.2.2 → (∀ e, S2.2.2.2.1 e = if e = 8 * i + k then fo1 S.2.1 i (S.2.2.2.1 e) else S.2.2.2.1 e) → (fgF i t (k + 1) S2).1 = S.1 ∧ (fgF i t (k + 1) S2).2.1 = S.2.1 ∧ (fgF i t (k + 1) S2).2.2.1 = S.2.2.1 ∧ (fgF i t (k + 1) S2).2.2.2.2 = S.2.2.2.2 ∧ ∀ e, (fgF i t (k + 1) S2).2.2.2.1 e = if 8 * i + k ≤ e ∧ e < 8 * i + k + (t + 1) then fo1 S.2.1 i (S.2.2.2.1 e) else S.2.2.2.1 e := by
      intro S2 e1 e2 e3 e4 e5
      obtain ⟨i1, i2, i3, i4, i5⟩ := ih (k + 1) S2
      refine ⟨i1.trans e1, i2.trans e2, i3.trans e3, i4.trans e4, fun e => ?_⟩
      rw [i5, e2, e5]
      by_cases q : e = 8 * i + k
      · rw [if_neg (by omega), if_pos q, if_pos (by omega)]
      · rw [if_neg q]
        by_cases q2 : 8 * i + (k + 1) ≤ e ∧ e < 8 * i + (k + 1) + t
        · rw [if_pos q2, if_pos (by omega)]
        · rw [if_neg q2, if_neg (by omega)]
    cases ho : S.2.2.2.1 (8 * i + k) with
    | none =>
      refine key S rfl rfl rfl rfl (fun e => ?_)
      by_cases q : e = 8 * i + k
      · rw [if_pos q, q, ho]
      · rw [if_neg q]
    | some n =>
      simp only []
      by_cases hs : snF S.2.1 n i
      · rw [if_pos hs]
        refine key (setO S (8 * i + k) none) rfl rfl rfl rfl (fun e => ?_)
        by_cases q : e = 8 * i + k
        · rw [if_pos q, q, ho]
          simp only [fo1, if_pos hs]
          exact vu_s
        · rw [if_neg q]
          exact vu_n q
      · rw [if_neg hs]
        refine key S rfl rfl rfl rfl (fun e => ?_)
        by_cases q : e = 8 * i + k
        · rw [if_pos q, q, ho]
          simp only [fo1, if_neg hs]
        · rw [if_neg q]
theorem seF_is {i : Nat} : (seF i 3 0 S).1 = S.1 ∧ (seF i 3 0 S).2.2 = S.2.2 ∧ (∀ k, ¬ k = 17 → (seF i 3 0 S).2.1 k = S.2.1 k) ∧ (seF i 3 0 S).2.1 17 = va_up (va_up (va_up (S.2.1 17) (3 * i) (max (S.2.1 17 (3 * i)) (min (S.2.1 13 (3 * (2 * (i % 3)))) (S.2.1 14 (3 * (2 * (i % 3))))))) (3 * i + 1) (max (S.2.1 17 (3 * i + 1)) (min (S.2.1 13 (3 * (2 * (i % 3)) + 1)) (S.2.1 14 (3 * (2 * (i % 3)) + 1))))) (3 * i + 2) (max (S.2.1 17 (3 * i + 2)) (min (S.2.1 13 (3 * (2 * (i % 3)) + 2)) (S.2.1 14 (3 * (2 * (i % 3)) + 2)))) := by
  refine ⟨rfl, rfl, fun k hk => ?_, ?_⟩
  · simp only [seF]
    rw [sN_n hk, sN_n hk, sN_n hk]
  · simp only [seF]
    rw [sN_s]
    simp only [sN_s, sN_n (show ¬ 13 = 17 by decide), sN_n (show ¬ 14 = 17 by decide)]
    rw [vu_n (show ¬ 3 * i + (0 + 1) = 3 * i + 0 by omega), vu_n (show ¬ 3 * i + (0 + 1 + 1) = 3 * i + (0 + 1) by omega), vu_n (show ¬ 3 * i + (0 + 1 + 1) = 3 * i + 0 by omega)]
    rfl
theorem d2 {i : Nat} (hi : i < 6) (hm : S.1 ≤ 200) (hB : am_BN S.2.1) (h97 : ∀ n, n < S.1 → S.2.1 8 n = 1 → S.2.1 9 n = S.2.1 7 n) (hO : ∀ k n, k < 8 → S.2.2.2.1 (8 * i + k) = some n → n < S.1) (h19 : ¬ S.2.1 15 i = 1 → S.2.1 19 i = 0) (h15 : S.2.1 15 i < 3) (hR : RC g h c X) (hSS : SS c X S T K) (hSC : SC X S T) (hSL : SL X S.2.2.2.2 LL tg) (hQ : OutQ g c T h X (if S.2.1 15 i = 0 then startF S i else S) (fun h1 => Q (some (.int (if S.2.1 15 i = 0 then nI 1 else nI 0))) h1)) : am_R (d + 4) 2 0 [some (.ref c), some (.int (nI i)), none, none] [] h Q := by
  have ho := oA0 hR
  have hoc := oC0 hi hR
  have hdg : x_dg X i = S.2.1 15 i := congrFun hSC.1 i
  simp (disch := first | assumption | omega | exact am_isr_ref | exact am_isr_null | exact am_isr_rf | exact am_c1_int | exact am_c1_ref | exact am_c1_null | exact am_c1_rf | exact am_b0 | exact am_b1 | exact RM_obj (by assumption) | (simp only [ne_eq]; done) | exact am_nz2 | exact am_nz3 | exact am_nz6 | exact am_lt (hB _ _) | exact am_lt (stF_lt hB) | exact b32_01) only [e2_0, e2_1, e2_2, e2_5, e2_6, e2_7r, e2_7n, e2_7q, e2_10, e2_11, e2_12, e2_13, d16t hi hR, gC0_4 hi hR, hdg, Option.toList_some, List.cons_append, List.nil_append]
  rw [e2_16]
  by_cases hid : S.2.1 15 i = 0
  · rw [if_pos hid, if_pos hid] at hQ
    rw [hid, if_pos (show nI 0 = 0 by decide)]
    have hs : i % 3 * 2 < 6 := by omega
    have hs2 : i % 3 * 2 = 2 * (i % 3) := by omega
    have c3 : ∀ (f : Nat → Nat), (∀ e, f e < 1000000) → ∀ j p, clF 3 f j p < 1000000 := fun f hf j p => by
      unfold clF; split
      · exact hf _
      · decide
    have bsn : ∀ j p, x_sn X j p < 1000000 := fun j p => by rw [hSC.2.2.2.1]; exact c3 _ (hB 17) j p
    have bkn : ∀ j p, x_kn X j p < 1000000 := fun j p => by rw [hSS.2.2.1]; exact c3 _ (hB 13) j p
    have bhd : ∀ j p, x_hd X j p < 1000000 := fun j p => by rw [hSS.2.2.2.1]; exact c3 _ (hB 14) j p
    simp (disch := first | assumption | omega | exact am_isr_ref | exact am_isr_null | exact am_isr_rf | exact am_c1_int | exact am_c1_ref | exact am_c1_null | exact am_c1_rf | exact am_b0 | exact am_b1 | exact RM_obj (by assumption) | (simp only [ne_eq]; done) | exact am_nz2 | exact am_nz3 | exact am_nz6 | exact am_lt (hB _ _) | exact am_lt (stF_lt hB) | exact b32_01) only [e2_21, e2_22, e2_23, e2_26, e2_29, e2_32, e2_33, e2_34r, e2_34n, e2_34q, e2_37, e2_38, e2_39, gC0_0 hi hR, d23, d18t hs hR, Option.toList_some, List.cons_append, List.nil_append]
    refine d34 hi hs bsn bkn bhd hR (fun h1 g1 g2 hR1 => ?_)
    generalize hS2 : seF i 3 0 (setN (setN S 15 i 1) 19 i 0) = S2
    have e2 := seF_is (S := setN (setN S 15 i 1) 19 i 0) (i := i)
    rw [hS2] at e2
    obtain ⟨q1, q2, q3, q4⟩ := e2
    have n17 : (setN (setN S 15 i 1) 19 i 0).2.1 17 = S.2.1 17 := by rw [sN_n (by decide), sN_n (by decide)]
    have n13 : (setN (setN S 15 i 1) 19 i 0).2.1 13 = S.2.1 13 := by rw [sN_n (by decide), sN_n (by decide)]
    have n14 : (setN (setN S 15 i 1) 19 i 0).2.1 14 = S.2.1 14 := by rw [sN_n (by decide), sN_n (by decide)]
    have esn : va_up (x_sn X) i (thF 3 (fun p => max (x_sn X i p) (min (x_kn X (i % 3 * 2) p) (x_hd X (i % 3 * 2) p))) (x_sn X i)) = clF 3 (S2.2.1 17) := by
      rw [q4, n17, n13, n14, hSC.2.2.2.1, hSS.2.2.1, hSS.2.2.2.1]
      refine th3_cl ?_ ?_ ?_
      · simp only [cl_at (show 0 < 3 by decide), hs2, Nat.add_zero]
      · simp only [cl_at (show 1 < 3 by decide), hs2]
      · simp only [cl_at (show 2 < 3 by decide), hs2]
    rw [esn] at hR1
    have e19 : S2.2.1 19 = S.2.1 19 := by
      rw [q3 19 (by decide), sN_s, sN_n (by decide), ← h19 (by omega), vu_i]
    have e15 : S2.2.1 15 = va_up (S.2.1 15) i 1 := by
      rw [q3 15 (by decide), sN_n (by decide), sN_s]
    have ek : ∀ k, ¬ k = 15 → ¬ k = 17 → ¬ k = 19 → S2.2.1 k = S.2.1 k := fun k a b e => by
      rw [q3 k b, sN_n e, sN_n a]
    have eV : S2.2.2.1 = S.2.2.1 := congrArg (fun z => z.1) q2
    have eO : S2.2.2.2.1 = S.2.2.2.1 := congrArg (fun z => z.2.1) q2
    have eL : S2.2.2.2.2 = S.2.2.2.2 := congrArg (fun z => z.2.2) q2
    have hS2s : SS c (xs_sn X (clF 3 (S2.2.1 17))) S2 T K := SS_cg (S := S) q1 (fun k a1 a2 a3 a4 a5 a6 => ek k a3 a5 a6) (by rw [eV]) hSS
    have hB2 : am_BN S2.2.1 := fun k e => by
      by_cases k17 : k = 17
      · subst k17
        rw [q4, n17, n13, n14]
        have b1 := hB 17 (3 * i)
        have b2 := hB 17 (3 * i + 1)
        have b3 := hB 17 (3 * i + 2)
        have b4 := hB 13 (3 * (2 * (i % 3)))
        have b5 := hB 13 (3 * (2 * (i % 3)) + 1)
        have b6 := hB 13 (3 * (2 * (i % 3)) + 2)
        have b7 := hB 17 e
        unfold va_up
        split
        · omega
        · split
          · omega
          · split
            · omega
            · exact b7
      · by_cases k19 : k = 19
        · rw [k19, e19]; exact hB _ _
        · by_cases k15 : k = 15
          · rw [k15, e15]
            unfold va_up
            split
            · omega
            · exact hB _ _
          · rw [ek k k15 k17 k19]; exact hB _ _
    have h97' : ∀ n, n < S.1 → S2.2.1 8 n = 1 → S2.2.1 9 n = S2.2.1 7 n := fun n hn => by
      rw [ek 8 (by decide) (by decide) (by decide), ek 9 (by decide) (by decide) (by decide), ek 7 (by decide) (by decide) (by decide)]
      exact h97 n hn
    have hoc1 := oC0 hi hR1
    simp (disch := first | assumption | omega | exact am_isr_ref | exact am_isr_null | exact am_isr_rf | exact am_c1_int | exact am_c1_ref | exact am_c1_null | exact am_c1_rf | exact am_b0 | exact am_b1 | exact RM_obj (by assumption) | (simp only [ne_eq]; done) | exact am_nz2 | exact am_nz3 | exact am_nz6 | exact am_lt (hB _ _) | exact am_lt (stF_lt hB) | exact b32_01) only [e2_42, e2_43, Option.toList_none, List.nil_append]
    refine d35 (N := S2.2.1) (V := S2.2.2.1) (T := T) (O := fun k => if k < 8 then S.2.2.2.1 (8 * i + k) else none) hi hB2 (c3 _ (hB2 17) i) (fun k => by
      show x_ow X i k = _
      rw [hSC.2.2.2.2.1]
      by_cases hk : k < 8
      · simp [hi, hk]
      · simp [hk]) (fun k n hk => ?_) hR1 (fun h2 g3 g4 hR2 => ?_)
    · by_cases hk8 : k < 8
      · rw [if_pos hk8] at hk
        exact (hS2s.2.2.2.2.2.2.2.2 n (by rw [q1]; exact hO k n hk8 hk)).2
      · rw [if_neg hk8] at hk
        cases hk
    · simp (disch := first | assumption | omega | exact am_isr_ref | exact am_isr_null | exact am_isr_rf | exact am_c1_int | exact am_c1_ref | exact am_c1_null | exact am_c1_rf | exact am_b0 | exact am_b1 | exact RM_obj (by assumption) | (simp only [ne_eq]; done) | exact am_nz2 | exact am_nz3 | exact am_nz6 | exact am_lt (hB _ _) | exact am_lt (stF_lt hB) | exact b32_01) only [e2_46, e2_47, e2_48, Option.toList_none, List.nil_append]
      refine pC0_dg (v := 1) hi hR2 (fun h3 g5 g6 hR3 => ?_)
      simp (disch := first | assumption | omega | exact am_isr_ref | exact am_isr_null | exact am_isr_rf | exact am_c1_int | exact am_c1_ref | exact am_c1_null | exact am_c1_rf | exact am_b0 | exact am_b1 | exact RM_obj (by assumption) | (simp only [ne_eq]; done) | exact am_nz2 | exact am_nz3 | exact am_nz6 | exact am_lt (hB _ _) | exact am_lt (stF_lt hB) | exact b32_01) only [e2_51, e2_52]
      obtain ⟨f1, f2, f3, f4, f5⟩ := fgF_is (i := i) 8 0 S2
      have est : startF S i = fgF i 8 0 S2 := by unfold startF; rw [hS2]
      refine hQ h3 _ K LL tg (by omega) (by omega) (by omega) hR3 ?_ ?_ ?_ Xm_rf
      · rw [est]
        exact SS_cg (S := S2) f1 (fun k _ _ _ _ _ _ => by rw [f2]) (by rw [f3]) hS2s
      · rw [est]
        refine ⟨?_, ?_, ?_, ?_, ?_, ?_, ?_⟩
        · rw [f2, e15, ← hSC.1]
        · rw [f2, ek 16 (by decide) (by decide) (by decide)]; exact hSC.2.1
        · rw [f3, eV]; exact hSC.2.2.1
        · rw [f2]
        · show va_up (x_ow X) i (thF 8 (fun k => (foO S2.2.1 (clF 3 (S2.2.1 17) i) (if k < 8 then S.2.2.2.1 (8 * i + k) else none)).map T) (x_ow X i)) = _
          funext j k
          rw [f5, eO]
          by_cases hj : j = i
          · subst hj
            rw [vu_s]
            unfold thF
            by_cases hk : k < 8
            · rw [if_pos hk, if_pos (show j < 6 ∧ k < 8 from ⟨hi, hk⟩), if_pos (by omega)]
              simp only [if_pos hk]
              cases hok : S.2.2.2.1 (8 * j + k) with
              | none => rfl
              | some n =>
                have hup := sn_up (N := S2.2.1) (n := n) (i := j) (h97' n (hO k n hk hok))
                simp only [foO, fo1]
                by_cases hs : snF S2.2.1 n j
                · rw [if_pos hs, if_pos (hup.mpr hs)]
                · rw [if_neg hs, if_neg (fun q => hs (hup.mp q))]
            · rw [if_neg hk, if_neg (show ¬ (j < 6 ∧ k < 8) from fun w => hk w.2), hSC.2.2.2.2.1]
              simp only [if_neg (show ¬ (j < 6 ∧ k < 8) from fun w => hk w.2)]
          · rw [vu_n hj, hSC.2.2.2.2.1]
            by_cases hk : j < 6 ∧ k < 8
            · simp only [if_pos hk]
              rw [if_neg (by omega)]
            · simp only [if_neg hk]
        · rw [f2, e19]; exact hSC.2.2.2.2.2.1
        · rw [f2, f3, e19, eV]; exact hSC.2.2.2.2.2.2
      · rw [est, f4, eL]
        exact SL_cg rfl rfl rfl (fun b e q _ => q) hSL
  · rw [if_neg hid, if_neg hid] at hQ
    rw [if_neg (show ¬ nI (S.2.1 15 i) = 0 from fun q => hid ((nI_eq (b := 0) (by omega) (by decide)).mp q))]
    simp (disch := first | assumption | omega | exact am_isr_ref | exact am_isr_null | exact am_isr_rf | exact am_c1_int | exact am_c1_ref | exact am_c1_null | exact am_c1_rf | exact am_b0 | exact am_b1 | exact RM_obj (by assumption) | (simp only [ne_eq]; done) | exact am_nz2 | exact am_nz3 | exact am_nz6 | exact am_lt (hB _ _) | exact am_lt (stF_lt hB) | exact b32_01) only [e2_19, e2_20]
    exact hQ h X K LL tg (by omega) (by omega) (by omega) hR hSS hSC hSL Xm_rf
theorem d2f {x : Int32} (hx : x < 0 ∨ nI 6 ≤ x) (hR : RC g h c X) (hQ : Q (some (.int (-1))) h) : am_R (d + 4) 2 0 [some (.ref c), some (.int x), none, none] [] h Q := by
  have ho := oA0 hR
  simp (disch := first | assumption | omega | exact am_isr_ref | exact am_isr_null | exact am_isr_rf | exact am_c1_int | exact am_c1_ref | exact am_c1_null | exact am_c1_rf | exact am_b0 | exact am_b1 | exact RM_obj (by assumption) | (simp only [ne_eq]; done) | exact am_nz2 | exact am_nz3 | exact am_nz6 | exact am_lt (hB _ _) | exact am_lt (stF_lt hB) | exact b32_01) only [e2_0, e2_1, e2_2, e2_5, e2_6, e2_7r, e2_7n, e2_7q, e2_10, e2_11, d16f hx hR, Option.toList_some, List.cons_append, List.nil_append]
  exact hQ
end PB
