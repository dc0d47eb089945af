/-! takeMessage -/
section TM
variable {d : Nat} {g : Nat → Option aE} {c : Nat} {X : aX} {Q : Option Value → aH → Prop} {S : aSt} {T : Nat → Nat} {K : Nat → List Nat} {LL : List aLm} {tg : Nat → Nat} {h : aH} {a f u : Nat} {vc w : Option Nat}
theorem SC_N {k e v : Nat} (h15 : ¬ k = 15) (h16 : ¬ k = 16) (h17 : ¬ k = 17) (h19 : ¬ k = 19) (h : SC X S T) : SC X (setN S k e v) T := SC_cg (sN_n (fun q => h15 q.symm)) (sN_n (fun q => h16 q.symm)) (sN_n (fun q => h17 q.symm)) (sN_n (fun q => h19 q.symm)) rfl rfl rfl h
/-- transactionAt, whatever the number -/
theorem d19x {x : Int32} (hm : S.1 ≤ 200) (hR : RC g h c X) (hSS : SS c X S T K) (hQ : ∀ o : Option Nat, Q (some (va_rf o)) h) : am_R d 19 0 [some (.ref c), some (.int x)] [] h Q := by
  rcases pk_ix x (n := S.1) (by omega) with h1 | h1 | ⟨j, hj, rfl⟩
  · rw [d19f (Or.inl h1) hR]
    exact hQ none
  · rw [d19f (Or.inr (by rw [hSS.1]; exact h1)) hR]
    exact hQ none
  · rw [d19t (by rw [hSS.1]; exact hj) (by rw [hSS.1]; exact hm) hR, (hSS.2.2.2.2.2.2.2.2 j hj).1]
    exact hQ _
theorem tk30_5 {v : Nat} {t : Int32} (hf : f < 6) (hu : u < 6) (hm : S.1 ≤ 200) (ha : x_Y X a = some (msC (nI 5) (nI v) t vc w)) (hR : RC g h c X) (hSS : SS c X S T K) (hSC : SC X S T) (hSL : SL X S.2.2.2.2 LL tg) (hQ : OutQ g c T h X (setN S 13 (3 * u + f / 2) v) (fun h1 => Q none h1)) : am_R (d + 5) 30 0 [some (.ref c), some (.ref a), some (.ref (c + 39 + 6 * f)), some (.ref (c + 39 + 6 * u)), none, none] [] h Q := by
  have ho := oA0 hR
  have hou := oV0 hu hR
  simp (disch := first | assumption | omega | exact am_isr_ref | exact am_isr_null | exact am_isr_rf | exact am_c1_int | exact am_c1_ref | exact am_c1_null | exact am_c1_rf | exact am_b0 | exact am_b1 | exact RM_obj (by assumption) | (simp only [ne_eq]; done) | exact am_nz2 | exact am_nz3 | exact am_nz6 | exact am_lt (hB _ _) | exact am_lt (stF_lt hB) | exact b32_01) only [e30_0, e30_1, e30_2, e30_5, gY (k := 1) ha rfl hR]
  refine d19x hm hR hSS (fun o => ?_)
  simp (disch := first | assumption | omega | exact am_isr_ref | exact am_isr_null | exact am_isr_rf | exact am_c1_int | exact am_c1_ref | exact am_c1_null | exact am_c1_rf | exact am_b0 | exact am_b1 | exact RM_obj (by assumption) | (simp only [ne_eq]; done) | exact am_nz2 | exact am_nz3 | exact am_nz6 | exact am_lt (hB _ _) | exact am_lt (stF_lt hB) | exact b32_01) only [e30_8, e30_10, e30_11, e30_14, e30_15, e30_18, e30_19, e30_20, e30_23, e30_24, e30_27, Option.toList_some, List.cons_append, List.nil_append, gY (k := 0) ha rfl hR, gY (k := 1) ha rfl hR, not_true_eq_false, if_false, gV0_1 hf hR]
  refine d47 hu (by omega) hR (fun h1 g1 g2 hR1 => ?_)
  simp (disch := first | assumption | omega | exact am_isr_ref | exact am_isr_null | exact am_isr_rf | exact am_c1_int | exact am_c1_ref | exact am_c1_null | exact am_c1_rf | exact am_b0 | exact am_b1 | exact RM_obj (by assumption) | (simp only [ne_eq]; done) | exact am_nz2 | exact am_nz3 | exact am_nz6 | exact am_lt (hB _ _) | exact am_lt (stF_lt hB) | exact b32_01) only [e30_30, e30_168, Option.toList_none, List.nil_append]
  exact hQ h1 _ K LL tg (by omega) (by omega) (by omega) hR1 (SS_kn (by omega) hSS) (SC_N (by decide) (by decide) (by decide) (by decide) hSC) (SL_cg rfl rfl rfl (fun b e q _ => q) hSL) Xm_rf
theorem tk30_6 {t n : Int32} {va x y z : Nat} {b : Nat → Nat} (hf : f < 6) (hu : u < 6) (hm : S.1 ≤ 200) (ha : x_Y X a = some (msC (nI 6) n t (some va) w)) (hv : x_Y X va = some (.inl (0, 3, .inl (fun p => nI (b p))))) (h0 : b 0 = x) (h1 : b 1 = y) (h2 : b 2 = z) (hR : RC g h c X) (hSS : SS c X S T K) (hSC : SC X S T) (hSL : SL X S.2.2.2.2 LL tg) (hQ : OutQ g c T h X (hearF S u x y z) (fun h1 => Q none h1)) : am_R (d + 5) 30 0 [some (.ref c), some (.ref a), some (.ref (c + 39 + 6 * f)), some (.ref (c + 39 + 6 * u)), none, none] [] h Q := by
  have ho := oA0 hR
  have hou := oV0 hu hR
  simp (disch := first | assumption | omega | exact am_isr_ref | exact am_isr_null | exact am_isr_rf | exact am_c1_int | exact am_c1_ref | exact am_c1_null | exact am_c1_rf | exact am_b0 | exact am_b1 | exact RM_obj (by assumption) | (simp only [ne_eq]; done) | exact am_nz2 | exact am_nz3 | exact am_nz6 | exact am_lt (hB _ _) | exact am_lt (stF_lt hB) | exact b32_01) only [e30_0, e30_1, e30_2, e30_5, gY (k := 1) ha rfl hR]
  refine d19x hm hR hSS (fun o => ?_)
  simp (disch := first | assumption | omega | exact am_isr_ref | exact am_isr_null | exact am_isr_rf | exact am_c1_int | exact am_c1_ref | exact am_c1_null | exact am_c1_rf | exact am_b0 | exact am_b1 | exact RM_obj (by assumption) | (simp only [ne_eq]; done) | exact am_nz2 | exact am_nz3 | exact am_nz6 | exact am_lt (hB _ _) | exact am_lt (stF_lt hB) | exact b32_01) only [e30_8, e30_10, e30_11, e30_14, e30_15, e30_18, e30_19, e30_20, e30_23, e30_24, e30_27, e30_30, e30_33, e30_34, e30_37, e30_39, e30_42, e30_43, e30_44, e30_47, Option.toList_some, List.cons_append, List.nil_append, gY (k := 0) ha rfl hR, gY (k := 3) ha rfl hR, show va_rf (some va) = .ref va from rfl, nq, if_true, if_false, not_true_eq_false, not_false_eq_true, Nat.reduceEqDiff]
  refine d48 hu hv hR (fun h1 g1 g2 hR1 => ?_)
  simp (disch := first | assumption | omega | exact am_isr_ref | exact am_isr_null | exact am_isr_rf | exact am_c1_int | exact am_c1_ref | exact am_c1_null | exact am_c1_rf | exact am_b0 | exact am_b1 | exact RM_obj (by assumption) | (simp only [ne_eq]; done) | exact am_nz2 | exact am_nz3 | exact am_nz6 | exact am_lt (hB _ _) | exact am_lt (stF_lt hB) | exact b32_01) only [e30_50, e30_168, Option.toList_none, List.nil_append]
  exact hQ h1 _ K LL tg (by omega) (by omega) (by omega) hR1 (SS_hd h0 (by assumption) (by assumption) hSS) (SC_N (by decide) (by decide) (by decide) (by decide) (SC_N (by decide) (by decide) (by decide) (by decide) (SC_N (by decide) (by decide) (by decide) (by decide) hSC))) (SL_cg rfl rfl rfl (fun b e q _ => q) hSL) Xm_rf
theorem tk30_t {k n : Nat} {t : Int32} (hk : k = 1 ∨ k = 2 ∨ k = 3 ∨ k = 4) (hn : n < S.1) (hm : S.1 ≤ 200) (ha : x_Y X a = some (msC (nI k) (nI n) t vc w)) (hR : RC g h c X) (hSS : SS c X S T K) : am_R (d + 5) 30 0 [some (.ref c), some (.ref a), some (.ref (c + 39 + 6 * f)), some (.ref (c + 39 + 6 * u)), none, none] [] h Q = am_R (d + 5) 30 59 [some (.ref c), some (.ref a), some (.ref (c + 39 + 6 * f)), some (.ref (c + 39 + 6 * u)), some (.ref (T n)), none] [] h Q := by
  have ho := oA0 hR
  have hTn := hSS.2.2.2.2.2.2.2.2 n hn
  have hcn : n < x_cnt X := by rw [hSS.1]; exact hn
  have hcm : x_cnt X ≤ 200 := by rw [hSS.1]; exact hm
  have h5 : ¬ k = 5 := by omega
  have h6 : ¬ k = 6 := by omega
  simp (disch := first | assumption | omega | exact am_isr_ref | exact am_isr_null | exact am_isr_rf | exact am_c1_int | exact am_c1_ref | exact am_c1_null | exact am_c1_rf | exact am_b0 | exact am_b1 | exact RM_obj (by assumption) | (simp only [ne_eq]; done) | exact am_nz2 | exact am_nz3 | exact am_nz6 | exact am_lt (hB _ _) | exact am_lt (stF_lt hB) | exact b32_01) only [e30_0, e30_1, e30_2, e30_5, e30_8, e30_10, e30_11, e30_14, e30_15, e30_18, e30_19, e30_20, e30_23, e30_24, e30_27, e30_30, e30_33, e30_34, e30_37, e30_39, e30_42, e30_43, e30_44, e30_47, e30_50, e30_53, e30_55r, e30_55n, e30_55q, gY (k := 1) ha rfl hR, gY (k := 0) ha rfl hR, d19t hcn hcm hR, hTn.1, va_rf, nq, h5, h6, if_true, if_false, not_true_eq_false, not_false_eq_true, Option.toList_some, List.cons_append, List.nil_append]
theorem tk30_1 {n : Nat} {t : Int32} (hu : u = f + 1) (hf2 : f % 2 = 0) (hf : f + 1 < 6) (hn : n < S.1) (hm : S.1 ≤ 200) (hB : am_BN S.2.1) (hn3 : ¬ S.2.1 11 (200 * u + n) = 3) (ht : tmF S.2.1 u n < 1000000) (hcn : cnL S.2.2.2.2 (6 * u + f) < 512) (ha : x_Y X a = some (msC (nI 1) (nI n) t vc w)) (hR : RC g h c X) (hSS : SS c X S T K) (hSC : SC X S T) (hSL : SL X S.2.2.2.2 LL tg) (hQ : OutQ g c T h X (pushF (prpF S u n) (u, f, 2, nI n, tmF S.2.1 u n, 0, 0)) (fun h1 => Q none h1)) : am_R (d + 5) 30 0 [some (.ref c), some (.ref a), some (.ref (c + 39 + 6 * f)), some (.ref (c + 39 + 6 * u)), none, none] [] h Q := by
  have hu6 : u < 6 := by omega
  have hf6 : f < 6 := by omega
  have hou := oV0 hu6 hR
  rw [tk30_t (Or.inl rfl) hn hm ha hR hSS]
  simp (disch := first | assumption | omega | exact am_isr_ref | exact am_isr_null | exact am_isr_rf | exact am_c1_int | exact am_c1_ref | exact am_c1_null | exact am_c1_rf | exact am_b0 | exact am_b1 | exact RM_obj (by assumption) | (simp only [ne_eq]; done) | exact am_nz2 | exact am_nz3 | exact am_nz6 | exact am_lt (hB _ _) | exact am_lt (stF_lt hB) | exact b32_01) only [e30_59, e30_60, e30_63, e30_64, e30_67, e30_68, e30_70, gY (k := 0) ha rfl hR, not_true_eq_false, if_false]
  refine d49s hu6 hn hm hB hn3 ht hR hSS hSL (fun h1 X1 g1 g2 hR1 hS1 hL1 hx1 => ?_)
  simp (disch := first | assumption | omega | exact am_isr_ref | exact am_isr_null | exact am_isr_rf | exact am_c1_int | exact am_c1_ref | exact am_c1_null | exact am_c1_rf | exact am_b0 | exact am_b1 | exact RM_obj (by assumption) | (simp only [ne_eq]; done) | exact am_nz2 | exact am_nz3 | exact am_nz6 | exact am_lt (hB _ _) | exact am_lt (stF_lt hB) | exact b32_01) only [e30_73, e30_75, e30_76, e30_77, e30_80, e30_81, e30_84, Option.toList_some, List.cons_append, List.nil_append, gV0_0 hu6 hR1, gV0_0 hf6 hR1]
  have hR1n := nY (k := 5) (e := .inr (3, am_df 3)) hR1
  have hn1 : n < (prpF S u n).1 := hn
  have hT1n := TrNH hR1n (TrN_cg (N := (prpF S u n).2.1) (V := (prpF S u n).2.2.1) ⟨rfl, rfl, rfl, rfl, rfl, rfl⟩ rfl (Tr_kp (Y := x_Y X1) (fun b e q _ => ex_nw hR1 b e q) (hS1.2.2.2.2.2.2.2.2 n hn1).2))
  simp (disch := first | assumption | omega | exact am_isr_ref | exact am_isr_null | exact am_isr_rf | exact am_c1_int | exact am_c1_ref | exact am_c1_null | exact am_c1_rf | exact am_b0 | exact am_b1 | exact RM_obj (by assumption) | (simp only [ne_eq]; done) | exact am_nz2 | exact am_nz3 | exact am_nz6 | exact am_lt (hB _ _) | exact am_lt (stF_lt hB) | exact b32_01) only [e30_87, e30_88, e30_89, e30_91, e30_94, e30_96, e30_97, gT_0 hT1n]
  refine d42n (v := none) hL1 hR1 (fun h3 X3 g3 g4 hR3 hL3 hx3 hm3 hex => ?_)
  have ho3 := oA0 hR3
  simp (disch := first | assumption | omega | exact am_isr_ref | exact am_isr_null | exact am_isr_rf | exact am_c1_int | exact am_c1_ref | exact am_c1_null | exact am_c1_rf | exact am_b0 | exact am_b1 | exact RM_obj (by assumption) | (simp only [ne_eq]; done) | exact am_nz2 | exact am_nz3 | exact am_nz6 | exact am_lt (hB _ _) | exact am_lt (stF_lt hB) | exact b32_01) only [e30_100, Option.toList_none, List.nil_append]
  refine d32s (k := 2) (n := nI n) (x := tmF S.2.1 u n) (y := 0) (z := 0) (vc := none) hu6 hf6 (by rw [hu]; exact lkd_m hf hf2) hL3 hm3 (fun q => absurd (show (2 : Nat) = 6 from q) (by decide)) (fun z hz => SL_lt hR1 hL1 hz) (by rw [SL_len hL1]; exact hcn) hR3 (fun h4 X4 tg4 g5 g6 hR4 hL4 hx4 => ?_)
  simp (disch := first | assumption | omega | exact am_isr_ref | exact am_isr_null | exact am_isr_rf | exact am_c1_int | exact am_c1_ref | exact am_c1_null | exact am_c1_rf | exact am_b0 | exact am_b1 | exact RM_obj (by assumption) | (simp only [ne_eq]; done) | exact am_nz2 | exact am_nz3 | exact am_nz6 | exact am_lt (hB _ _) | exact am_lt (stF_lt hB) | exact b32_01) only [e30_103, e30_168, Option.toList_none, List.nil_append]
  refine hQ h4 X4 K _ tg4 (by omega) (by omega) (by omega) hR4 (SS_lk hx4 (SS_lk hx3 hS1)) ?_ hL4 (Xm_tr hx1.2.2.2.2.2.2.2 (Xm_tr (Xc_lk hx3).2.2.2.2.2.2.2 (Xc_lk hx4).2.2.2.2.2.2.2))
  refine SC_lk hx4 (SC_lk hx3 (SC_c hx1 ?_))
  exact SC_cg (S := prpF S u n) rfl rfl rfl rfl rfl rfl rfl (SC_N (by decide) (by decide) (by decide) (by decide) (SC_N (by decide) (by decide) (by decide) (by decide) (SC_N (by decide) (by decide) (by decide) (by decide) hSC)))
theorem tk30_2 {n x : Nat} (hn : n < S.1) (hm : S.1 ≤ 200) (hB : am_BN S.2.1) (hx : x < 1000000) (h1 : S.2.1 1 n < 6) (hld : u = 2 * (S.2.1 1 n % 3)) (h6 : ¬ 1 < S.2.1 6 n) (h8 : S.2.1 8 n < 2) (h3 : ∀ s, s < 6 → ¬ S.2.1 11 (200 * s + n) = 3) (h4 : ∀ e, S.2.1 11 e < 4) (hz : ∀ s m, s < 6 → S.1 ≤ m → m < 200 → S.2.1 11 (200 * s + m) = 0)
  (hc : ∀ r, r < 3 → ¬ r = u / 2 → cnL S.2.2.2.2 (6 * u + (2 * r + u % 2)) + nkF S u ≤ 512) (hcn : cnL S.2.2.2.2 (6 * u + (u + 1)) < 512)
  (ha : x_Y X a = some (msC (nI 2) (nI n) (nI x) vc w)) (hR : RC g h c X) (hSS : SS c X S T K) (hSC : SC X S T) (hSL : SL X S.2.2.2.2 LL tg) (hQ : OutQ g c T h X (prdF S u n x) (fun h1 => Q none h1)) : am_R (d + 5) 30 0 [some (.ref c), some (.ref a), some (.ref (c + 39 + 6 * f)), some (.ref (c + 39 + 6 * u)), none, none] [] h Q := by
  have hT := TrNH hR (hSS.2.2.2.2.2.2.2.2 n hn).2
  have hoT := oT hT
  rw [tk30_t (Or.inr (Or.inl rfl)) hn hm ha hR hSS]
  simp (disch := first | assumption | omega | exact am_isr_ref | exact am_isr_null | exact am_isr_rf | exact am_c1_int | exact am_c1_ref | exact am_c1_null | exact am_c1_rf | exact am_b0 | exact am_b1 | exact RM_obj (by assumption) | (simp only [ne_eq]; done) | exact am_nz2 | exact am_nz3 | exact am_nz6 | exact am_lt (hB _ _) | exact am_lt (stF_lt hB) | exact b32_01) only [e30_59, e30_60, e30_63, e30_64, e30_67, e30_68, e30_70, e30_73, e30_75, e30_76, e30_77, e30_80, e30_81, e30_84, e30_87, e30_88, e30_89, e30_91, e30_94, e30_96, e30_97, e30_100, e30_103, e30_106, e30_107, e30_110, e30_111, e30_114, e30_116, e30_117, e30_120, gY (k := 0) ha rfl hR, gY (k := 2) ha rfl hR, nq, if_true, if_false, not_true_eq_false, not_false_eq_true, Nat.reduceEqDiff]
  refine d59s hn hm hB hx h3 h8 hR hSS hSL (fun h2 X2 g1 g2 hR2 hS2 hL2 hx2 => ?_)
  have ho2 := oA0 hR2
  simp (disch := first | assumption | omega | exact am_isr_ref | exact am_isr_null | exact am_isr_rf | exact am_c1_int | exact am_c1_ref | exact am_c1_null | exact am_c1_rf | exact am_b0 | exact am_b1 | exact RM_obj (by assumption) | (simp only [ne_eq]; done) | exact am_nz2 | exact am_nz3 | exact am_nz6 | exact am_lt (hB _ _) | exact am_lt (stF_lt hB) | exact b32_01) only [e30_123, e30_124, e30_126, Option.toList_none, List.nil_append]
  refine d28 (t := x) hn hm hB hx h1 hld h3 h4 hz hc hcn hR2 hS2 (SC_c hx2 hSC) hL2 (fun h5 X5 K5 LL5 tg5 b1 b2 b3 r1 r2 r3 r4 r5 => ?_)
  simp (disch := first | assumption | omega | exact am_isr_ref | exact am_isr_null | exact am_isr_rf | exact am_c1_int | exact am_c1_ref | exact am_c1_null | exact am_c1_rf | exact am_b0 | exact am_b1 | exact RM_obj (by assumption) | (simp only [ne_eq]; done) | exact am_nz2 | exact am_nz3 | exact am_nz6 | exact am_lt (hB _ _) | exact am_lt (stF_lt hB) | exact b32_01) only [e30_129, e30_168, Option.toList_none, List.nil_append]
  have e : prdF S u n x = dcdF (toldF S n x) u n := by
    unfold prdF
    rw [if_neg h6]
  rw [← e] at r2 r3 r4
  exact hQ h5 X5 K5 LL5 tg5 (by omega) (by omega) (by omega) r1 r2 r3 r4 (Xm_tr hx2.2.2.2.2.2.2.2 r5)
theorem tk30_3 {n x : Nat} (hu : u < 6) (hn : n < S.1) (hm : S.1 ≤ 200) (hB : am_BN S.2.1) (hx : x < 1000000) (hn3 : ¬ S.2.1 11 (200 * u + n) = 3) (h4 : ∀ e, S.2.1 11 e < 4) (hz : ∀ s m, s < 6 → S.1 ≤ m → m < 200 → S.2.1 11 (200 * s + m) = 0)
  (hc : ∀ r, r < 3 → ¬ r = u / 2 → cnL S.2.2.2.2 (6 * u + (2 * r + u % 2)) + nkF S u ≤ 512)
  (ha : x_Y X a = some (msC (nI 3) (nI n) (nI x) vc w)) (hR : RC g h c X) (hSS : SS c X S T K) (hSC : SC X S T) (hSL : SL X S.2.2.2.2 LL tg) (hQ : OutQ g c T h X (decF S u n x) (fun h1 => Q none h1)) : am_R (d + 5) 30 0 [some (.ref c), some (.ref a), some (.ref (c + 39 + 6 * f)), some (.ref (c + 39 + 6 * u)), none, none] [] h Q := by
  have ho := oA0 hR
  rw [tk30_t (Or.inr (Or.inr (Or.inl rfl))) hn hm ha hR hSS]
  simp (disch := first | assumption | omega | exact am_isr_ref | exact am_isr_null | exact am_isr_rf | exact am_c1_int | exact am_c1_ref | exact am_c1_null | exact am_c1_rf | exact am_b0 | exact am_b1 | exact RM_obj (by assumption) | (simp only [ne_eq]; done) | exact am_nz2 | exact am_nz3 | exact am_nz6 | exact am_lt (hB _ _) | exact am_lt (stF_lt hB) | exact b32_01) only [e30_59, e30_60, e30_63, e30_64, e30_67, e30_68, e30_70, e30_73, e30_75, e30_76, e30_77, e30_80, e30_81, e30_84, e30_87, e30_88, e30_89, e30_91, e30_94, e30_96, e30_97, e30_100, e30_103, e30_106, e30_107, e30_110, e30_111, e30_114, e30_116, e30_117, e30_120, e30_123, e30_124, e30_126, e30_129, e30_132, e30_133, e30_136, e30_137, e30_140, e30_141, e30_142, e30_144, e30_145, e30_148, gY (k := 0) ha rfl hR, gY (k := 2) ha rfl hR, nq, if_true, if_false, not_true_eq_false, not_false_eq_true, Nat.reduceEqDiff]
  refine d29 hu hn hm hB hx hn3 h4 (fun m => hz u m hu) (fun r a b => ?_) hR hSS hSL (fun h2 X2 K2 LL2 tg2 b1 b2 b3 hR2 hS2 hL2 hx2 => ?_)
  · have := hc r a b
    have := c2_nk (S := S) (s := u) (n := n) hn3
    omega
  · simp (disch := first | assumption | omega | exact am_isr_ref | exact am_isr_null | exact am_isr_rf | exact am_c1_int | exact am_c1_ref | exact am_c1_null | exact am_c1_rf | exact am_b0 | exact am_b1 | exact RM_obj (by assumption) | (simp only [ne_eq]; done) | exact am_nz2 | exact am_nz3 | exact am_nz6 | exact am_lt (hB _ _) | exact am_lt (stF_lt hB) | exact b32_01) only [e30_151, e30_168, Option.toList_none, List.nil_append]
    have hs := decF_same (S := S) (s := u) (n := n) (t := x) hB hx
    refine hQ h2 X2 K2 LL2 tg2 (by omega) (by omega) (by omega) hR2 hS2 ?_ hL2 hx2.2.2.2.2.2.2.2
    refine SC_c hx2 (SC_cg ?_ ?_ ?_ ?_ (by rw [hs.2.1]) (by rw [hs.2.1]) hs.2.2.1 hSC) <;> exact funext (fun e => hs.2.2.2.1 _ e (by decide) (by decide) (by decide))
theorem tk30_4 {n : Nat} {t : Int32} (hu : u < 6) (hn : n < S.1) (hm : S.1 ≤ 200) (hB : am_BN S.2.1) (hn3 : ¬ S.2.1 11 (200 * u + n) = 3)
  (ha : x_Y X a = some (msC (nI 4) (nI n) t vc w)) (hR : RC g h c X) (hSS : SS c X S T K) (hSC : SC X S T) (hSL : SL X S.2.2.2.2 LL tg) (hQ : OutQ g c T h X (setN S 11 (200 * u + n) 3) (fun h1 => Q none h1)) : am_R (d + 5) 30 0 [some (.ref c), some (.ref a), some (.ref (c + 39 + 6 * f)), some (.ref (c + 39 + 6 * u)), none, none] [] h Q := by
  have hou := oV0 hu hR
  rw [tk30_t (Or.inr (Or.inr (Or.inr rfl))) hn hm ha hR hSS]
  simp (disch := first | assumption | omega | exact am_isr_ref | exact am_isr_null | exact am_isr_rf | exact am_c1_int | exact am_c1_ref | exact am_c1_null | exact am_c1_rf | exact am_b0 | exact am_b1 | exact RM_obj (by assumption) | (simp only [ne_eq]; done) | exact am_nz2 | exact am_nz3 | exact am_nz6 | exact am_lt (hB _ _) | exact am_lt (stF_lt hB) | exact b32_01) only [e30_59, e30_60, e30_63, e30_64, e30_67, e30_68, e30_70, e30_73, e30_75, e30_76, e30_77, e30_80, e30_81, e30_84, e30_87, e30_88, e30_89, e30_91, e30_94, e30_96, e30_97, e30_100, e30_103, e30_106, e30_107, e30_110, e30_111, e30_114, e30_116, e30_117, e30_120, e30_123, e30_124, e30_126, e30_129, e30_132, e30_133, e30_136, e30_137, e30_140, e30_141, e30_142, e30_144, e30_145, e30_148, e30_151, e30_154, e30_155, e30_158, e30_159, e30_162, e30_163, e30_165, gY (k := 0) ha rfl hR, nq, if_true, if_false, not_true_eq_false, not_false_eq_true, Nat.reduceEqDiff]
  refine d55s hu hn hm hB hn3 hR hSS hSL (fun h2 X2 K2 b1 b2 hR2 hS2 hL2 hx2 => ?_)
  simp (disch := first | assumption | omega | exact am_isr_ref | exact am_isr_null | exact am_isr_rf | exact am_c1_int | exact am_c1_ref | exact am_c1_null | exact am_c1_rf | exact am_b0 | exact am_b1 | exact RM_obj (by assumption) | (simp only [ne_eq]; done) | exact am_nz2 | exact am_nz3 | exact am_nz6 | exact am_lt (hB _ _) | exact am_lt (stF_lt hB) | exact b32_01) only [e30_168, Option.toList_none, List.nil_append]
  exact hQ h2 X2 K2 LL tg (by omega) (by omega) (by omega) hR2 hS2 (SC_c hx2 (SC_N (by decide) (by decide) (by decide) (by decide) hSC)) hL2 hx2.2.2.2.2.2.2.2
end TM
