/-! the class's walks over what a server keeps -/
def sN (N : Nat → Nat → Nat) (n : Nat) : Nat → Nat := fun p => if p < 3 then N 2 (3 * n + p) else 0
def vN (V : Nat → Nat → Int32) (n : Nat) : Nat → Int32 := fun k => if k < 8 then V 5 (8 * n + k) else nI 0
def TrN (h : aH) (c : Nat) (N : Nat → Nat → Nat) (V : Nat → Nat → Int32) (T : Nat → Nat) (n : Nat) : Prop :=
  Tr h (T n) n (plT N n) (c + 2 + 6 * N 1 n) (N 3 n) (N 7 n) (N 8 n) (sN N n) (fun k => N 4 n / 2 ^ k % 2) (vN V n)
def skF (p : Nat → Bool) : Nat → Nat → Option Nat
  | 0, _ => none
  | t + 1, i => if p i = true then some i else skF p t (i + 1)
def svF (p : Nat → Bool) (x : Int32) : Nat → Nat → Nat → Option Nat
  | 0, _, _ => none
  | t + 1, i, r => if p i = true then (if nI r = x then some i else svF p x t (i + 1) (r + 1)) else svF p x t (i + 1) r
section CK
variable {d : Nat} {g : Nat → Option aE} {h : aH} {c : Nat} {X : aX} {Q : Option Value → aH → Prop} {N : Nat → Nat → Nat} {V : Nat → Nat → Int32} {T K : Nat → Nat}
def upB (N : Nat → Nat → Nat) (b : Nat → Nat) (n : Nat) : Bool := decide (tsF (N 8 n) (plT N n) (N 7 n) (fun p => N 2 (3 * n + p)) 0 ≤ b 0 ∧ tsF (N 8 n) (plT N n) (N 7 n) (fun p => N 2 (3 * n + p)) 1 ≤ b 1 ∧ tsF (N 8 n) (plT N n) (N 7 n) (fun p => N 2 (3 * n + p)) 2 ≤ b 2)
theorem sN_lt {n p : Nat} (hB : am_BN N) : sN N n p < 1000000 := by
  unfold sN
  split
  · exact hB _ _
  · decide
theorem d61n {n a : Nat} {b : Nat → Nat} (hB : am_BN N) (hT : TrN h c N V T n) (ha : h.2.2 a = some (.inl (0, 3, .inl (fun p => nI (b p))))) (hb : ∀ p, b p < 1000000) : am_R (d + 2) 61 0 [some (.ref (T n)), some (.ref a), none] [] h Q = Q (some (.int (b32 (upB N b n = true)))) h := by
  rw [d61 (Nat.mod_lt _ (by decide)) hT ha (fun p => sN_lt hB) hb (hB _ _)]
  unfold upB
  simp only [decide_eq_true_eq]
  rfl
theorem l56 {s k a : Nat} {b : Nat → Nat} {l4 : Option Value} (hs : s < 6) (hk : k < 8) (hR : RC g h c X) (hB : am_BN N) (ha : h.2.2 a = some (.inl (0, 3, .inl (fun p => nI (b p))))) (hb : ∀ p, b p < 1000000) (hkc : x_kc X s ≤ 200) (hK : ∀ i, i < x_kc X s → x_kp X s i = some (T (K i)) ∧ TrN h c N V T (K i)) : ∀ t i l4, i + t = x_kc X s → am_R (d + 3) 56 2 [some (.ref (c + 39 + 6 * s)), some (.int (nI k)), some (.ref a), some (.int (nI i)), l4] [] h Q = Q (some (va_rf ((skF (fun i => decide (wF (N 4 (K i)) k) && upB N b (K i)) t i).map (fun i => T (K i))))) h := by
  intro t
  induction t with
  | zero =>
    intro i l4 hi
    obtain rfl : i = x_kc X s := by omega
    simp (disch := first | assumption | omega | exact am_isr_ref | exact am_isr_null | exact am_isr_rf | exact am_c1_int | exact am_c1_ref | exact am_c1_null | exact am_c1_rf | exact am_b0 | exact am_b1 | exact RM_obj (by assumption) | (simp only [ne_eq]; done) | exact am_nz2 | exact am_nz3 | exact am_nz6 | exact am_lt (hB _ _) | exact am_lt (stF_lt hB) | exact b32_01) only [e56_2, e56_3, e56_4, e56_7, e56_60, e56_61, gV0_7 hs hR, nle, if_true, Nat.le_refl, skF, Option.map_none, va_rf]
  | succ t ih =>
    intro i l4 hi
    have hi2 : i < 200 := by omega
    have hq := hK i (by omega)
    have hT := hq.2
    have ho := oT hT
    have hw : Wr h (T (K i) + 2) (fun k => N 4 (K i) / 2 ^ k % 2) (vN V (K i)) := hT.2.2.1
    have ho2 := oW hw
    rw [e56_2]
    simp (disch := first | assumption | omega | exact am_isr_ref | exact am_isr_null | exact am_isr_rf | exact am_c1_int | exact am_c1_ref | exact am_c1_null | exact am_c1_rf | exact am_b0 | exact am_b1 | exact RM_obj (by assumption) | (simp only [ne_eq]; done) | exact am_nz2 | exact am_nz3 | exact am_nz6 | exact am_lt (hB _ _) | exact am_lt (stF_lt hB) | exact b32_01) only [e56_0, e56_1, e56_3, e56_4, e56_7, e56_10, e56_11, e56_14, e56_17, e56_18, e56_21, e56_22, e56_23, e56_25, e56_27r, e56_27n, e56_27q, e56_30, e56_32, e56_35, e56_36, e56_39, e56_42, e56_44, e56_45, e56_48, e56_51, e56_53, e56_54, e56_57, e56_60, e56_61, gV0_7 hs hR, nle, if_neg (show ¬ x_kc X s ≤ i by omega), if_neg (show ¬ 200 ≤ i by omega), gV0_6 hs hR, rV5 hs hR hi2, hq.1, va_rf, gT_5 hT, d67t hk hw, d61n hB hT ha hb, Option.toList_some, List.cons_append, List.nil_append, b32_q0, nI_add, ih (i + 1) _ (by omega)]
    rw [skF]
    by_cases h1 : wF (N 4 (K i)) k
    · by_cases h2 : upB N b (K i) = true
      · rw [if_neg (fun q => q h1), if_neg (fun q => q h2), if_pos (show (decide (wF (N 4 (K i)) k) && upB N b (K i)) = true by rw [h2, decide_eq_true h1]; rfl)]
        rfl
      · rw [if_neg (fun q => q h1), if_pos h2, if_neg (by simp [h2])]
    · rw [if_pos h1, if_neg (by simp [h1])]
theorem d56 {s k a : Nat} {b : Nat → Nat} (hs : s < 6) (hk : k < 8) (hR : RC g h c X) (hB : am_BN N) (ha : h.2.2 a = some (.inl (0, 3, .inl (fun p => nI (b p))))) (hb : ∀ p, b p < 1000000) (hkc : x_kc X s ≤ 200) (hK : ∀ i, i < x_kc X s → x_kp X s i = some (T (K i)) ∧ TrN h c N V T (K i)) : am_R (d + 3) 56 0 [some (.ref (c + 39 + 6 * s)), some (.int (nI k)), some (.ref a), none, none] [] h Q = Q (some (va_rf ((skF (fun i => decide (wF (N 4 (K i)) k) && upB N b (K i)) (x_kc X s) 0).map (fun i => T (K i))))) h := by
  rw [e56_0, e56_1]
  exact l56 (l4 := none) hs hk hR hB ha hb hkc hK _ 0 _ (by omega)
theorem l57 {s k : Nat} {x : Int32} (hs : s < 6) (hk : k < 8) (hR : RC g h c X) (hkc : x_kc X s ≤ 200) (hK : ∀ i, i < x_kc X s → x_kp X s i = some (T (K i)) ∧ TrN h c N V T (K i)) : ∀ t i r l5, i + t = x_kc X s → am_R (d + 2) 57 5 [some (.ref (c + 39 + 6 * s)), some (.int (nI k)), some (.int x), some (.int (nI r)), some (.int (nI i)), l5] [] h Q = Q (some (va_rf ((svF (fun i => decide (wF (N 4 (K i)) k)) x t i r).map (fun i => T (K i))))) h := by
  intro t
  induction t with
  | zero =>
    intro i r l5 hi
    obtain rfl : i = x_kc X s := by omega
    simp (disch := first | assumption | omega | exact am_isr_ref | exact am_isr_null | exact am_isr_rf | exact am_c1_int | exact am_c1_ref | exact am_c1_null | exact am_c1_rf | exact am_b0 | exact am_b1 | exact RM_obj (by assumption) | (simp only [ne_eq]; done) | exact am_nz2 | exact am_nz3 | exact am_nz6 | exact am_lt (hB _ _) | exact am_lt (stF_lt hB) | exact b32_01) only [e57_5, e57_7, e57_8, e57_11, e57_65, e57_66, gV0_7 hs hR, nle, if_true, Nat.le_refl, svF, Option.map_none, va_rf]
  | succ t ih =>
    intro i r l5 hi
    have hi2 : i < 200 := by omega
    have hq := hK i (by omega)
    have hT := hq.2
    have hw : Wr h (T (K i) + 2) (fun k => N 4 (K i) / 2 ^ k % 2) (vN V (K i)) := hT.2.2.1
    have ho2 := oW hw
    rw [e57_5]
    simp (disch := first | assumption | omega | exact am_isr_ref | exact am_isr_null | exact am_isr_rf | exact am_c1_int | exact am_c1_ref | exact am_c1_null | exact am_c1_rf | exact am_b0 | exact am_b1 | exact RM_obj (by assumption) | (simp only [ne_eq]; done) | exact am_nz2 | exact am_nz3 | exact am_nz6 | exact am_lt (hB _ _) | exact am_lt (stF_lt hB) | exact b32_01) only [e57_0, e57_1, e57_2, e57_3, e57_7, e57_8, e57_11, e57_14, e57_16, e57_19, e57_22, e57_23, e57_26, e57_28, e57_29, e57_31, e57_33r, e57_33n, e57_33q, e57_36, e57_38, e57_41, e57_42, e57_45, e57_48, e57_49, e57_50, e57_53, e57_55, e57_56, e57_59, e57_62, e57_65, e57_66, gV0_7 hs hR, nle, if_neg (show ¬ x_kc X s ≤ i by omega), if_neg (show ¬ 200 ≤ i by omega), gV0_6 hs hR, rV5 hs hR hi2, hq.1, va_rf, gT_5 hT, d67t hk hw, Option.toList_some, List.cons_append, List.nil_append, b32_q0, nI_add, ih (i + 1) _ _ (by omega)]
    rw [svF]
    by_cases h1 : wF (N 4 (K i)) k
    · rw [if_neg (fun q => q h1), if_pos (decide_eq_true h1)]
      by_cases h2 : nI r = x
      · rw [if_neg (fun q => q h2), if_pos h2]
        rfl
      · rw [if_pos h2, if_neg h2]
    · rw [if_pos h1, if_neg (by simp [h1])]
theorem d57 {s k : Nat} {x : Int32} (hs : s < 6) (hk : k < 8) (hR : RC g h c X) (hkc : x_kc X s ≤ 200) (hK : ∀ i, i < x_kc X s → x_kp X s i = some (T (K i)) ∧ TrN h c N V T (K i)) : am_R (d + 2) 57 0 [some (.ref (c + 39 + 6 * s)), some (.int (nI k)), some (.int x), none, none, none] [] h Q = Q (some (va_rf ((svF (fun i => decide (wF (N 4 (K i)) k)) x (x_kc X s) 0 0).map (fun i => T (K i))))) h := by
  rw [e57_0, e57_1, e57_2, e57_3]
  exact l57 hs hk hR hkc hK _ 0 0 _ (by omega)
end CK
