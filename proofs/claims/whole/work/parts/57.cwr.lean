/-! the class's small writers -/
def thF {β : Type} (k : Nat) (A B : Nat → β) : Nat → β := fun p => if p < k then A p else B p
theorem th_0 {β : Type} {A B : Nat → β} : thF 0 A B = B := by
  funext p
  exact if_neg (Nat.not_lt_zero p)
theorem th_up {β : Type} {k : Nat} {A B : Nat → β} : va_up (thF k A B) k (A k) = thF (k + 1) A B := by
  funext p
  unfold va_up thF
  by_cases h1 : p = k
  · subst h1; rw [if_pos rfl, if_pos (Nat.lt_succ_self _)]
  · rw [if_neg h1]
    by_cases h2 : p < k
    · rw [if_pos h2, if_pos (Nat.lt_succ_of_lt h2)]
    · rw [if_neg h2, if_neg (by omega)]
theorem th_k {β : Type} {k : Nat} {A B : Nat → β} : thF k A B k = B k := if_neg (Nat.lt_irrefl _)
theorem vu_u {β : Type} {f : Nat → β} {i : Nat} {a b : β} : va_up (va_up f i a) i b = va_up f i b := by
  funext p
  unfold va_up
  by_cases h1 : p = i
  · rw [if_pos h1, if_pos h1]
  · rw [if_neg h1, if_neg h1, if_neg h1]
theorem vu_i {β : Type} {f : Nat → β} {i : Nat} : va_up f i (f i) = f := by
  funext p
  unfold va_up
  by_cases h1 : p = i
  · subst h1; rw [if_pos rfl]
  · rw [if_neg h1]
section CW
variable {d : Nat} {g : Nat → Option aE} {c : Nat} {X : aX} {Q : Option Value → aH → Prop}
theorem d47 {h : aH} {s p v : Nat} (hs : s < 6) (hp : p < 3) (hR : RC g h c X) (hQ : ∀ h1 : aH, h1.1 = h.1 → h1.2.1 = h.2.1 → RC g h1 c (xs_kn X (va_up (x_kn X) s (va_up (x_kn X s) p v))) → Q none h1) : am_R (d + 1) 47 0 [some (.ref (c + 39 + 6 * s)), some (.int (nI p)), some (.int (nI v))] [] h Q := by
  simp (disch := first | assumption | omega | exact am_isr_ref | exact am_isr_null | exact am_isr_rf | exact am_c1_int | exact am_c1_ref | exact am_c1_null | exact am_c1_rf | exact am_b0 | exact am_b1 | exact RM_obj (by assumption) | (simp only [ne_eq]; done) | exact am_nz2 | exact am_nz3 | exact am_nz6 | exact am_lt (hB _ _) | exact am_lt (stF_lt hB) | exact b32_01) only [e47_0, e47_1, e47_4, e47_7, e47_8, e47_11, e47_12, e47_13, e47_14, d21t hp, Option.toList_some, List.cons_append, List.nil_append, if_neg (show ¬ nI 1 = 0 by decide), gV0_2 hs hR]
  exact wV1 hs hp hR hQ
theorem d50 {h : aH} {s n v w : Nat} (hs : s < 6) (hn : n < 200) (hR : RC g h c X) (hQ : ∀ h1 : aH, h1.1 = h.1 → h1.2.1 = h.2.1 → RC g h1 c (xs_tm (xs_sg X (va_up (x_sg X) s (va_up (x_sg X s) n w))) (va_up (x_tm X) s (va_up (x_tm X s) n v))) → Q none h1) : am_R d 50 0 [some (.ref (c + 39 + 6 * s)), some (.int (nI n)), some (.int (nI w)), some (.int (nI v))] [] h Q := by
  simp (disch := first | assumption | omega | exact am_isr_ref | exact am_isr_null | exact am_isr_rf | exact am_c1_int | exact am_c1_ref | exact am_c1_null | exact am_c1_rf | exact am_b0 | exact am_b1 | exact RM_obj (by assumption) | (simp only [ne_eq]; done) | exact am_nz2 | exact am_nz3 | exact am_nz6 | exact am_lt (hB _ _) | exact am_lt (stF_lt hB) | exact b32_01) only [e50_0, e50_1, e50_4, e50_5, e50_8, e50_11, e50_12, e50_15, e50_16, e50_17, if_neg (nI_pos (n := n) (show n < 2 ^ 31 by omega)), if_neg (nI_ge (a := n) (b := 200) hn (by decide)), gV0_4 hs hR]
  refine wV3 hs hn hR (fun h1 g1 g2 hR1 => ?_)
  simp (disch := first | assumption | omega | exact am_isr_ref | exact am_isr_null | exact am_isr_rf | exact am_c1_int | exact am_c1_ref | exact am_c1_null | exact am_c1_rf | exact am_b0 | exact am_b1 | exact RM_obj (by assumption) | (simp only [ne_eq]; done) | exact am_nz2 | exact am_nz3 | exact am_nz6 | exact am_lt (hB _ _) | exact am_lt (stF_lt hB) | exact b32_01) only [e50_18, e50_19, e50_22, e50_23, e50_24, e50_25, gV0_5 hs hR1]
  refine wV4 hs hn hR1 (fun h2 g3 g4 hR2 => ?_)
  exact hQ h2 (g3.trans g1) (g4.trans g2) hR2
theorem l34 {i s : Nat} (hi : i < 6) (hs : s < 6) (hb : ∀ i p, x_sn X i p < 1000000) (hk : ∀ i p, x_kn X i p < 1000000) (hd : ∀ i p, x_hd X i p < 1000000) : ∀ t k (h : aH), k + t = 3 → RC g h c (xs_sn X (va_up (x_sn X) i (thF k (fun p => max (x_sn X i p) (min (x_kn X s p) (x_hd X s p))) (x_sn X i)))) → (∀ h1 : aH, h1.1 = h.1 → h1.2.1 = h.2.1 → RC g h1 c (xs_sn X (va_up (x_sn X) i (thF 3 (fun p => max (x_sn X i p) (min (x_kn X s p) (x_hd X s p))) (x_sn X i)))) → Q none h1) → am_R (d + 2) 34 2 [some (.ref (c + 2 + 6 * i)), some (.ref (c + 39 + 6 * s)), some (.int (nI k))] [] h Q := by
  intro t
  induction t with
  | zero =>
    intro k h hkt hR hQ
    obtain rfl : k = 3 := by omega
    simp (disch := first | assumption | omega | exact am_isr_ref | exact am_isr_null | exact am_isr_rf | exact am_c1_int | exact am_c1_ref | exact am_c1_null | exact am_c1_rf | exact am_b0 | exact am_b1 | exact RM_obj (by assumption) | (simp only [ne_eq]; done) | exact am_nz2 | exact am_nz3 | exact am_nz6 | exact am_lt (hB _ _) | exact am_lt (stF_lt hB) | exact b32_01) only [e34_2, e34_3, e34_4, e34_33, nle, if_true, Nat.le_refl]
    exact hQ h rfl rfl hR
  | succ t ih =>
    intro k h hkt hR hQ
    have hk3 : k < 3 := by omega
    generalize hX : xs_sn X (va_up (x_sn X) i (thF k (fun p => max (x_sn X i p) (min (x_kn X s p) (x_hd X s p))) (x_sn X i))) = Y at hR
    have r1 : x_sn Y i k = x_sn X i k := by rw [← hX]; exact (congrFun vu_s k).trans th_k
    have r2 : x_kn Y s k = x_kn X s k := by rw [← hX]
    have r3 : x_hd Y s k = x_hd X s k := by rw [← hX]
    have ho := oV0 hs hR
    have b1 := hb i k
    have b2 := hk s k
    have b3 := hd s k
    have b4 : x_kn Y s k < 1000000 := by rw [r2]; exact b2
    have b5 : x_hd Y s k < 1000000 := by rw [r3]; exact b3
    rw [e34_2]
    simp (disch := first | assumption | omega | exact am_isr_ref | exact am_isr_null | exact am_isr_rf | exact am_c1_int | exact am_c1_ref | exact am_c1_null | exact am_c1_rf | exact am_b0 | exact am_b1 | exact RM_obj (by assumption) | (simp only [ne_eq]; done) | exact am_nz2 | exact am_nz3 | exact am_nz6 | exact am_lt (hB _ _) | exact am_lt (stF_lt hB) | exact b32_01) only [e34_3, e34_4, e34_7, e34_8, e34_11, e34_12, e34_13, e34_16, e34_17, e34_18, e34_19, e34_20, e34_23, e34_26, nle, if_neg (show ¬ 3 ≤ k by omega), gC0_1 hi hR, rC1 hi hR hk3, d46 hs hk3 hR, Option.toList_some, List.cons_append, List.nil_append, r1, r2, r3, nI_max]
    refine wC1 hi hk3 hR (fun h1 g1 g2 hR1 => ?_)
    simp (disch := first | assumption | omega | exact am_isr_ref | exact am_isr_null | exact am_isr_rf | exact am_c1_int | exact am_c1_ref | exact am_c1_null | exact am_c1_rf | exact am_b0 | exact am_b1 | exact RM_obj (by assumption) | (simp only [ne_eq]; done) | exact am_nz2 | exact am_nz3 | exact am_nz6 | exact am_lt (hB _ _) | exact am_lt (stF_lt hB) | exact b32_01) only [e34_27, e34_30, nI_add]
    refine ih (k + 1) h1 (by omega) ?_ (fun h2 g3 g4 => hQ h2 (g3.trans g1) (g4.trans g2))
    rw [← hX] at hR1
    have e : va_up (va_up (x_sn X) i (thF k (fun p => max (x_sn X i p) (min (x_kn X s p) (x_hd X s p))) (x_sn X i))) i (va_up (va_up (x_sn X) i (thF k (fun p => max (x_sn X i p) (min (x_kn X s p) (x_hd X s p))) (x_sn X i)) i) k (max (x_sn X i k) (min (x_kn X s k) (x_hd X s k)))) = va_up (x_sn X) i (thF (k + 1) (fun p => max (x_sn X i p) (min (x_kn X s p) (x_hd X s p))) (x_sn X i)) := by
      rw [vu_u, vu_s]
      exact congrArg _ th_up
    rw [← e]
    exact hR1
theorem d34 {h : aH} {i s : Nat} (hi : i < 6) (hs : s < 6) (hb : ∀ i p, x_sn X i p < 1000000) (hk : ∀ i p, x_kn X i p < 1000000) (hd : ∀ i p, x_hd X i p < 1000000) (hR : RC g h c X) (hQ : ∀ h1 : aH, h1.1 = h.1 → h1.2.1 = h.2.1 → RC g h1 c (xs_sn X (va_up (x_sn X) i (thF 3 (fun p => max (x_sn X i p) (min (x_kn X s p) (x_hd X s p))) (x_sn X i)))) → Q none h1) : am_R (d + 2) 34 0 [some (.ref (c + 2 + 6 * i)), some (.ref (c + 39 + 6 * s)), none] [] h Q := by
  rw [e34_0, e34_1]
  refine l34 hi hs hb hk hd 3 0 h rfl ?_ hQ
  rw [th_0, vu_i]
  exact hR
end CW
