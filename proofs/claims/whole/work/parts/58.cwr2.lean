/-! the class's writers: hear, prepareNext, noteTime, clear, put -/
abbrev yH (X : aX) : aH := (0, 0, x_Y X)
theorem th_vu {β : Type} {f : Nat → Nat → β} {i k : Nat} {A : Nat → β} : va_up (va_up f i (thF k A (f i))) i (va_up (va_up f i (thF k A (f i)) i) k (A k)) = va_up f i (thF (k + 1) A (f i)) := by
  rw [vu_u, vu_s]
  exact congrArg _ th_up
section CX
variable {d : Nat} {g : Nat → Option aE} {c : Nat} {X : aX} {Q : Option Value → aH → Prop}
theorem WrH {h : aH} {w : Nat} {f : Nat → Nat} {v : Nat → Int32} (hR : RC g h c X) (hw : Wr (yH X) w f v) : Wr h w f v := ⟨kY hR hw.1, kY hR hw.2.1, kY hR hw.2.2.1, hw.2.2.2⟩
theorem TrH {h : aH} {t n pl cl lt tm td : Nat} {s f : Nat → Nat} {v : Nat → Int32} (hR : RC g h c X) (hT : Tr (yH X) t n pl cl lt tm td s f v) : Tr h t n pl cl lt tm td s f v := ⟨kY hR hT.1, kY hR hT.2.1, WrH hR hT.2.2.1, hT.2.2.2⟩
theorem TrNH {h : aH} {N : Nat → Nat → Nat} {V : Nat → Nat → Int32} {T : Nat → Nat} {n : Nat} (hR : RC g h c X) (hT : TrN (yH X) c N V T n) : TrN h c N V T n := TrH hR hT
theorem WrC {h : aH} {i : Nat} (hi : i < 6) (hR : RC g h c X) (hb : ∀ k, x_hs X i k < 2) : Wr h (c + 5 + 6 * i) (x_hs X i) (x_iv X i) := by
  refine ⟨?_, ?_, ?_, hb⟩
  · rw [show c + 5 + 6 * i + 1 = c + 6 + 6 * i by omega, show c + 5 + 6 * i + 2 = c + 7 + 6 * i by omega]
    exact kC3 hR i hi
  · rw [show c + 5 + 6 * i + 1 = c + 6 + 6 * i by omega]
    exact kC4 hR i hi
  · rw [show c + 5 + 6 * i + 2 = c + 7 + 6 * i by omega]
    exact kC5 hR i hi
theorem l48 {s a : Nat} {b : Nat → Nat} (hs : s < 6) (ha : x_Y X a = some (.inl (0, 3, .inl (fun p => nI (b p))))) : ∀ t k (h : aH), k + t = 3 → RC g h c (xs_hd X (va_up (x_hd X) s (thF k b (x_hd X s)))) → (∀ h1 : aH, h1.1 = h.1 → h1.2.1 = h.2.1 → RC g h1 c (xs_hd X (va_up (x_hd X) s (thF 3 b (x_hd X s)))) → Q none h1) → am_R (d + 1) 48 7 [some (.ref (c + 39 + 6 * s)), some (.ref a), some (.int (nI k))] [] h Q := by
  intro t
  induction t with
  | zero =>
    intro k h hkt hR hQ
    obtain rfl : k = 3 := by omega
    simp (disch := first | assumption | omega | exact am_isr_ref | exact am_isr_null | exact am_isr_rf | exact am_c1_int | exact am_c1_ref | exact am_c1_null | exact am_c1_rf | exact am_b0 | exact am_b1 | exact RM_obj (by assumption) | (simp only [ne_eq]; done) | exact am_nz2 | exact am_nz3 | exact am_nz6 | exact am_lt (hB _ _) | exact am_lt (stF_lt hB) | exact b32_01) only [e48_7, e48_8, e48_9, e48_29, nle, if_true, Nat.le_refl]
    exact hQ h rfl rfl hR
  | succ t ih =>
    intro k h hkt hR hQ
    have hk3 : k < 3 := by omega
    have ha1 : h.2.2 a = some (.inl (0, 3, .inl (fun p => nI (b p)))) := kY hR ha
    rw [e48_7]
    simp (disch := first | assumption | omega | exact am_isr_ref | exact am_isr_null | exact am_isr_rf | exact am_c1_int | exact am_c1_ref | exact am_c1_null | exact am_c1_rf | exact am_b0 | exact am_b1 | exact RM_obj (by assumption) | (simp only [ne_eq]; done) | exact am_nz2 | exact am_nz3 | exact am_nz6 | exact am_lt (hB _ _) | exact am_lt (stF_lt hB) | exact b32_01) only [e48_8, e48_9, e48_12, e48_13, e48_16, e48_17, e48_18, e48_19, e48_22, nle, if_neg (show ¬ 3 ≤ k by omega), gV0_3 hs hR, d25t ha1 (by decide) hk3, Option.toList_some, List.cons_append, List.nil_append]
    refine wV2 hs hk3 hR (fun h1 g1 g2 hR1 => ?_)
    simp (disch := first | assumption | omega | exact am_isr_ref | exact am_isr_null | exact am_isr_rf | exact am_c1_int | exact am_c1_ref | exact am_c1_null | exact am_c1_rf | exact am_b0 | exact am_b1 | exact RM_obj (by assumption) | (simp only [ne_eq]; done) | exact am_nz2 | exact am_nz3 | exact am_nz6 | exact am_lt (hB _ _) | exact am_lt (stF_lt hB) | exact b32_01) only [e48_23, e48_26, nI_add]
    refine ih (k + 1) h1 (by omega) ?_ (fun h2 g3 g4 => hQ h2 (g3.trans g1) (g4.trans g2))
    rw [← th_vu]
    exact hR1
theorem d48 {h : aH} {s a : Nat} {b : Nat → Nat} (hs : s < 6) (ha : x_Y X a = some (.inl (0, 3, .inl (fun p => nI (b p))))) (hR : RC g h c X) (hQ : ∀ h1 : aH, h1.1 = h.1 → h1.2.1 = h.2.1 → RC g h1 c (xs_hd X (va_up (x_hd X) s (thF 3 b (x_hd X s)))) → Q none h1) : am_R (d + 1) 48 0 [some (.ref (c + 39 + 6 * s)), some (.ref a), none] [] h Q := by
  simp (disch := first | assumption | omega | exact am_isr_ref | exact am_isr_null | exact am_isr_rf | exact am_c1_int | exact am_c1_ref | exact am_c1_null | exact am_c1_rf | exact am_b0 | exact am_b1 | exact RM_obj (by assumption) | (simp only [ne_eq]; done) | exact am_nz2 | exact am_nz3 | exact am_nz6 | exact am_lt (hB _ _) | exact am_lt (stF_lt hB) | exact b32_01) only [e48_0, e48_1r, e48_1n, e48_1q, e48_4, e48_5, e48_6]
  refine l48 hs ha 3 0 h rfl ?_ hQ
  rw [th_0, vu_i]
  exact hR
def pnF (ck lt : Nat) (s : Nat → Nat) : Nat := max (max (max (max ck lt) (s 0)) (s 1)) (s 2) + 1
theorem d49 {h : aH} {s t n pl cl lt tm td : Nat} {sn f : Nat → Nat} {v : Nat → Int32} (hs : s < 6) (hn : n < 200) (hT0 : Tr (yH X) t n pl cl lt tm td sn f v) (hck : x_ck X s < 1000000) (hlt : lt < 1000000) (hsn : ∀ p, sn p < 1000000) (hR : RC g h c X) (hQ : ∀ h1 : aH, h1.1 = h.1 → h1.2.1 = h.2.1 → RC g h1 c (xs_tm (xs_sg (xs_ck X (va_up (x_ck X) s (pnF (x_ck X s) lt sn))) (va_up (x_sg X) s (va_up (x_sg X s) n 1))) (va_up (x_tm X) s (va_up (x_tm X s) n (pnF (x_ck X s) lt sn)))) → Q (some (.int (nI (pnF (x_ck X s) lt sn)))) h1) : am_R (d + 1) 49 0 [some (.ref (c + 39 + 6 * s)), some (.ref t), none, none] [] h Q := by
  have hT := TrH hR hT0
  have b0 := hsn 0
  have b1 := hsn 1
  have b2 := hsn 2
  simp (disch := first | assumption | omega | exact am_isr_ref | exact am_isr_null | exact am_isr_rf | exact am_c1_int | exact am_c1_ref | exact am_c1_null | exact am_c1_rf | exact am_b0 | exact am_b1 | exact RM_obj (by assumption) | (simp only [ne_eq]; done) | exact am_nz2 | exact am_nz3 | exact am_nz6 | exact am_lt (hB _ _) | exact am_lt (stF_lt hB) | exact b32_01) only [e49_0, e49_1, e49_4, e49_5, e49_8, e49_11, e49_12, e49_13, e49_14, e49_15, e49_16, e49_19, e49_20, e49_21, e49_24, e49_25, e49_28, e49_31, e49_32, e49_35, e49_38, e49_39, e49_40, e49_41, gV0_8 hs hR, gT_3 hT, gT_4 hT, nI_max, d25t (e := 0) hT.2.1 (by decide) (by decide), d25t (e := 1) hT.2.1 (by decide) (by decide), d25t (e := 2) hT.2.1 (by decide) (by decide), Option.toList_some, List.cons_append, List.nil_append, nI_add, nle, if_true, if_false, Nat.reduceAdd, Nat.reduceLeDiff]
  have ho := oV0 hs hR
  rw [e49_42]
  refine pV0_ck hs hR (fun h1 g1 g2 hR1 => ?_)
  have hT1 := TrH hR1 hT0
  have ho1 := oV0 hs hR1
  have r1 : x_ck (xs_ck X (va_up (x_ck X) s (max (max (max (max (x_ck X s) lt) (sn 0)) (sn 1)) (sn 2) + 1))) s = pnF (x_ck X s) lt sn := vu_s
  simp (disch := first | assumption | omega | exact am_isr_ref | exact am_isr_null | exact am_isr_rf | exact am_c1_int | exact am_c1_ref | exact am_c1_null | exact am_c1_rf | exact am_b0 | exact am_b1 | exact RM_obj (by assumption) | (simp only [ne_eq]; done) | exact am_nz2 | exact am_nz3 | exact am_nz6 | exact am_lt (hB _ _) | exact am_lt (stF_lt hB) | exact b32_01) only [e49_45, e49_46, e49_47, e49_50, e49_51, e49_52, e49_55, gT_0 hT1, gV0_8 hs hR1, r1]
  refine d50 hs hn hR1 (fun h2 g3 g4 hR2 => ?_)
  simp (disch := first | assumption | omega | exact am_isr_ref | exact am_isr_null | exact am_isr_rf | exact am_c1_int | exact am_c1_ref | exact am_c1_null | exact am_c1_rf | exact am_b0 | exact am_b1 | exact RM_obj (by assumption) | (simp only [ne_eq]; done) | exact am_nz2 | exact am_nz3 | exact am_nz6 | exact am_lt (hB _ _) | exact am_lt (stF_lt hB) | exact b32_01) only [e49_58, e49_59, e49_62, Option.toList_none, List.nil_append, gV0_8 hs hR2]
  have r2 : x_ck (xs_tm (xs_sg (xs_ck X (va_up (x_ck X) s (max (max (max (max (x_ck X s) lt) (sn 0)) (sn 1)) (sn 2) + 1))) (va_up (x_sg X) s (va_up (x_sg X s) n 1))) (va_up (x_tm X) s (va_up (x_tm X s) n (pnF (x_ck X s) lt sn)))) s = pnF (x_ck X s) lt sn := vu_s
  have q := hQ h2 (g3.trans g1) (g4.trans g2) hR2
  rw [← r2] at q
  exact q
theorem d59 {h : aH} {t n pl cl lt tm td x : Nat} {sn f : Nat → Nat} {v : Nat → Int32} (htm : tm < 1000000) (hx : x < 1000000) (hT0 : Tr (yH X) t n pl cl lt tm td sn f v) (hR : RC g h c X) (hQ : ∀ h1 : aH, h1.1 = h.1 → h1.2.1 = h.2.1 → RC g h1 c (xs_Y X (va_up (x_Y X) t (some (.inr (5, [.int (nI n), .int (nI pl), .ref cl, .int (nI lt), .ref (t + 1), .ref (t + 2), .int (nI (max tm x)), .int (nI td)]))))) → Q none h1) : am_R d 59 0 [some (.ref t), some (.int (nI x))] [] h Q := by
  have hT := TrH hR hT0
  simp (disch := first | assumption | omega | exact am_isr_ref | exact am_isr_null | exact am_isr_rf | exact am_c1_int | exact am_c1_ref | exact am_c1_null | exact am_c1_rf | exact am_b0 | exact am_b1 | exact RM_obj (by assumption) | (simp only [ne_eq]; done) | exact am_nz2 | exact am_nz3 | exact am_nz6 | exact am_lt (hB _ _) | exact am_lt (stF_lt hB) | exact b32_01) only [e59_0, e59_1, e59_2, e59_5, e59_6, e59_9, e59_12, gT_6 hT, nI_max]
  refine pY (fs := [.int (nI n), .int (nI pl), .ref cl, .int (nI lt), .ref (t + 1), .ref (t + 2), .int (nI tm), .int (nI td)]) hT0.1 (Nat.le_of_ble_eq_true rfl) hR (fun h1 g1 g2 hR1 => ?_)
  exact hQ h1 g1 g2 hR1
theorem d65 {h : aH} {i k : Nat} {v : Int32} (hi : i < 6) (hk : k < 8) (hR : RC g h c X) (hQ : ∀ h1 : aH, h1.1 = h.1 → h1.2.1 = h.2.1 → RC g h1 c (xs_iv (xs_hs X (va_up (x_hs X) i (va_up (x_hs X i) k 1))) (va_up (x_iv X) i (va_up (x_iv X i) k v))) → Q none h1) : am_R (d + 1) 65 0 [some (.ref (c + 5 + 6 * i)), some (.int (nI k)), some (.int v)] [] h Q := by
  simp (disch := first | assumption | omega | exact am_isr_ref | exact am_isr_null | exact am_isr_rf | exact am_c1_int | exact am_c1_ref | exact am_c1_null | exact am_c1_rf | exact am_b0 | exact am_b1 | exact RM_obj (by assumption) | (simp only [ne_eq]; done) | exact am_nz2 | exact am_nz3 | exact am_nz6 | exact am_lt (hB _ _) | exact am_lt (stF_lt hB) | exact b32_01) only [e65_0, e65_1, e65_4, e65_7, e65_8, e65_11, e65_12, e65_13, d22t hk, Option.toList_some, List.cons_append, List.nil_append, if_neg (show ¬ nI 1 = 0 by decide), gC3_0 hi hR]
  refine wC4 hi hk hR (fun h1 g1 g2 hR1 => ?_)
  simp (disch := first | assumption | omega | exact am_isr_ref | exact am_isr_null | exact am_isr_rf | exact am_c1_int | exact am_c1_ref | exact am_c1_null | exact am_c1_rf | exact am_b0 | exact am_b1 | exact RM_obj (by assumption) | (simp only [ne_eq]; done) | exact am_nz2 | exact am_nz3 | exact am_nz6 | exact am_lt (hB _ _) | exact am_lt (stF_lt hB) | exact b32_01) only [e65_14, e65_15, e65_18, e65_19, e65_20, e65_21, gC3_1 hi hR1]
  refine wC5 hi hk hR1 (fun h2 g3 g4 hR2 => ?_)
  exact hQ h2 (g3.trans g1) (g4.trans g2) hR2
abbrev clX (X : aX) (i k : Nat) : aX := xs_iv (xs_hs X (va_up (x_hs X) i (thF k (fun _ => 0) (x_hs X i)))) (va_up (x_iv X) i (thF k (fun _ => nI 0) (x_iv X i)))
theorem l64 {i : Nat} (hi : i < 6) : ∀ t k (h : aH), k + t = 8 → RC g h c (clX X i k) → (∀ h1 : aH, h1.1 = h.1 → h1.2.1 = h.2.1 → RC g h1 c (clX X i 8) → Q none h1) → am_R d 64 2 [some (.ref (c + 5 + 6 * i)), some (.int (nI k))] [] h Q := by
  intro t
  induction t with
  | zero =>
    intro k h hkt hR hQ
    obtain rfl : k = 8 := by omega
    simp (disch := first | assumption | omega | exact am_isr_ref | exact am_isr_null | exact am_isr_rf | exact am_c1_int | exact am_c1_ref | exact am_c1_null | exact am_c1_rf | exact am_b0 | exact am_b1 | exact RM_obj (by assumption) | (simp only [ne_eq]; done) | exact am_nz2 | exact am_nz3 | exact am_nz6 | exact am_lt (hB _ _) | exact am_lt (stF_lt hB) | exact b32_01) only [e64_2, e64_3, e64_5, e64_28, nle, if_true, Nat.le_refl]
    exact hQ h rfl rfl hR
  | succ t ih =>
    intro k h hkt hR hQ
    have hk8 : k < 8 := by omega
    rw [e64_2]
    simp (disch := first | assumption | omega | exact am_isr_ref | exact am_isr_null | exact am_isr_rf | exact am_c1_int | exact am_c1_ref | exact am_c1_null | exact am_c1_rf | exact am_b0 | exact am_b1 | exact RM_obj (by assumption) | (simp only [ne_eq]; done) | exact am_nz2 | exact am_nz3 | exact am_nz6 | exact am_lt (hB _ _) | exact am_lt (stF_lt hB) | exact b32_01) only [e64_3, e64_5, e64_8, e64_9, e64_12, e64_13, e64_14, nle, if_neg (show ¬ 8 ≤ k by omega), gC3_0 hi hR]
    refine wC4 hi hk8 hR (fun h1 g1 g2 hR1 => ?_)
    simp (disch := first | assumption | omega | exact am_isr_ref | exact am_isr_null | exact am_isr_rf | exact am_c1_int | exact am_c1_ref | exact am_c1_null | exact am_c1_rf | exact am_b0 | exact am_b1 | exact RM_obj (by assumption) | (simp only [ne_eq]; done) | exact am_nz2 | exact am_nz3 | exact am_nz6 | exact am_lt (hB _ _) | exact am_lt (stF_lt hB) | exact b32_01) only [e64_15, e64_16, e64_19, e64_20, e64_21, gC3_1 hi hR1]
    refine wC5 hi hk8 hR1 (fun h2 g3 g4 hR2 => ?_)
    simp (disch := first | assumption | omega | exact am_isr_ref | exact am_isr_null | exact am_isr_rf | exact am_c1_int | exact am_c1_ref | exact am_c1_null | exact am_c1_rf | exact am_b0 | exact am_b1 | exact RM_obj (by assumption) | (simp only [ne_eq]; done) | exact am_nz2 | exact am_nz3 | exact am_nz6 | exact am_lt (hB _ _) | exact am_lt (stF_lt hB) | exact b32_01) only [e64_22, e64_25, nI_add]
    refine ih (k + 1) h2 (by omega) ?_ (fun h3 g5 g6 => hQ h3 (g5.trans (g3.trans g1)) (g6.trans (g4.trans g2)))
    unfold clX
    rw [← th_vu (f := x_hs X), ← th_vu (f := x_iv X)]
    exact hR2
theorem d64 {h : aH} {i : Nat} (hi : i < 6) (hR : RC g h c X) (hQ : ∀ h1 : aH, h1.1 = h.1 → h1.2.1 = h.2.1 → RC g h1 c (clX X i 8) → Q none h1) : am_R d 64 0 [some (.ref (c + 5 + 6 * i)), none] [] h Q := by
  rw [e64_0, e64_1]
  refine l64 hi 8 0 h rfl ?_ hQ
  unfold clX
  rw [th_0, th_0, vu_i, vu_i]
  exact hR
end CX
