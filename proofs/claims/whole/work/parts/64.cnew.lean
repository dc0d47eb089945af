/-! the class: a new Writes, putAll -/
section CN
variable {d : Nat} {g : Nat → Option aE} {c : Nat} {X : aX} {Q : Option Value → aH → Prop}
theorem hx8 : ¬ nI 8 < 0 ∧ (nI 8).toNatClampNeg ≤ 1000000 := by decide
theorem tc8 : (nI 8).toNatClampNeg = 8 := by decide
theorem d63 {h : aH} {w : Nat} (hw : h.1 = w + 1) (hb : x_Y X w = some (.inr (6, am_df 6))) (hR : RC g h c X) (hQ : ∀ (h1 : aH) (Y : Nat → Option aE), h1.1 = h.1 + 2 → h1.2.1 = h.2.1 + 16 → RC g h1 c (xs_Y X Y) → Wr (0, 0, Y) w (fun _ => 0) (fun _ => nI 0) → (∀ b, b < w → Y b = x_Y X b) → Q none h1) : am_R d 63 0 [some (.ref w)] [] h Q := by
  rw [e63_0 rfl, e63_1, e63_4 rfl, e63_5, e63_7 hx8, tc8]
  have hR1 := nY (k := 8) (e := .inl (1, 8, .inl (fun _ => 0))) hR
  generalize hh : am_nw h 8 (.inl (1, 8, .inl (fun _ => 0))) = h1 at hR1 ⊢
  have n1 : h1.1 = h.1 + 1 := by rw [← hh]; rfl
  have n2 : h1.2.1 = h.2.1 + 8 := by rw [← hh]; rfl
  rw [e63_9 rfl]
  refine pY (fs := am_df 6) ((vu_n (by omega)).trans hb) (Nat.le_of_ble_eq_true rfl) hR1 (fun h2 g1 g2 hR2 => ?_)
  rw [e63_12 rfl, e63_13, e63_15 hx8, tc8]
  have hR3 := nY (k := 8) (e := .inl (0, 8, .inl (fun _ => 0))) hR2
  generalize hh2 : am_nw h2 8 (.inl (0, 8, .inl (fun _ => 0))) = h3 at hR3 ⊢
  have n3 : h3.1 = h2.1 + 1 := by rw [← hh2]; rfl
  have n4 : h3.2.1 = h2.2.1 + 8 := by rw [← hh2]; rfl
  rw [e63_17 rfl]
  refine pY (fs := (am_df 6).set 0 (.ref h.1)) ((vu_n (by omega)).trans vu_s) (Nat.le_of_ble_eq_true rfl) hR3 (fun h4 g3 g4 hR4 => ?_)
  rw [e63_20]
  refine hQ h4 _ (by omega) (by omega) hR4 ⟨?_, ?_, ?_, fun _ => Nat.zero_lt_succ _⟩ (fun b hbw => ?_)
  · refine vu_s.trans ?_
    rw [hw, show h2.1 = w + 2 by omega]
    rfl
  · refine (vu_n (by omega)).trans ((vu_n (by omega)).trans ((vu_n (by omega)).trans ?_))
    rw [← hw]
    exact vu_s
  · refine (vu_n (by omega)).trans ?_
    rw [show w + 2 = h2.1 by omega]
    exact vu_s
  · exact (vu_n (by omega)).trans ((vu_n (by omega)).trans ((vu_n (by omega)).trans (vu_n (by omega))))
theorem pzY {h : aH} {a e n : Nat} {x : Int32} {f : Nat → Int32} {F : aH → Prop} (ha : x_Y X a = some (.inl (1, n, .inl f))) (he : e < n) (hn : n < 1000000) (hR : RC g h c X) (hF : ∀ h1 : aH, h1.1 = h.1 → h1.2.1 = h.2.1 → RC g h1 c (xs_Y X (va_up (x_Y X) a (some (.inl (1, n, .inl (upd f e x)))))) → F h1) : am_paz h a (nI e) x F := by
  rw [am_paz_of (kY hR ha) (am_in_nI he (by omega)), nI_clamp (by omega)]
  exact hF _ rfl rfl (uY hR ha)
theorem piY {h : aH} {a e n : Nat} {x : Int32} {f : Nat → Int32} {F : aH → Prop} (ha : x_Y X a = some (.inl (0, n, .inl f))) (he : e < n) (hn : n < 1000000) (hR : RC g h c X) (hF : ∀ h1 : aH, h1.1 = h.1 → h1.2.1 = h.2.1 → RC g h1 c (xs_Y X (va_up (x_Y X) a (some (.inl (0, n, .inl (upd f e x)))))) → F h1) : am_pa h a (nI e) x F := by
  rw [am_pa_of (kY hR ha) (am_in_nI he (by omega)), nI_clamp (by omega)]
  exact hF _ rfl rfl (uY hR ha)
theorem l66 {w i : Nat} (hi : i < 6) (hb : ∀ k, x_hs X i k < 2) : ∀ t k (h : aH) (Y : Nat → Option aE), k + t = 8 → RC g h c (xs_Y X Y) → Wr (0, 0, Y) w (thF k (x_hs X i) (fun _ => 0)) (thF k (x_iv X i) (fun _ => nI 0)) → (∀ b, b < w → Y b = x_Y X b) → (∀ (h1 : aH) (Y : Nat → Option aE), h1.1 = h.1 → h1.2.1 = h.2.1 → RC g h1 c (xs_Y X Y) → Wr (0, 0, Y) w (thF 8 (x_hs X i) (fun _ => 0)) (thF 8 (x_iv X i) (fun _ => nI 0)) → (∀ b, b < w → Y b = x_Y X b) → Q none h1) → am_R d 66 2 [some (.ref w), some (.ref (c + 5 + 6 * i)), some (.int (nI k))] [] h Q := by
  intro t
  induction t with
  | zero =>
    intro k h Y hkt hR hW hY hQ
    obtain rfl : k = 8 := by omega
    simp (disch := first | assumption | omega | exact am_isr_ref | exact am_isr_null | exact am_isr_rf | exact am_c1_int | exact am_c1_ref | exact am_c1_null | exact am_c1_rf | exact am_b0 | exact am_b1 | exact RM_obj (by assumption) | (simp only [ne_eq]; done) | exact am_nz2 | exact am_nz3 | exact am_nz6 | exact am_lt (hB _ _) | exact am_lt (stF_lt hB) | exact b32_01) only [e66_2, e66_3, e66_5, e66_38, nle, if_true, Nat.le_refl]
    exact hQ h Y rfl rfl hR hW hY
  | succ t ih =>
    intro k h Y hkt hR hW hY hQ
    have hk8 : k < 8 := by omega
    have hWh : Wr h w (thF k (x_hs X i) (fun _ => 0)) (thF k (x_iv X i) (fun _ => nI 0)) := WrH hR hW
    have h01 : nI (x_hs X i k) = 0 ∨ nI (x_hs X i k) = 1 := by
      have := hb k
      have : x_hs X i k = 0 ∨ x_hs X i k = 1 := by omega
      rcases this with q | q <;> rw [q]
      · exact Or.inl rfl
      · exact Or.inr rfl
    rw [e66_2]
    simp (disch := first | assumption | omega | exact am_isr_ref | exact am_isr_null | exact am_isr_rf | exact am_c1_int | exact am_c1_ref | exact am_c1_null | exact am_c1_rf | exact am_b0 | exact am_b1 | exact RM_obj (by assumption) | (simp only [ne_eq]; done) | exact am_nz2 | exact am_nz3 | exact am_nz6 | exact am_lt (hB _ _) | exact am_lt (stF_lt hB) | exact b32_01) only [e66_3, e66_5, e66_8, e66_9, e66_12, e66_13, e66_14, e66_17, e66_18, e66_19, nle, if_neg (show ¬ 8 ≤ k by omega), gW_0 hWh, gC3_0 hi hR, rC4 hi hR hk8]
    refine pzY hW.2.1 hk8 (by decide) hR (fun h1 g1 g2 hR1 => ?_)
    have hW1 : Wr (0, 0, va_up Y (w + 1) (some (.inl (1, 8, .inl (upd (fun k_1 => nI (thF k (x_hs X i) (fun _ => 0) k_1)) k (nI (x_hs X i k))))))) w (thF (k + 1) (x_hs X i) (fun _ => 0)) (thF k (x_iv X i) (fun _ => nI 0)) := by
      refine ⟨(vu_n (by omega)).trans hW.1, vu_s.trans ?_, (vu_n (by omega)).trans hW.2.2.1, fun j => ?_⟩
      · rw [nI_upd, th_up]
      · unfold thF; split
        · exact hb j
        · exact Nat.zero_lt_succ _
    have hWh1 : Wr h1 w (thF (k + 1) (x_hs X i) (fun _ => 0)) (thF k (x_iv X i) (fun _ => nI 0)) := WrH hR1 hW1
    simp (disch := first | assumption | omega | exact am_isr_ref | exact am_isr_null | exact am_isr_rf | exact am_c1_int | exact am_c1_ref | exact am_c1_null | exact am_c1_rf | exact am_b0 | exact am_b1 | exact RM_obj (by assumption) | (simp only [ne_eq]; done) | exact am_nz2 | exact am_nz3 | exact am_nz6 | exact am_lt (hB _ _) | exact am_lt (stF_lt hB) | exact b32_01) only [e66_20, e66_21, e66_24, e66_25, e66_26, e66_29, e66_30, e66_31, gW_1 hWh1, gC3_1 hi hR1, rC5 hi hR1 hk8]
    refine piY hW1.2.2.1 hk8 (by decide) hR1 (fun h2 g3 g4 hR2 => ?_)
    simp (disch := first | assumption | omega | exact am_isr_ref | exact am_isr_null | exact am_isr_rf | exact am_c1_int | exact am_c1_ref | exact am_c1_null | exact am_c1_rf | exact am_b0 | exact am_b1 | exact RM_obj (by assumption) | (simp only [ne_eq]; done) | exact am_nz2 | exact am_nz3 | exact am_nz6 | exact am_lt (hB _ _) | exact am_lt (stF_lt hB) | exact b32_01) only [e66_32, e66_35, nI_add]
    refine ih (k + 1) h2 _ (by omega) hR2 ⟨(vu_n (by omega)).trans hW1.1, (vu_n (by omega)).trans hW1.2.1, vu_s.trans ?_, hW1.2.2.2⟩ (fun b hbw => (vu_n (by omega)).trans ((vu_n (by omega)).trans (hY b hbw))) (fun h3 Y3 g5 g6 => hQ h3 Y3 (g5.trans (g3.trans g1)) (g6.trans (g4.trans g2)))
    have e : upd (thF k (x_iv X i) (fun _ => nI 0)) k (x_iv X i k) = thF (k + 1) (x_iv X i) (fun _ => nI 0) := th_up
    rw [← e]
end CN
