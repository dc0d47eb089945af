/-! the class's constructors -/
def Bd (g : Nat → Option aE) (c k : Nat) (h : aH) (F : Nat → Option aE) : Prop := h.1 = c + k ∧ (∀ j, j < k → h.2.2 (c + j) = F j) ∧ ∀ a e, g a = some e → h.2.2 a = some e ∧ a < c
section BD
variable {d : Nat} {g : Nat → Option aE} {c k : Nat} {h : aH} {F : Nat → Option aE} {Q : Option Value → aH → Prop}
theorem bNw {n : Nat} {e : aE} (hB : Bd g c k h F) : Bd g c (k + 1) (am_nw h n e) (va_up F k (some e)) := by
  obtain ⟨b1, b2, b3⟩ := hB
  refine ⟨by show h.1 + 1 = _; omega, fun j hj => ?_, fun a e2 ha => ?_⟩
  · show (if c + j = h.1 then some e else h.2.2 (c + j)) = va_up F k (some e) j
    by_cases q : j = k
    · rw [if_pos (by omega), q, vu_s]
    · rw [if_neg (by omega), vu_n q]
      exact b2 j (by omega)
  · obtain ⟨a1, a2⟩ := b3 a e2 ha
    refine ⟨?_, a2⟩
    show (if a = h.1 then some e else h.2.2 a) = some e2
    rw [if_neg (by omega)]
    exact a1
theorem bUp {j : Nat} {e : aE} (hj : j < k) (hB : Bd g c k h F) : Bd g c k (am_up h (c + j) e) (va_up F j (some e)) := by
  obtain ⟨b1, b2, b3⟩ := hB
  refine ⟨b1, fun i hi => ?_, fun a e2 ha => ?_⟩
  · show (if c + i = c + j then some e else h.2.2 (c + i)) = va_up F j (some e) i
    by_cases q : i = j
    · rw [if_pos (by omega), q, vu_s]
    · rw [if_neg (by omega), vu_n q]
      exact b2 i hi
  · obtain ⟨a1, a2⟩ := b3 a e2 ha
    refine ⟨?_, a2⟩
    show (if a = c + j then some e else h.2.2 a) = some e2
    rw [if_neg (by omega)]
    exact a1
theorem bPf {ci j i : Nat} {fs : List Value} {v : Value} {G : aH → Prop} (hF : F j = some (.inr (ci, fs))) (hj : j < k) (hi : i < fs.length) (hB : Bd g c k h F) (hG : ∀ h1 : aH, h1.2.1 = h.2.1 → Bd g c k h1 (va_up F j (some (.inr (ci, fs.set i v)))) → G h1) : am_pf h ci (c + j) i v G := by
  rw [am_pf_of ((hB.2.1 j hj).trans hF) hi]
  exact hG _ rfl (bUp hj hB)
theorem bPq {t n j i : Nat} {f : Nat → Option Nat} {o : Option Nat} {G : aH → Prop} (hF : F j = some (.inl (t, n, .inr f))) (hj : j < k) (hi : i < n) (hn : n < 1000000) (ho : am_isc h t o = true) (hB : Bd g c k h F) (hG : ∀ h1 : aH, h1.2.1 = h.2.1 → Bd g c k h1 (va_up F j (some (.inl (t, n, .inr (va_up f i o))))) → G h1) : am_paq h (c + j) (nI i) o G := by
  rw [am_paq_of ((hB.2.1 j hj).trans hF) (am_in_nI hi (by omega)) ho, nI_clamp (by omega)]
  exact hG _ rfl (bUp hj hB)
theorem bGf {ci j i : Nat} {fs : List Value} {v : Value} {G : Value → Prop} (hF : F j = some (.inr (ci, fs))) (hj : j < k) (hi : fs[i]? = some v) (hB : Bd g c k h F) : am_gf h ci (c + j) i G = G v := am_gf_of ((hB.2.1 j hj).trans hF) hi
theorem bGl {t n j : Nat} {cc : (Nat → Int32) ⊕ (Nat → Option Nat)} {G : Nat → Prop} (hF : F j = some (.inl (t, n, cc))) (hj : j < k) (hB : Bd g c k h F) : am_gl h (c + j) G = G n := am_gl_of ((hB.2.1 j hj).trans hF)
theorem hx3 : ¬ nI 3 < 0 ∧ (nI 3).toNatClampNeg ≤ 1000000 := by decide
theorem tc3 : (nI 3).toNatClampNeg = 3 := by decide
theorem hx6 : ¬ nI 6 < 0 ∧ (nI 6).toNatClampNeg ≤ 1000000 := by decide
theorem tc6 : (nI 6).toNatClampNeg = 6 := by decide
theorem hx36 : ¬ nI 36 < 0 ∧ (nI 36).toNatClampNeg ≤ 1000000 := by decide
theorem tc36 : (nI 36).toNatClampNeg = 36 := by decide
theorem hx200 : ¬ nI 200 < 0 ∧ (nI 200).toNatClampNeg ≤ 1000000 := by decide
theorem tc200 : (nI 200).toNatClampNeg = 200 := by decide
theorem b63 {w : Nat} (hw : F w = some (.inr (6, am_df 6))) (hk : k = w + 1) (hB : Bd g c k h F) (hQ : ∀ (h1 : aH) (F1 : Nat → Option aE), h1.2.1 = h.2.1 + 16 → Bd g c (w + 3) h1 F1 → (∀ j, j < w → F1 j = F j) → F1 w = some (.inr (6, [.ref (c + (w + 1)), .ref (c + (w + 2))])) → F1 (w + 1) = some (.inl (1, 8, .inl (fun _ => 0))) → F1 (w + 2) = some (.inl (0, 8, .inl (fun _ => 0))) → Q none h1) : am_R d 63 0 [some (.ref (c + w))] [] h Q := by
  subst hk
  rw [e63_0 am_isr_ref, e63_1, e63_4 am_isr_ref, e63_5, e63_7 hx8, tc8, hB.1]
  have hB1 := bNw (n := 8) (e := .inl (1, 8, .inl (fun _ => 0))) hB
  have z1 : (am_nw h 8 (.inl (1, 8, .inl (fun _ => 0)))).2.1 = h.2.1 + 8 := rfl
  generalize am_nw h 8 (.inl (1, 8, .inl (fun _ => 0))) = h1 at hB1 z1 ⊢
  rw [e63_9 am_isr_ref]
  refine bPf (fs := am_df 6) ((vu_n (by omega)).trans hw) (by omega) (Nat.le_of_ble_eq_true rfl) hB1 (fun h2 z2 hB2 => ?_)
  rw [e63_12 am_isr_ref, e63_13, e63_15 hx8, tc8, hB2.1]
  have hB3 := bNw (n := 8) (e := .inl (0, 8, .inl (fun _ => 0))) hB2
  have z3 : (am_nw h2 8 (.inl (0, 8, .inl (fun _ => 0)))).2.1 = h2.2.1 + 8 := rfl
  generalize am_nw h2 8 (.inl (0, 8, .inl (fun _ => 0))) = h3 at hB3 z3 ⊢
  rw [e63_17 am_isr_ref]
  refine bPf (fs := (am_df 6).set 0 (.ref (c + (w + 1)))) ((vu_n (by omega)).trans vu_s) (by omega) (Nat.le_of_ble_eq_true rfl) hB3 (fun h4 z4 hB4 => ?_)
  rw [e63_20]
  refine hQ h4 _ (by omega) hB4 (fun j hj => ?_) vu_s ?_ ?_
  · rw [vu_n (by omega), vu_n (by omega), vu_n (by omega), vu_n (by omega)]
  · rw [vu_n (by omega), vu_n (by omega), vu_n (by omega), vu_s]
  · rw [vu_n (by omega), vu_s]
theorem b33 {o : Nat} {x : Int32} (hw : F o = some (.inr (1, am_df 1))) (hk : k = o + 1) (hB : Bd g c k h F) (hQ : ∀ (h1 : aH) (F1 : Nat → Option aE), h1.2.1 = h.2.1 + 29 → Bd g c (o + 6) h1 F1 → (∀ j, j < o → F1 j = F j) → F1 o = some (.inr (1, [.int x, .ref (c + (o + 1)), .ref (c + (o + 2)), .ref (c + (o + 3)), .int 0, .int 0, .int 0])) → F1 (o + 1) = some (.inl (0, 3, .inl (fun _ => 0))) → F1 (o + 2) = some (.inl (5, 8, .inr (fun _ => none))) → F1 (o + 3) = some (.inr (6, [.ref (c + (o + 4)), .ref (c + (o + 5))])) → F1 (o + 4) = some (.inl (1, 8, .inl (fun _ => 0))) → F1 (o + 5) = some (.inl (0, 8, .inl (fun _ => 0))) → Q none h1) : am_R (d + 1) 33 0 [some (.ref (c + o)), some (.int x)] [] h Q := by
  subst hk
  rw [e33_0 am_isr_ref, e33_1, e33_4 am_isr_ref, e33_5, e33_6 hx3, tc3, hB.1]
  have hB1 := bNw (n := 3) (e := .inl (0, 3, .inl (fun _ => 0))) hB
  have z1 : (am_nw h 3 (.inl (0, 3, .inl (fun _ => 0)))).2.1 = h.2.1 + 3 := rfl
  generalize am_nw h 3 (.inl (0, 3, .inl (fun _ => 0))) = h1 at hB1 z1 ⊢
  rw [e33_8 am_isr_ref]
  refine bPf (fs := am_df 1) ((vu_n (by omega)).trans hw) (by omega) (Nat.le_of_ble_eq_true rfl) hB1 (fun h2 z2 hB2 => ?_)
  rw [e33_11 am_isr_ref, e33_12, e33_14 hx8, tc8, hB2.1]
  have hB3 := bNw (n := 8) (e := .inl (5, 8, .inr (fun _ => none))) hB2
  have z3 : (am_nw h2 8 (.inl (5, 8, .inr (fun _ => none)))).2.1 = h2.2.1 + 8 := rfl
  generalize am_nw h2 8 (.inl (5, 8, .inr (fun _ => none))) = h3 at hB3 z3 ⊢
  rw [e33_17 am_isr_ref]
  refine bPf (fs := (am_df 1).set 1 (.ref (c + (o + 1)))) ((vu_n (by omega)).trans vu_s) (by omega) (Nat.le_of_ble_eq_true rfl) hB3 (fun h4 z4 hB4 => ?_)
  rw [e33_20 am_isr_ref, e33_21, hB4.1]
  have hB5 := bNw (n := 2) (e := .inr (6, am_df 6)) hB4
  have z5 : (am_nw h4 2 (.inr (6, am_df 6))).2.1 = h4.2.1 + 2 := rfl
  generalize am_nw h4 2 (.inr (6, am_df 6)) = h5 at hB5 z5 ⊢
  rw [e33_24 am_c1_ref, e33_25 am_c1_ref am_c1_ref]
  refine b63 (w := o + 1 + 1 + 1) vu_s rfl hB5 (fun h6 F6 z6 hB6 f6 a1 a2 a3 => ?_)
  have q6 : F6 o = some (.inr (1, (((am_df 1).set 1 (.ref (c + (o + 1)))).set 2 (.ref (c + (o + 1 + 1)))))) := (f6 o (by omega)).trans ((vu_n (by omega)).trans vu_s)
  simp only [Option.toList_none, List.nil_append]
  rw [e33_28 am_isr_ref]
  refine bPf q6 (by omega) (Nat.le_of_ble_eq_true rfl) hB6 (fun h7 z7 hB7 => ?_)
  rw [e33_31 am_isr_ref, e33_32, e33_33]
  refine bPf (fs := (((am_df 1).set 1 (.ref (c + (o + 1)))).set 2 (.ref (c + (o + 1 + 1)))).set 3 (.ref (c + (o + 1 + 1 + 1)))) vu_s (by omega) (Nat.le_of_ble_eq_true rfl) hB7 (fun h8 z8 hB8 => ?_)
  rw [e33_36]
  refine hQ h8 _ (by omega) hB8 (fun j hj => ?_) vu_s ?_ ?_ ?_ ?_ ?_
  · rw [vu_n (by omega), vu_n (by omega), f6 j (by omega), vu_n (by omega), vu_n (by omega), vu_n (by omega), vu_n (by omega), vu_n (by omega)]
  · rw [vu_n (by omega), vu_n (by omega), f6 (o + 1) (by omega), vu_n (by omega), vu_n (by omega), vu_n (by omega), vu_n (by omega), vu_s]
  · rw [vu_n (by omega), vu_n (by omega), f6 (o + 2) (by omega), vu_n (by omega), vu_n (by omega), vu_s]
  · rw [vu_n (by omega), vu_n (by omega)]; exact a1
  · rw [vu_n (by omega), vu_n (by omega)]; exact a2
  · rw [vu_n (by omega), vu_n (by omega)]; exact a3
theorem b43 {o s : Nat} (hs : s < 6) (hw : F o = some (.inr (4, am_df 4))) (hk : k = o + 1) (hB : Bd g c k h F) (hQ : ∀ (h1 : aH) (F1 : Nat → Option aE), h1.2.1 = h.2.1 + 606 → Bd g c (o + 6) h1 F1 → (∀ j, j < o → F1 j = F j) → F1 o = some (.inr (4, [.int (nI s), .int (nI (s / 2)), .ref (c + (o + 1)), .ref (c + (o + 2)), .ref (c + (o + 3)), .ref (c + (o + 4)), .ref (c + (o + 5)), .int 0, .int 0])) → F1 (o + 1) = some (.inl (0, 3, .inl (fun _ => 0))) → F1 (o + 2) = some (.inl (0, 3, .inl (fun _ => 0))) → F1 (o + 3) = some (.inl (0, 200, .inl (fun _ => 0))) → F1 (o + 4) = some (.inl (0, 200, .inl (fun _ => 0))) → F1 (o + 5) = some (.inl (5, 200, .inr (fun _ => none))) → Q none h1) : am_R d 43 0 [some (.ref (c + o)), some (.int (nI s))] [] h Q := by
  subst hk
  rw [e43_0 am_isr_ref, e43_1, e43_4 am_isr_ref, e43_5, e43_6 hx3, tc3, hB.1]
  have hB1 := bNw (n := 3) (e := .inl (0, 3, .inl (fun _ => 0))) hB
  have z1 : (am_nw h 3 (.inl (0, 3, .inl (fun _ => 0)))).2.1 = h.2.1 + 3 := rfl
  generalize am_nw h 3 (.inl (0, 3, .inl (fun _ => 0))) = h1 at hB1 z1 ⊢
  rw [e43_8 am_isr_ref]
  refine bPf (fs := am_df 4) ((vu_n (by omega)).trans hw) (by omega) (Nat.le_of_ble_eq_true rfl) hB1 (fun h2 z2 hB2 => ?_)
  rw [e43_11 am_isr_ref, e43_12, e43_13 hx3, tc3, hB2.1]
  have hB3 := bNw (n := 3) (e := .inl (0, 3, .inl (fun _ => 0))) hB2
  have z3 : (am_nw h2 3 (.inl (0, 3, .inl (fun _ => 0)))).2.1 = h2.2.1 + 3 := rfl
  generalize am_nw h2 3 (.inl (0, 3, .inl (fun _ => 0))) = h3 at hB3 z3 ⊢
  rw [e43_15 am_isr_ref]
  refine bPf (fs := (am_df 4).set 2 (.ref (c + (o + 1)))) ((vu_n (by omega)).trans vu_s) (by omega) (Nat.le_of_ble_eq_true rfl) hB3 (fun h4 z4 hB4 => ?_)
  rw [e43_18 am_isr_ref, e43_19, e43_22 hx200, tc200, hB4.1]
  have hB5 := bNw (n := 200) (e := .inl (0, 200, .inl (fun _ => 0))) hB4
  have z5 : (am_nw h4 200 (.inl (0, 200, .inl (fun _ => 0)))).2.1 = h4.2.1 + 200 := rfl
  generalize am_nw h4 200 (.inl (0, 200, .inl (fun _ => 0))) = h5 at hB5 z5 ⊢
  rw [e43_24 am_isr_ref]
  refine bPf (fs := ((am_df 4).set 2 (.ref (c + (o + 1)))).set 3 (.ref (c + (o + 1 + 1)))) ((vu_n (by omega)).trans vu_s) (by omega) (Nat.le_of_ble_eq_true rfl) hB5 (fun h6 z6 hB6 => ?_)
  rw [e43_27 am_isr_ref, e43_28, e43_31 hx200, tc200, hB6.1]
  have hB7 := bNw (n := 200) (e := .inl (0, 200, .inl (fun _ => 0))) hB6
  have z7 : (am_nw h6 200 (.inl (0, 200, .inl (fun _ => 0)))).2.1 = h6.2.1 + 200 := rfl
  generalize am_nw h6 200 (.inl (0, 200, .inl (fun _ => 0))) = h7 at hB7 z7 ⊢
  rw [e43_33 am_isr_ref]
  refine bPf (fs := (((am_df 4).set 2 (.ref (c + (o + 1)))).set 3 (.ref (c + (o + 1 + 1)))).set 4 (.ref (c + (o + 1 + 1 + 1)))) ((vu_n (by omega)).trans vu_s) (by omega) (Nat.le_of_ble_eq_true rfl) hB7 (fun h8 z8 hB8 => ?_)
  rw [e43_36 am_isr_ref, e43_37, e43_40 hx200, tc200, hB8.1]
  have hB9 := bNw (n := 200) (e := .inl (5, 200, .inr (fun _ => none))) hB8
  have z9 : (am_nw h8 200 (.inl (5, 200, .inr (fun _ => none)))).2.1 = h8.2.1 + 200 := rfl
  generalize am_nw h8 200 (.inl (5, 200, .inr (fun _ => none))) = h9 at hB9 z9 ⊢
  rw [e43_43 am_isr_ref]
  refine bPf (fs := ((((am_df 4).set 2 (.ref (c + (o + 1)))).set 3 (.ref (c + (o + 1 + 1)))).set 4 (.ref (c + (o + 1 + 1 + 1)))).set 5 (.ref (c + (o + 1 + 1 + 1 + 1)))) ((vu_n (by omega)).trans vu_s) (by omega) (Nat.le_of_ble_eq_true rfl) hB9 (fun h10 z10 hB10 => ?_)
  rw [e43_46 am_isr_ref, e43_47, e43_48]
  refine bPf (fs := (((((am_df 4).set 2 (.ref (c + (o + 1)))).set 3 (.ref (c + (o + 1 + 1)))).set 4 (.ref (c + (o + 1 + 1 + 1)))).set 5 (.ref (c + (o + 1 + 1 + 1 + 1)))).set 6 (.ref (c + (o + 1 + 1 + 1 + 1 + 1)))) vu_s (by omega) (Nat.le_of_ble_eq_true rfl) hB10 (fun h11 z11 hB11 => ?_)
  rw [e43_51 am_isr_ref, e43_52, e43_53, e43_54 am_nz2, pk_div (by omega) (by decide) (by decide), e43_55]
  refine bPf (fs := ((((((am_df 4).set 2 (.ref (c + (o + 1)))).set 3 (.ref (c + (o + 1 + 1)))).set 4 (.ref (c + (o + 1 + 1 + 1)))).set 5 (.ref (c + (o + 1 + 1 + 1 + 1)))).set 6 (.ref (c + (o + 1 + 1 + 1 + 1 + 1)))).set 0 (.int (nI s))) vu_s (by omega) (Nat.le_of_ble_eq_true rfl) hB11 (fun h12 z12 hB12 => ?_)
  rw [e43_58]
  refine hQ h12 _ (by omega) hB12 (fun j hj => ?_) vu_s ?_ ?_ ?_ ?_ ?_
  · repeat rw [vu_n (by omega)]
  · repeat rw [vu_n (by omega)]
    exact vu_s
  · repeat rw [vu_n (by omega)]
    exact vu_s
  · repeat rw [vu_n (by omega)]
    exact vu_s
  · repeat rw [vu_n (by omega)]
    exact vu_s
  · repeat rw [vu_n (by omega)]
    exact vu_s
end BD
