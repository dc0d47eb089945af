/-! the model's constructor -/
def nV (a : Nat) : Nat := if a = 22 then 448 else nM a
def oI (m k : Nat) : List Value := (List.range 24).map (fun j => if j = 0 ∨ j = 22 then .int 0 else if j ≤ 21 then (if j ≤ k then .ref (m + j) else .null) else (if 22 ≤ k then .ref (m + 22) else .null))
def sumV : Nat → Nat
  | 0 => 0
  | k + 1 => sumV k + nV (k + 1)
def IV (g : Nat → Option aE) (m z k : Nat) (h : aH) : Prop := h.1 = m + 1 + k ∧ h.2.1 = z + sumV k ∧ h.2.2 m = some (.inr (7, oI m k)) ∧ (∀ j, 1 ≤ j → j ≤ k → h.2.2 (m + j) = some (.inl (tM j, nV j, .inl (fun _ => 0)))) ∧ (∀ a e, g a = some e → h.2.2 a = some e ∧ a < m)
section MI
variable {d : Nat} {g : Nat → Option aE} {m z : Nat} {Q : Option Value → aH → Prop}
theorem IV_step {k kf : Nat} {h : aH} {F : aH → Prop} (hI : IV g m z k h) (hs : (oI m k).set kf (.ref (m + (k + 1))) = oI m (k + 1)) (hk : kf < 24) (hF : ∀ h1 : aH, IV g m z (k + 1) h1 → F h1) : am_pf (am_nw h (nV (k + 1)) (.inl (tM (k + 1), nV (k + 1), .inl (fun _ => 0)))) 7 m kf (.ref h.1) F := by
  obtain ⟨i1, i2, i3, i4, i5⟩ := hI
  have e1 : (am_nw h (nV (k + 1)) (.inl (tM (k + 1), nV (k + 1), .inl (fun _ => 0)))).2.2 m = some (.inr (7, oI m k)) := by
    show (if m = h.1 then _ else h.2.2 m) = _
    rw [if_neg (by omega)]
    exact i3
  have hl : (oI m k).length = 24 := by unfold oI; rw [List.length_map, List.length_range]
  rw [am_pf_of e1 (by omega)]
  refine hF _ ⟨?_, ?_, ?_, fun j j1 j2 => ?_, fun a e he => ?_⟩
  · show h.1 + 1 = _
    omega
  · show h.2.1 + nV (k + 1) = z + (sumV k + nV (k + 1))
    omega
  · show (if m = m then _ else _) = _
    rw [if_pos rfl, i1, show m + 1 + k = m + (k + 1) by omega, hs]
  · show (if m + j = m then _ else (if m + j = h.1 then _ else h.2.2 (m + j))) = _
    rw [if_neg (by omega)]
    by_cases hj : j = k + 1
    · subst hj
      rw [if_pos (by omega)]
    · rw [if_neg (by omega)]
      exact i4 j j1 (by omega)
  · have hq := i5 a e he
    refine ⟨?_, hq.2⟩
    show (if a = m then _ else (if a = h.1 then _ else h.2.2 a)) = _
    rw [if_neg (by omega), if_neg (by omega)]
    exact hq.1
theorem nw_ok {n : Nat} (hn : n ≤ 1000000) : ¬ nI n < 0 ∧ (nI n).toNatClampNeg ≤ 1000000 := ⟨nI_pos (by omega), by rw [nI_clamp (by omega)]; exact hn⟩
theorem c71a {h : aH} (hI : IV g m z 0 h) (hQ : ∀ h1 : aH, IV g m z 22 h1 → am_R d 71 192 [some (.ref m), none] [] h1 Q) : am_R d 71 0 [some (.ref m), none] [] h Q := by
  simp (disch := first | assumption | omega | exact am_isr_ref | exact am_isr_null | exact am_isr_rf | exact am_c1_int | exact am_c1_ref | exact am_c1_null | exact am_c1_rf | exact am_b0 | exact am_b1 | exact RM_obj (by assumption) | (simp only [ne_eq]; done) | exact am_nz2 | exact am_nz3 | exact am_nz6 | exact am_lt (hB _ _) | exact am_lt (stF_lt hB) | exact b32_01) only [e71_0, e71_1]
  simp (disch := first | assumption | omega | exact am_isr_ref | exact am_isr_null | exact am_isr_rf | exact am_c1_int | exact am_c1_ref | exact am_c1_null | exact am_c1_rf | exact am_b0 | exact am_b1 | exact RM_obj (by assumption) | (simp only [ne_eq]; done) | exact am_nz2 | exact am_nz3 | exact am_nz6 | exact am_lt (hB _ _) | exact am_lt (stF_lt hB) | exact b32_01) only [e71_4, e71_5, e71_8 (nw_ok (n := 200) (by decide)), e71_10, nI_clamp (show 200 < 2 ^ 31 by decide)]
  refine IV_step (k := 0) (kf := 1) hI (by rfl) (by decide) (fun h1 hI => ?_)
  simp (disch := first | assumption | omega | exact am_isr_ref | exact am_isr_null | exact am_isr_rf | exact am_c1_int | exact am_c1_ref | exact am_c1_null | exact am_c1_rf | exact am_b0 | exact am_b1 | exact RM_obj (by assumption) | (simp only [ne_eq]; done) | exact am_nz2 | exact am_nz3 | exact am_nz6 | exact am_lt (hB _ _) | exact am_lt (stF_lt hB) | exact b32_01) only [e71_13, e71_14, e71_17 (nw_ok (n := 600) (by decide)), e71_19, nI_clamp (show 600 < 2 ^ 31 by decide)]
  refine IV_step (k := 1) (kf := 2) hI (by rfl) (by decide) (fun h2 hI => ?_)
  simp (disch := first | assumption | omega | exact am_isr_ref | exact am_isr_null | exact am_isr_rf | exact am_c1_int | exact am_c1_ref | exact am_c1_null | exact am_c1_rf | exact am_b0 | exact am_b1 | exact RM_obj (by assumption) | (simp only [ne_eq]; done) | exact am_nz2 | exact am_nz3 | exact am_nz6 | exact am_lt (hB _ _) | exact am_lt (stF_lt hB) | exact b32_01) only [e71_22, e71_23, e71_26 (nw_ok (n := 200) (by decide)), e71_28, nI_clamp (show 200 < 2 ^ 31 by decide)]
  refine IV_step (k := 2) (kf := 3) hI (by rfl) (by decide) (fun h3 hI => ?_)
  simp (disch := first | assumption | omega | exact am_isr_ref | exact am_isr_null | exact am_isr_rf | exact am_c1_int | exact am_c1_ref | exact am_c1_null | exact am_c1_rf | exact am_b0 | exact am_b1 | exact RM_obj (by assumption) | (simp only [ne_eq]; done) | exact am_nz2 | exact am_nz3 | exact am_nz6 | exact am_lt (hB _ _) | exact am_lt (stF_lt hB) | exact b32_01) only [e71_31, e71_32, e71_35 (nw_ok (n := 200) (by decide)), e71_37, nI_clamp (show 200 < 2 ^ 31 by decide)]
  refine IV_step (k := 3) (kf := 4) hI (by rfl) (by decide) (fun h4 hI => ?_)
  simp (disch := first | assumption | omega | exact am_isr_ref | exact am_isr_null | exact am_isr_rf | exact am_c1_int | exact am_c1_ref | exact am_c1_null | exact am_c1_rf | exact am_b0 | exact am_b1 | exact RM_obj (by assumption) | (simp only [ne_eq]; done) | exact am_nz2 | exact am_nz3 | exact am_nz6 | exact am_lt (hB _ _) | exact am_lt (stF_lt hB) | exact b32_01) only [e71_40, e71_41, e71_44 (nw_ok (n := 1600) (by decide)), e71_46, nI_clamp (show 1600 < 2 ^ 31 by decide)]
  refine IV_step (k := 4) (kf := 5) hI (by rfl) (by decide) (fun h5 hI => ?_)
  simp (disch := first | assumption | omega | exact am_isr_ref | exact am_isr_null | exact am_isr_rf | exact am_c1_int | exact am_c1_ref | exact am_c1_null | exact am_c1_rf | exact am_b0 | exact am_b1 | exact RM_obj (by assumption) | (simp only [ne_eq]; done) | exact am_nz2 | exact am_nz3 | exact am_nz6 | exact am_lt (hB _ _) | exact am_lt (stF_lt hB) | exact b32_01) only [e71_49, e71_50, e71_53 (nw_ok (n := 200) (by decide)), e71_55, nI_clamp (show 200 < 2 ^ 31 by decide)]
  refine IV_step (k := 5) (kf := 6) hI (by rfl) (by decide) (fun h6 hI => ?_)
  simp (disch := first | assumption | omega | exact am_isr_ref | exact am_isr_null | exact am_isr_rf | exact am_c1_int | exact am_c1_ref | exact am_c1_null | exact am_c1_rf | exact am_b0 | exact am_b1 | exact RM_obj (by assumption) | (simp only [ne_eq]; done) | exact am_nz2 | exact am_nz3 | exact am_nz6 | exact am_lt (hB _ _) | exact am_lt (stF_lt hB) | exact b32_01) only [e71_58, e71_59, e71_62 (nw_ok (n := 200) (by decide)), e71_64, nI_clamp (show 200 < 2 ^ 31 by decide)]
  refine IV_step (k := 6) (kf := 7) hI (by rfl) (by decide) (fun h7 hI => ?_)
  simp (disch := first | assumption | omega | exact am_isr_ref | exact am_isr_null | exact am_isr_rf | exact am_c1_int | exact am_c1_ref | exact am_c1_null | exact am_c1_rf | exact am_b0 | exact am_b1 | exact RM_obj (by assumption) | (simp only [ne_eq]; done) | exact am_nz2 | exact am_nz3 | exact am_nz6 | exact am_lt (hB _ _) | exact am_lt (stF_lt hB) | exact b32_01) only [e71_67, e71_68, e71_71 (nw_ok (n := 200) (by decide)), e71_73, nI_clamp (show 200 < 2 ^ 31 by decide)]
  refine IV_step (k := 7) (kf := 8) hI (by rfl) (by decide) (fun h8 hI => ?_)
  simp (disch := first | assumption | omega | exact am_isr_ref | exact am_isr_null | exact am_isr_rf | exact am_c1_int | exact am_c1_ref | exact am_c1_null | exact am_c1_rf | exact am_b0 | exact am_b1 | exact RM_obj (by assumption) | (simp only [ne_eq]; done) | exact am_nz2 | exact am_nz3 | exact am_nz6 | exact am_lt (hB _ _) | exact am_lt (stF_lt hB) | exact b32_01) only [e71_76, e71_77, e71_80 (nw_ok (n := 200) (by decide)), e71_82, nI_clamp (show 200 < 2 ^ 31 by decide)]
  refine IV_step (k := 8) (kf := 9) hI (by rfl) (by decide) (fun h9 hI => ?_)
  simp (disch := first | assumption | omega | exact am_isr_ref | exact am_isr_null | exact am_isr_rf | exact am_c1_int | exact am_c1_ref | exact am_c1_null | exact am_c1_rf | exact am_b0 | exact am_b1 | exact RM_obj (by assumption) | (simp only [ne_eq]; done) | exact am_nz2 | exact am_nz3 | exact am_nz6 | exact am_lt (hB _ _) | exact am_lt (stF_lt hB) | exact b32_01) only [e71_85, e71_86, e71_88 (nw_ok (n := 6) (by decide)), e71_90, nI_clamp (show 6 < 2 ^ 31 by decide)]
  refine IV_step (k := 9) (kf := 10) hI (by rfl) (by decide) (fun h10 hI => ?_)
  simp (disch := first | assumption | omega | exact am_isr_ref | exact am_isr_null | exact am_isr_rf | exact am_c1_int | exact am_c1_ref | exact am_c1_null | exact am_c1_rf | exact am_b0 | exact am_b1 | exact RM_obj (by assumption) | (simp only [ne_eq]; done) | exact am_nz2 | exact am_nz3 | exact am_nz6 | exact am_lt (hB _ _) | exact am_lt (stF_lt hB) | exact b32_01) only [e71_93, e71_94, e71_97 (nw_ok (n := 1200) (by decide)), e71_99, nI_clamp (show 1200 < 2 ^ 31 by decide)]
  refine IV_step (k := 10) (kf := 11) hI (by rfl) (by decide) (fun h11 hI => ?_)
  simp (disch := first | assumption | omega | exact am_isr_ref | exact am_isr_null | exact am_isr_rf | exact am_c1_int | exact am_c1_ref | exact am_c1_null | exact am_c1_rf | exact am_b0 | exact am_b1 | exact RM_obj (by assumption) | (simp only [ne_eq]; done) | exact am_nz2 | exact am_nz3 | exact am_nz6 | exact am_lt (hB _ _) | exact am_lt (stF_lt hB) | exact b32_01) only [e71_102, e71_103, e71_106 (nw_ok (n := 1200) (by decide)), e71_108, nI_clamp (show 1200 < 2 ^ 31 by decide)]
  refine IV_step (k := 11) (kf := 12) hI (by rfl) (by decide) (fun h12 hI => ?_)
  simp (disch := first | assumption | omega | exact am_isr_ref | exact am_isr_null | exact am_isr_rf | exact am_c1_int | exact am_c1_ref | exact am_c1_null | exact am_c1_rf | exact am_b0 | exact am_b1 | exact RM_obj (by assumption) | (simp only [ne_eq]; done) | exact am_nz2 | exact am_nz3 | exact am_nz6 | exact am_lt (hB _ _) | exact am_lt (stF_lt hB) | exact b32_01) only [e71_111, e71_112, e71_114 (nw_ok (n := 18) (by decide)), e71_116, nI_clamp (show 18 < 2 ^ 31 by decide)]
  refine IV_step (k := 12) (kf := 13) hI (by rfl) (by decide) (fun h13 hI => ?_)
  simp (disch := first | assumption | omega | exact am_isr_ref | exact am_isr_null | exact am_isr_rf | exact am_c1_int | exact am_c1_ref | exact am_c1_null | exact am_c1_rf | exact am_b0 | exact am_b1 | exact RM_obj (by assumption) | (simp only [ne_eq]; done) | exact am_nz2 | exact am_nz3 | exact am_nz6 | exact am_lt (hB _ _) | exact am_lt (stF_lt hB) | exact b32_01) only [e71_119, e71_120, e71_122 (nw_ok (n := 18) (by decide)), e71_124, nI_clamp (show 18 < 2 ^ 31 by decide)]
  refine IV_step (k := 13) (kf := 14) hI (by rfl) (by decide) (fun h14 hI => ?_)
  simp (disch := first | assumption | omega | exact am_isr_ref | exact am_isr_null | exact am_isr_rf | exact am_c1_int | exact am_c1_ref | exact am_c1_null | exact am_c1_rf | exact am_b0 | exact am_b1 | exact RM_obj (by assumption) | (simp only [ne_eq]; done) | exact am_nz2 | exact am_nz3 | exact am_nz6 | exact am_lt (hB _ _) | exact am_lt (stF_lt hB) | exact b32_01) only [e71_127, e71_128, e71_130 (nw_ok (n := 6) (by decide)), e71_132, nI_clamp (show 6 < 2 ^ 31 by decide)]
  refine IV_step (k := 14) (kf := 15) hI (by rfl) (by decide) (fun h15 hI => ?_)
  simp (disch := first | assumption | omega | exact am_isr_ref | exact am_isr_null | exact am_isr_rf | exact am_c1_int | exact am_c1_ref | exact am_c1_null | exact am_c1_rf | exact am_b0 | exact am_b1 | exact RM_obj (by assumption) | (simp only [ne_eq]; done) | exact am_nz2 | exact am_nz3 | exact am_nz6 | exact am_lt (hB _ _) | exact am_lt (stF_lt hB) | exact b32_01) only [e71_135, e71_136, e71_138 (nw_ok (n := 6) (by decide)), e71_140, nI_clamp (show 6 < 2 ^ 31 by decide)]
  refine IV_step (k := 15) (kf := 16) hI (by rfl) (by decide) (fun h16 hI => ?_)
  simp (disch := first | assumption | omega | exact am_isr_ref | exact am_isr_null | exact am_isr_rf | exact am_c1_int | exact am_c1_ref | exact am_c1_null | exact am_c1_rf | exact am_b0 | exact am_b1 | exact RM_obj (by assumption) | (simp only [ne_eq]; done) | exact am_nz2 | exact am_nz3 | exact am_nz6 | exact am_lt (hB _ _) | exact am_lt (stF_lt hB) | exact b32_01) only [e71_143, e71_144, e71_146 (nw_ok (n := 18) (by decide)), e71_148, nI_clamp (show 18 < 2 ^ 31 by decide)]
  refine IV_step (k := 16) (kf := 17) hI (by rfl) (by decide) (fun h17 hI => ?_)
  simp (disch := first | assumption | omega | exact am_isr_ref | exact am_isr_null | exact am_isr_rf | exact am_c1_int | exact am_c1_ref | exact am_c1_null | exact am_c1_rf | exact am_b0 | exact am_b1 | exact RM_obj (by assumption) | (simp only [ne_eq]; done) | exact am_nz2 | exact am_nz3 | exact am_nz6 | exact am_lt (hB _ _) | exact am_lt (stF_lt hB) | exact b32_01) only [e71_151, e71_152, e71_154 (nw_ok (n := 48) (by decide)), e71_156, nI_clamp (show 48 < 2 ^ 31 by decide)]
  refine IV_step (k := 17) (kf := 18) hI (by rfl) (by decide) (fun h18 hI => ?_)
  simp (disch := first | assumption | omega | exact am_isr_ref | exact am_isr_null | exact am_isr_rf | exact am_c1_int | exact am_c1_ref | exact am_c1_null | exact am_c1_rf | exact am_b0 | exact am_b1 | exact RM_obj (by assumption) | (simp only [ne_eq]; done) | exact am_nz2 | exact am_nz3 | exact am_nz6 | exact am_lt (hB _ _) | exact am_lt (stF_lt hB) | exact b32_01) only [e71_159, e71_160, e71_162 (nw_ok (n := 6) (by decide)), e71_164, nI_clamp (show 6 < 2 ^ 31 by decide)]
  refine IV_step (k := 18) (kf := 19) hI (by rfl) (by decide) (fun h19 hI => ?_)
  simp (disch := first | assumption | omega | exact am_isr_ref | exact am_isr_null | exact am_isr_rf | exact am_c1_int | exact am_c1_ref | exact am_c1_null | exact am_c1_rf | exact am_b0 | exact am_b1 | exact RM_obj (by assumption) | (simp only [ne_eq]; done) | exact am_nz2 | exact am_nz3 | exact am_nz6 | exact am_lt (hB _ _) | exact am_lt (stF_lt hB) | exact b32_01) only [e71_167, e71_168, e71_170 (nw_ok (n := 48) (by decide)), e71_172, nI_clamp (show 48 < 2 ^ 31 by decide)]
  refine IV_step (k := 19) (kf := 20) hI (by rfl) (by decide) (fun h20 hI => ?_)
  simp (disch := first | assumption | omega | exact am_isr_ref | exact am_isr_null | exact am_isr_rf | exact am_c1_int | exact am_c1_ref | exact am_c1_null | exact am_c1_rf | exact am_b0 | exact am_b1 | exact RM_obj (by assumption) | (simp only [ne_eq]; done) | exact am_nz2 | exact am_nz3 | exact am_nz6 | exact am_lt (hB _ _) | exact am_lt (stF_lt hB) | exact b32_01) only [e71_175, e71_176, e71_178 (nw_ok (n := 6) (by decide)), e71_180, nI_clamp (show 6 < 2 ^ 31 by decide)]
  refine IV_step (k := 20) (kf := 21) hI (by rfl) (by decide) (fun h21 hI => ?_)
  simp (disch := first | assumption | omega | exact am_isr_ref | exact am_isr_null | exact am_isr_rf | exact am_c1_int | exact am_c1_ref | exact am_c1_null | exact am_c1_rf | exact am_b0 | exact am_b1 | exact RM_obj (by assumption) | (simp only [ne_eq]; done) | exact am_nz2 | exact am_nz3 | exact am_nz6 | exact am_lt (hB _ _) | exact am_lt (stF_lt hB) | exact b32_01) only [e71_183, e71_184, e71_187 (nw_ok (n := 448) (by decide)), e71_189, nI_clamp (show 448 < 2 ^ 31 by decide)]
  refine IV_step (k := 21) (kf := 23) hI (by rfl) (by decide) (fun h22 hI => ?_)
  exact hQ _ hI
def Oi (k : Nat) : Nat → Option Nat := fun e => if e < k then none else some 0
def S0 : aSt := (0, fun _ _ => 0, fun _ _ => 0, Oi 48, [])
theorem l71 {pl : Nat} : ∀ (t k : Nat) (h : aH), k + t = 48 → MMs g h m (0, fun _ _ => 0, fun _ _ => 0, Oi k, []) pl → (∀ h1 : aH, GR h pl h1 pl → MMs g h1 m S0 pl → Q none h1) → am_R d 71 194 [some (.ref m), some (.int (nI k))] [] h Q := by
  intro t
  induction t with
  | zero =>
    intro k h hk hS hQ
    obtain rfl : k = 48 := by omega
    obtain ⟨pa, P, hR, hP⟩ := id hS
    rw [e71_194]
    simp (disch := first | assumption | omega | exact am_isr_ref | exact am_isr_null | exact am_isr_rf | exact am_c1_int | exact am_c1_ref | exact am_c1_null | exact am_c1_rf | exact am_b0 | exact am_b1 | exact RM_obj (by assumption) | exact MS_obj (by assumption) | (simp only [ne_eq]; done) | exact am_nz2 | exact am_nz3 | exact am_nz6 | exact am_lt (hB _ _) | exact am_lt (stF_lt hB) | exact b32_01) only [e71_195, e71_196, e71_199, e71_200, gS_18 hS, lM_18 hR, nle, if_true, Nat.le_refl, e71_216]
    exact hQ h GR.rf hS
  | succ t ih =>
    intro k h hk hS hQ
    obtain ⟨pa, P, hR, hP⟩ := id hS
    rw [e71_194]
    simp (disch := first | assumption | omega | exact am_isr_ref | exact am_isr_null | exact am_isr_rf | exact am_c1_int | exact am_c1_ref | exact am_c1_null | exact am_c1_rf | exact am_b0 | exact am_b1 | exact RM_obj (by assumption) | exact MS_obj (by assumption) | (simp only [ne_eq]; done) | exact am_nz2 | exact am_nz3 | exact am_nz6 | exact am_lt (hB _ _) | exact am_lt (stF_lt hB) | exact b32_01) only [e71_195, e71_196, e71_199, e71_200, e71_203, e71_204, e71_207, e71_208, e71_209, gS_18 hS, lM_18 hR, nle, if_neg (show ¬ 48 ≤ k by omega)]
    refine wS_18 (o := none) hS (show k < 48 by omega) (fun h1 hG hS1 => ?_)
    simp (disch := first | assumption | omega | exact am_isr_ref | exact am_isr_null | exact am_isr_rf | exact am_c1_int | exact am_c1_ref | exact am_c1_null | exact am_c1_rf | exact am_b0 | exact am_b1 | exact RM_obj (by assumption) | exact MS_obj (by assumption) | (simp only [ne_eq]; done) | exact am_nz2 | exact am_nz3 | exact am_nz6 | exact am_lt (hB _ _) | exact am_lt (stF_lt hB) | exact b32_01) only [e71_210, e71_213, nI_add]
    refine ih (k + 1) h1 (by omega) ?_ (fun h2 hG2 hS2 => hQ h2 (hG.tr hG2) hS2)
    have e : setO (0, fun _ _ => 0, fun _ _ => 0, Oi k, []) k none = (0, fun _ _ => 0, fun _ _ => 0, Oi (k + 1), []) := by
      unfold setO va_up Oi
      dsimp only
      refine congrArg (fun z => ((0, fun _ _ => 0, fun _ _ => 0, z, []) : aSt)) ?_
      funext e
      by_cases h1 : e = k
      · rw [if_pos h1, if_pos (by omega)]
      · rw [if_neg h1]
        by_cases h2 : e < k
        · rw [if_pos h2, if_pos (by omega)]
        · rw [if_neg h2, if_neg (by omega)]
    rw [e] at hS1
    exact hS1
theorem eA0 : ∀ k, eA (fun _ _ => 0) (fun _ _ => 0) (Oi 0) (fun _ => 0) k = fun _ => 0 := by
  intro k
  funext e
  unfold eA Oi
  by_cases h1 : k = 18
  · rw [if_pos h1, if_neg (by omega)]
    rfl
  · rw [if_neg h1]
    by_cases h2 : k = 23
    · rw [if_pos h2]
    · rw [if_neg h2]
      split <;> rfl
/-- the model is made: 22 arrays behind it -/
theorem c71 {h : aH} (ho : h.2.2 m = some (.inr (7, am_df 7))) (h1 : h.1 = m + 1) (hg : ∀ a e, g a = some e → h.2.2 a = some e ∧ a < m) (hQ : ∀ h1 : aH, h1.1 = h.1 + 22 → h1.2.1 ≤ h.2.1 + 6628 → MMs g h1 m S0 448 → Q none h1) : am_R d 71 0 [some (.ref m), none] [] h Q := by
  refine c71a (z := h.2.1) ⟨by omega, rfl, ho, fun j j1 j2 => by omega, hg⟩ (fun h2 hI => ?_)
  obtain ⟨i1, i2, i3, i4, i5⟩ := hI
  have gn : ∀ a, m ≤ a → g a = none := by
    intro a ha
    cases hq : g a with
    | none => rfl
    | some e => have := (i5 a e hq).2; omega
  have hR : RepM g h2 m 0 0 (m + 22) 448 (eA (fun _ _ => 0) (fun _ _ => 0) (Oi 0) (fun _ => 0)) := by
    refine ⟨i3, fun k k1 k2 => ?_, ?_, ⟨by omega, by omega, by omega, by decide⟩, fun a e he => ?_, fun k hk => gn _ (by omega), gn _ (by omega)⟩
    · rw [eA0, i4 k k1 (by omega)]
      unfold nV
      rw [if_neg (by omega)]
    · rw [eA0]
      exact i4 22 (by decide) (by decide)
    · have hq := i5 a e he
      exact ⟨hq.1, by omega⟩
  rw [e71_192, e71_193]
  refine l71 (pl := 448) 48 0 h2 rfl ⟨m + 22, fun _ => 0, hR, fun j q hq => by simp at hq, by show 7 * 0 ≤ 448; omega, by decide, by decide⟩ (fun h3 hG hS => ?_)
  obtain ⟨g1, g2, g3, g4⟩ := hG
  have hz : sumV 22 = 6628 := by decide
  rw [hz] at i2
  exact hQ h3 (by omega) (by omega) hS
end MI
