/-! the class's constructor -/
def X0 : aX := (0, fun _ => 0, fun _ => 0, fun _ => 0, fun _ _ => 0, fun _ _ => none, fun _ _ => 0, fun _ _ => 0, fun _ => 0, fun _ => 0, fun _ _ => 0, fun _ _ => 0, fun _ _ => 0, fun _ _ => 0, fun _ _ => none, fun _ => none, fun _ => none, fun _ => 0, fun _ => none, fun _ => none)
def CC (c : Nat) (F : Nat → Option aE) (j : Nat) : Prop := F (2 + 6 * j) = some (.inr (1, [.int (nI (j % 3)), .ref (c + (2 + 6 * j + 1)), .ref (c + (2 + 6 * j + 2)), .ref (c + (2 + 6 * j + 3)), .int 0, .int 0, .int 0])) ∧ F (2 + 6 * j + 1) = some (.inl (0, 3, .inl (fun _ => 0))) ∧ F (2 + 6 * j + 2) = some (.inl (5, 8, .inr (fun _ => none))) ∧ F (2 + 6 * j + 3) = some (.inr (6, [.ref (c + (2 + 6 * j + 4)), .ref (c + (2 + 6 * j + 5))])) ∧ F (2 + 6 * j + 4) = some (.inl (1, 8, .inl (fun _ => 0))) ∧ F (2 + 6 * j + 5) = some (.inl (0, 8, .inl (fun _ => 0)))
def SV (c : Nat) (F : Nat → Option aE) (j : Nat) : Prop := F (39 + 6 * j) = some (.inr (4, [.int (nI j), .int (nI (j / 2)), .ref (c + (39 + 6 * j + 1)), .ref (c + (39 + 6 * j + 2)), .ref (c + (39 + 6 * j + 3)), .ref (c + (39 + 6 * j + 4)), .ref (c + (39 + 6 * j + 5)), .int 0, .int 0])) ∧ F (39 + 6 * j + 1) = some (.inl (0, 3, .inl (fun _ => 0))) ∧ F (39 + 6 * j + 2) = some (.inl (0, 3, .inl (fun _ => 0))) ∧ F (39 + 6 * j + 3) = some (.inl (0, 200, .inl (fun _ => 0))) ∧ F (39 + 6 * j + 4) = some (.inl (0, 200, .inl (fun _ => 0))) ∧ F (39 + 6 * j + 5) = some (.inl (5, 200, .inr (fun _ => none)))
theorem CC_cg {c j : Nat} {F F1 : Nat → Option aE} (h : ∀ i, 2 + 6 * j ≤ i → i ≤ 2 + 6 * j + 5 → F1 i = F i) (hC : CC c F j) : CC c F1 j := by
  obtain ⟨a1, a2, a3, a4, a5, a6⟩ := hC
  exact ⟨(h _ (by omega) (by omega)).trans a1, (h _ (by omega) (by omega)).trans a2, (h _ (by omega) (by omega)).trans a3, (h _ (by omega) (by omega)).trans a4, (h _ (by omega) (by omega)).trans a5, (h _ (by omega) (by omega)).trans a6⟩
theorem SV_cg {c j : Nat} {F F1 : Nat → Option aE} (h : ∀ i, 39 + 6 * j ≤ i → i ≤ 39 + 6 * j + 5 → F1 i = F i) (hC : SV c F j) : SV c F1 j := by
  obtain ⟨a1, a2, a3, a4, a5, a6⟩ := hC
  exact ⟨(h _ (by omega) (by omega)).trans a1, (h _ (by omega) (by omega)).trans a2, (h _ (by omega) (by omega)).trans a3, (h _ (by omega) (by omega)).trans a4, (h _ (by omega) (by omega)).trans a5, (h _ (by omega) (by omega)).trans a6⟩
section C1
variable {d : Nat} {g : Nat → Option aE} {c : Nat} {Q : Option Value → aH → Prop}
theorem l1a : ∀ t i (h : aH) (F : Nat → Option aE), i + t = 6 → Bd g c (2 + 6 * i) h F → F 0 = some (.inr (0, (am_df 0).set 0 (.ref (c + 1)))) → F 1 = some (.inl (1, 6, .inr (thF i (fun j => some (c + (2 + 6 * j))) (fun _ => none)))) → (∀ j, j < i → CC c F j) → (∀ (h1 : aH) (F1 : Nat → Option aE), h1.2.1 ≤ h.2.1 + 36 * t → Bd g c 38 h1 F1 → F1 0 = some (.inr (0, (am_df 0).set 0 (.ref (c + 1)))) → F1 1 = some (.inl (1, 6, .inr (thF 6 (fun j => some (c + (2 + 6 * j))) (fun _ => none)))) → (∀ j, j < 6 → CC c F1 j) → am_R (d + 3) 1 46 [some (.ref c), some (.int (nI 6))] [] h1 Q) → am_R (d + 3) 1 15 [some (.ref c), some (.int (nI i))] [] h Q := by
  intro t
  induction t with
  | zero =>
    intro i h F hi hB f0 f1 fc hQ
    obtain rfl : i = 6 := by omega
    have r0 : h.2.2 c = some (.inr (0, (am_df 0).set 0 (.ref (c + 1)))) := (hB.2.1 0 (by omega)).trans f0
    have r1 : h.2.2 (c + 1) = _ := (hB.2.1 1 (by omega)).trans f1
    rw [e1_15, e1_16 am_isr_ref, e1_17, am_gf_of r0 rfl, e1_20, am_gl_of r1, e1_21, if_pos (Int32.le_refl _)]
    exact hQ h F (by omega) hB f0 f1 fc
  | succ t ih =>
    intro i h F hi hB f0 f1 fc hQ
    have hi6 : i < 6 := by omega
    have r0 : h.2.2 c = some (.inr (0, (am_df 0).set 0 (.ref (c + 1)))) := (hB.2.1 0 (by omega)).trans f0
    have r1 : h.2.2 (c + 1) = _ := (hB.2.1 1 (by omega)).trans f1
    rw [e1_15, e1_16 am_isr_ref, e1_17, am_gf_of r0 rfl, e1_20, am_gl_of r1, e1_21, if_neg (nI_ge hi6 (by decide)), e1_24 am_isr_ref, e1_25, am_gf_of r0 rfl, e1_28, e1_29, hB.1]
    have hB1 := bNw (n := 7) (e := .inr (1, am_df 1)) hB
    have z1 : (am_nw h 7 (.inr (1, am_df 1))).2.1 = h.2.1 + 7 := rfl
    generalize am_nw h 7 (.inr (1, am_df 1)) = h1 at hB1 z1 ⊢
    rw [e1_32 am_c1_ref, e1_33, e1_34, e1_35 am_nz3, pk_rem (a := i) (d := 3) (by omega) (by decide) (by decide), e1_36 am_c1_int am_c1_ref am_c1_int am_c1_ref]
    refine b33 (o := 2 + 6 * i) vu_s rfl hB1 (fun h2 F2 z2 hB2 fr a1 a2 a3 a4 a5 a6 => ?_)
    simp only [Option.toList_none, List.nil_append]
    have g0 : F2 0 = F 0 := (fr 0 (by omega)).trans (vu_n (by omega))
    have g1 : F2 1 = F 1 := (fr 1 (by omega)).trans (vu_n (by omega))
    have hz : am_isc h2 1 (some (c + (2 + 6 * i))) = true := am_fld_of ((hB2.2.1 (2 + 6 * i) (by omega)).trans a1)
    rw [e1_39r]
    refine bPq (g1.trans f1) (by omega) hi6 (by decide) hz hB2 (fun h3 z3 hB3 => ?_)
    rw [th_up (k := i) (A := fun j => some (c + (2 + 6 * j)))] at hB3
    rw [e1_40, nI_add, e1_43]
    refine ih (i + 1) h3 _ (by omega) hB3 ((vu_n (by omega)).trans (g0.trans f0)) vu_s (fun j hj => ?_) (fun h4 F4 z4 => hQ h4 F4 (by omega))
    by_cases e : j = i
    · subst e
      exact ⟨(vu_n (by omega)).trans a1, (vu_n (by omega)).trans a2, (vu_n (by omega)).trans a3, (vu_n (by omega)).trans a4, (vu_n (by omega)).trans a5, (vu_n (by omega)).trans a6⟩
    · exact CC_cg (F := F) (fun m h1 h2 => (vu_n (by omega)).trans ((fr m (by omega)).trans (vu_n (by omega)))) (fc j (by omega))
abbrev rt1 (c : Nat) : List Value := ((am_df 0).set 0 (.ref (c + 1))).set 1 (.ref (c + 38))
theorem l1b {F0 : Nat → Option aE} : ∀ t i (h : aH) (F : Nat → Option aE), i + t = 6 → Bd g c (39 + 6 * i) h F → F 0 = some (.inr (0, rt1 c)) → F 38 = some (.inl (4, 6, .inr (thF i (fun j => some (c + (39 + 6 * j))) (fun _ => none)))) → (∀ j, j < 38 → F j = F0 j) → (∀ j, j < i → SV c F j) → (∀ (h1 : aH) (F1 : Nat → Option aE), h1.2.1 ≤ h.2.1 + 615 * t → Bd g c 75 h1 F1 → F1 0 = some (.inr (0, rt1 c)) → F1 38 = some (.inl (4, 6, .inr (thF 6 (fun j => some (c + (39 + 6 * j))) (fun _ => none)))) → (∀ j, j < 38 → F1 j = F0 j) → (∀ j, j < 6 → SV c F1 j) → am_R (d + 3) 1 86 [some (.ref c), some (.int (nI 6))] [] h1 Q) → am_R (d + 3) 1 57 [some (.ref c), some (.int (nI i))] [] h Q := by
  intro t
  induction t with
  | zero =>
    intro i h F hi hB f0 f1 f2 fc hQ
    obtain rfl : i = 6 := by omega
    have r0 : h.2.2 c = some (.inr (0, rt1 c)) := (hB.2.1 0 (by omega)).trans f0
    have r1 : h.2.2 (c + 38) = _ := (hB.2.1 38 (by omega)).trans f1
    rw [e1_57, e1_58 am_isr_ref, e1_59, am_gf_of r0 rfl, e1_62, am_gl_of r1, e1_63, if_pos (Int32.le_refl _)]
    exact hQ h F (by omega) hB f0 f1 f2 fc
  | succ t ih =>
    intro i h F hi hB f0 f1 f2 fc hQ
    have hi6 : i < 6 := by omega
    have r0 : h.2.2 c = some (.inr (0, rt1 c)) := (hB.2.1 0 (by omega)).trans f0
    have r1 : h.2.2 (c + 38) = _ := (hB.2.1 38 (by omega)).trans f1
    rw [e1_57, e1_58 am_isr_ref, e1_59, am_gf_of r0 rfl, e1_62, am_gl_of r1, e1_63, if_neg (nI_ge hi6 (by decide)), e1_66 am_isr_ref, e1_67, am_gf_of r0 rfl, e1_70, e1_71, hB.1]
    have hB1 := bNw (n := 9) (e := .inr (4, am_df 4)) hB
    have z1 : (am_nw h 9 (.inr (4, am_df 4))).2.1 = h.2.1 + 9 := rfl
    generalize am_nw h 9 (.inr (4, am_df 4)) = h1 at hB1 z1 ⊢
    rw [e1_74 am_c1_ref, e1_75, e1_76 am_c1_int am_c1_ref am_c1_int am_c1_ref]
    refine b43 (o := 39 + 6 * i) hi6 vu_s rfl hB1 (fun h2 F2 z2 hB2 fr a1 a2 a3 a4 a5 a6 => ?_)
    simp only [Option.toList_none, List.nil_append]
    have g0 : F2 0 = F 0 := (fr 0 (by omega)).trans (vu_n (by omega))
    have g1 : F2 38 = F 38 := (fr 38 (by omega)).trans (vu_n (by omega))
    have hz : am_isc h2 4 (some (c + (39 + 6 * i))) = true := am_fld_of ((hB2.2.1 (39 + 6 * i) (by omega)).trans a1)
    rw [e1_79r]
    refine bPq (g1.trans f1) (by omega) hi6 (by decide) hz hB2 (fun h3 z3 hB3 => ?_)
    rw [th_up (k := i) (A := fun j => some (c + (39 + 6 * j)))] at hB3
    rw [e1_80, nI_add, e1_83]
    refine ih (i + 1) h3 _ (by omega) hB3 ((vu_n (by omega)).trans (g0.trans f0)) vu_s (fun j hj => ?_) (fun j hj => ?_) (fun h4 F4 z4 => hQ h4 F4 (by omega))
    · exact (vu_n (by omega)).trans ((fr j (by omega)).trans ((vu_n (by omega)).trans (f2 j hj)))
    · by_cases e : j = i
      · subst e
        exact ⟨(vu_n (by omega)).trans a1, (vu_n (by omega)).trans a2, (vu_n (by omega)).trans a3, (vu_n (by omega)).trans a4, (vu_n (by omega)).trans a5, (vu_n (by omega)).trans a6⟩
      · exact SV_cg (F := F) (fun m h1 h2 => (vu_n (by omega)).trans ((fr m (by omega)).trans (vu_n (by omega)))) (fc j (by omega))
abbrev rt2 (c : Nat) : List Value := (rt1 c).set 2 (.ref (c + 75))
abbrev lkA (c : Nat) : Nat → Option Nat := fun j => if lkd j = true then some (c + (76 + rk j)) else none
theorem rk_s {l : Nat} : rk (l + 1) = rk l + (if lkd l = true then 1 else 0) := rfl
theorem rk_mono {a : Nat} : ∀ b, a ≤ b → rk a ≤ rk b := by
  intro b
  induction b with
  | zero => intro h; rw [show a = 0 by omega]; exact Nat.le_refl _
  | succ b ih =>
    intro h
    by_cases e : a = b + 1
    · rw [e]; exact Nat.le_refl _
    · have := ih (by omega)
      rw [rk_s]; omega
theorem rk_36 : rk 36 = 18 := by decide +kernel
theorem l1c {F0 : Nat → Option aE} : ∀ t l (h : aH) (F : Nat → Option aE), l + t = 36 → Bd g c (76 + rk l) h F → F 0 = some (.inr (0, rt2 c)) → F 75 = some (.inl (2, 36, .inr (thF l (lkA c) (fun _ => none)))) → (∀ j, j < 75 → F j = F0 j) → (∀ j, j < l → lkd j = true → F (76 + rk j) = some (.inr (2, am_df 2))) → (∀ (h1 : aH) (F1 : Nat → Option aE), h1.2.1 ≤ h.2.1 + 3 * t → Bd g c (76 + rk 36) h1 F1 → F1 0 = some (.inr (0, rt2 c)) → F1 75 = some (.inl (2, 36, .inr (thF 36 (lkA c) (fun _ => none)))) → (∀ j, j < 75 → F1 j = F0 j) → (∀ j, j < 36 → lkd j = true → F1 (76 + rk j) = some (.inr (2, am_df 2))) → am_R (d + 3) 1 139 [some (.ref c), some (.int (nI 36))] [] h1 Q) → am_R (d + 3) 1 97 [some (.ref c), some (.int (nI l))] [] h Q := by
  intro t
  induction t with
  | zero =>
    intro l h F hi hB f0 f1 f2 fc hQ
    obtain rfl : l = 36 := by omega
    have r0 : h.2.2 c = some (.inr (0, rt2 c)) := (hB.2.1 0 (by omega)).trans f0
    have r1 : h.2.2 (c + 75) = _ := (hB.2.1 75 (by omega)).trans f1
    rw [e1_97, e1_98 am_isr_ref, e1_99, am_gf_of r0 rfl, e1_102, am_gl_of r1, e1_103, if_pos (Int32.le_refl _)]
    exact hQ h F (by omega) hB f0 f1 f2 fc
  | succ t ih =>
    intro l h F hi hB f0 f1 f2 fc hQ
    have hl6 : l < 36 := by omega
    have r0 : h.2.2 c = some (.inr (0, rt2 c)) := (hB.2.1 0 (by omega)).trans f0
    have r1 : h.2.2 (c + 75) = _ := (hB.2.1 75 (by omega)).trans f1
    have el : 6 * (l / 6) + l % 6 = l := by omega
    rw [e1_97, e1_98 am_isr_ref, e1_99, am_gf_of r0 rfl, e1_102, am_gl_of r1, e1_103, if_neg (nI_ge hl6 (by decide)), e1_106, e1_107, e1_109 am_nz6, pk_div (by omega) (by decide) (by decide), e1_110, e1_111, e1_113 am_nz6, pk_rem (a := l) (d := 6) (by omega) (by decide) (by decide), e1_114 am_c1_int am_c1_int, d24 (by omega) (by omega), el]
    simp only [Option.toList_some, List.cons_append, List.nil_append]
    rw [e1_117]
    simp only [b32_q0]
    by_cases hk : lkd l = true
    · rw [if_neg (fun q => q hk), e1_120 am_isr_ref, e1_121, am_gf_of r0 rfl, e1_124, e1_125, hB.1]
      have hB1 := bNw (n := 3) (e := .inr (2, am_df 2)) hB
      have z1 : (am_nw h 3 (.inr (2, am_df 2))).2.1 = h.2.1 + 3 := rfl
      generalize am_nw h 3 (.inr (2, am_df 2)) = h1 at hB1 z1 ⊢
      rw [e1_128 am_c1_ref, e1_129 am_c1_ref am_c1_int am_c1_ref, e39_0 am_isr_ref, e39_1, e39_4]
      simp only [Option.toList_none, List.nil_append]
      have hz : am_isc h1 2 (some (c + (76 + rk l))) = true := am_fld_of ((hB1.2.1 (76 + rk l) (by omega)).trans vu_s)
      rw [e1_132r]
      refine bPq ((vu_n (by omega)).trans f1) (by omega) hl6 (by decide) hz hB1 (fun h3 z3 hB3 => ?_)
      have ea : lkA c l = some (c + (76 + rk l)) := if_pos hk
      rw [← ea, th_up (k := l) (A := lkA c)] at hB3
      have er : rk (l + 1) = rk l + 1 := by rw [rk_s, if_pos hk]
      rw [e1_133, nI_add, e1_136]
      refine ih (l + 1) h3 _ (by omega) (by rw [er]; exact hB3) ((vu_n (by omega)).trans ((vu_n (by omega)).trans f0)) vu_s (fun j hj => (vu_n (by omega)).trans ((vu_n (by omega)).trans (f2 j hj))) (fun j hj hkj => ?_) (fun h4 F4 z4 => hQ h4 F4 (by omega))
      by_cases e : j = l
      · rw [e]
        exact (vu_n (by omega)).trans vu_s
      · have := rk_mono (a := j + 1) l (by omega)
        have e2 : rk (j + 1) = rk j + 1 := by rw [rk_s, if_pos hkj]
        exact (vu_n (by omega)).trans ((vu_n (by omega)).trans (fc j (by omega) hkj))
    · rw [if_pos hk, e1_133, nI_add, e1_136]
      have er : rk (l + 1) = rk l := by rw [rk_s, if_neg hk]; rfl
      have ea : lkA c l = none := if_neg hk
      refine ih (l + 1) h F (by omega) (by rw [er]; exact hB) f0 ?_ f2 (fun j hj hkj => ?_) (fun h4 F4 z4 => hQ h4 F4 (by omega))
      · rw [← th_nx ea]; exact f1
      · exact fc j (by have : ¬ j = l := fun e => hk (e ▸ hkj); omega) hkj
theorem d1 {h : aH} (h1 : h.1 = c + 1) (h0 : h.2.2 c = some (.inr (0, am_df 0))) (hg : ∀ a e, g a = some e → h.2.2 a = some e ∧ a < c) (hQ : ∀ h1 : aH, h1.1 = c + 95 → h1.2.1 ≤ h.2.1 + 5000 → RC g h1 c X0 → Q none h1) : am_R (d + 3) 1 0 [some (.ref c), none] [] h Q := by
  have hB : Bd g c 1 h (fun _ => some (.inr (0, am_df 0))) := ⟨h1, fun j hj => by rw [show j = 0 by omega]; exact h0, hg⟩
  rw [e1_0 am_isr_ref, e1_1, e1_4 am_isr_ref, e1_5, e1_7 hx6, tc6, hB.1]
  have hB1 := bNw (n := 6) (e := .inl (1, 6, .inr (fun _ => none))) hB
  have z1 : (am_nw h 6 (.inl (1, 6, .inr (fun _ => none)))).2.1 = h.2.1 + 6 := rfl
  generalize am_nw h 6 (.inl (1, 6, .inr (fun _ => none))) = h2 at hB1 z1 ⊢
  rw [e1_10 am_isr_ref]
  refine bPf (j := 0) (fs := am_df 0) (vu_n (by omega)) (by omega) (Nat.le_of_ble_eq_true rfl) hB1 (fun h3 z3 hB3 => ?_)
  rw [e1_13, e1_14]
  refine l1a 6 0 h3 _ rfl hB3 vu_s ((vu_n (by omega)).trans (vu_s.trans (by rw [th_0]))) (fun j hj => by omega) (fun h4 F4 z4 hB4 a0 a1 ac => ?_)
  rw [e1_46 am_isr_ref, e1_47, e1_49 hx6, tc6, hB4.1]
  have hB5 := bNw (n := 6) (e := .inl (4, 6, .inr (fun _ => none))) hB4
  have z5 : (am_nw h4 6 (.inl (4, 6, .inr (fun _ => none)))).2.1 = h4.2.1 + 6 := rfl
  generalize am_nw h4 6 (.inl (4, 6, .inr (fun _ => none))) = h5 at hB5 z5 ⊢
  rw [e1_52 am_isr_ref]
  refine bPf (j := 0) (fs := (am_df 0).set 0 (.ref (c + 1))) ((vu_n (by omega)).trans a0) (by omega) (Nat.le_of_ble_eq_true rfl) hB5 (fun h6 z6 hB6 => ?_)
  rw [e1_55, e1_56]
  refine l1b (F0 := va_up F4 0 (some (.inr (0, rt1 c)))) 6 0 h6 _ rfl hB6 vu_s ((vu_n (by omega)).trans (vu_s.trans (by rw [th_0]))) (fun j hj => ?_) (fun j hj => by omega) (fun h7 F7 z7 hB7 b0 b1 b2 bc => ?_)
  · by_cases e : j = 0
    · rw [e, vu_s, vu_s]
    · rw [vu_n e, vu_n e, vu_n (by omega)]
  rw [e1_86 am_isr_ref, e1_87, e1_89 hx36, tc36, hB7.1]
  have hB8 := bNw (n := 36) (e := .inl (2, 36, .inr (fun _ => none))) hB7
  have z8 : (am_nw h7 36 (.inl (2, 36, .inr (fun _ => none)))).2.1 = h7.2.1 + 36 := rfl
  generalize am_nw h7 36 (.inl (2, 36, .inr (fun _ => none))) = h8 at hB8 z8 ⊢
  rw [e1_92 am_isr_ref]
  refine bPf (j := 0) (fs := rt1 c) ((vu_n (by omega)).trans b0) (by omega) (Nat.le_of_ble_eq_true rfl) hB8 (fun h9 z9 hB9 => ?_)
  rw [e1_95, e1_96]
  refine l1c (F0 := va_up F7 0 (some (.inr (0, rt2 c)))) 36 0 h9 _ rfl hB9 vu_s ((vu_n (by omega)).trans (vu_s.trans (by rw [th_0]))) (fun j hj => ?_) (fun j hj => by omega) (fun h10 F10 z10 hB10 c0 c1 c2 cc => ?_)
  · by_cases e : j = 0
    · rw [e, vu_s, vu_s]
    · rw [vu_n e, vu_n e, vu_n (by omega)]
  rw [rk_36] at hB10
  rw [e1_139 am_isr_ref, e1_140, e1_143 hx200, tc200, hB10.1]
  have hB11 := bNw (n := 200) (e := .inl (5, 200, .inr (fun _ => none))) hB10
  have z11 : (am_nw h10 200 (.inl (5, 200, .inr (fun _ => none)))).2.1 = h10.2.1 + 200 := rfl
  generalize am_nw h10 200 (.inl (5, 200, .inr (fun _ => none))) = h11 at hB11 z11 ⊢
  rw [e1_146 am_isr_ref]
  refine bPf (j := 0) (fs := rt2 c) ((vu_n (by omega)).trans c0) (by omega) (Nat.le_of_ble_eq_true rfl) hB11 (fun h12 z12 hB12 => ?_)
  rw [e1_149 am_isr_ref, e1_150, e1_151]
  refine bPf (j := 0) (fs := (rt2 c).set 3 (.ref (c + (76 + 18)))) vu_s (by omega) (Nat.le_of_ble_eq_true rfl) hB12 (fun h13 z13 hB13 => ?_)
  rw [e1_154]
  have at13 : ∀ j, 0 < j → j < 94 → h13.2.2 (c + j) = F10 j := fun j h1 h2 => (hB13.2.1 j (by omega)).trans ((vu_n (by omega)).trans ((vu_n (by omega)).trans (vu_n (by omega))))
  have at7 : ∀ j, 0 < j → j < 75 → F10 j = F7 j := fun j h1 h2 => (c2 j h2).trans (vu_n (by omega))
  have at4 : ∀ j, 0 < j → j < 38 → F7 j = F4 j := fun j h1 h2 => (b2 j h2).trans (vu_n (by omega))
  have th6 : ∀ o, thF 6 (fun j => some (c + (o + 6 * j))) (fun _ => none) = fun i => if i < 6 then some (c + o + 6 * i) else none := fun o => by
    funext i
    unfold thF
    simp only [Nat.add_assoc]
  rw [th6] at a1 b1
  refine hQ h13 hB13.1 (by omega) ⟨?_, ?_, fun i hi => ?_, fun i hi => ?_, fun i hi => ?_, fun i hi => ?_, fun i hi => ?_, fun i hi => ?_, ?_, fun i hi => ?_, fun i hi => ?_, fun i hi => ?_, fun i hi => ?_, fun i hi => ?_, fun i hi => ?_, ?_, fun l hl hk => ?_, ?_, fun a e ha => ?_, fun a e ha => ?_, ?_⟩
  · exact (hB13.2.1 0 (by omega)).trans vu_s
  · exact (at13 1 (by omega) (by omega)).trans ((at7 1 (by omega) (by omega)).trans ((at4 1 (by omega) (by omega)).trans a1))
  · obtain ⟨w1, w2, w3, w4, w5, w6⟩ := ac i hi
    have := (at13 (2 + 6 * i) (by omega) (by omega)).trans ((at7 _ (by omega) (by omega)).trans ((at4 _ (by omega) (by omega)).trans w1))
    rw [show c + 2 + 6 * i = c + (2 + 6 * i) by omega, show c + 3 + 6 * i = c + (2 + 6 * i + 1) by omega, show c + 4 + 6 * i = c + (2 + 6 * i + 2) by omega, show c + 5 + 6 * i = c + (2 + 6 * i + 3) by omega]
    exact this
  · obtain ⟨w1, w2, w3, w4, w5, w6⟩ := ac i hi
    have := (at13 (2 + 6 * i + 1) (by omega) (by omega)).trans ((at7 _ (by omega) (by omega)).trans ((at4 _ (by omega) (by omega)).trans w2))
    rw [show c + 3 + 6 * i = c + (2 + 6 * i + 1) by omega]
    exact this
  · obtain ⟨w1, w2, w3, w4, w5, w6⟩ := ac i hi
    have := (at13 (2 + 6 * i + 2) (by omega) (by omega)).trans ((at7 _ (by omega) (by omega)).trans ((at4 _ (by omega) (by omega)).trans w3))
    rw [show c + 4 + 6 * i = c + (2 + 6 * i + 2) by omega]
    exact this
  · obtain ⟨w1, w2, w3, w4, w5, w6⟩ := ac i hi
    have := (at13 (2 + 6 * i + 3) (by omega) (by omega)).trans ((at7 _ (by omega) (by omega)).trans ((at4 _ (by omega) (by omega)).trans w4))
    rw [show c + 5 + 6 * i = c + (2 + 6 * i + 3) by omega, show c + 6 + 6 * i = c + (2 + 6 * i + 4) by omega, show c + 7 + 6 * i = c + (2 + 6 * i + 5) by omega]
    exact this
  · obtain ⟨w1, w2, w3, w4, w5, w6⟩ := ac i hi
    have := (at13 (2 + 6 * i + 4) (by omega) (by omega)).trans ((at7 _ (by omega) (by omega)).trans ((at4 _ (by omega) (by omega)).trans w5))
    rw [show c + 6 + 6 * i = c + (2 + 6 * i + 4) by omega]
    exact this
  · obtain ⟨w1, w2, w3, w4, w5, w6⟩ := ac i hi
    have := (at13 (2 + 6 * i + 5) (by omega) (by omega)).trans ((at7 _ (by omega) (by omega)).trans ((at4 _ (by omega) (by omega)).trans w6))
    rw [show c + 7 + 6 * i = c + (2 + 6 * i + 5) by omega]
    exact this
  · exact (at13 38 (by omega) (by omega)).trans ((at7 38 (by omega) (by omega)).trans b1)
  · obtain ⟨w1, w2, w3, w4, w5, w6⟩ := bc i hi
    have := (at13 (39 + 6 * i) (by omega) (by omega)).trans ((at7 _ (by omega) (by omega)).trans w1)
    rw [show c + 39 + 6 * i = c + (39 + 6 * i) by omega, show c + 40 + 6 * i = c + (39 + 6 * i + 1) by omega, show c + 41 + 6 * i = c + (39 + 6 * i + 2) by omega, show c + 42 + 6 * i = c + (39 + 6 * i + 3) by omega, show c + 43 + 6 * i = c + (39 + 6 * i + 4) by omega, show c + 44 + 6 * i = c + (39 + 6 * i + 5) by omega]
    exact this
  · obtain ⟨w1, w2, w3, w4, w5, w6⟩ := bc i hi
    have := (at13 (39 + 6 * i + 1) (by omega) (by omega)).trans ((at7 _ (by omega) (by omega)).trans w2)
    rw [show c + 40 + 6 * i = c + (39 + 6 * i + 1) by omega]
    exact this
  · obtain ⟨w1, w2, w3, w4, w5, w6⟩ := bc i hi
    have := (at13 (39 + 6 * i + 2) (by omega) (by omega)).trans ((at7 _ (by omega) (by omega)).trans w3)
    rw [show c + 41 + 6 * i = c + (39 + 6 * i + 2) by omega]
    exact this
  · obtain ⟨w1, w2, w3, w4, w5, w6⟩ := bc i hi
    have := (at13 (39 + 6 * i + 3) (by omega) (by omega)).trans ((at7 _ (by omega) (by omega)).trans w4)
    rw [show c + 42 + 6 * i = c + (39 + 6 * i + 3) by omega]
    exact this
  · obtain ⟨w1, w2, w3, w4, w5, w6⟩ := bc i hi
    have := (at13 (39 + 6 * i + 4) (by omega) (by omega)).trans ((at7 _ (by omega) (by omega)).trans w5)
    rw [show c + 43 + 6 * i = c + (39 + 6 * i + 4) by omega]
    exact this
  · obtain ⟨w1, w2, w3, w4, w5, w6⟩ := bc i hi
    have := (at13 (39 + 6 * i + 5) (by omega) (by omega)).trans ((at7 _ (by omega) (by omega)).trans w6)
    rw [show c + 44 + 6 * i = c + (39 + 6 * i + 5) by omega]
    exact this
  · refine (at13 75 (by omega) (by omega)).trans (c1.trans ?_)
    have : thF 36 (lkA c) (fun _ => none) = fun l => if lkd l = true then some (c + 76 + rk l) else none := by
      funext l
      unfold thF lkA
      by_cases hl : l < 36
      · rw [if_pos hl]
        by_cases hk : lkd l = true
        · rw [if_pos hk, if_pos hk, Nat.add_assoc]
        · rw [if_neg hk, if_neg hk]
      · rw [if_neg hl, if_neg]
        unfold lkd
        rw [decide_eq_false hl]
        exact fun q => by cases q
    rw [this]
  · have hr : rk l + 1 ≤ 18 := by
      have := rk_mono (a := l + 1) 36 (by omega)
      rw [rk_36, rk_s, if_pos hk] at this
      exact this
    have := (at13 (76 + rk l) (by omega) (by omega)).trans (cc l hl hk)
    rw [show c + 76 + rk l = c + (76 + rk l) by omega]
    exact this
  · exact (hB13.2.1 94 (by omega)).trans ((vu_n (by omega)).trans ((vu_n (by omega)).trans vu_s))
  · cases ha
  · obtain ⟨p1, p2⟩ := hB13.2.2 a e ha
    exact ⟨p1, by have := hB13.1; omega, Or.inl p2, rfl⟩
  · have := hB13.1; omega
end C1
