/-! the model's post: messages in a row -/
abbrev aMsg : Type := Nat × Nat × Nat × Int32 × Nat × Nat × Nat
def mf (q : aMsg) (i : Nat) : Int32 := match i with
  | 0 => nI q.1
  | 1 => nI q.2.1
  | 2 => nI q.2.2.1
  | 3 => q.2.2.2.1
  | 4 => nI q.2.2.2.2.1
  | 5 => nI q.2.2.2.2.2.1
  | _ => nI q.2.2.2.2.2.2
def PR (P : Nat → Int32) (L : List aMsg) : Prop := ∀ (j : Nat) (q : aMsg), L[j]? = some q → ∀ i, i < 7 → P (7 * j + i) = mf q i
abbrev aSt : Type := Nat × (Nat → Nat → Nat) × (Nat → Nat → Int32) × (Nat → Option Nat) × List aMsg
def MMs (g : Nat → Option aE) (h : aH) (m : Nat) (S : aSt) (pl : Nat) : Prop := ∃ (pa : Nat) (P : Nat → Int32), MM g h m S.1 S.2.2.2.2.length pa pl S.2.1 S.2.2.1 S.2.2.2.1 P ∧ PR P S.2.2.2.2 ∧ 7 * S.2.2.2.2.length ≤ pl ∧ 448 ≤ pl ∧ pl ≤ 200000
/-- how the room grows with the post -/
def GR (h : aH) (pl : Nat) (h' : aH) (pl' : Nat) : Prop := pl ≤ pl' ∧ h'.1 + pl ≤ h.1 + pl' ∧ h'.2.1 + 2 * pl ≤ h.2.1 + 2 * pl' ∧ h.1 ≤ h'.1
theorem GR.rf {h : aH} {pl : Nat} : GR h pl h pl := ⟨Nat.le_refl _, Nat.le_refl _, Nat.le_refl _, Nat.le_refl _⟩
theorem GR.of {h h' : aH} {pl : Nat} (h1 : h'.1 = h.1) (h2 : h'.2.1 = h.2.1) : GR h pl h' pl := ⟨Nat.le_refl _, by omega, by omega, by omega⟩
theorem GR.tr {h h' h'' : aH} {pl pl' pl'' : Nat} (a : GR h pl h' pl') (b : GR h' pl' h'' pl'') : GR h pl h'' pl'' := by
  obtain ⟨a1, a2, a3, a4⟩ := a
  obtain ⟨b1, b2, b3, b4⟩ := b
  exact ⟨by omega, by omega, by omega, by omega⟩
section MP
variable {d : Nat} {g : Nat → Option aE} {h : aH} {m many wt pa pl : Nat} {A : Nat → Nat → Int32} {N : Nat → Nat → Nat} {V : Nat → Nat → Int32} {O : Nat → Option Nat} {P : Nat → Int32} {Q : Option Value → aH → Prop}
theorem RM_nw {k : Nat} {e : aE} (hR : RepM g h m many wt pa pl A) : RepM g (am_nw h k e) m many wt pa pl A := by
  obtain ⟨r1, r2, r3, ⟨r41, r42, r43, r44⟩, r5, r6, r7⟩ := hR
  refine ⟨?_, fun j j1 j2 => ?_, ?_, ⟨r41, Nat.lt_succ_of_lt r42, Nat.lt_succ_of_lt r43, r44⟩, fun a x hx => ?_, r6, r7⟩
  · show (if m = h.1 then _ else h.2.2 m) = _
    rw [if_neg (by omega)]
    exact r1
  · show (if m + j = h.1 then _ else h.2.2 (m + j)) = _
    rw [if_neg (by omega)]
    exact r2 j j1 j2
  · show (if pa = h.1 then _ else h.2.2 pa) = _
    rw [if_neg (by omega)]
    exact r3
  · have hq := r5 a x hx
    refine ⟨?_, Nat.lt_succ_of_lt hq.2⟩
    show (if a = h.1 then _ else h.2.2 a) = _
    rw [if_neg (by omega)]
    exact hq.1
/-- a cell beside the model -/
def bsd (g : Nat → Option aE) (h : aH) (m pa b : Nat) : Prop := (b < m ∨ m + 21 < b) ∧ ¬ b = pa ∧ g b = none ∧ b < h.1
theorem RM_upb {b : Nat} {e : aE} (hR : RepM g h m many wt pa pl A) (hb : bsd g h m pa b) : RepM g (am_up h b e) m many wt pa pl A := by
  obtain ⟨r1, r2, r3, r4, r5, r6, r7⟩ := hR
  obtain ⟨b1, b2, b3, b4⟩ := hb
  refine ⟨?_, fun j j1 j2 => ?_, ?_, r4, fun a x hx => ?_, r6, r7⟩
  · show (if m = b then _ else h.2.2 m) = _
    rw [if_neg (by omega)]
    exact r1
  · show (if m + j = b then _ else h.2.2 (m + j)) = _
    rw [if_neg (by omega)]
    exact r2 j j1 j2
  · show (if pa = b then _ else h.2.2 pa) = _
    rw [if_neg (fun q => b2 q.symm)]
    exact r3
  · have hq := r5 a x hx
    refine ⟨?_, hq.2⟩
    show (if a = b then _ else h.2.2 a) = _
    rw [if_neg (fun q => by rw [q, b3] at hx; cases hx)]
    exact hq.1
theorem RM_newp {b n : Nat} {f : Nat → Int32} (hR : RepM g h m many wt pa pl A) (hb : bsd g h m pa b) (hc : h.2.2 b = some (.inl (0, n, .inl f))) (hn : n < 1000000) : RepM g (am_up h m (.inr (7, oM m many wt b))) m many wt b n (va_up A 23 f) := by
  obtain ⟨r1, r2, r3, ⟨r41, r42, r43, r44⟩, r5, r6, r7⟩ := hR
  obtain ⟨b1, b2, b3, b4⟩ := hb
  refine ⟨?_, fun j j1 j2 => ?_, ?_, ⟨b1, b4, r43, hn⟩, fun a x hx => ?_, r6, b3⟩
  · show (if m = m then _ else h.2.2 m) = _
    rw [if_pos rfl]
  · show (if m + j = m then _ else h.2.2 (m + j)) = _
    rw [if_neg (by omega)]
    unfold va_up
    rw [if_neg (by omega)]
    exact r2 j j1 j2
  · show (if b = m then _ else h.2.2 b) = _
    rw [if_neg (by omega), hc]
    unfold va_up
    rw [if_pos rfl]
  · have hq := r5 a x hx
    refine ⟨?_, hq.2⟩
    show (if a = m then _ else h.2.2 a) = _
    rw [if_neg (fun q => by have := r6 0 (by decide); rw [q] at hx; rw [Nat.add_zero, hx] at this; cases this)]
    exact hq.1
theorem pM_23 {F : aH → Prop} {b : Nat} (hR : RepM g h m many wt pa pl A) (hF : F (am_up h m (.inr (7, oM m many wt b)))) : am_pf h 7 m 23 (.ref b) F := by
  rw [am_pf_of hR.1 (Nat.le_of_ble_eq_true rfl)]
  exact hF
/-- the copy of the post -/
theorem l85 {f t k x y z num : Int32} {b : Nat} (hw : pl ≤ 200000) : ∀ (c i : Nat) (h : aH) (fn : Nat → Int32), i + c = pl → RepM g h m many wt pa pl A → bsd g h m pa b → h.2.2 b = some (.inl (0, 2 * pl, .inl fn)) → (∀ j, j < i → fn j = A 23 j) →
    (∀ (h1 : aH) (fn1 : Nat → Int32), h1.1 = h.1 → h1.2.1 = h.2.1 → RepM g h1 m many wt b (2 * pl) (va_up A 23 fn1) → (∀ j, j < pl → fn1 j = A 23 j) → am_R d 85 86 [some (.ref m), some (.int f), some (.int t), some (.int k), some (.int num), some (.int x), some (.int y), some (.int z), some (.ref b), some (.int (nI pl))] [] h1 Q) →
    am_R d 85 52 [some (.ref m), some (.int f), some (.int t), some (.int k), some (.int num), some (.int x), some (.int y), some (.int z), some (.ref b), some (.int (nI i))] [] h Q := by
  intro c
  induction c with
  | zero =>
    intro i h fn hi hR hb hc hfn hQ
    obtain rfl : i = pl := by omega
    simp (disch := first | assumption | omega | exact am_isr_ref | exact am_isr_null | exact am_isr_rf | exact am_c1_int | exact am_c1_ref | exact am_c1_null | exact am_c1_rf | exact am_b0 | exact am_b1 | exact RM_obj (by assumption) | (simp only [ne_eq]; done) | exact am_nz2 | exact am_nz3 | exact am_nz6 | exact am_lt (hB _ _) | exact am_lt (stF_lt hB) | exact b32_01) only [e85_52, e85_54, e85_55, e85_58, e85_59, e85_80, e85_81, e85_83, gM_23 hR, lM_23 hR, nle, if_true, Nat.le_refl]
    refine pM_23 hR ?_
    exact hQ _ fn rfl rfl (RM_newp hR hb hc (by omega)) hfn
  | succ c ih =>
    intro i h fn hi hR hb hc hfn hQ
    rw [e85_52]
    simp (disch := first | assumption | omega | exact am_isr_ref | exact am_isr_null | exact am_isr_rf | exact am_c1_int | exact am_c1_ref | exact am_c1_null | exact am_c1_rf | exact am_b0 | exact am_b1 | exact RM_obj (by assumption) | (simp only [ne_eq]; done) | exact am_nz2 | exact am_nz3 | exact am_nz6 | exact am_lt (hB _ _) | exact am_lt (stF_lt hB) | exact b32_01) only [e85_54, e85_55, e85_58, e85_59, e85_62, e85_64, e85_66, e85_67, e85_70, e85_72, e85_73, e85_74, e85_77, gM_23 hR, lM_23 hR, nle, if_neg (show ¬ pl ≤ i by omega), rM_23 hR (show i < pl by omega)]
    rw [am_pa_of hc (am_in_nI (by omega) (by omega)), nI_clamp (by omega)]
    simp (disch := first | assumption | omega | exact am_isr_ref | exact am_isr_null | exact am_isr_rf | exact am_c1_int | exact am_c1_ref | exact am_c1_null | exact am_c1_rf | exact am_b0 | exact am_b1 | exact RM_obj (by assumption) | (simp only [ne_eq]; done) | exact am_nz2 | exact am_nz3 | exact am_nz6 | exact am_lt (hB _ _) | exact am_lt (stF_lt hB) | exact b32_01) only [e85_74, e85_77, nI_add]
    refine ih (i + 1) _ (upd fn i (A 23 i)) (by omega) (RM_upb hR hb) hb (if_pos rfl) (fun j hj => ?_) (fun h1 fn1 e1 e2 => hQ h1 fn1 e1 e2)
    unfold upd
    by_cases hji : j = i
    · rw [if_pos hji, hji]
    · rw [if_neg hji]
      exact hfn j (by omega)
theorem eA_23 {fn : Nat → Int32} : va_up (eA N V O P) 23 fn = eA N V O fn := by
  funext k2 e2
  unfold va_up eA
  by_cases h1 : k2 = 23
  · subst h1
    rfl
  · rw [if_neg h1]
    simp [h1]
def w7 (P : Nat → Int32) (b : Nat) (q : aMsg) : Nat → Int32 := upd (upd (upd (upd (upd (upd (upd P b (mf q 0)) (b + 1) (mf q 1)) (b + 2) (mf q 2)) (b + 3) (mf q 3)) (b + 4) (mf q 4)) (b + 5) (mf q 5)) (b + 6) (mf q 6)
theorem w7_PR {L : List aMsg} {q : aMsg} (hP : PR P L) : PR (w7 P (7 * L.length) q) (L ++ [q]) := by
  intro j q2 hq i hi
  by_cases hj : j < L.length
  · rw [List.getElem?_append_left hj] at hq
    rw [← hP j q2 hq i hi]
    unfold w7 upd
    have n0 : ¬ 7 * j + i = 7 * L.length := by omega
    have n1 : ¬ 7 * j + i = 7 * L.length + 1 := by omega
    have n2 : ¬ 7 * j + i = 7 * L.length + 2 := by omega
    have n3 : ¬ 7 * j + i = 7 * L.length + 3 := by omega
    have n4 : ¬ 7 * j + i = 7 * L.length + 4 := by omega
    have n5 : ¬ 7 * j + i = 7 * L.length + 5 := by omega
    have n6 : ¬ 7 * j + i = 7 * L.length + 6 := by omega
    simp only [n0, n1, n2, n3, n4, n5, n6, if_false]
  · have hl := (List.getElem?_eq_some_iff.mp hq).1
    rw [List.length_append, List.length_singleton] at hl
    obtain rfl : j = L.length := by omega
    rw [List.getElem?_append_right (Nat.le_refl _), Nat.sub_self] at hq
    cases hq
    unfold w7 upd
    rcases (show i = 0 ∨ i = 1 ∨ i = 2 ∨ i = 3 ∨ i = 4 ∨ i = 5 ∨ i = 6 by omega) with rfl | rfl | rfl | rfl | rfl | rfl | rfl <;> simp
theorem PR_of {P2 : Nat → Int32} {L : List aMsg} {pl : Nat} (hP : PR P L) (hl : 7 * L.length ≤ pl) (he : ∀ j, j < pl → P2 j = P j) : PR P2 L := by
  intro j q hq i hi
  have hj := (List.getElem?_eq_some_iff.mp hq).1
  rw [he _ (by omega)]
  exact hP j q hq i hi
/-- the last part of send: the message is put behind the others -/
theorem t85 {q : aMsg} {l8 l9 : Option Value} {h : aH} {S : aSt} (hR : MM g h m S.1 S.2.2.2.2.length pa pl S.2.1 S.2.2.1 S.2.2.2.1 P) (hP : PR P S.2.2.2.2) (hl : 7 * S.2.2.2.2.length + 7 ≤ pl) (hpl : 448 ≤ pl ∧ pl ≤ 200000)
    (hQ : ∀ h1 : aH, h1.1 = h.1 → h1.2.1 = h.2.1 → MMs g h1 m (S.1, S.2.1, S.2.2.1, S.2.2.2.1, S.2.2.2.2 ++ [q]) pl → Q none h1) :
    am_R d 85 86 [some (.ref m), some (.int (mf q 0)), some (.int (mf q 1)), some (.int (mf q 2)), some (.int (mf q 3)), some (.int (mf q 4)), some (.int (mf q 5)), some (.int (mf q 6)), l8, l9] [] h Q := by
  generalize hw : S.2.2.2.2.length = w at hR hl
  simp (disch := first | assumption | omega | exact am_isr_ref | exact am_isr_null | exact am_isr_rf | exact am_c1_int | exact am_c1_ref | exact am_c1_null | exact am_c1_rf | exact am_b0 | exact am_b1 | exact RM_obj (by assumption) | (simp only [ne_eq]; done) | exact am_nz2 | exact am_nz3 | exact am_nz6 | exact am_lt (hB _ _) | exact am_lt (stF_lt hB) | exact b32_01) only [e85_86, e85_88, e85_89, e85_92, e85_93, e85_95, e85_96, e85_99, e85_101, e85_102, gM_22 hR, pk_mul, gM_23 hR]
  refine wP hR (by omega) (fun h1 a1 b1 hR => ?_)
  simp (disch := first | assumption | omega | exact am_isr_ref | exact am_isr_null | exact am_isr_rf | exact am_c1_int | exact am_c1_ref | exact am_c1_null | exact am_c1_rf | exact am_b0 | exact am_b1 | exact RM_obj (by assumption) | (simp only [ne_eq]; done) | exact am_nz2 | exact am_nz3 | exact am_nz6 | exact am_lt (hB _ _) | exact am_lt (stF_lt hB) | exact b32_01) only [e85_103, e85_104, e85_107, e85_109, e85_110, e85_111, e85_112, gM_23 hR, nI_add]
  refine wP hR (by omega) (fun h2 a2 b2 hR => ?_)
  simp (disch := first | assumption | omega | exact am_isr_ref | exact am_isr_null | exact am_isr_rf | exact am_c1_int | exact am_c1_ref | exact am_c1_null | exact am_c1_rf | exact am_b0 | exact am_b1 | exact RM_obj (by assumption) | (simp only [ne_eq]; done) | exact am_nz2 | exact am_nz3 | exact am_nz6 | exact am_lt (hB _ _) | exact am_lt (stF_lt hB) | exact b32_01) only [e85_113, e85_114, e85_117, e85_119, e85_120, e85_121, e85_122, gM_23 hR, nI_add]
  refine wP hR (by omega) (fun h3 a3 b3 hR => ?_)
  simp (disch := first | assumption | omega | exact am_isr_ref | exact am_isr_null | exact am_isr_rf | exact am_c1_int | exact am_c1_ref | exact am_c1_null | exact am_c1_rf | exact am_b0 | exact am_b1 | exact RM_obj (by assumption) | (simp only [ne_eq]; done) | exact am_nz2 | exact am_nz3 | exact am_nz6 | exact am_lt (hB _ _) | exact am_lt (stF_lt hB) | exact b32_01) only [e85_123, e85_124, e85_127, e85_129, e85_130, e85_131, e85_133, gM_23 hR, nI_add]
  refine wP hR (by omega) (fun h4 a4 b4 hR => ?_)
  simp (disch := first | assumption | omega | exact am_isr_ref | exact am_isr_null | exact am_isr_rf | exact am_c1_int | exact am_c1_ref | exact am_c1_null | exact am_c1_rf | exact am_b0 | exact am_b1 | exact RM_obj (by assumption) | (simp only [ne_eq]; done) | exact am_nz2 | exact am_nz3 | exact am_nz6 | exact am_lt (hB _ _) | exact am_lt (stF_lt hB) | exact b32_01) only [e85_134, e85_135, e85_138, e85_140, e85_141, e85_142, e85_144, gM_23 hR, nI_add]
  refine wP hR (by omega) (fun h5 a5 b5 hR => ?_)
  simp (disch := first | assumption | omega | exact am_isr_ref | exact am_isr_null | exact am_isr_rf | exact am_c1_int | exact am_c1_ref | exact am_c1_null | exact am_c1_rf | exact am_b0 | exact am_b1 | exact RM_obj (by assumption) | (simp only [ne_eq]; done) | exact am_nz2 | exact am_nz3 | exact am_nz6 | exact am_lt (hB _ _) | exact am_lt (stF_lt hB) | exact b32_01) only [e85_145, e85_146, e85_149, e85_151, e85_152, e85_153, e85_155, gM_23 hR, nI_add]
  refine wP hR (by omega) (fun h6 a6 b6 hR => ?_)
  simp (disch := first | assumption | omega | exact am_isr_ref | exact am_isr_null | exact am_isr_rf | exact am_c1_int | exact am_c1_ref | exact am_c1_null | exact am_c1_rf | exact am_b0 | exact am_b1 | exact RM_obj (by assumption) | (simp only [ne_eq]; done) | exact am_nz2 | exact am_nz3 | exact am_nz6 | exact am_lt (hB _ _) | exact am_lt (stF_lt hB) | exact b32_01) only [e85_156, e85_157, e85_160, e85_162, e85_164, e85_165, e85_167, gM_23 hR, nI_add]
  refine wP hR (by omega) (fun h7 a7 b7 hR => ?_)
  simp (disch := first | assumption | omega | exact am_isr_ref | exact am_isr_null | exact am_isr_rf | exact am_c1_int | exact am_c1_ref | exact am_c1_null | exact am_c1_rf | exact am_b0 | exact am_b1 | exact RM_obj (by assumption) | (simp only [ne_eq]; done) | exact am_nz2 | exact am_nz3 | exact am_nz6 | exact am_lt (hB _ _) | exact am_lt (stF_lt hB) | exact b32_01) only [e85_168, e85_169, e85_170, e85_173, e85_174, e85_175, gM_22 hR, nI_add]
  refine pM_22 hR (fun h8 a8 b8 hR => ?_)
  simp (disch := first | assumption | omega | exact am_isr_ref | exact am_isr_null | exact am_isr_rf | exact am_c1_int | exact am_c1_ref | exact am_c1_null | exact am_c1_rf | exact am_b0 | exact am_b1 | exact RM_obj (by assumption) | (simp only [ne_eq]; done) | exact am_nz2 | exact am_nz3 | exact am_nz6 | exact am_lt (hB _ _) | exact am_lt (stF_lt hB) | exact b32_01) only [e85_178]
  refine hQ h8 (by omega) (by omega) ⟨pa, w7 P (7 * w) q, ?_, ?_, ?_, hpl⟩
  · show MM g h8 m S.1 (S.2.2.2.2 ++ [q]).length pa pl S.2.1 S.2.2.1 S.2.2.2.1 _
    rw [List.length_append, List.length_singleton, hw]
    exact hR
  · rw [← hw]
    exact w7_PR hP
  · show 7 * (S.2.2.2.2 ++ [q]).length ≤ pl
    rw [List.length_append, List.length_singleton, hw]
    omega
/-- send to another server -/
theorem c85p {q : aMsg} {h : aH} {S : aSt} (hS : MMs g h m S pl) (hne : ¬ q.1 = q.2.1) (h6 : q.1 < 6 ∧ q.2.1 < 6) (hL : S.2.2.2.2.length ≤ 10000)
    (hQ : ∀ (h1 : aH) (pl1 : Nat), GR h pl h1 pl1 → MMs g h1 m (S.1, S.2.1, S.2.2.1, S.2.2.2.1, S.2.2.2.2 ++ [q]) pl1 → Q none h1) :
    am_R d 85 0 [some (.ref m), some (.int (mf q 0)), some (.int (mf q 1)), some (.int (mf q 2)), some (.int (mf q 3)), some (.int (mf q 4)), some (.int (mf q 5)), some (.int (mf q 6)), none, none] [] h Q := by
  obtain ⟨pa, P, hR, hP, hl, hp1, hp2⟩ := hS
  have hne2 : ¬ mf q 0 = mf q 1 := nI_ne (by omega) (by omega) hne
  simp (disch := first | assumption | omega | exact am_isr_ref | exact am_isr_null | exact am_isr_rf | exact am_c1_int | exact am_c1_ref | exact am_c1_null | exact am_c1_rf | exact am_b0 | exact am_b1 | exact RM_obj (by assumption) | (simp only [ne_eq]; done) | exact am_nz2 | exact am_nz3 | exact am_nz6 | exact am_lt (hB _ _) | exact am_lt (stF_lt hB) | exact b32_01) only [e85_0, e85_1, e85_2, if_pos hne2, e85_21, e85_23, e85_24, e85_27, e85_28, e85_29, e85_30, e85_31, e85_34, e85_35, gM_22 hR, gM_23 hR, lM_23 hR, nI_add, pk_mul, nle]
  by_cases hc : 7 * (S.2.2.2.2.length + 1) ≤ pl
  · rw [if_pos hc]
    exact t85 hR hP (by omega) ⟨hp1, hp2⟩ (fun h1 a1 b1 hM => hQ h1 pl (GR.of a1 b1) hM)
  · rw [if_neg hc]
    have hx : ¬ nI (2 * pl) < 0 ∧ (nI (2 * pl)).toNatClampNeg ≤ 1000000 := ⟨nI_pos (by omega), by rw [nI_clamp (by omega)]; omega⟩
    simp (disch := first | assumption | omega | exact am_isr_ref | exact am_isr_null | exact am_isr_rf | exact am_c1_int | exact am_c1_ref | exact am_c1_null | exact am_c1_rf | exact am_b0 | exact am_b1 | exact RM_obj (by assumption) | (simp only [ne_eq]; done) | exact am_nz2 | exact am_nz3 | exact am_nz6 | exact am_lt (hB _ _) | exact am_lt (stF_lt hB) | exact b32_01) only [e85_38, e85_39, e85_40, e85_43, e85_44, e85_45, e85_47, e85_49, e85_50, gM_23 hR, lM_23 hR, pk_mul, nI_clamp (show 2 * pl < 2 ^ 31 by omega)]
    have hR2 := RM_nw (k := 2 * pl) (e := .inl (0, 2 * pl, .inl (fun _ => 0))) hR
    have hb : bsd g (am_nw h (2 * pl) (.inl (0, 2 * pl, .inl (fun _ => 0)))) m pa h.1 := by
      obtain ⟨r1, r2, r3, ⟨r41, r42, r43, r44⟩, r5, r6, r7⟩ := hR
      refine ⟨by omega, by omega, ?_, Nat.lt_succ_self _⟩
      cases hg : g h.1 with
      | none => rfl
      | some e => have := (r5 _ _ hg).2; omega
    refine l85 hp2 pl 0 _ (fun _ => 0) (by omega) hR2 hb (if_pos rfl) (fun j hj => by omega) (fun h1 fn1 a1 b1 hR3 hfn => ?_)
    rw [eA_23] at hR3
    refine t85 (S := S) (P := fn1) hR3 (PR_of hP hl hfn) (by omega) ⟨by omega, by omega⟩ (fun h2 a2 b2 hM => hQ h2 (2 * pl) ?_ hM)
    have e1 : (am_nw h (2 * pl) (.inl (0, 2 * pl, .inl (fun _ => 0)))).1 = h.1 + 1 := rfl
    have e2 : (am_nw h (2 * pl) (.inl (0, 2 * pl, .inl (fun _ => 0)))).2.1 = h.2.1 + 2 * pl := rfl
    exact ⟨by omega, by omega, by omega, by omega⟩
end MP
