/-! the model's commit -/
def sawF (c n : Nat) : Nat → Nat → aSt → aSt
  | 0, _, S => S
  | t + 1, p, S => sawF c n t (p + 1) (setN S 2 (3 * n + p) (S.2.1 17 (3 * c + p)))
def intF (c n : Nat) : Nat → Nat → aSt → aSt
  | 0, _, S => S
  | t + 1, k, S => intF c n t (k + 1) (setV S 5 (8 * n + k) (if wF (S.2.1 4 n) k then S.2.2.1 20 (8 * c + k) else nI 0))
/-- the transaction gets its number and what it has -/
def cm1 (S : aSt) (c : Nat) : aSt :=
  let n := S.1
  let S2 := setN (setN (setN (setMany S (n + 1)) 1 n c) 3 n (S.2.1 16 c)) 4 n (S.2.1 19 c)
  let S3 := intF c n 8 0 (sawF c n 3 0 S2)
  setN (setN (setN (setN S3 15 c 2) 19 c 0) 6 n 0) 7 n 0
def coN (N : Nat → Nat → Nat) (n s : Nat) : Nat := if coF N n s = true then 1 else 0
def cm2 (S : aSt) (ld n : Nat) : aSt := setN (setN S 6 n (coN S.2.1 n ld)) 6 n (coN S.2.1 n ld + coN S.2.1 n (ld + 1))
def cm3 (S : aSt) (ld n : Nat) : aSt :=
  let S1 := if coF S.2.1 n ld = true then prepF S ld ld n else S
  if coF S1.2.1 n (ld + 1) = true then pushF S1 (ld, ld + 1, 1, nI n, 0, 0, 0) else S1
def commitF (S : aSt) (c : Nat) : aSt := cm3 (cm2 (cm1 S c) (2 * (c % 3)) S.1) (2 * (c % 3)) S.1
section MZ
variable {d : Nat} {g : Nat → Option aE} {m pl : Nat} {Q : Option Value → aH → Prop}
theorem sawF_same {c n : Nat} : ∀ t p S, (sawF c n t p S).1 = S.1 ∧ (sawF c n t p S).2.2 = S.2.2 ∧ (∀ k e, ¬ k = 2 → (sawF c n t p S).2.1 k e = S.2.1 k e) ∧ (am_BN S.2.1 → am_BN (sawF c n t p S).2.1) := by
  intro t
  induction t with
  | zero => intro p S; exact ⟨rfl, rfl, fun _ _ _ => rfl, fun q => q⟩
  | succ t ih =>
    intro p S
    rw [sawF]
    obtain ⟨h1, h2, h3, h4⟩ := ih (p + 1) (setN S 2 (3 * n + p) (S.2.1 17 (3 * c + p)))
    exact ⟨h1, h2, fun k e hk => (h3 k e hk).trans (sN_ne hk), fun hB => h4 (BN_up2 hB (hB _ _))⟩
theorem intF_same {c n : Nat} : ∀ t k S, (intF c n t k S).1 = S.1 ∧ (intF c n t k S).2.1 = S.2.1 ∧ (intF c n t k S).2.2.2 = S.2.2.2 := by
  intro t
  induction t with
  | zero => intro k S; exact ⟨rfl, rfl, rfl⟩
  | succ t ih =>
    intro k S
    rw [intF]
    exact ih (k + 1) _
theorem l98s {c n : Nat} {l4 : Option Value} (hc : c < 6) (hn : n < 200) : ∀ (t p : Nat) (S : aSt) (h : aH), p + t = 3 → MMs g h m S pl →
    (∀ h1 : aH, GR h pl h1 pl → MMs g h1 m (sawF c n t p S) pl → am_R d 98 130 [some (.ref m), some (.int (nI c)), some (.int (nI n)), some (.int (nI 3)), l4] [] h1 Q) →
    am_R d 98 99 [some (.ref m), some (.int (nI c)), some (.int (nI n)), some (.int (nI p)), l4] [] h Q := by
  intro t
  induction t with
  | zero =>
    intro p S h hp hS hQ
    obtain rfl : p = 3 := by omega
    rw [e98_99]
    simp (disch := first | assumption | omega | exact am_isr_ref | exact am_isr_null | exact am_isr_rf | exact am_c1_int | exact am_c1_ref | exact am_c1_null | exact am_c1_rf | exact am_b0 | exact am_b1 | exact RM_obj (by assumption) | exact MS_obj (by assumption) | (simp only [ne_eq]; done) | exact am_nz2 | exact am_nz3 | exact am_nz6 | exact am_lt (hB _ _) | exact am_lt (stF_lt hB) | exact b32_01) only [e98_100, e98_101, nle, if_true, Nat.le_refl]
    exact hQ h GR.rf hS
  | succ t ih =>
    intro p S h hp hS hQ
    rw [e98_99]
    rw [sawF] at hQ
    simp (disch := first | assumption | omega | exact am_isr_ref | exact am_isr_null | exact am_isr_rf | exact am_c1_int | exact am_c1_ref | exact am_c1_null | exact am_c1_rf | exact am_b0 | exact am_b1 | exact RM_obj (by assumption) | exact MS_obj (by assumption) | (simp only [ne_eq]; done) | exact am_nz2 | exact am_nz3 | exact am_nz6 | exact am_lt (hB _ _) | exact am_lt (stF_lt hB) | exact b32_01) only [e98_100, e98_101, e98_104, e98_105, e98_108, e98_109, e98_110, e98_111, e98_112, e98_113, e98_114, e98_117, e98_118, e98_119, e98_120, e98_121, e98_122, e98_123, nle, if_neg (show ¬ 3 ≤ p by omega), gS_2 hS, gS_17 hS, nI_add, pk_mul, rS_17 hS (show 3 * c + p < 18 by omega)]
    refine wS_2 hS (by omega) (fun h1 hG hS1 => ?_)
    simp (disch := first | assumption | omega | exact am_isr_ref | exact am_isr_null | exact am_isr_rf | exact am_c1_int | exact am_c1_ref | exact am_c1_null | exact am_c1_rf | exact am_b0 | exact am_b1 | exact RM_obj (by assumption) | exact MS_obj (by assumption) | (simp only [ne_eq]; done) | exact am_nz2 | exact am_nz3 | exact am_nz6 | exact am_lt (hB _ _) | exact am_lt (stF_lt hB) | exact b32_01) only [e98_124, e98_127, nI_add]
    exact ih (p + 1) _ h1 (by omega) hS1 (fun h2 hG2 hS2 => hQ h2 (hG.tr hG2) hS2)
theorem l98i {c n : Nat} {l4 : Option Value} (hc : c < 6) (hn : n < 200) : ∀ (t k : Nat) (S : aSt) (h : aH), k + t = 8 → MMs g h m S pl → am_BN S.2.1 →
    (∀ h1 : aH, GR h pl h1 pl → MMs g h1 m (intF c n t k S) pl → am_R (d + 1) 98 179 [some (.ref m), some (.int (nI c)), some (.int (nI n)), some (.int (nI 8)), l4] [] h1 Q) →
    am_R (d + 1) 98 132 [some (.ref m), some (.int (nI c)), some (.int (nI n)), some (.int (nI k)), l4] [] h Q := by
  intro t
  induction t with
  | zero =>
    intro k S h hk hS hB hQ
    obtain rfl : k = 8 := by omega
    rw [e98_132]
    simp (disch := first | assumption | omega | exact am_isr_ref | exact am_isr_null | exact am_isr_rf | exact am_c1_int | exact am_c1_ref | exact am_c1_null | exact am_c1_rf | exact am_b0 | exact am_b1 | exact RM_obj (by assumption) | exact MS_obj (by assumption) | (simp only [ne_eq]; done) | exact am_nz2 | exact am_nz3 | exact am_nz6 | exact am_lt (hB _ _) | exact am_lt (stF_lt hB) | exact b32_01) only [e98_133, e98_135, nle, if_true, Nat.le_refl]
    exact hQ h GR.rf hS
  | succ t ih =>
    intro k S h hk hS hB hQ
    rw [e98_132]
    rw [intF] at hQ
    simp (disch := first | assumption | omega | exact am_isr_ref | exact am_isr_null | exact am_isr_rf | exact am_c1_int | exact am_c1_ref | exact am_c1_null | exact am_c1_rf | exact am_b0 | exact am_b1 | exact RM_obj (by assumption) | exact MS_obj (by assumption) | (simp only [ne_eq]; done) | exact am_nz2 | exact am_nz3 | exact am_nz6 | exact am_lt (hB _ _) | exact am_lt (stF_lt hB) | exact b32_01) only [e98_133, e98_135, e98_138, e98_139, e98_142, e98_144, e98_145, e98_146, e98_147, e98_148, e98_149, e98_150, e98_151, e98_154, nle, if_neg (show ¬ 8 ≤ k by omega), gS_5 hS, nI_add, pk_mul, s79 hS hB hn (show k < 8 by omega), Option.toList_some, List.cons_append, List.nil_append, b32_q0]
    by_cases hw : wF (S.2.1 4 n) k
    · rw [if_neg (fun q => q hw)]
      rw [if_pos hw] at hQ
      simp (disch := first | assumption | omega | exact am_isr_ref | exact am_isr_null | exact am_isr_rf | exact am_c1_int | exact am_c1_ref | exact am_c1_null | exact am_c1_rf | exact am_b0 | exact am_b1 | exact RM_obj (by assumption) | exact MS_obj (by assumption) | (simp only [ne_eq]; done) | exact am_nz2 | exact am_nz3 | exact am_nz6 | exact am_lt (hB _ _) | exact am_lt (stF_lt hB) | exact b32_01) only [e98_157, e98_158, e98_161, e98_163, e98_164, e98_165, e98_166, e98_167, e98_168, e98_171, e98_172, gS_20 hS, nI_add, pk_mul, rS_20 hS (show 8 * c + k < 48 by omega)]
      refine wS_5 hS (by omega) (fun h1 hG hS1 => ?_)
      simp (disch := first | assumption | omega | exact am_isr_ref | exact am_isr_null | exact am_isr_rf | exact am_c1_int | exact am_c1_ref | exact am_c1_null | exact am_c1_rf | exact am_b0 | exact am_b1 | exact RM_obj (by assumption) | exact MS_obj (by assumption) | (simp only [ne_eq]; done) | exact am_nz2 | exact am_nz3 | exact am_nz6 | exact am_lt (hB _ _) | exact am_lt (stF_lt hB) | exact b32_01) only [e98_173, e98_176, nI_add]
      exact ih (k + 1) _ h1 (by omega) hS1 hB (fun h2 hG2 hS2 => hQ h2 (hG.tr hG2) hS2)
    · rw [if_pos hw]
      rw [if_neg hw] at hQ
      simp (disch := first | assumption | omega | exact am_isr_ref | exact am_isr_null | exact am_isr_rf | exact am_c1_int | exact am_c1_ref | exact am_c1_null | exact am_c1_rf | exact am_b0 | exact am_b1 | exact RM_obj (by assumption) | exact MS_obj (by assumption) | (simp only [ne_eq]; done) | exact am_nz2 | exact am_nz3 | exact am_nz6 | exact am_lt (hB _ _) | exact am_lt (stF_lt hB) | exact b32_01) only [e98_171, e98_172]
      refine wS_5 hS (by omega) (fun h1 hG hS1 => ?_)
      simp (disch := first | assumption | omega | exact am_isr_ref | exact am_isr_null | exact am_isr_rf | exact am_c1_int | exact am_c1_ref | exact am_c1_null | exact am_c1_rf | exact am_b0 | exact am_b1 | exact RM_obj (by assumption) | exact MS_obj (by assumption) | (simp only [ne_eq]; done) | exact am_nz2 | exact am_nz3 | exact am_nz6 | exact am_lt (hB _ _) | exact am_lt (stF_lt hB) | exact b32_01) only [e98_173, e98_176, nI_add]
      exact ih (k + 1) _ h1 (by omega) hS1 hB (fun h2 hG2 hS2 => hQ h2 (hG.tr hG2) hS2)
theorem toldF_same {S : aSt} {n t : Nat} (hB : am_BN S.2.1) (ht : t < 1000000) : (toldF S n t).1 = S.1 ∧ am_BN (toldF S n t).2.1 ∧ (toldF S n t).2.2.2.2 = S.2.2.2.2 ∧ (toldF S n t).2.2.1 = S.2.2.1 ∧ (∀ k e, ¬ k = 7 → ¬ k = 6 → ¬ k = 8 → ¬ k = 9 → ¬ k = 15 → ¬ k = 16 → (toldF S n t).2.1 k e = S.2.1 k e) := by
  have b7 := hB 7 n
  have b6 := hB 6 n
  have hgt : max (S.2.1 7 n) t < 1000000 := by omega
  have hs := owF_same (c := S.2.1 1 n) (n := n) 8 0 (setN (setN (setN (setN (setN (setN S 7 n (max (S.2.1 7 n) t)) 6 n (S.2.1 6 n - 1)) 8 n 1) 9 n (max (S.2.1 7 n) t)) 15 (S.2.1 1 n) 0) 16 (S.2.1 1 n) (max (S.2.1 7 n) t))
  refine ⟨hs.1, ?_, hs.2.2.2, hs.2.2.1, fun k e k7 k6 k8 k9 k15 k16 => ?_⟩
  · show am_BN (owF _ _ _ _ _).2.1
    rw [hs.2.1]
    exact BN_up2 (BN_up2 (BN_up2 (BN_up2 (BN_up2 (BN_up2 hB hgt) (by omega)) (by decide)) hgt) (by decide)) hgt
  · show (owF _ _ _ _ _).2.1 k e = _
    rw [hs.2.1, sN_ne k16, sN_ne k15, sN_ne k9, sN_ne k8, sN_ne k6, sN_ne k7]
theorem dcdF_same {S : aSt} {ld n : Nat} (hB : am_BN S.2.1) : (dcdF S ld n).1 = S.1 ∧ am_BN (dcdF S ld n).2.1 ∧ (dcdF S ld n).2.2.2.2.length ≤ S.2.2.2.2.length + 3 * S.1 + 1 ∧ (∀ k e, ¬ k = 11 → ¬ k = 12 → ¬ k = 10 → (dcdF S ld n).2.1 k e = S.2.1 k e) := by
  have hd := decF_same (S := S) (s := ld) (n := n) (t := S.2.1 9 n) hB (hB 9 n)
  have key : ∀ S1 : aSt, S1.1 = S.1 → am_BN S1.2.1 → S1.2.2.2.2.length ≤ S.2.2.2.2.length + 3 * S.1 → (∀ k e, ¬ k = 11 → ¬ k = 12 → ¬ k = 10 → S1.2.1 k e = S.2.1 k e) → (if coF S1.2.1 n (ld + 1) = true then pushF S1 (ld, ld + 1, 3, nI n, S1.2.1 9 n, 0, 0) else S1).1 = S.1 ∧ am_BN (if coF S1.2.1 n (ld + 1) = true then pushF S1 (ld, ld + 1, 3, nI n, S1.2.1 9 n, 0, 0) else S1).2.1 ∧ (if coF S1.2.1 n (ld + 1) = true then pushF S1 (ld, ld + 1, 3, nI n, S1.2.1 9 n, 0, 0) else S1).2.2.2.2.length ≤ S.2.2.2.2.length + 3 * S.1 + 1 ∧ (∀ k e, ¬ k = 11 → ¬ k = 12 → ¬ k = 10 → (if coF S1.2.1 n (ld + 1) = true then pushF S1 (ld, ld + 1, 3, nI n, S1.2.1 9 n, 0, 0) else S1).2.1 k e = S.2.1 k e) := by
    intro S1 e1 e2 e3 e4
    split
    · refine ⟨e1, e2, ?_, e4⟩
      show (S1.2.2.2.2 ++ [_]).length ≤ _
      rw [List.length_append, List.length_singleton]
      omega
    · exact ⟨e1, e2, by omega, e4⟩
  unfold dcdF
  by_cases hc : coF S.2.1 n ld = true
  · rw [if_pos hc]
    exact key _ hd.1 hd.2.2.2.2.1 hd.2.2.2.2.2 hd.2.2.2.1
  · rw [if_neg hc]
    exact key S rfl hB (by omega) (fun _ _ _ _ _ => rfl)
theorem prdF_same {S : aSt} {ld n t : Nat} (hB : am_BN S.2.1) (ht : t < 1000000) : (prdF S ld n t).1 = S.1 ∧ am_BN (prdF S ld n t).2.1 ∧ (prdF S ld n t).2.2.2.2.length ≤ S.2.2.2.2.length + 3 * S.1 + 1 ∧ (∀ e, (prdF S ld n t).2.1 4 e = S.2.1 4 e) := by
  have b7 := hB 7 n
  have b6 := hB 6 n
  have hgt : max (S.2.1 7 n) t < 1000000 := by omega
  unfold prdF
  split
  · exact ⟨rfl, BN_up2 (BN_up2 hB hgt) (by omega), by show S.2.2.2.2.length ≤ _; omega, fun e => by rw [sN_ne (by decide), sN_ne (by decide)]⟩
  · obtain ⟨t1, t2, t3, t4, t5⟩ := toldF_same (n := n) hB ht
    obtain ⟨d1, d2, d3, d4⟩ := dcdF_same (ld := ld) (n := n) t2
    refine ⟨d1.trans t1, d2, by rw [t1, t3] at d3; exact d3, fun e => ?_⟩
    rw [d4 4 e (by decide) (by decide) (by decide), t5 4 e (by decide) (by decide) (by decide) (by decide) (by decide) (by decide)]
theorem prepF_self {S : aSt} {s n : Nat} (hB : am_BN S.2.1) (ht : tmF S.2.1 s n < 1000000) : (prepF S s s n).1 = S.1 ∧ am_BN (prepF S s s n).2.1 ∧ (prepF S s s n).2.2.2.2.length ≤ S.2.2.2.2.length + 3 * S.1 + 1 ∧ (∀ e, (prepF S s s n).2.1 4 e = S.2.1 4 e) := by
  unfold prepF
  rw [if_pos rfl]
  obtain ⟨p1, p2, p3, p4⟩ := prdF_same (S := prpF S s n) (ld := s) (n := n) (BN_up2 (BN_up2 (BN_up2 hB ht) (by decide)) ht) ht
  exact ⟨p1, p2, p3, fun e => (p4 e).trans (by unfold prpF; rw [sN_ne (by decide), sN_ne (by decide), sN_ne (by decide)])⟩
theorem coN_if {N : Nat → Nat → Nat} {n s : Nat} {a : Nat} {F : Int32 → Prop} : (if ¬ coF N n s = true then F (nI (a + 0)) else F (nI (a + 1))) = F (nI (a + coN N n s)) := by
  unfold coN
  by_cases hc : coF N n s = true
  · rw [if_neg (fun q => q hc), if_pos hc]
  · rw [if_pos hc, if_neg hc]
/-- the count of the servers, then PREPARE -/
theorem t98 {c n ld : Nat} {S : aSt} {h : aH} (hld : ld + 1 < 6) (hn : n < 200) (hS : MMs g h m S pl) (hB : am_BN S.2.1) (h60 : S.2.1 6 n = 0) (hm : S.1 ≤ 200) (ht : tmF S.2.1 ld n < 1000000) (h1c : S.2.1 1 n < 6) (hL : S.2.2.2.2.length + 2000 ≤ 10000)
    (hQ : ∀ (h1 : aH) (pl1 : Nat), GR h pl h1 pl1 → MMs g h1 m (cm3 (cm2 S ld n) ld n) pl1 → Q (some (.int (nI n))) h1) :
    am_R (d + 11) 98 213 [some (.ref m), some (.int (nI c)), some (.int (nI n)), some (.int (nI ld)), none] [] h Q := by
  have hld6 : ld < 6 := by omega
  simp (disch := first | assumption | omega | exact am_isr_ref | exact am_isr_null | exact am_isr_rf | exact am_c1_int | exact am_c1_ref | exact am_c1_null | exact am_c1_rf | exact am_b0 | exact am_b1 | exact RM_obj (by assumption) | exact MS_obj (by assumption) | (simp only [ne_eq]; done) | exact am_nz2 | exact am_nz3 | exact am_nz6 | exact am_lt (hB _ _) | exact am_lt (stF_lt hB) | exact b32_01) only [e98_213, e98_214, e98_216, e98_218, e98_219, e98_220, e98_221, e98_224, e98_225, e98_228, e98_229, e98_230, e98_231, e98_232, e98_233, e98_235, e98_238, nI_add, nle, if_neg (show ¬ ld + 2 ≤ ld by omega), gS_6 hS, rS_6 hS hn, h60, s84 hS hB hld6 hn, Option.toList_some, List.cons_append, List.nil_append, b32_q0]
  have key1 : am_pa h (m + 6) (nI n) (nI (0 + coN S.2.1 n ld)) (fun h => am_R (d + 11) 98 248 [some (.ref m), some (.int (nI c)), some (.int (nI n)), some (.int (nI ld)), some (.int (nI ld))] [] h Q) → (if ¬ coF S.2.1 n ld = true then am_R (d + 11) 98 245 [some (.ref m), some (.int (nI c)), some (.int (nI n)), some (.int (nI ld)), some (.int (nI ld))] [.int (nI 0), .int (nI n), .ref (m + 6)] h Q else am_R (d + 11) 98 241 [some (.ref m), some (.int (nI c)), some (.int (nI n)), some (.int (nI ld)), some (.int (nI ld))] [.int (nI 0), .int (nI n), .ref (m + 6)] h Q) := by
    intro hk
    simp (disch := first | assumption | omega | exact am_isr_ref | exact am_isr_null | exact am_isr_rf | exact am_c1_int | exact am_c1_ref | exact am_c1_null | exact am_c1_rf | exact am_b0 | exact am_b1 | exact RM_obj (by assumption) | exact MS_obj (by assumption) | (simp only [ne_eq]; done) | exact am_nz2 | exact am_nz3 | exact am_nz6 | exact am_lt (hB _ _) | exact am_lt (stF_lt hB) | exact b32_01) only [e98_241, e98_242, e98_245, e98_246, e98_247, nI_add]
    rw [coN_if (F := fun z => am_pa h (m + 6) (nI n) z (fun h => am_R (d + 11) 98 248 [some (.ref m), some (.int (nI c)), some (.int (nI n)), some (.int (nI ld)), some (.int (nI ld))] [] h Q))]
    exact hk
  refine key1 ?_
  rw [Nat.zero_add]
  refine wS_6 hS hn (fun h1 hG1 hS1 => ?_)
  have hB1 : am_BN (setN S 6 n (coN S.2.1 n ld)).2.1 := BN_up2 hB (by unfold coN; split <;> decide)
  have v61 : (setN S 6 n (coN S.2.1 n ld)).2.1 6 n = coN S.2.1 n ld := sN_eq
  have v41 : coF (setN S 6 n (coN S.2.1 n ld)).2.1 n (ld + 1) = coF S.2.1 n (ld + 1) := coB_congr (sN_ne (by decide))
  simp (disch := first | assumption | omega | exact am_isr_ref | exact am_isr_null | exact am_isr_rf | exact am_c1_int | exact am_c1_ref | exact am_c1_null | exact am_c1_rf | exact am_b0 | exact am_b1 | exact RM_obj (by assumption) | exact MS_obj (by assumption) | (simp only [ne_eq]; done) | exact am_nz2 | exact am_nz3 | exact am_nz6 | exact am_lt (hB _ _) | exact am_lt (stF_lt hB) | exact b32_01) only [e98_248, e98_251, e98_216, e98_218, e98_219, e98_220, e98_221, e98_224, e98_225, e98_228, e98_229, e98_230, e98_231, e98_232, e98_233, e98_235, e98_238, nI_add, nle, if_neg (show ¬ ld + 2 ≤ ld + 1 by omega), gS_6 hS1, rS_6 hS1 hn, v61, s84 hS1 hB1 hld hn, v41, Option.toList_some, List.cons_append, List.nil_append, b32_q0]
  have key2 : am_pa h1 (m + 6) (nI n) (nI (coN S.2.1 n ld + coN S.2.1 n (ld + 1))) (fun h => am_R (d + 11) 98 248 [some (.ref m), some (.int (nI c)), some (.int (nI n)), some (.int (nI ld)), some (.int (nI (ld + 1)))] [] h Q) → (if ¬ coF S.2.1 n (ld + 1) = true then am_R (d + 11) 98 245 [some (.ref m), some (.int (nI c)), some (.int (nI n)), some (.int (nI ld)), some (.int (nI (ld + 1)))] [.int (nI (coN S.2.1 n ld)), .int (nI n), .ref (m + 6)] h1 Q else am_R (d + 11) 98 241 [some (.ref m), some (.int (nI c)), some (.int (nI n)), some (.int (nI ld)), some (.int (nI (ld + 1)))] [.int (nI (coN S.2.1 n ld)), .int (nI n), .ref (m + 6)] h1 Q) := by
    intro hk
    simp (disch := first | assumption | omega | exact am_isr_ref | exact am_isr_null | exact am_isr_rf | exact am_c1_int | exact am_c1_ref | exact am_c1_null | exact am_c1_rf | exact am_b0 | exact am_b1 | exact RM_obj (by assumption) | exact MS_obj (by assumption) | (simp only [ne_eq]; done) | exact am_nz2 | exact am_nz3 | exact am_nz6 | exact am_lt (hB _ _) | exact am_lt (stF_lt hB) | exact b32_01) only [e98_241, e98_242, e98_245, e98_246, e98_247, nI_add]
    rw [coN_if (F := fun z => am_pa h1 (m + 6) (nI n) z (fun h => am_R (d + 11) 98 248 [some (.ref m), some (.int (nI c)), some (.int (nI n)), some (.int (nI ld)), some (.int (nI (ld + 1)))] [] h Q))]
    exact hk
  refine key2 ?_
  refine wS_6 hS1 hn (fun h2 hG2 hS2 => ?_)
  have hS2 : MMs g h2 m (cm2 S ld n) pl := hS2
  have hB2 : am_BN (cm2 S ld n).2.1 := BN_up2 hB1 (by unfold coN; split <;> split <;> decide)
  have v6 : (cm2 S ld n).2.1 6 n = coN S.2.1 n ld + coN S.2.1 n (ld + 1) := sN_eq
  have vne : ∀ k e, ¬ k = 6 → (cm2 S ld n).2.1 k e = S.2.1 k e := by
    intro k e hk
    unfold cm2
    rw [sN_ne hk, sN_ne hk]
  have vco : ∀ s, coF (cm2 S ld n).2.1 n s = coF S.2.1 n s := fun s => coB_congr (vne 4 n (by decide))
  have vtm : tmF (cm2 S ld n).2.1 ld n = tmF S.2.1 ld n := by
    unfold tmF
    rw [vne 10 _ (by decide), vne 3 _ (by decide), vne 2 _ (by decide), vne 2 _ (by decide), vne 2 _ (by decide)]
  simp (disch := first | assumption | omega | exact am_isr_ref | exact am_isr_null | exact am_isr_rf | exact am_c1_int | exact am_c1_ref | exact am_c1_null | exact am_c1_rf | exact am_b0 | exact am_b1 | exact RM_obj (by assumption) | exact MS_obj (by assumption) | (simp only [ne_eq]; done) | exact am_nz2 | exact am_nz3 | exact am_nz6 | exact am_lt (hB _ _) | exact am_lt (stF_lt hB) | exact b32_01) only [e98_248, e98_251, e98_216, e98_218, e98_219, e98_220, e98_221, nI_add, nle, if_pos (show ld + 2 ≤ ld + 1 + 1 by omega), e98_254, e98_255, e98_257, e98_259, e98_260, e98_261, e98_262, e98_265, e98_266, e98_267, e98_269, e98_272, if_neg (show ¬ ld + 2 ≤ ld by omega), s84 hS2 hB2 hld6 hn, Option.toList_some, List.cons_append, List.nil_append, b32_q0]
  have fin : ∀ (S1 : aSt) (h3 : aH) (pl3 : Nat), GR h pl h3 pl3 → MMs g h3 m S1 pl3 → am_BN S1.2.1 → S1.2.2.2.2.length ≤ 10000 → cm3 (cm2 S ld n) ld n = (if coF S1.2.1 n (ld + 1) = true then pushF S1 (ld, ld + 1, 1, nI n, 0, 0, 0) else S1) → am_R (d + 11) 98 287 [some (.ref m), some (.int (nI c)), some (.int (nI n)), some (.int (nI ld)), some (.int (nI ld))] [] h3 Q := by
    intro S1 h3 pl3 hG3 hS3 hB3 hL3 hE
    rw [hE] at hQ
    simp (disch := first | assumption | omega | exact am_isr_ref | exact am_isr_null | exact am_isr_rf | exact am_c1_int | exact am_c1_ref | exact am_c1_null | exact am_c1_rf | exact am_b0 | exact am_b1 | exact RM_obj (by assumption) | exact MS_obj (by assumption) | (simp only [ne_eq]; done) | exact am_nz2 | exact am_nz3 | exact am_nz6 | exact am_lt (hB _ _) | exact am_lt (stF_lt hB) | exact b32_01) only [e98_287, e98_290, e98_257, e98_259, e98_260, e98_261, e98_262, e98_265, e98_266, e98_267, e98_269, e98_272, nI_add, nle, if_neg (show ¬ ld + 2 ≤ ld + 1 by omega), s84 hS3 hB3 hld hn, Option.toList_some, List.cons_append, List.nil_append, b32_q0]
    by_cases hc2 : coF S1.2.1 n (ld + 1) = true
    · rw [if_neg (fun q => q hc2)]
      rw [if_pos hc2] at hQ
      simp (disch := first | assumption | omega | exact am_isr_ref | exact am_isr_null | exact am_isr_rf | exact am_c1_int | exact am_c1_ref | exact am_c1_null | exact am_c1_rf | exact am_b0 | exact am_b1 | exact RM_obj (by assumption) | exact MS_obj (by assumption) | (simp only [ne_eq]; done) | exact am_nz2 | exact am_nz3 | exact am_nz6 | exact am_lt (hB _ _) | exact am_lt (stF_lt hB) | exact b32_01) only [e98_275, e98_276, e98_277, e98_279, e98_280, e98_281, e98_282, e98_283, e98_284]
      refine c85p (q := (ld, ld + 1, 1, nI n, 0, 0, 0)) hS3 (fun q => by have q : ld = ld + 1 := q; omega) ⟨hld6, hld⟩ hL3 (fun h4 pl4 hG4 hS4 => ?_)
      simp (disch := first | assumption | omega | exact am_isr_ref | exact am_isr_null | exact am_isr_rf | exact am_c1_int | exact am_c1_ref | exact am_c1_null | exact am_c1_rf | exact am_b0 | exact am_b1 | exact RM_obj (by assumption) | exact MS_obj (by assumption) | (simp only [ne_eq]; done) | exact am_nz2 | exact am_nz3 | exact am_nz6 | exact am_lt (hB _ _) | exact am_lt (stF_lt hB) | exact b32_01) only [Option.toList_none, List.nil_append, e98_287, e98_290, e98_257, e98_259, e98_260, e98_261, e98_262, nI_add, nle, if_pos (show ld + 2 ≤ ld + 1 + 1 by omega), e98_293, e98_294]
      exact hQ h4 pl4 (hG3.tr hG4) hS4
    · rw [if_pos hc2]
      rw [if_neg hc2] at hQ
      simp (disch := first | assumption | omega | exact am_isr_ref | exact am_isr_null | exact am_isr_rf | exact am_c1_int | exact am_c1_ref | exact am_c1_null | exact am_c1_rf | exact am_b0 | exact am_b1 | exact RM_obj (by assumption) | exact MS_obj (by assumption) | (simp only [ne_eq]; done) | exact am_nz2 | exact am_nz3 | exact am_nz6 | exact am_lt (hB _ _) | exact am_lt (stF_lt hB) | exact b32_01) only [e98_287, e98_290, e98_257, e98_259, e98_260, e98_261, e98_262, nI_add, nle, if_pos (show ld + 2 ≤ ld + 1 + 1 by omega), e98_293, e98_294]
      exact hQ h3 pl3 hG3 hS3
  by_cases hc1 : coF (cm2 S ld n).2.1 n ld = true
  · rw [if_neg (fun q => q hc1)]
    simp (disch := first | assumption | omega | exact am_isr_ref | exact am_isr_null | exact am_isr_rf | exact am_c1_int | exact am_c1_ref | exact am_c1_null | exact am_c1_rf | exact am_b0 | exact am_b1 | exact RM_obj (by assumption) | exact MS_obj (by assumption) | (simp only [ne_eq]; done) | exact am_nz2 | exact am_nz3 | exact am_nz6 | exact am_lt (hB _ _) | exact am_lt (stF_lt hB) | exact b32_01) only [e98_275, e98_276, e98_277, e98_279, e98_280, e98_281, e98_282, e98_283, e98_284]
    have hco : coN S.2.1 n ld = 1 := by
      unfold coN
      rw [← vco ld, if_pos hc1]
    refine c85_1 (S := cm2 S ld n) hld hn (by rw [vtm]; exact ht) hS2 hB2 hm (by rw [v6]; omega) (by rw [vne 1 _ (by decide)]; exact h1c) (by show S.2.2.2.2.length + 1300 ≤ _; omega) (fun h3 pl3 hG3 hS3 => ?_)
    simp (disch := first | assumption | omega | exact am_isr_ref | exact am_isr_null | exact am_isr_rf | exact am_c1_int | exact am_c1_ref | exact am_c1_null | exact am_c1_rf | exact am_b0 | exact am_b1 | exact RM_obj (by assumption) | exact MS_obj (by assumption) | (simp only [ne_eq]; done) | exact am_nz2 | exact am_nz3 | exact am_nz6 | exact am_lt (hB _ _) | exact am_lt (stF_lt hB) | exact b32_01) only [Option.toList_none, List.nil_append]
    have hpp := prepF_self (S := cm2 S ld n) (s := ld) (n := n) hB2 (by rw [vtm]; exact ht)
    have hpl : (prepF (cm2 S ld n) ld ld n).2.2.2.2.length ≤ S.2.2.2.2.length + 3 * S.1 + 1 := hpp.2.2.1
    exact fin _ h3 pl3 ((hG1.tr hG2).tr hG3) hS3 hpp.2.1 (by omega) (by unfold cm3; rw [if_pos hc1])
  · rw [if_pos hc1]
    exact fin _ h2 pl (hG1.tr hG2) hS2 hB2 (by show S.2.2.2.2.length ≤ _; omega) (by unfold cm3; rw [if_neg hc1])
end MZ
