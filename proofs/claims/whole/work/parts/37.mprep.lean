/-! decided, prepared, prepare, take, send -/
def decF (S : aSt) (s n t : Nat) : aSt :=
  let S1 := setN (setN (setN S 11 (200 * s + n) 2) 12 (200 * s + n) t) 10 s (max (S.2.1 10 s) t)
  apF S1.1 S1 s (leF S1.2.1 s 1 S1.1)
section MD
variable {d : Nat} {g : Nat → Option aE} {h : aH} {m pl : Nat} {S : aSt} {Q : Option Value → aH → Prop}
theorem max32 {a b : Nat} (ha : a < 1000000) (hb : b < 1000000) : (if nI a < nI b then nI b else nI a) = nI (max a b) := by
  by_cases h1 : a < b
  · rw [if_pos ((nI_ltI (by omega) (by omega)).mpr h1), Nat.max_eq_right (by omega)]
  · rw [if_neg (fun q => h1 ((nI_ltI (by omega) (by omega)).mp q)), Nat.max_eq_left (by omega)]
theorem up2_ne {N : Nat → Nat → Nat} {k e v k2 e2 : Nat} (hk : ¬ k2 = k) : up2 N k e v k2 e2 = N k2 e2 := if_neg (fun q => hk q.1)
theorem up2_eq {N : Nat → Nat → Nat} {k e v : Nat} : up2 N k e v k e = v := if_pos ⟨rfl, rfl⟩
theorem c90 {s n t : Nat} (hs : s < 6) (hn : n < 200) (ht : t < 1000000) (hS : MMs g h m S pl) (hB : am_BN S.2.1) (hm : S.1 ≤ 200) (hL : S.2.2.2.2.length + 600 ≤ 10000)
    (hQ : ∀ (h1 : aH) (pl1 : Nat), GR h pl h1 pl1 → MMs g h1 m (decF S s n t) pl1 → Q none h1) : am_R (d + 2) 90 0 [some (.ref m), some (.int (nI s)), some (.int (nI n)), some (.int (nI t))] [] h Q := by
  have he : 200 * s + n < 1200 := by omega
  simp (disch := first | assumption | omega | exact am_isr_ref | exact am_isr_null | exact am_isr_rf | exact am_c1_int | exact am_c1_ref | exact am_c1_null | exact am_c1_rf | exact am_b0 | exact am_b1 | exact RM_obj (by assumption) | exact MS_obj (by assumption) | (simp only [ne_eq]; done) | exact am_nz2 | exact am_nz3 | exact am_nz6 | exact am_lt (hB _ _) | exact am_lt (stF_lt hB) | exact b32_01) only [e90_0, e90_1, e90_4, e90_7, e90_8, e90_9, e90_10, e90_11, e90_12, gS_11 hS, nI_add, pk_mul]
  refine wS_11 hS he (fun h1 hG1 hS1 => ?_)
  simp (disch := first | assumption | omega | exact am_isr_ref | exact am_isr_null | exact am_isr_rf | exact am_c1_int | exact am_c1_ref | exact am_c1_null | exact am_c1_rf | exact am_b0 | exact am_b1 | exact RM_obj (by assumption) | exact MS_obj (by assumption) | (simp only [ne_eq]; done) | exact am_nz2 | exact am_nz3 | exact am_nz6 | exact am_lt (hB _ _) | exact am_lt (stF_lt hB) | exact b32_01) only [e90_13, e90_14, e90_17, e90_20, e90_21, e90_22, e90_23, e90_24, e90_25, gS_12 hS1, nI_add, pk_mul]
  refine wS_12 hS1 he (fun h2 hG2 hS2 => ?_)
  have hv : (setN (setN S 11 (200 * s + n) 2) 12 (200 * s + n) t).2.1 10 s = S.2.1 10 s := by
    show up2 (up2 S.2.1 11 (200 * s + n) 2) 12 (200 * s + n) t 10 s = _
    rw [up2_ne (by decide), up2_ne (by decide)]
  simp (disch := first | assumption | omega | exact am_isr_ref | exact am_isr_null | exact am_isr_rf | exact am_c1_int | exact am_c1_ref | exact am_c1_null | exact am_c1_rf | exact am_b0 | exact am_b1 | exact RM_obj (by assumption) | exact MS_obj (by assumption) | (simp only [ne_eq]; done) | exact am_nz2 | exact am_nz3 | exact am_nz6 | exact am_lt (hB _ _) | exact am_lt (stF_lt hB) | exact b32_01) only [e90_26, e90_27, e90_30, e90_31, e90_32, e90_35, e90_36, e90_37, e90_38, e90_41, gS_10 hS2, rS_10 hS2 hs, hv, max32 (hB 10 s) ht]
  refine wS_10 hS2 hs (fun h3 hG3 hS3 => ?_)
  simp (disch := first | assumption | omega | exact am_isr_ref | exact am_isr_null | exact am_isr_rf | exact am_c1_int | exact am_c1_ref | exact am_c1_null | exact am_c1_rf | exact am_b0 | exact am_b1 | exact RM_obj (by assumption) | exact MS_obj (by assumption) | (simp only [ne_eq]; done) | exact am_nz2 | exact am_nz3 | exact am_nz6 | exact am_lt (hB _ _) | exact am_lt (stF_lt hB) | exact b32_01) only [e90_42, e90_43, e90_44]
  have hmx : max (S.2.1 10 s) t < 1000000 := by have := hB 10 s; omega
  refine c92 hs hS3 (BN_up2 (BN_up2 (BN_up2 hB (by decide)) ht) hmx) hm hL (fun h4 pl4 hG4 hS4 => ?_)
  simp (disch := first | assumption | omega | exact am_isr_ref | exact am_isr_null | exact am_isr_rf | exact am_c1_int | exact am_c1_ref | exact am_c1_null | exact am_c1_rf | exact am_b0 | exact am_b1 | exact RM_obj (by assumption) | exact MS_obj (by assumption) | (simp only [ne_eq]; done) | exact am_nz2 | exact am_nz3 | exact am_nz6 | exact am_lt (hB _ _) | exact am_lt (stF_lt hB) | exact b32_01) only [Option.toList_none, List.nil_append, e90_47]
  exact hQ h4 pl4 (((hG1.tr hG2).tr hG3).tr hG4) hS4
theorem c87_3 {f s n t y z : Nat} (hs : s < 6) (hn : n < 200) (ht : t < 1000000) (hS : MMs g h m S pl) (hB : am_BN S.2.1) (hm : S.1 ≤ 200) (hL : S.2.2.2.2.length + 600 ≤ 10000)
    (hQ : ∀ (h1 : aH) (pl1 : Nat), GR h pl h1 pl1 → MMs g h1 m (decF S s n t) pl1 → Q none h1) : am_R (d + 3) 87 0 [some (.ref m), some (.int (nI f)), some (.int (nI s)), some (.int (nI 3)), some (.int (nI n)), some (.int (nI t)), some (.int (nI y)), some (.int (nI z))] [] h Q := by
  have n1 : ¬ nI 3 = 1 := by decide
  have n2 : ¬ nI 3 = 2 := by decide
  have n3 : nI 3 = 3 := rfl
  simp (disch := first | assumption | omega | exact am_isr_ref | exact am_isr_null | exact am_isr_rf | exact am_c1_int | exact am_c1_ref | exact am_c1_null | exact am_c1_rf | exact am_b0 | exact am_b1 | exact RM_obj (by assumption) | exact MS_obj (by assumption) | (simp only [ne_eq]; done) | exact am_nz2 | exact am_nz3 | exact am_nz6 | exact am_lt (hB _ _) | exact am_lt (stF_lt hB) | exact b32_01) only [e87_0, e87_1, if_neg n1, if_neg n2, if_pos n3, e87_59, e87_60, e87_61, e87_63, e87_65]
  refine c90 hs hn ht hS hB hm hL (fun h1 pl1 hG hS1 => ?_)
  simp (disch := first | assumption | omega | exact am_isr_ref | exact am_isr_null | exact am_isr_rf | exact am_c1_int | exact am_c1_ref | exact am_c1_null | exact am_c1_rf | exact am_b0 | exact am_b1 | exact RM_obj (by assumption) | exact MS_obj (by assumption) | (simp only [ne_eq]; done) | exact am_nz2 | exact am_nz3 | exact am_nz6 | exact am_lt (hB _ _) | exact am_lt (stF_lt hB) | exact b32_01) only [Option.toList_none, List.nil_append, e87_68, e87_140]
  exact hQ h1 pl1 hG hS1
/-- send of DECIDE to itself -/
theorem c85_3 {s n t : Nat} (hs : s < 6) (hn : n < 200) (ht : t < 1000000) (hS : MMs g h m S pl) (hB : am_BN S.2.1) (hm : S.1 ≤ 200) (hL : S.2.2.2.2.length + 600 ≤ 10000)
    (hQ : ∀ (h1 : aH) (pl1 : Nat), GR h pl h1 pl1 → MMs g h1 m (decF S s n t) pl1 → Q none h1) : am_R (d + 4) 85 0 [some (.ref m), some (.int (nI s)), some (.int (nI s)), some (.int (nI 3)), some (.int (nI n)), some (.int (nI t)), some (.int (nI 0)), some (.int (nI 0)), none, none] [] h Q := by
  simp (disch := first | assumption | omega | exact am_isr_ref | exact am_isr_null | exact am_isr_rf | exact am_c1_int | exact am_c1_ref | exact am_c1_null | exact am_c1_rf | exact am_b0 | exact am_b1 | exact RM_obj (by assumption) | exact MS_obj (by assumption) | (simp only [ne_eq]; done) | exact am_nz2 | exact am_nz3 | exact am_nz6 | exact am_lt (hB _ _) | exact am_lt (stF_lt hB) | exact b32_01) only [e85_0, e85_1, e85_2, e85_5, e85_6, e85_7, e85_8, e85_9, e85_11, e85_13, e85_15, e85_17, not_true_eq_false, if_false]
  refine c87_3 hs hn ht hS hB hm hL (fun h1 pl1 hG hS1 => ?_)
  simp (disch := first | assumption | omega | exact am_isr_ref | exact am_isr_null | exact am_isr_rf | exact am_c1_int | exact am_c1_ref | exact am_c1_null | exact am_c1_rf | exact am_b0 | exact am_b1 | exact RM_obj (by assumption) | exact MS_obj (by assumption) | (simp only [ne_eq]; done) | exact am_nz2 | exact am_nz3 | exact am_nz6 | exact am_lt (hB _ _) | exact am_lt (stF_lt hB) | exact b32_01) only [Option.toList_none, List.nil_append, e85_20]
  exact hQ h1 pl1 hG hS1
/-- the own versions of a client behind a commit -/
def owF (c n : Nat) : Nat → Nat → aSt → aSt
  | 0, _, S => S
  | t + 1, k, S => owF c n t (k + 1) (if wF (S.2.1 4 n) k then setO S (8 * c + k) (some n) else S)
theorem owF_same {c n : Nat} : ∀ t k S, (owF c n t k S).1 = S.1 ∧ (owF c n t k S).2.1 = S.2.1 ∧ (owF c n t k S).2.2.1 = S.2.2.1 ∧ (owF c n t k S).2.2.2.2 = S.2.2.2.2 := by
  intro t
  induction t with
  | zero => intro k S; exact ⟨rfl, rfl, rfl, rfl⟩
  | succ t ih =>
    intro k S
    rw [owF]
    obtain ⟨h1, h2, h3, h4⟩ := ih (k + 1) (if wF (S.2.1 4 n) k then setO S (8 * c + k) (some n) else S)
    rw [h1, h2, h3, h4]
    split <;> exact ⟨rfl, rfl, rfl, rfl⟩
theorem l89o {ld n c tt : Nat} (hn : n < 200) (hc : c < 6) : ∀ (t k : Nat) (S : aSt) (h : aH), k + t = 8 → MMs g h m S pl → am_BN S.2.1 →
    (∀ (h1 : aH), GR h pl h1 pl → MMs g h1 m (owF c n t k S) pl → am_R (d + 1) 89 124 [some (.ref m), some (.int (nI ld)), some (.int (nI n)), some (.int (nI tt)), some (.int (nI c)), some (.int (nI 8))] [] h1 Q) →
    am_R (d + 1) 89 87 [some (.ref m), some (.int (nI ld)), some (.int (nI n)), some (.int (nI tt)), some (.int (nI c)), some (.int (nI k))] [] h Q := by
  intro t
  induction t with
  | zero =>
    intro k S h hk hS hB hQ
    obtain rfl : k = 8 := by omega
    simp (disch := first | assumption | omega | exact am_isr_ref | exact am_isr_null | exact am_isr_rf | exact am_c1_int | exact am_c1_ref | exact am_c1_null | exact am_c1_rf | exact am_b0 | exact am_b1 | exact RM_obj (by assumption) | exact MS_obj (by assumption) | (simp only [ne_eq]; done) | exact am_nz2 | exact am_nz3 | exact am_nz6 | exact am_lt (hB _ _) | exact am_lt (stF_lt hB) | exact b32_01) only [e89_87, e89_89, e89_91, nle, if_true, Nat.le_refl]
    exact hQ h GR.rf hS
  | succ t ih =>
    intro k S h hk hS hB hQ
    rw [e89_87]
    rw [owF] at hQ
    simp (disch := first | assumption | omega | exact am_isr_ref | exact am_isr_null | exact am_isr_rf | exact am_c1_int | exact am_c1_ref | exact am_c1_null | exact am_c1_rf | exact am_b0 | exact am_b1 | exact RM_obj (by assumption) | exact MS_obj (by assumption) | (simp only [ne_eq]; done) | exact am_nz2 | exact am_nz3 | exact am_nz6 | exact am_lt (hB _ _) | exact am_lt (stF_lt hB) | exact b32_01) only [e89_89, e89_91, e89_94, e89_95, e89_96, e89_98, e89_101, nle, if_neg (show ¬ 8 ≤ k by omega), s79 hS hB hn (show k < 8 by omega), Option.toList_some, List.cons_append, List.nil_append, b32_q0]
    by_cases hw : wF (S.2.1 4 n) k
    · rw [if_neg (fun q => q hw)]
      rw [if_pos hw] at hQ
      simp (disch := first | assumption | omega | exact am_isr_ref | exact am_isr_null | exact am_isr_rf | exact am_c1_int | exact am_c1_ref | exact am_c1_null | exact am_c1_rf | exact am_b0 | exact am_b1 | exact RM_obj (by assumption) | exact MS_obj (by assumption) | (simp only [ne_eq]; done) | exact am_nz2 | exact am_nz3 | exact am_nz6 | exact am_lt (hB _ _) | exact am_lt (stF_lt hB) | exact b32_01) only [e89_104, e89_105, e89_108, e89_110, e89_112, e89_113, e89_115, e89_116, e89_117, gS_18 hS, nI_add, pk_mul]
      refine wS_18 (o := some n) hS (show 8 * c + k < 48 by omega) (fun h1 hG hS1 => ?_)
      simp (disch := first | assumption | omega | exact am_isr_ref | exact am_isr_null | exact am_isr_rf | exact am_c1_int | exact am_c1_ref | exact am_c1_null | exact am_c1_rf | exact am_b0 | exact am_b1 | exact RM_obj (by assumption) | exact MS_obj (by assumption) | (simp only [ne_eq]; done) | exact am_nz2 | exact am_nz3 | exact am_nz6 | exact am_lt (hB _ _) | exact am_lt (stF_lt hB) | exact b32_01) only [e89_118, e89_121, nI_add]
      exact ih (k + 1) _ h1 (by omega) hS1 hB (fun h2 hG2 hS2 => hQ h2 (hG.tr hG2) hS2)
    · rw [if_pos hw]
      rw [if_neg hw] at hQ
      simp (disch := first | assumption | omega | exact am_isr_ref | exact am_isr_null | exact am_isr_rf | exact am_c1_int | exact am_c1_ref | exact am_c1_null | exact am_c1_rf | exact am_b0 | exact am_b1 | exact RM_obj (by assumption) | exact MS_obj (by assumption) | (simp only [ne_eq]; done) | exact am_nz2 | exact am_nz3 | exact am_nz6 | exact am_lt (hB _ _) | exact am_lt (stF_lt hB) | exact b32_01) only [e89_118, e89_121, nI_add]
      exact ih (k + 1) S h (by omega) hS hB hQ
/-- what PREPARED does to the numbers of the transaction and of its client, when it is the last one -/
def toldF (S : aSt) (n t : Nat) : aSt :=
  let gt := max (S.2.1 7 n) t
  let c := S.2.1 1 n
  owF c n 8 0 (setN (setN (setN (setN (setN (setN S 7 n gt) 6 n (S.2.1 6 n - 1)) 8 n 1) 9 n gt) 15 c 0) 16 c gt)
/-- DECIDE to the servers of the place -/
def dcdF (S : aSt) (ld n : Nat) : aSt :=
  let S1 := if coF S.2.1 n ld = true then decF S ld n (S.2.1 9 n) else S
  if coF S1.2.1 n (ld + 1) = true then pushF S1 (ld, ld + 1, 3, nI n, S1.2.1 9 n, 0, 0) else S1
def prdF (S : aSt) (ld n t : Nat) : aSt := if 1 < S.2.1 6 n then setN (setN S 7 n (max (S.2.1 7 n) t)) 6 n (S.2.1 6 n - 1) else dcdF (toldF S n t) ld n
end MD
