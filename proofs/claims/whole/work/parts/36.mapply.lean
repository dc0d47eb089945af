/-! apply, decided, prepared, prepare, take -/
def othF (s : Nat) (q : Nat → aMsg) : Nat → Nat → aSt → aSt
  | 0, _, S => S
  | c + 1, p, S => othF s q c (p + 1) (if p = s / 2 then S else pushF S (q p))
def stA (S : aSt) (s n : Nat) : aSt := othF s (fun p => (s, 2 * p + s % 2, 4, nI n, 0, 0, 0)) 3 0 (setN S 11 (200 * s + n) 3)
def bfF (N : Nat → Nat → Nat) (s n : Nat) (f : Option Nat) : Bool := match f with
  | none => true
  | some b => decide (N 12 (200 * s + n) < N 12 (200 * s + b))
def apF : Nat → aSt → Nat → Option Nat → aSt
  | 0, S, _, _ => S
  | t + 1, S, s, f => match leF S.2.1 s 2 S.1 with
    | none => S
    | some n => if bfF S.2.1 s n f = true then apF t (stA S s n) s f else S
section MA
variable {d : Nat} {g : Nat → Option aE} {m pl : Nat} {Q : Option Value → aH → Prop}
theorem othF_len {s : Nat} {q : Nat → aMsg} : ∀ c p S, (othF s q c p S).2.2.2.2.length ≤ S.2.2.2.2.length + c := by
  intro c
  induction c with
  | zero => intro p S; exact Nat.le_refl _
  | succ c ih =>
    intro p S
    rw [othF]
    refine Nat.le_trans (ih _ _) ?_
    split
    · omega
    · show (S.2.2.2.2 ++ [q p]).length + c ≤ _
      rw [List.length_append, List.length_singleton]
      omega
theorem othF_same {s : Nat} {q : Nat → aMsg} : ∀ c p S, (othF s q c p S).1 = S.1 ∧ (othF s q c p S).2.1 = S.2.1 ∧ (othF s q c p S).2.2.1 = S.2.2.1 ∧ (othF s q c p S).2.2.2.1 = S.2.2.2.1 := by
  intro c
  induction c with
  | zero => intro p S; exact ⟨rfl, rfl, rfl, rfl⟩
  | succ c ih =>
    intro p S
    rw [othF]
    obtain ⟨h1, h2, h3, h4⟩ := ih (p + 1) (if p = s / 2 then S else pushF S (q p))
    rw [h1, h2, h3, h4]
    split <;> exact ⟨rfl, rfl, rfl, rfl⟩
/-- the messages to the other places -/
theorem l92p {s n : Nat} {l2 : Option Value} (hs : s < 6) (hn : n < 200) : ∀ (c p pl : Nat) (S : aSt) (h : aH), p + c = 3 → MMs g h m S pl → S.2.2.2.2.length + c ≤ 10000 →
    (∀ (h1 : aH) (pl1 : Nat), GR h pl h1 pl1 → MMs g h1 m (othF s (fun p => (s, 2 * p + s % 2, 4, nI n, 0, 0, 0)) c p S) pl1 → am_R (d + 1) 92 106 [some (.ref m), some (.int (nI s)), l2, some (.int (nI n)), some (.int (nI 3))] [] h1 Q) →
    am_R (d + 1) 92 67 [some (.ref m), some (.int (nI s)), l2, some (.int (nI n)), some (.int (nI p))] [] h Q := by
  intro c
  induction c with
  | zero =>
    intro p pl S h hp hS hL hQ
    obtain rfl : p = 3 := by omega
    simp (disch := first | assumption | omega | exact am_isr_ref | exact am_isr_null | exact am_isr_rf | exact am_c1_int | exact am_c1_ref | exact am_c1_null | exact am_c1_rf | exact am_b0 | exact am_b1 | exact RM_obj (by assumption) | exact MS_obj (by assumption) | (simp only [ne_eq]; done) | exact am_nz2 | exact am_nz3 | exact am_nz6 | exact am_lt (hB _ _) | exact am_lt (stF_lt hB) | exact b32_01) only [e92_67, e92_69, e92_70, nle, if_true, Nat.le_refl]
    exact hQ h pl GR.rf hS
  | succ c ih =>
    intro p pl S h hp hS hL hQ
    rw [e92_67]
    simp (disch := first | assumption | omega | exact am_isr_ref | exact am_isr_null | exact am_isr_rf | exact am_c1_int | exact am_c1_ref | exact am_c1_null | exact am_c1_rf | exact am_b0 | exact am_b1 | exact RM_obj (by assumption) | exact MS_obj (by assumption) | (simp only [ne_eq]; done) | exact am_nz2 | exact am_nz3 | exact am_nz6 | exact am_lt (hB _ _) | exact am_lt (stF_lt hB) | exact b32_01) only [e92_69, e92_70, e92_73, e92_75, e92_76, e92_79, nle, if_neg (show ¬ 3 ≤ p by omega), c75 hs, Option.toList_some, List.cons_append, List.nil_append, nq]
    rw [othF] at hQ
    by_cases hc : p = s / 2
    · rw [if_pos hc]
      rw [if_pos hc] at hQ
      simp (disch := first | assumption | omega | exact am_isr_ref | exact am_isr_null | exact am_isr_rf | exact am_c1_int | exact am_c1_ref | exact am_c1_null | exact am_c1_rf | exact am_b0 | exact am_b1 | exact RM_obj (by assumption) | exact MS_obj (by assumption) | (simp only [ne_eq]; done) | exact am_nz2 | exact am_nz3 | exact am_nz6 | exact am_lt (hB _ _) | exact am_lt (stF_lt hB) | exact b32_01) only [e92_100, e92_103, nI_add]
      exact ih (p + 1) pl S h (by omega) hS (by omega) hQ
    · rw [if_neg hc]
      rw [if_neg hc] at hQ
      simp (disch := first | assumption | omega | exact am_isr_ref | exact am_isr_null | exact am_isr_rf | exact am_c1_int | exact am_c1_ref | exact am_c1_null | exact am_c1_rf | exact am_b0 | exact am_b1 | exact RM_obj (by assumption) | exact MS_obj (by assumption) | (simp only [ne_eq]; done) | exact am_nz2 | exact am_nz3 | exact am_nz6 | exact am_lt (hB _ _) | exact am_lt (stF_lt hB) | exact b32_01) only [e92_82, e92_83, e92_84, e92_85, e92_87, e92_88, e92_89, e92_90, e92_91, e92_92, e92_93, e92_94, e92_95, e92_96, e92_97, pk_rem (a := s) (d := 2) (by omega) (by decide) (by decide), pk_mul, nI_add]
      refine c85p (q := (s, 2 * p + s % 2, 4, nI n, 0, 0, 0)) hS (fun q => hc (by have q : s = 2 * p + s % 2 := q; omega)) ⟨hs, by show 2 * p + s % 2 < 6; omega⟩ (by omega) (fun h1 pl1 hG hS1 => ?_)
      simp (disch := first | assumption | omega | exact am_isr_ref | exact am_isr_null | exact am_isr_rf | exact am_c1_int | exact am_c1_ref | exact am_c1_null | exact am_c1_rf | exact am_b0 | exact am_b1 | exact RM_obj (by assumption) | exact MS_obj (by assumption) | (simp only [ne_eq]; done) | exact am_nz2 | exact am_nz3 | exact am_nz6 | exact am_lt (hB _ _) | exact am_lt (stF_lt hB) | exact b32_01) only [Option.toList_none, List.nil_append, e92_100, e92_103, nI_add]
      refine ih (p + 1) pl1 (pushF S (s, 2 * p + s % 2, 4, nI n, 0, 0, 0)) h1 (by omega) hS1 ?_ (fun h2 pl2 hG2 hS2 => hQ h2 pl2 (hG.tr hG2) hS2)
      show (S.2.2.2.2 ++ [_]).length + c ≤ _
      rw [List.length_append, List.length_singleton]
      omega
theorem leF_is {N : Nat → Nat → Nat} {s w : Nat} : ∀ n b, leF N s w n = some b → N 11 (200 * s + b) = w := by
  intro n
  induction n with
  | zero => intro b q; cases q
  | succ n ih =>
    intro b q
    rw [leF] at q
    split at q
    · rename_i hw
      split at q
      · cases q; exact hw
      · rename_i b2 hb
        split at q
        · cases q; exact hw
        · cases q; exact ih _ hb
    · exact ih _ q
theorem leF_none {N : Nat → Nat → Nat} {s w : Nat} : ∀ n, cntF (fun j => decide (N 11 (200 * s + j) = w)) n = 0 → leF N s w n = none := by
  intro n
  induction n with
  | zero => intro _; rfl
  | succ n ih =>
    intro q
    rw [cntF] at q
    rw [leF]
    have h1 : ¬ N 11 (200 * s + n) = w := fun z => by rw [if_pos (decide_eq_true z)] at q; omega
    rw [if_neg h1]
    exact ih (by omega)
theorem cntF_congr {f f' : Nat → Bool} : ∀ n, (∀ j, j < n → f j = f' j) → cntF f n = cntF f' n := by
  intro n
  induction n with
  | zero => intro _; rfl
  | succ n ih =>
    intro q
    rw [cntF, cntF, ih (fun j hj => q j (by omega)), q n (Nat.lt_succ_self _)]
theorem cntF_drop {f f' : Nat → Bool} {b : Nat} : ∀ n, b < n → f b = true → f' b = false → (∀ j, j ≠ b → f j = f' j) → cntF f n = cntF f' n + 1 := by
  intro n
  induction n with
  | zero => intro q; omega
  | succ n ih =>
    intro hb h1 h2 h3
    rw [cntF, cntF]
    by_cases hbn : b = n
    · subst hbn
      rw [h1, h2, cntF_congr b (fun j hj => h3 j (by omega)), if_pos rfl, if_neg Bool.false_ne_true]
    · rw [ih (by omega) h1 h2 h3, h3 n (fun q => hbn q.symm)]
      omega
abbrev c2F (S : aSt) (s : Nat) : Nat := cntF (fun j => decide (S.2.1 11 (200 * s + j) = 2)) S.1
theorem stA_1 {S : aSt} {s n : Nat} : (stA S s n).1 = S.1 ∧ (stA S s n).2.1 = up2 S.2.1 11 (200 * s + n) 3 ∧ (stA S s n).2.2.1 = S.2.2.1 ∧ (stA S s n).2.2.2.1 = S.2.2.2.1 := othF_same _ _ _
theorem stA_c2 {S : aSt} {s n : Nat} (hn : n < S.1) (h2 : S.2.1 11 (200 * s + n) = 2) : c2F S s = c2F (stA S s n) s + 1 := by
  unfold c2F
  rw [stA_1.1, stA_1.2.1]
  refine cntF_drop S.1 hn (decide_eq_true h2) (decide_eq_false ?_) (fun j hj => ?_)
  · unfold up2
    rw [if_pos ⟨rfl, rfl⟩]
    decide
  · unfold up2
    have : ¬ (11 = 11 ∧ 200 * s + j = 200 * s + n) := fun q => hj (by omega)
    rw [if_neg this]
theorem eO_m1 {n : Nat} (hn : n < 2 ^ 31) : ¬ nI n = -1 := fun q => by
  have := nI_pos (n := n) hn
  rw [q] at this
  exact this (by decide)
theorem l92 {s : Nat} {f : Option Nat} (hs : s < 6) (hf : ∀ b, f = some b → b < 200) : ∀ (t pl : Nat) (S : aSt) (h : aH) (l4 : Option Value), c2F S s ≤ t → MMs g h m S pl → am_BN S.2.1 → S.1 ≤ 200 → S.2.2.2.2.length + 3 * t ≤ 10000 →
    (∀ (h1 : aH) (pl1 : Nat), GR h pl h1 pl1 → MMs g h1 m (apF t S s f) pl1 → Q none h1) →
    am_R (d + 1) 92 14 [some (.ref m), some (.int (nI s)), some (.int (eO f)), some (.int (eO (leF S.2.1 s 2 S.1))), l4] [] h Q := by
  intro t
  induction t with
  | zero =>
    intro pl S h l4 hc hS hB hm hL hQ
    rw [leF_none S.1 (Nat.le_zero.mp hc)]
    simp (disch := first | assumption | omega | exact am_isr_ref | exact am_isr_null | exact am_isr_rf | exact am_c1_int | exact am_c1_ref | exact am_c1_null | exact am_c1_rf | exact am_b0 | exact am_b1 | exact RM_obj (by assumption) | exact MS_obj (by assumption) | (simp only [ne_eq]; done) | exact am_nz2 | exact am_nz3 | exact am_nz6 | exact am_lt (hB _ _) | exact am_lt (stF_lt hB) | exact b32_01) only [e92_14, e92_15, e92_16, e92_116, eO, if_true]
    exact hQ h pl GR.rf hS
  | succ t ih =>
    intro pl S h l4 hc hS hB hm hL hQ
    rw [apF] at hQ
    cases hle : leF S.2.1 s 2 S.1 with
    | none =>
      rw [hle] at hQ
      simp (disch := first | assumption | omega | exact am_isr_ref | exact am_isr_null | exact am_isr_rf | exact am_c1_int | exact am_c1_ref | exact am_c1_null | exact am_c1_rf | exact am_b0 | exact am_b1 | exact RM_obj (by assumption) | exact MS_obj (by assumption) | (simp only [ne_eq]; done) | exact am_nz2 | exact am_nz3 | exact am_nz6 | exact am_lt (hB _ _) | exact am_lt (stF_lt hB) | exact b32_01) only [e92_14, e92_15, e92_16, e92_116, eO, if_true]
      exact hQ h pl GR.rf hS
    | some n =>
      rw [hle] at hQ
      have hn := leF_lt _ _ hle
      have hfar2 := leF_is _ _ hle
      have he : 200 * s + n < 1200 := by omega
      have key : (bfF S.2.1 s n f = true → am_R (d + 1) 92 51 [some (.ref m), some (.int (nI s)), some (.int (eO f)), some (.int (nI n)), l4] [] h Q) := by
        intro hbf
        dsimp only at hQ
        rw [if_pos hbf] at hQ
        simp (disch := first | assumption | omega | exact am_isr_ref | exact am_isr_null | exact am_isr_rf | exact am_c1_int | exact am_c1_ref | exact am_c1_null | exact am_c1_rf | exact am_b0 | exact am_b1 | exact RM_obj (by assumption) | exact MS_obj (by assumption) | (simp only [ne_eq]; done) | exact am_nz2 | exact am_nz3 | exact am_nz6 | exact am_lt (hB _ _) | exact am_lt (stF_lt hB) | exact b32_01) only [e92_51, e92_52, e92_55, e92_58, e92_59, e92_60, e92_61, e92_62, e92_63, gS_11 hS, nI_add, pk_mul]
        refine wS_11 hS he (fun h1 hG hS1 => ?_)
        simp (disch := first | assumption | omega | exact am_isr_ref | exact am_isr_null | exact am_isr_rf | exact am_c1_int | exact am_c1_ref | exact am_c1_null | exact am_c1_rf | exact am_b0 | exact am_b1 | exact RM_obj (by assumption) | exact MS_obj (by assumption) | (simp only [ne_eq]; done) | exact am_nz2 | exact am_nz3 | exact am_nz6 | exact am_lt (hB _ _) | exact am_lt (stF_lt hB) | exact b32_01) only [e92_64, e92_65]
        refine l92p hs (by omega) 3 0 pl _ h1 rfl hS1 (by show S.2.2.2.2.length + 3 ≤ _; omega) (fun h2 pl2 hG2 hS2 => ?_)
        have hS2 : MMs g h2 m (stA S s n) pl2 := hS2
        have hB2 : am_BN (stA S s n).2.1 := by rw [stA_1.2.1]; exact BN_up2 hB (by decide)
        simp (disch := first | assumption | omega | exact am_isr_ref | exact am_isr_null | exact am_isr_rf | exact am_c1_int | exact am_c1_ref | exact am_c1_null | exact am_c1_rf | exact am_b0 | exact am_b1 | exact RM_obj (by assumption) | exact MS_obj (by assumption) | (simp only [ne_eq]; done) | exact am_nz2 | exact am_nz3 | exact am_nz6 | exact am_lt (hB _ _) | exact am_lt (stF_lt hB) | exact b32_01) only [e92_106, e92_107, e92_108, e92_109, e92_112, e92_113, s91 hS2 hB2 hs (show 2 < 4 by decide) (show (stA S s n).1 ≤ 200 by rw [stA_1.1]; exact hm), Option.toList_some, List.cons_append, List.nil_append]
        have hc2 := stA_c2 (S := S) hn hfar2
        have hlen := othF_len (s := s) (q := fun p => (s, 2 * p + s % 2, 4, nI n, 0, 0, 0)) 3 0 (setN S 11 (200 * s + n) 3)
        have hlen2 : (stA S s n).2.2.2.2.length ≤ S.2.2.2.2.length + 3 := hlen
        exact ih pl2 (stA S s n) h2 _ (by omega) hS2 hB2 (by rw [stA_1.1]; exact hm) (by omega) (fun h3 pl3 hG3 hS3 => hQ h3 pl3 ((hG.tr hG2).tr hG3) hS3)
      rw [show eO (some n) = nI n from rfl]
      cases f with
      | none =>
        simp (disch := first | assumption | omega | exact am_isr_ref | exact am_isr_null | exact am_isr_rf | exact am_c1_int | exact am_c1_ref | exact am_c1_null | exact am_c1_rf | exact am_b0 | exact am_b1 | exact RM_obj (by assumption) | exact MS_obj (by assumption) | (simp only [ne_eq]; done) | exact am_nz2 | exact am_nz3 | exact am_nz6 | exact am_lt (hB _ _) | exact am_lt (stF_lt hB) | exact b32_01) only [e92_14, e92_15, e92_16, e92_19, e92_20, e92_21, eO, if_neg (eO_m1 (show n < 2 ^ 31 by omega)), if_true]
        exact key rfl
      | some b =>
        have hb := hf b rfl
        have he2 : 200 * s + b < 1200 := by omega
        simp (disch := first | assumption | omega | exact am_isr_ref | exact am_isr_null | exact am_isr_rf | exact am_c1_int | exact am_c1_ref | exact am_c1_null | exact am_c1_rf | exact am_b0 | exact am_b1 | exact RM_obj (by assumption) | exact MS_obj (by assumption) | (simp only [ne_eq]; done) | exact am_nz2 | exact am_nz3 | exact am_nz6 | exact am_lt (hB _ _) | exact am_lt (stF_lt hB) | exact b32_01) only [e92_14, e92_15, e92_16, e92_19, e92_20, e92_21, e92_24, e92_25, e92_28, e92_31, e92_32, e92_33, e92_34, e92_35, e92_36, e92_37, e92_40, e92_43, e92_44, e92_45, e92_46, e92_47, e92_48, eO, if_neg (eO_m1 (show n < 2 ^ 31 by omega)), if_neg (eO_m1 (show b < 2 ^ 31 by omega)), gS_12 hS, rS_12 hS he, rS_12 hS he2, nI_add, pk_mul, nle]
        by_cases hlt : S.2.1 12 (200 * s + n) < S.2.1 12 (200 * s + b)
        · rw [if_neg (by omega)]
          exact key (decide_eq_true hlt)
        · rw [if_pos (by omega)]
          simp (disch := first | assumption | omega | exact am_isr_ref | exact am_isr_null | exact am_isr_rf | exact am_c1_int | exact am_c1_ref | exact am_c1_null | exact am_c1_rf | exact am_b0 | exact am_b1 | exact RM_obj (by assumption) | exact MS_obj (by assumption) | (simp only [ne_eq]; done) | exact am_nz2 | exact am_nz3 | exact am_nz6 | exact am_lt (hB _ _) | exact am_lt (stF_lt hB) | exact b32_01) only [e92_116]
          have hbf : bfF S.2.1 s n (some b) = false := decide_eq_false hlt
          dsimp only at hQ
          rw [hbf, if_neg Bool.false_ne_true] at hQ
          exact hQ h pl GR.rf hS
/-- apply -/
theorem c92 {s : Nat} {S : aSt} {h : aH} (hs : s < 6) (hS : MMs g h m S pl) (hB : am_BN S.2.1) (hm : S.1 ≤ 200) (hL : S.2.2.2.2.length + 600 ≤ 10000)
    (hQ : ∀ (h1 : aH) (pl1 : Nat), GR h pl h1 pl1 → MMs g h1 m (apF S.1 S s (leF S.2.1 s 1 S.1)) pl1 → Q none h1) : am_R (d + 1) 92 0 [some (.ref m), some (.int (nI s)), none, none, none] [] h Q := by
  simp (disch := first | assumption | omega | exact am_isr_ref | exact am_isr_null | exact am_isr_rf | exact am_c1_int | exact am_c1_ref | exact am_c1_null | exact am_c1_rf | exact am_b0 | exact am_b1 | exact RM_obj (by assumption) | exact MS_obj (by assumption) | (simp only [ne_eq]; done) | exact am_nz2 | exact am_nz3 | exact am_nz6 | exact am_lt (hB _ _) | exact am_lt (stF_lt hB) | exact b32_01) only [e92_0, e92_1, e92_2, e92_3, e92_6, e92_7, e92_8, e92_9, e92_10, e92_13, s91 hS hB hs (show 1 < 4 by decide) hm, s91 hS hB hs (show 2 < 4 by decide) hm, Option.toList_some, List.cons_append, List.nil_append]
  exact l92 hs (fun b hb => by have := leF_lt _ _ hb; omega) S.1 pl S h none (cntF_le _ _) hS hB hm (by omega) hQ
end MA
