/-! the model's calls: deliver, tick -/
def shP (P : Nat → Int32) (j i : Nat) : Nat → Int32 := fun e => if 7 * j ≤ e ∧ e < i then P (e + 7) else P e
theorem shP_step {P : Nat → Int32} {j i : Nat} (hi : 7 * j ≤ i) : upd (shP P j i) i (shP P j i (i + 7)) = shP P j (i + 1) := by
  funext e
  unfold upd shP
  by_cases he : e = i
  · subst he
    rw [if_pos rfl, if_neg (by omega), if_pos (by omega)]
  · rw [if_neg he]
    by_cases h1 : 7 * j ≤ e ∧ e < i
    · rw [if_pos h1, if_pos (by omega)]
    · rw [if_neg h1, if_neg (by omega)]
theorem shP_PR {P : Nat → Int32} {L : List aMsg} {j : Nat} (hP : PR P L) (hj : j < L.length) : PR (shP P j (7 * (L.length - 1))) (L.eraseIdx j) := by
  intro k q hq i hi
  have hk := (List.getElem?_eq_some_iff.mp hq).1
  rw [List.length_eraseIdx_of_lt hj] at hk
  rw [List.getElem?_eraseIdx] at hq
  unfold shP
  by_cases hkj : k < j
  · rw [if_pos hkj] at hq
    rw [if_neg (by omega)]
    exact hP k q hq i hi
  · rw [if_neg hkj] at hq
    rw [if_pos (by omega), show 7 * k + i + 7 = 7 * (k + 1) + i by omega]
    exact hP (k + 1) q hq i hi
section MX
variable {d : Nat} {g : Nat → Option aE} {m pl : Nat} {Q : Option Value → aH → Prop}
theorem l101 {f t j many wt pa : Nat} {l4 l5 l6 l7 l8 : Option Value} {N : Nat → Nat → Nat} {V : Nat → Nat → Int32} {O : Nat → Option Nat} {P : Nat → Int32} (hw : 7 * wt + 7 ≤ pl) : ∀ (c i : Nat) (h : aH), i + c = 7 * wt → 7 * j ≤ i → MM g h m many wt pa pl N V O (shP P j i) →
    (∀ h1 : aH, h1.1 = h.1 → h1.2.1 = h.2.1 → MM g h1 m many wt pa pl N V O (shP P j (7 * wt)) → am_R d 101 141 [some (.ref m), some (.int (nI f)), some (.int (nI t)), some (.int (nI j)), l4, l5, l6, l7, l8, some (.int (nI (7 * wt)))] [] h1 Q) →
    am_R d 101 106 [some (.ref m), some (.int (nI f)), some (.int (nI t)), some (.int (nI j)), l4, l5, l6, l7, l8, some (.int (nI i))] [] h Q := by
  intro c
  induction c with
  | zero =>
    intro i h hi hj hR hQ
    have hpl : pl < 1000000 := hR.2.2.2.1.2.2.2
    obtain rfl : i = 7 * wt := by omega
    rw [e101_106]
    simp (disch := first | assumption | omega | exact am_isr_ref | exact am_isr_null | exact am_isr_rf | exact am_c1_int | exact am_c1_ref | exact am_c1_null | exact am_c1_rf | exact am_b0 | exact am_b1 | exact RM_obj (by assumption) | exact MS_obj (by assumption) | (simp only [ne_eq]; done) | exact am_nz2 | exact am_nz3 | exact am_nz6 | exact am_lt (hB _ _) | exact am_lt (stF_lt hB) | exact b32_01) only [e101_108, e101_110, e101_111, e101_114, e101_115, gM_22 hR, pk_mul, nle, if_true, Nat.le_refl]
    exact hQ h rfl rfl hR
  | succ c ih =>
    intro i h hi hj hR hQ
    have hpl : pl < 1000000 := hR.2.2.2.1.2.2.2
    rw [e101_106]
    simp (disch := first | assumption | omega | exact am_isr_ref | exact am_isr_null | exact am_isr_rf | exact am_c1_int | exact am_c1_ref | exact am_c1_null | exact am_c1_rf | exact am_b0 | exact am_b1 | exact RM_obj (by assumption) | exact MS_obj (by assumption) | (simp only [ne_eq]; done) | exact am_nz2 | exact am_nz3 | exact am_nz6 | exact am_lt (hB _ _) | exact am_lt (stF_lt hB) | exact b32_01) only [e101_108, e101_110, e101_111, e101_114, e101_115, e101_118, e101_119, e101_122, e101_124, e101_125, e101_128, e101_130, e101_132, e101_133, e101_134, gM_22 hR, pk_mul, nle, if_neg (show ¬ 7 * wt ≤ i by omega), gM_23 hR, nI_add, rP hR (show i + 7 < pl by omega)]
    refine wP hR (by omega) (fun h1 a1 b1 hR1 => ?_)
    rw [shP_step hj] at hR1
    simp (disch := first | assumption | omega | exact am_isr_ref | exact am_isr_null | exact am_isr_rf | exact am_c1_int | exact am_c1_ref | exact am_c1_null | exact am_c1_rf | exact am_b0 | exact am_b1 | exact RM_obj (by assumption) | exact MS_obj (by assumption) | (simp only [ne_eq]; done) | exact am_nz2 | exact am_nz3 | exact am_nz6 | exact am_lt (hB _ _) | exact am_lt (stF_lt hB) | exact b32_01) only [e101_135, e101_138, nI_add]
    exact ih (i + 1) h1 (by omega) (by omega) hR1 (fun h2 a2 b2 hR2 => hQ h2 (by omega) (by omega) hR2)
def dropF (S : aSt) (j : Nat) : aSt := (S.1, S.2.1, S.2.2.1, S.2.2.2.1, S.2.2.2.2.eraseIdx j)
/-- deliver: the first message of the link is taken -/
def dlvF (S : aSt) (f t : Nat) : aSt := match foL f t S.2.2.2.2 0 with
  | none => S
  | some j => match S.2.2.2.2[j]? with
    | none => S
    | some q => takeF (dropF S j) f t q
def dlvA (S : aSt) (f t : Nat) : Int32 := match foL f t S.2.2.2.2 0 with
  | none => nI 0
  | some j => match S.2.2.2.2[j]? with
    | none => nI 0
    | some q => nI q.2.2.1
theorem c101 {f t : Nat} {S : aSt} {h : aH} (hf : f < 6) (ht : t < 6) (hlk : lkF f t) (hS : MMs g h m S pl) (hB : am_BN S.2.1) (hm : S.1 ≤ 200) (hWL : WfL S.2.2.2.2) (hL : S.2.2.2.2.length + 1300 ≤ 10000)
    (hk : ∀ j q, foL f t S.2.2.2.2 0 = some j → S.2.2.2.2[j]? = some q → OkQ S f t q)
    (hQ : ∀ (h1 : aH) (pl1 : Nat), GR h pl h1 pl1 → MMs g h1 m (dlvF S f t) pl1 → Q (some (.int (dlvA S f t))) h1) : am_R (d + 10) 101 0 [some (.ref m), some (.int (nI f)), some (.int (nI t)), none, none, none, none, none, none, none] [] h Q := by
  obtain ⟨pa, P, hR, hP, hl, hp1, hp2⟩ := id hS
  have hfo : foF P f t S.2.2.2.2.length 0 = foL f t S.2.2.2.2 0 := foF_foL hP hWL hf ht _ 0 (by omega)
  simp (disch := first | assumption | omega | exact am_isr_ref | exact am_isr_null | exact am_isr_rf | exact am_c1_int | exact am_c1_ref | exact am_c1_null | exact am_c1_rf | exact am_b0 | exact am_b1 | exact RM_obj (by assumption) | exact MS_obj (by assumption) | (simp only [ne_eq]; done) | exact am_nz2 | exact am_nz3 | exact am_nz6 | exact am_lt (hB _ _) | exact am_lt (stF_lt hB) | exact b32_01) only [e101_0, e101_1, e101_2, e101_5, c77 hf ht, Option.toList_some, List.cons_append, List.nil_append, b32_q0]
  rw [if_pos (fun q => q hlk)]
  simp (disch := first | assumption | omega | exact am_isr_ref | exact am_isr_null | exact am_isr_rf | exact am_c1_int | exact am_c1_ref | exact am_c1_null | exact am_c1_rf | exact am_b0 | exact am_b1 | exact RM_obj (by assumption) | exact MS_obj (by assumption) | (simp only [ne_eq]; done) | exact am_nz2 | exact am_nz3 | exact am_nz6 | exact am_lt (hB _ _) | exact am_lt (stF_lt hB) | exact b32_01) only [e101_10, e101_11, e101_12, e101_13, e101_16, e101_17, e101_18, e101_19, c86 hR hl, Option.toList_some, List.cons_append, List.nil_append, hfo]
  unfold dlvF dlvA at hQ
  cases hfl : foL f t S.2.2.2.2 0 with
  | none =>
    rw [hfl] at hQ
    rw [if_neg (show ¬ ¬ eO none = -1 from fun q => q rfl)]
    simp (disch := first | assumption | omega | exact am_isr_ref | exact am_isr_null | exact am_isr_rf | exact am_c1_int | exact am_c1_ref | exact am_c1_null | exact am_c1_rf | exact am_b0 | exact am_b1 | exact RM_obj (by assumption) | exact MS_obj (by assumption) | (simp only [ne_eq]; done) | exact am_nz2 | exact am_nz3 | exact am_nz6 | exact am_lt (hB _ _) | exact am_lt (stF_lt hB) | exact b32_01) only [e101_22, e101_23]
    exact hQ h pl GR.rf hS
  | some j =>
    obtain ⟨-, q, hq, -⟩ := foL_some _ _ _ hfl
    rw [Nat.sub_zero] at hq
    have hj := (List.getElem?_eq_some_iff.mp hq).1
    have hok := hk j q hfl hq
    rw [hfl] at hQ
    dsimp only at hQ
    rw [hq] at hQ
    dsimp only at hQ
    rw [if_pos (show ¬ eO (some j) = -1 from eO_m1 (show j < 2 ^ 31 by omega)), show eO (some j) = nI j from rfl]
    have v2 : P (7 * j + 2) = mf q 2 := hP j q hq 2 (by decide)
    have v3 : P (7 * j + 3) = mf q 3 := hP j q hq 3 (by decide)
    have v4 : P (7 * j + 4) = mf q 4 := hP j q hq 4 (by decide)
    have v5 : P (7 * j + 5) = mf q 5 := hP j q hq 5 (by decide)
    have v6 : P (7 * j + 6) = mf q 6 := hP j q hq 6 (by decide)
    simp (disch := first | assumption | omega | exact am_isr_ref | exact am_isr_null | exact am_isr_rf | exact am_c1_int | exact am_c1_ref | exact am_c1_null | exact am_c1_rf | exact am_b0 | exact am_b1 | exact RM_obj (by assumption) | exact MS_obj (by assumption) | (simp only [ne_eq]; done) | exact am_nz2 | exact am_nz3 | exact am_nz6 | exact am_lt (hB _ _) | exact am_lt (stF_lt hB) | exact b32_01) only [e101_24, e101_25, e101_28, e101_30, e101_31, e101_32, e101_33, e101_34, e101_35, e101_37, e101_38, e101_41, e101_43, e101_44, e101_45, e101_46, e101_47, e101_48, e101_50, e101_51, e101_54, e101_56, e101_57, e101_58, e101_59, e101_60, e101_61, e101_63, e101_64, e101_67, e101_69, e101_70, e101_71, e101_72, e101_73, e101_74, e101_76, e101_77, e101_80, e101_82, e101_83, e101_84, e101_86, e101_87, e101_88, e101_90, e101_91, e101_92, e101_95, e101_96, e101_97, gM_23 hR, gM_22 hR, nI_add, pk_mul, rP hR (show 7 * j + 2 < pl by omega), rP hR (show 7 * j + 3 < pl by omega), rP hR (show 7 * j + 4 < pl by omega), rP hR (show 7 * j + 5 < pl by omega), rP hR (show 7 * j + 6 < pl by omega), v2, v3, v4, v5, v6, pk_sub (show 1 ≤ S.2.2.2.2.length by omega)]
    refine pM_22 hR (fun h1 a1 b1 hR1 => ?_)
    simp (disch := first | assumption | omega | exact am_isr_ref | exact am_isr_null | exact am_isr_rf | exact am_c1_int | exact am_c1_ref | exact am_c1_null | exact am_c1_rf | exact am_b0 | exact am_b1 | exact RM_obj (by assumption) | exact MS_obj (by assumption) | (simp only [ne_eq]; done) | exact am_nz2 | exact am_nz3 | exact am_nz6 | exact am_lt (hB _ _) | exact am_lt (stF_lt hB) | exact b32_01) only [e101_100, e101_102, e101_103, e101_104, pk_mul]
    have e0 : shP P j (7 * j) = P := by
      funext e
      unfold shP
      rw [if_neg (by omega)]
    refine l101 (P := P) (pl := pl) (wt := S.2.2.2.2.length - 1) (by omega) (7 * (S.2.2.2.2.length - 1) - 7 * j) (7 * j) h1 (by omega) (Nat.le_refl _) (by rw [e0]; exact hR1) (fun h2 a2 b2 hR2 => ?_)
    have hlen : (S.2.2.2.2.eraseIdx j).length = S.2.2.2.2.length - 1 := List.length_eraseIdx_of_lt hj
    have hS2 : MMs g h2 m (dropF S j) pl := by
      refine ⟨pa, _, ?_, shP_PR hP hj, ?_, hp1, hp2⟩
      · show MM g h2 m S.1 (S.2.2.2.2.eraseIdx j).length pa pl S.2.1 S.2.2.1 S.2.2.2.1 _
        rw [hlen]
        exact hR2
      · show 7 * (S.2.2.2.2.eraseIdx j).length ≤ pl
        omega
    simp (disch := first | assumption | omega | exact am_isr_ref | exact am_isr_null | exact am_isr_rf | exact am_c1_int | exact am_c1_ref | exact am_c1_null | exact am_c1_rf | exact am_b0 | exact am_b1 | exact RM_obj (by assumption) | exact MS_obj (by assumption) | (simp only [ne_eq]; done) | exact am_nz2 | exact am_nz3 | exact am_nz6 | exact am_lt (hB _ _) | exact am_lt (stF_lt hB) | exact b32_01) only [e101_141, e101_142, e101_143, e101_144, e101_146, e101_148, e101_150, e101_152, e101_154]
    refine c87 (q := q) (S := dropF S j) hf ht hS2 hB hm (by show (S.2.2.2.2.eraseIdx j).length + 1300 ≤ 10000; omega) hok (fun h3 pl3 hG3 hS3 => ?_)
    simp (disch := first | assumption | omega | exact am_isr_ref | exact am_isr_null | exact am_isr_rf | exact am_c1_int | exact am_c1_ref | exact am_c1_null | exact am_c1_rf | exact am_b0 | exact am_b1 | exact RM_obj (by assumption) | exact MS_obj (by assumption) | (simp only [ne_eq]; done) | exact am_nz2 | exact am_nz3 | exact am_nz6 | exact am_lt (hB _ _) | exact am_lt (stF_lt hB) | exact b32_01) only [Option.toList_none, List.nil_append, e101_157, e101_159]
    exact hQ h3 pl3 ((GR.of (by omega) (by omega)).tr hG3) hS3
theorem c101f {f t : Int32} {h : aH} (hc : (f < 0 ∨ nI 6 ≤ f) ∨ (t < 0 ∨ nI 6 ≤ t)) (hQ : Q (some (.int (-1))) h) : am_R (d + 10) 101 0 [some (.ref m), some (.int f), some (.int t), none, none, none, none, none, none, none] [] h Q := by
  simp (disch := first | assumption | omega | exact am_isr_ref | exact am_isr_null | exact am_isr_rf | exact am_c1_int | exact am_c1_ref | exact am_c1_null | exact am_c1_rf | exact am_b0 | exact am_b1 | exact RM_obj (by assumption) | exact MS_obj (by assumption) | (simp only [ne_eq]; done) | exact am_nz2 | exact am_nz3 | exact am_nz6 | exact am_lt (hB _ _) | exact am_lt (stF_lt hB) | exact b32_01) only [e101_0, e101_1, e101_2, e101_5, c77f hc, Option.toList_some, List.cons_append, List.nil_append, if_neg (show ¬ ¬ nI 0 = 0 from fun q => q rfl), e101_8, e101_9]
  exact hQ
theorem c101n {f t : Nat} {h : aH} (hf : f < 6) (ht : t < 6) (hlk : ¬ lkF f t) (hQ : Q (some (.int (-1))) h) : am_R (d + 10) 101 0 [some (.ref m), some (.int (nI f)), some (.int (nI t)), none, none, none, none, none, none, none] [] h Q := by
  simp (disch := first | assumption | omega | exact am_isr_ref | exact am_isr_null | exact am_isr_rf | exact am_c1_int | exact am_c1_ref | exact am_c1_null | exact am_c1_rf | exact am_b0 | exact am_b1 | exact RM_obj (by assumption) | exact MS_obj (by assumption) | (simp only [ne_eq]; done) | exact am_nz2 | exact am_nz3 | exact am_nz6 | exact am_lt (hB _ _) | exact am_lt (stF_lt hB) | exact b32_01) only [e101_0, e101_1, e101_2, e101_5, c77 hf ht, Option.toList_some, List.cons_append, List.nil_append, b32_q0]
  rw [if_neg (fun q => q hlk)]
  simp (disch := first | assumption | omega | exact am_isr_ref | exact am_isr_null | exact am_isr_rf | exact am_c1_int | exact am_c1_ref | exact am_c1_null | exact am_c1_rf | exact am_b0 | exact am_b1 | exact RM_obj (by assumption) | exact MS_obj (by assumption) | (simp only [ne_eq]; done) | exact am_nz2 | exact am_nz3 | exact am_nz6 | exact am_lt (hB _ _) | exact am_lt (stF_lt hB) | exact b32_01) only [e101_8, e101_9]
  exact hQ
/-- tick -/
def upF (N : Nat → Nat → Nat) (s : Nat) : Nat → Option Nat
  | 0 => none
  | n + 1 => if N 11 (200 * s + n) = 1 ∨ N 11 (200 * s + n) = 2 then (match upF N s n with
    | none => some (N 12 (200 * s + n) - 1)
    | some b => some (min b (N 12 (200 * s + n) - 1))) else upF N s n
theorem upF_lt {N : Nat → Nat → Nat} {s : Nat} (hB : am_BN N) : ∀ n b, upF N s n = some b → b < 1000000 := by
  intro n
  induction n with
  | zero => intro b q; cases q
  | succ n ih =>
    intro b q
    rw [upF] at q
    have hb := hB 12 (200 * s + n)
    split at q
    · split at q
      · cases q; omega
      · cases q; omega
    · exact ih b q
theorem min32 {a b : Nat} (ha : a < 1000000) (hb : b < 1000000) : (if nI b < nI a then nI b else nI a) = nI (min a b) := by
  by_cases h1 : b < a
  · rw [if_pos ((nI_ltI (by omega) (by omega)).mpr h1), Nat.min_eq_right (by omega)]
  · rw [if_neg (fun q => h1 ((nI_ltI (by omega) (by omega)).mp q)), Nat.min_eq_left (by omega)]
theorem l100 {s ck : Nat} {S : aSt} {h : aH} (hs : s < 6) (hck : ck < 1000000) (hS : MMs g h m S pl) (hB : am_BN S.2.1) (hm : S.1 ≤ 200) (h12 : ∀ n, n < S.1 → (S.2.1 11 (200 * s + n) = 1 ∨ S.2.1 11 (200 * s + n) = 2) → 1 ≤ S.2.1 12 (200 * s + n)) : ∀ (t n : Nat) (l5 l6 : Option Value), n + t = S.1 →
    (∀ l5 l6 : Option Value, am_R d 100 111 [some (.ref m), some (.int (nI s)), some (.int (nI ((upF S.2.1 s S.1).getD ck))), some (.int (b32 ((upF S.2.1 s S.1).isSome = true))), some (.int (nI S.1)), l5, l6] [] h Q) →
    am_R d 100 31 [some (.ref m), some (.int (nI s)), some (.int (nI ((upF S.2.1 s n).getD ck))), some (.int (b32 ((upF S.2.1 s n).isSome = true))), some (.int (nI n)), l5, l6] [] h Q := by
  intro t
  induction t with
  | zero =>
    intro n l5 l6 hn hQ
    obtain rfl : n = S.1 := by omega
    rw [e100_31]
    simp (disch := first | assumption | omega | exact am_isr_ref | exact am_isr_null | exact am_isr_rf | exact am_c1_int | exact am_c1_ref | exact am_c1_null | exact am_c1_rf | exact am_b0 | exact am_b1 | exact RM_obj (by assumption) | exact MS_obj (by assumption) | (simp only [ne_eq]; done) | exact am_nz2 | exact am_nz3 | exact am_nz6 | exact am_lt (hB _ _) | exact am_lt (stF_lt hB) | exact b32_01) only [e100_33, e100_34, e100_37, gS_0 hS, nle, if_true, Nat.le_refl]
    exact hQ l5 l6
  | succ t ih =>
    intro n l5 l6 hn hQ
    have he : 200 * s + n < 1200 := by omega
    have ih := ih (n + 1)
    rw [upF] at ih
    have b12 := hB 12 (200 * s + n)
    rw [e100_31]
    simp (disch := first | assumption | omega | exact am_isr_ref | exact am_isr_null | exact am_isr_rf | exact am_c1_int | exact am_c1_ref | exact am_c1_null | exact am_c1_rf | exact am_b0 | exact am_b1 | exact RM_obj (by assumption) | exact MS_obj (by assumption) | (simp only [ne_eq]; done) | exact am_nz2 | exact am_nz3 | exact am_nz6 | exact am_lt (hB _ _) | exact am_lt (stF_lt hB) | exact b32_01) only [e100_33, e100_34, e100_37, e100_40, e100_41, e100_44, e100_47, e100_48, e100_49, e100_51, e100_52, e100_53, e100_55, e100_57, e100_58, e100_61, e100_63, e100_64, gS_0 hS, nle, if_neg (show ¬ S.1 ≤ n by omega), gS_11 hS, nI_add, pk_mul, rS_11 hS he, nq]
    have go : (S.2.1 11 (200 * s + n) = 1 ∨ S.2.1 11 (200 * s + n) = 2) → am_R d 100 70 [some (.ref m), some (.int (nI s)), some (.int (nI ((upF S.2.1 s n).getD ck))), some (.int (b32 ((upF S.2.1 s n).isSome = true))), some (.int (nI n)), some (.int (nI (S.2.1 11 (200 * s + n)))), l6] [] h Q := by
      intro hc
      rw [if_pos hc] at ih
      have h1 := h12 n (by omega) hc
      simp (disch := first | assumption | omega | exact am_isr_ref | exact am_isr_null | exact am_isr_rf | exact am_c1_int | exact am_c1_ref | exact am_c1_null | exact am_c1_rf | exact am_b0 | exact am_b1 | exact RM_obj (by assumption) | exact MS_obj (by assumption) | (simp only [ne_eq]; done) | exact am_nz2 | exact am_nz3 | exact am_nz6 | exact am_lt (hB _ _) | exact am_lt (stF_lt hB) | exact b32_01) only [e100_70, e100_71, e100_74, e100_77, e100_78, e100_79, e100_81, e100_82, e100_83, e100_84, e100_85, e100_87, e100_88, gS_12 hS, nI_add, pk_mul, rS_12 hS he, pk_sub h1, b32_q0]
      cases hu : upF S.2.1 s n with
      | none =>
        rw [hu] at ih
        rw [if_pos (show ¬ (none : Option Nat).isSome = true from fun q => by cases q)]
        simp (disch := first | assumption | omega | exact am_isr_ref | exact am_isr_null | exact am_isr_rf | exact am_c1_int | exact am_c1_ref | exact am_c1_null | exact am_c1_rf | exact am_b0 | exact am_b1 | exact RM_obj (by assumption) | exact MS_obj (by assumption) | (simp only [ne_eq]; done) | exact am_nz2 | exact am_nz3 | exact am_nz6 | exact am_lt (hB _ _) | exact am_lt (stF_lt hB) | exact b32_01) only [e100_100, e100_102, e100_103, e100_104, e100_105, e100_108, nI_add]
        exact ih _ _ (by omega) hQ
      | some b =>
        rw [hu] at ih
        have hb := upF_lt hB n b hu
        rw [if_neg (show ¬ ¬ (some b).isSome = true from fun q => q rfl)]
        simp (disch := first | assumption | omega | exact am_isr_ref | exact am_isr_null | exact am_isr_rf | exact am_c1_int | exact am_c1_ref | exact am_c1_null | exact am_c1_rf | exact am_b0 | exact am_b1 | exact RM_obj (by assumption) | exact MS_obj (by assumption) | (simp only [ne_eq]; done) | exact am_nz2 | exact am_nz3 | exact am_nz6 | exact am_lt (hB _ _) | exact am_lt (stF_lt hB) | exact b32_01) only [Option.getD_some, e100_91, e100_92, e100_94, e100_97, e100_102, e100_103, e100_104, e100_105, e100_108, min32 hb (show S.2.1 12 (200 * s + n) - 1 < 1000000 by omega), nI_add]
        exact ih _ _ (by omega) hQ
    by_cases h1 : S.2.1 11 (200 * s + n) = 1
    · rw [if_pos h1]
      exact go (Or.inl h1)
    · rw [if_neg h1]
      by_cases h2 : S.2.1 11 (200 * s + n) = 2
      · rw [if_pos h2]
        exact go (Or.inr h2)
      · rw [if_neg h2]
        rw [if_neg (fun q => q.elim h1 h2)] at ih
        simp (disch := first | assumption | omega | exact am_isr_ref | exact am_isr_null | exact am_isr_rf | exact am_c1_int | exact am_c1_ref | exact am_c1_null | exact am_c1_rf | exact am_b0 | exact am_b1 | exact RM_obj (by assumption) | exact MS_obj (by assumption) | (simp only [ne_eq]; done) | exact am_nz2 | exact am_nz3 | exact am_nz6 | exact am_lt (hB _ _) | exact am_lt (stF_lt hB) | exact b32_01) only [e100_67, e100_105, e100_108, nI_add]
        exact ih _ _ (by omega) hQ
end MX
