/-! the class: keepVersions -/
def nw7 (N : Nat → Nat → Nat) (a b : Nat) : Bool := tnB (N 7 a) (plT N a) a (N 7 b) (plT N b) b
def mvF (B : Nat → Option Nat) (kc i : Nat) : Nat → Option Nat := fun p => if i < p ∧ p ≤ kc then B (p - 1) else B p
theorem mv_0 {B : Nat → Option Nat} {kc : Nat} : mvF B kc kc = B := by
  funext p
  exact if_neg (by omega)
theorem mv_s {B : Nat → Option Nat} {kc i : Nat} (hi : i + 1 ≤ kc) : va_up (mvF B kc (i + 1)) (i + 1) (B i) = mvF B kc i := by
  funext p
  unfold va_up mvF
  by_cases h1 : p = i + 1
  · subst h1; rw [if_pos rfl, if_pos ⟨by omega, hi⟩]; rfl
  · rw [if_neg h1]
    by_cases h2 : i < p ∧ p ≤ kc
    · rw [if_pos h2, if_pos ⟨by omega, h2.2⟩]
    · rw [if_neg h2, if_neg (by omega)]
theorem mv_i {B : Nat → Option Nat} {kc i : Nat} : mvF B kc (i + 1) i = B i := if_neg (by omega)
def ipF (p : Nat → Bool) : Nat → Nat
  | 0 => 0
  | i + 1 => if p i = true then ipF p i else i + 1
theorem ipF_le {p : Nat → Bool} : ∀ i, ipF p i ≤ i := by
  intro i
  induction i with
  | zero => exact Nat.le_refl _
  | succ i ih =>
    rw [ipF]
    split
    · omega
    · exact Nat.le_refl _
section CKP
variable {d : Nat} {g : Nat → Option aE} {c : Nat} {X : aX} {Q : Option Value → aH → Prop} {N : Nat → Nat → Nat} {V : Nat → Nat → Int32} {T K : Nat → Nat}
theorem d62n {h : aH} {a b : Nat} (hB : am_BN N) (ha : TrN h c N V T a) (hb : TrN h c N V T b) (ha2 : a < 200) (hb2 : b < 200) : am_R d 62 0 [some (.ref (T a)), some (.ref (T b))] [] h Q = Q (some (.int (b32 (nw7 N a b = true)))) h := d62 ha hb (Nat.mod_lt _ (by decide)) (Nat.mod_lt _ (by decide)) ha2 hb2 (hB _ _) (hB _ _)
abbrev kvX (X : aX) (s j a : Nat) : aX := xs_kc (xs_kp X (va_up (x_kp X) s (va_up (mvF (x_kp X s) (x_kc X s) j) j (some a)))) (va_up (x_kc X) s (x_kc X s + 1))
theorem l55 {s n : Nat} (hs : s < 6) (hn : n < 200) (hB : am_BN N) (hT0 : TrN (yH X) c N V T n) (hkc : x_kc X s < 200) (hK : ∀ i, i < x_kc X s → x_kp X s i = some (T (K i)) ∧ TrN (yH X) c N V T (K i) ∧ K i < 200) : ∀ i (h : aH), i ≤ x_kc X s → RC g h c (xs_kp X (va_up (x_kp X) s (mvF (x_kp X s) (x_kc X s) i))) → (∀ h1 : aH, h1.1 = h.1 → h1.2.1 = h.2.1 → RC g h1 c (kvX X s (ipF (fun j => nw7 N n (K j)) i) (T n)) → Q none h1) → am_R (d + 1) 55 36 [some (.ref (c + 39 + 6 * s)), some (.ref (T n)), some (.int (nI i))] [] h Q := by
  have fin : ∀ j (h : aH), j ≤ x_kc X s → RC g h c (xs_kp X (va_up (x_kp X) s (mvF (x_kp X s) (x_kc X s) j))) → (∀ h1 : aH, h1.1 = h.1 → h1.2.1 = h.2.1 → RC g h1 c (kvX X s j (T n)) → Q none h1) → am_R (d + 1) 55 86 [some (.ref (c + 39 + 6 * s)), some (.ref (T n)), some (.int (nI j))] [] h Q := by
    intro j h hj hR hQ
    have hT := TrNH hR (show TrN (yH (xs_kp X (va_up (x_kp X) s (mvF (x_kp X s) (x_kc X s) j)))) c N V T n from hT0)
    have hz : am_isc h 5 (some (T n)) = true := oT hT
    simp (disch := first | assumption | omega | exact am_isr_ref | exact am_isr_null | exact am_isr_rf | exact am_c1_int | exact am_c1_ref | exact am_c1_null | exact am_c1_rf | exact am_b0 | exact am_b1 | exact RM_obj (by assumption) | (simp only [ne_eq]; done) | exact am_nz2 | exact am_nz3 | exact am_nz6 | exact am_lt (hB _ _) | exact am_lt (stF_lt hB) | exact b32_01) only [e55_86, e55_87, e55_90, e55_91, e55_92q, e55_92r, e55_92n, gV0_6 hs hR]
    refine wV5 (o := some (T n)) hs (show j < 200 by omega) hR hz (fun h1 g1 g2 hR1 => ?_)
    simp (disch := first | assumption | omega | exact am_isr_ref | exact am_isr_null | exact am_isr_rf | exact am_c1_int | exact am_c1_ref | exact am_c1_null | exact am_c1_rf | exact am_b0 | exact am_b1 | exact RM_obj (by assumption) | (simp only [ne_eq]; done) | exact am_nz2 | exact am_nz3 | exact am_nz6 | exact am_lt (hB _ _) | exact am_lt (stF_lt hB) | exact b32_01) only [e55_93, e55_94, e55_95, e55_98, e55_99, e55_100, gV0_7 hs hR1, nI_add]
    refine pV0_kc (v := x_kc X s + 1) hs hR1 (fun h2 g3 g4 hR2 => ?_)
    simp (disch := first | assumption | omega | exact am_isr_ref | exact am_isr_null | exact am_isr_rf | exact am_c1_int | exact am_c1_ref | exact am_c1_null | exact am_c1_rf | exact am_b0 | exact am_b1 | exact RM_obj (by assumption) | (simp only [ne_eq]; done) | exact am_nz2 | exact am_nz3 | exact am_nz6 | exact am_lt (hB _ _) | exact am_lt (stF_lt hB) | exact b32_01) only [e55_103]
    refine hQ h2 (g3.trans g1) (g4.trans g2) ?_
    have e : va_up (va_up (x_kp X) s (mvF (x_kp X s) (x_kc X s) j)) s (va_up (va_up (x_kp X) s (mvF (x_kp X s) (x_kc X s) j) s) j (some (T n))) = va_up (x_kp X) s (va_up (mvF (x_kp X s) (x_kc X s) j) j (some (T n))) := by rw [vu_u, vu_s]
    unfold kvX
    rw [← e]
    exact hR2
  intro i
  induction i with
  | zero =>
    intro h hi hR hQ
    rw [e55_36]
    simp (disch := first | assumption | omega | exact am_isr_ref | exact am_isr_null | exact am_isr_rf | exact am_c1_int | exact am_c1_ref | exact am_c1_null | exact am_c1_rf | exact am_b0 | exact am_b1 | exact RM_obj (by assumption) | (simp only [ne_eq]; done) | exact am_nz2 | exact am_nz3 | exact am_nz6 | exact am_lt (hB _ _) | exact am_lt (stF_lt hB) | exact b32_01) only [e55_37, nI_z, nle, Nat.le_refl, if_true]
    exact fin 0 h hi hR hQ
  | succ i ih =>
    intro h hi hR hQ
    have hq := hK i (by omega)
    have hT := TrNH hR (show TrN (yH (xs_kp X (va_up (x_kp X) s (mvF (x_kp X s) (x_kc X s) (i + 1))))) c N V T n from hT0)
    have hTi := TrNH hR (show TrN (yH (xs_kp X (va_up (x_kp X) s (mvF (x_kp X s) (x_kc X s) (i + 1))))) c N V T (K i) from hq.2.1)
    have r1 : x_kp (xs_kp X (va_up (x_kp X) s (mvF (x_kp X s) (x_kc X s) (i + 1)))) s i = some (T (K i)) := ((congrFun vu_s i).trans mv_i).trans hq.1
    have ho := oT hT
    have hz : am_isc h 5 (some (T (K i))) = true := oT hTi
    rw [e55_36]
    have hne : ¬ nI (i + 1) ≤ 0 := fun q => by
      have := (nI_leI (a := i + 1) (b := 0) (by omega) (by decide)).mp q
      omega
    simp (disch := first | assumption | omega | exact am_isr_ref | exact am_isr_null | exact am_isr_rf | exact am_c1_int | exact am_c1_ref | exact am_c1_null | exact am_c1_rf | exact am_b0 | exact am_b1 | exact RM_obj (by assumption) | (simp only [ne_eq]; done) | exact am_nz2 | exact am_nz3 | exact am_nz6 | exact am_lt (hB _ _) | exact am_lt (stF_lt hB) | exact b32_01) only [e55_37, e55_40, e55_41, e55_44, e55_45, e55_46, e55_47, e55_48r, e55_48n, e55_48q, e55_51, e55_52, e55_53, e55_56, e55_57, e55_58, e55_59, e55_60, e55_63, if_neg hne, gV0_6 hs hR, nI_sub1 (show 1 ≤ i + 1 by omega), Nat.add_sub_cancel, rV5 hs hR (show i < 200 by omega), r1, va_rf, d62n hB hT hTi hn hq.2.2, Option.toList_some, List.cons_append, List.nil_append, b32_q0]
    rw [ipF] at hQ
    by_cases h1 : nw7 N n (K i) = true
    · rw [if_pos h1] at hQ
      rw [if_neg (fun q => q h1)]
      simp (disch := first | assumption | omega | exact am_isr_ref | exact am_isr_null | exact am_isr_rf | exact am_c1_int | exact am_c1_ref | exact am_c1_null | exact am_c1_rf | exact am_b0 | exact am_b1 | exact RM_obj (by assumption) | (simp only [ne_eq]; done) | exact am_nz2 | exact am_nz3 | exact am_nz6 | exact am_lt (hB _ _) | exact am_lt (stF_lt hB) | exact b32_01) only [e55_66, e55_67, e55_70, e55_71, e55_72, e55_75, e55_76, e55_77, e55_78, e55_79q, e55_79r, e55_79n, gV0_6 hs hR, nI_sub1 (show 1 ≤ i + 1 by omega), Nat.add_sub_cancel, rV5 hs hR (show i < 200 by omega), r1]
      refine wV5 (o := some (T (K i))) hs (show i + 1 < 200 by omega) hR hz (fun h1 g1 g2 hR1 => ?_)
      have ei : nI (i + 1) + -1 = nI i := by rw [← nI_add, Int32.add_assoc, show nI 1 + -1 = 0 by decide, Int32.add_zero]
      simp (disch := first | assumption | omega | exact am_isr_ref | exact am_isr_null | exact am_isr_rf | exact am_c1_int | exact am_c1_ref | exact am_c1_null | exact am_c1_rf | exact am_b0 | exact am_b1 | exact RM_obj (by assumption) | (simp only [ne_eq]; done) | exact am_nz2 | exact am_nz3 | exact am_nz6 | exact am_lt (hB _ _) | exact am_lt (stF_lt hB) | exact b32_01) only [e55_80, e55_83, ei]
      refine ih h1 (by omega) ?_ (fun h3 g5 g6 => hQ h3 (g5.trans g1) (g6.trans g2))
      have e : va_up (va_up (x_kp X) s (mvF (x_kp X s) (x_kc X s) (i + 1))) s (va_up (va_up (x_kp X) s (mvF (x_kp X s) (x_kc X s) (i + 1)) s) (i + 1) (some (T (K i)))) = va_up (x_kp X) s (mvF (x_kp X s) (x_kc X s) i) := by
        rw [vu_u, vu_s, ← hq.1, mv_s hi]
      rw [← e]
      exact hR1
    · rw [if_neg h1] at hQ
      rw [if_pos h1]
      exact fin (i + 1) h hi hR hQ
theorem d55 {h : aH} {s n : Nat} (hs : s < 6) (hn : n < 200) (hB : am_BN N) (hT0 : TrN (yH X) c N V T n) (hkc : x_kc X s < 200) (hK : ∀ i, i < x_kc X s → x_kp X s i = some (T (K i)) ∧ TrN (yH X) c N V T (K i) ∧ K i < 200) (hR : RC g h c X) (hQ : ∀ h1 : aH, h1.1 = h.1 → h1.2.1 = h.2.1 → RC g h1 c (kvX (xs_tm (xs_sg X (va_up (x_sg X) s (va_up (x_sg X s) n 3))) (va_up (x_tm X) s (va_up (x_tm X s) n (N 7 n)))) s (ipF (fun j => nw7 N n (K j)) (x_kc X s)) (T n)) → Q none h1) : am_R (d + 1) 55 0 [some (.ref (c + 39 + 6 * s)), some (.ref (T n)), none] [] h Q := by
  have hT := TrNH hR hT0
  have ho := oV0 hs hR
  simp (disch := first | assumption | omega | exact am_isr_ref | exact am_isr_null | exact am_isr_rf | exact am_c1_int | exact am_c1_ref | exact am_c1_null | exact am_c1_rf | exact am_b0 | exact am_b1 | exact RM_obj (by assumption) | (simp only [ne_eq]; done) | exact am_nz2 | exact am_nz3 | exact am_nz6 | exact am_lt (hB _ _) | exact am_lt (stF_lt hB) | exact b32_01) only [e55_0, e55_1, e55_2, e55_5, e55_6, e55_7, e55_10, gT_0 hT, gT_6 hT]
  refine d50 hs hn hR (fun h1 g1 g2 hR1 => ?_)
  have r : x_kc (xs_tm (xs_sg X (va_up (x_sg X) s (va_up (x_sg X s) n 3))) (va_up (x_tm X) s (va_up (x_tm X s) n (N 7 n)))) s = x_kc X s := rfl
  simp (disch := first | assumption | omega | exact am_isr_ref | exact am_isr_null | exact am_isr_rf | exact am_c1_int | exact am_c1_ref | exact am_c1_null | exact am_c1_rf | exact am_b0 | exact am_b1 | exact RM_obj (by assumption) | (simp only [ne_eq]; done) | exact am_nz2 | exact am_nz3 | exact am_nz6 | exact am_lt (hB _ _) | exact am_lt (stF_lt hB) | exact b32_01) only [e55_13, e55_14, e55_17, e55_20, e55_21, e55_24, e55_27, e55_30, e55_31, e55_32, e55_35, Option.toList_none, List.nil_append, gV0_7 hs hR1, r, if_neg (nI_pos (n := x_kc X s) (show x_kc X s < 2 ^ 31 by omega)), nlt, if_pos hkc]
  refine l55 (X := xs_tm (xs_sg X (va_up (x_sg X) s (va_up (x_sg X s) n 3))) (va_up (x_tm X) s (va_up (x_tm X s) n (N 7 n)))) hs hn hB hT0 hkc hK (x_kc X s) h1 (Nat.le_refl _) ?_ (fun h3 g5 g6 => hQ h3 (g5.trans g1) (g6.trans g2))
  rw [mv_0, vu_i]
  exact hR1
end CKP
