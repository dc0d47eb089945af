/-! read -/
theorem sV_n {S : aSt} {k e j : Nat} {v : Int32} (h : ¬ j = k) : (setV S k e v).2.2.1 j = S.2.2.1 j := u2_n h
theorem sV_s {S : aSt} {k e : Nat} {v : Int32} : (setV S k e v).2.2.1 k = va_up (S.2.2.1 k) e v := u2_s
def qRd (N : Nat → Nat → Nat) (s k c n : Nat) : Prop := hvF N s n k ∧ snF N n c
/-- b is the newest of o and of those below m that may be read -/
def isNw (N : Nat → Nat → Nat) (s k c m : Nat) (o b : Option Nat) : Prop := (b = o ∨ ∃ n, n < m ∧ qRd N s k c n ∧ b = some n) ∧ (∀ n, n < m → qRd N s k c n → ∃ x, b = some x ∧ (x = n ∨ nwB N x n = true)) ∧ ∀ n, o = some n → ∃ x, b = some x ∧ (x = n ∨ nwB N x n = true)
theorem isNw_u {N : Nat → Nat → Nat} {s k c m : Nat} {o b b2 : Option Nat} (h1 : isNw N s k c m o b) (h2 : isNw N s k c m o b2) : b = b2 := by
  have dom : ∀ (b b2 : Option Nat), isNw N s k c m o b → isNw N s k c m o b2 → ∀ y, b2 = some y → ∃ x, b = some x ∧ (x = y ∨ nwB N x y = true) := by
    intro b b2 h1 h2 y hy
    rcases h2.1 with e | ⟨n, e1, e2, e3⟩
    · exact h1.2.2 y (by rw [← e]; exact hy)
    · rw [hy] at e3
      cases e3
      exact h1.2.1 y e1 e2
  cases hb : b with
  | none =>
    cases hb2 : b2 with
    | none => rfl
    | some y =>
      obtain ⟨x, e, _⟩ := dom b b2 h1 h2 y hb2
      rw [hb] at e
      cases e
  | some x =>
    obtain ⟨y, e1, e2⟩ := dom b2 b h2 h1 x hb
    obtain ⟨x2, e3, e4⟩ := dom b b2 h1 h2 y e1
    rw [hb] at e3
    cases e3
    rw [e1]
    rcases e2 with q | q
    · rw [q]
    · rcases e4 with q2 | q2
      · rw [q2]
      · exact absurd (nwB_tr q q2) nwB_ir
theorem rb_nw {S : aSt} {c k s : Nat} : ∀ m, isNw S.2.1 s k c m (S.2.2.2.1 (8 * c + k)) (rbF S c k s m) := by
  intro m
  induction m with
  | zero => exact ⟨Or.inl rfl, fun n h => by omega, fun n h => ⟨n, h, Or.inl rfl⟩⟩
  | succ m ih =>
    rw [rbF]
    obtain ⟨i1, i2, i3⟩ := ih
    by_cases hq : (hvF S.2.1 s m k ∧ snF S.2.1 m c) ∧ rdB S.2.1 m (rbF S c k s m) = true
    · rw [if_pos hq]
      have up : ∀ n x, rbF S c k s m = some x → (x = n ∨ nwB S.2.1 x n = true) → m = n ∨ nwB S.2.1 m n = true := by
        intro n x e h
        have hr := hq.2
        rw [e] at hr
        have hr : nwB S.2.1 m x = true := hr
        rcases h with h | h
        · rw [← h]; exact Or.inr hr
        · exact Or.inr (nwB_tr hr h)
      refine ⟨Or.inr ⟨m, by omega, hq.1, rfl⟩, fun n hn hqn => ⟨m, rfl, ?_⟩, fun n hn => ⟨m, rfl, ?_⟩⟩
      · by_cases e : n = m
        · exact Or.inl e.symm
        · obtain ⟨x, e1, e2⟩ := i2 n (by omega) hqn
          exact up n x e1 e2
      · obtain ⟨x, e1, e2⟩ := i3 n hn
        exact up n x e1 e2
    · rw [if_neg hq]
      refine ⟨?_, fun n hn hqn => ?_, i3⟩
      · rcases i1 with e | ⟨n, e1, e2, e3⟩
        · exact Or.inl e
        · exact Or.inr ⟨n, by omega, e2, e3⟩
      · by_cases e : n = m
        · subst e
          have hr : ¬ rdB S.2.1 n (rbF S c k s n) = true := fun q => hq ⟨hqn, q⟩
          cases hb : rbF S c k s n with
          | none => rw [hb] at hr; exact absurd rfl hr
          | some x =>
            rw [hb] at hr
            have hr : ¬ nwB S.2.1 n x = true := hr
            refine ⟨x, rfl, ?_⟩
            by_cases e2 : x = n
            · exact Or.inl e2
            · exact Or.inr (nwB_tot (fun q => e2 q.symm) hr)
        · exact i2 n (by omega) hqn
theorem skF_some {p : Nat → Bool} : ∀ t i j, skF p t i = some j → i ≤ j ∧ j < i + t ∧ p j = true ∧ ∀ m, i ≤ m → m < j → ¬ p m = true := by
  intro t
  induction t with
  | zero => intro i j h; cases h
  | succ t ih =>
    intro i j h
    rw [skF] at h
    by_cases hp : p i = true
    · rw [if_pos hp] at h
      cases h
      exact ⟨Nat.le_refl _, by omega, hp, fun m a b => by omega⟩
    · rw [if_neg hp] at h
      obtain ⟨a, b, e, f⟩ := ih (i + 1) j h
      refine ⟨by omega, by omega, e, fun m q1 q2 => ?_⟩
      by_cases e2 : m = i
      · rw [e2]; exact hp
      · exact f m (by omega) q2
theorem skF_none {p : Nat → Bool} : ∀ t i, skF p t i = none → ∀ j, i ≤ j → j < i + t → ¬ p j = true := by
  intro t
  induction t with
  | zero => intro i _ j h1 h2; omega
  | succ t ih =>
    intro i h j h1 h2
    rw [skF] at h
    by_cases hp : p i = true
    · rw [if_pos hp] at h
      cases h
    · rw [if_neg hp] at h
      by_cases e : j = i
      · rw [e]; exact hp
      · exact ih (i + 1) h j (by omega) (by omega)
section RD2
variable {d : Nat} {g : Nat → Option aE} {c : Nat} {X : aX} {Q : Option Value → aH → Prop} {S : aSt} {T : Nat → Nat} {K : Nat → List Nat} {LL : List aLm} {L : List aMsg} {tg : Nat → Nat} {h : aH}
abbrev nfO (N : Nat → Nat → Nat) (o b : Option Nat) : Option Nat := match o, b with
  | none, b => b
  | some o, none => some o
  | some o, some t => if nw7 N t o = true then some t else some o
theorem nf_is {l : List Nat} {s k i : Nat} {O : Option Nat} (hpw : l.Pairwise (fun a b => nw7 S.2.1 a b = true)) (hmem : ∀ n, n ∈ l ↔ n < S.1 ∧ S.2.1 11 (200 * s + n) = 3) (h97 : ∀ n, n ∈ l → S.2.1 9 n = S.2.1 7 n) (hO : ∀ n, O = some n → S.2.1 9 n = S.2.1 7 n) {q : Nat → Bool} (hq : ∀ n, n ∈ l → (q n = true ↔ wF (S.2.1 4 n) k ∧ snF S.2.1 n i)) : isNw S.2.1 s k i S.1 O (nfO S.2.1 O ((skF (fun j => q (l.getD j 0)) l.length 0).map (fun j => l.getD j 0))) := by
  have gd : ∀ j (hj : j < l.length), l.getD j 0 = l[j] := fun j hj => by rw [List.getD_eq_getElem?_getD, List.getElem?_eq_getElem hj]; rfl
  have pos : ∀ n, n < S.1 → qRd S.2.1 s k i n → ∃ j, j < l.length ∧ l.getD j 0 = n ∧ q (l.getD j 0) = true := fun n hn hv => by
    obtain ⟨j, hj, e⟩ := List.mem_iff_getElem.mp ((hmem n).mpr ⟨hn, hv.1.1⟩)
    have e2 := (gd j hj).trans e
    refine ⟨j, hj, e2, ?_⟩
    rw [e2]
    exact (hq n ((hmem n).mpr ⟨hn, hv.1.1⟩)).mpr ⟨hv.1.2, hv.2⟩
  cases hs : skF (fun j => q (l.getD j 0)) l.length 0 with
  | none =>
    have hno := skF_none _ _ hs
    have nob : ∀ n, n < S.1 → ¬ qRd S.2.1 s k i n := fun n hn hv => by
      obtain ⟨j, h1, h2, h3⟩ := pos n hn hv
      exact hno j (by omega) (by omega) h3
    cases O with
    | none => exact ⟨Or.inl rfl, fun n hn hv => absurd hv (nob n hn), fun n hn => by cases hn⟩
    | some o => exact ⟨Or.inl rfl, fun n hn hv => absurd hv (nob n hn), fun n hn => ⟨n, hn, Or.inl rfl⟩⟩
  | some j =>
    obtain ⟨c1, c2, c3, c4⟩ := skF_some _ _ _ hs
    have hj : j < l.length := by omega
    have htl : l.getD j 0 ∈ l := by rw [gd j hj]; exact List.getElem_mem _
    have htm := (hmem _).mp htl
    have htq := (hq _ htl).mp c3
    have tq : qRd S.2.1 s k i (l.getD j 0) := ⟨⟨htm.2, htq.1⟩, htq.2⟩
    have tdom : ∀ n, n < S.1 → qRd S.2.1 s k i n → l.getD j 0 = n ∨ nwB S.2.1 (l.getD j 0) n = true := fun n hn hv => by
      obtain ⟨i2, h1, h2, h3⟩ := pos n hn hv
      rcases Nat.lt_trichotomy i2 j with e | e | e
      · exact absurd h3 (c4 i2 (by omega) e)
      · subst e; exact Or.inl h2
      · refine Or.inr ?_
        have hnl : n ∈ l := (hmem n).mpr ⟨hn, hv.1.1⟩
        rw [nwB_eq (h97 _ htl) (h97 _ hnl), ← h2, gd j hj, gd i2 h1]
        exact (List.pairwise_iff_getElem.mp hpw) j i2 hj h1 e
    simp only [Option.map_some]
    cases O with
    | none => exact ⟨Or.inr ⟨_, htm.1, tq, rfl⟩, fun n hn hv => ⟨_, rfl, tdom n hn hv⟩, fun n hn => by cases hn⟩
    | some o =>
      have ho := hO o rfl
      simp only [nfO]
      by_cases hn : nw7 S.2.1 (l.getD j 0) o = true
      · rw [if_pos hn]
        refine ⟨Or.inr ⟨_, htm.1, tq, rfl⟩, fun n hn hv => ⟨_, rfl, tdom n hn hv⟩, fun n e => ⟨_, rfl, ?_⟩⟩
        cases e
        rw [nwB_eq (h97 _ htl) ho]
        exact Or.inr hn
      · rw [if_neg hn]
        refine ⟨Or.inl rfl, fun n hn2 hv => ⟨o, rfl, ?_⟩, fun n e => ⟨n, e, Or.inl rfl⟩⟩
        have hto : o = l.getD j 0 ∨ nwB S.2.1 o (l.getD j 0) = true := by
          by_cases e : l.getD j 0 = o
          · exact Or.inl e.symm
          · rw [nwB_eq ho (h97 _ htl)]
            exact Or.inr (nw7_tot e hn)
        rcases tdom n hn2 hv with e | e
        · rw [← e]; exact hto
        · rcases hto with e2 | e2
          · rw [e2]; exact Or.inr e
          · exact Or.inr (nwB_tr e2 e)
theorem sn_up {N : Nat → Nat → Nat} {n i : Nat} (h97 : N 8 n = 1 → N 9 n = N 7 n) : upB N (clF 3 (N 17) i) n = true ↔ snF N n i := by
  unfold upB snF
  rw [decide_eq_true_eq]
  have e : ∀ p, p < 3 → tsF (N 8 n) (plT N n) (N 7 n) (fun p => N 2 (3 * n + p)) p = stF N n p := fun p hp => by
    rw [← ts_st h97 hp]
    unfold tsF
    by_cases q : N 8 n = 1 ∧ p = plT N n
    · rw [if_pos q, if_pos q]
    · rw [if_neg q, if_neg q]
      exact (if_pos hp).symm
  rw [e 0 (by decide), e 1 (by decide), e 2 (by decide)]
  rfl
theorem d26 {i k : Nat} (hi : i < 6) (hk : k < 8) (hm : S.1 ≤ 200) (hB : am_BN S.2.1) (h97 : ∀ n, n < S.1 → S.2.1 8 n = 1 → S.2.1 9 n = S.2.1 7 n) (h38 : ∀ s n, s < 6 → n < S.1 → S.2.1 11 (200 * s + n) = 3 → S.2.1 8 n = 1) (hO : ∀ n, S.2.2.2.1 (8 * i + k) = some n → n < S.1 ∧ S.2.1 8 n = 1) (hR : RC g h c X) (hSS : SS c X S T K) (hSC : SC X S T) (hQ : Q (some (va_rf ((rdR S i k).map T))) h) : am_R (d + 4) 26 0 [some (.ref c), some (.ref (c + 2 + 6 * i)), some (.int (nI k)), none, none, none] [] h Q := by
  have ho := oA0 hR
  have hoc := oC0 hi hR
  have hs : 2 * (i % 3) + k % 2 < 6 := by omega
  have hlen := K_len hs hSS
  have hSS0 := hSS
  obtain ⟨a1, a2, a3, a4, a5, a6, a7, a8, a9⟩ := hSS
  obtain ⟨k1, k2, k3, k4⟩ := a8 _ hs
  have hov := oV0 hs hR
  have eow : x_ow X i k = (S.2.2.2.1 (8 * i + k)).map T := by
    rw [hSC.2.2.2.2.1]
    simp only [if_pos (And.intro hi hk)]
  have esn : x_sn X i = clF 3 (S.2.1 17) i := by rw [hSC.2.2.2.1]
  have hsn : h.2.2 (c + 3 + 6 * i) = some (.inl (0, 3, .inl (fun p => nI (x_sn X i p)))) := kC1 hR i hi
  have hsb : ∀ p, x_sn X i p < 1000000 := fun p => by
    rw [esn]; unfold clF; split
    · exact hB _ _
    · decide
  have hK : ∀ j, j < x_kc X (2 * (i % 3) + k % 2) → x_kp X (2 * (i % 3) + k % 2) j = some (T ((K (2 * (i % 3) + k % 2)).getD j 0)) ∧ TrN h c S.2.1 S.2.2.1 T ((K (2 * (i % 3) + k % 2)).getD j 0) := fun j hj => by
    rw [k1] at hj
    exact ⟨k2 j hj, TrNH hR (a9 _ (K_n (N := S.2.1) hs hSS0 hj)).2⟩
  have hkc : x_kc X (2 * (i % 3) + k % 2) ≤ 200 := by omega
  have e2 : i % 3 * 2 + k % 2 = 2 * (i % 3) + k % 2 := by omega
  simp (disch := first | assumption | omega | exact am_isr_ref | exact am_isr_null | exact am_isr_rf | exact am_c1_int | exact am_c1_ref | exact am_c1_null | exact am_c1_rf | exact am_b0 | exact am_b1 | exact RM_obj (by assumption) | (simp only [ne_eq]; done) | exact am_nz2 | exact am_nz3 | exact am_nz6 | exact am_lt (hB _ _) | exact am_lt (stF_lt hB) | exact b32_01) only [e26_0, e26_1, e26_2, e26_5, e26_6, e26_7, e26_8, e26_11, e26_14, e26_15, e26_16, e26_17, e26_18, e26_21, e26_23, e26_25r, e26_25n, e26_25q, e26_28, e26_29, e26_32, e26_34, e26_35, e26_36, e26_39, d37t hi hk hR, gC0_0 hi hR, gC0_1 hi hR, d23, pk_rem (a := k) (d := 2) (by omega) (by decide) (by decide), nI_add, e2, d18t hs hR, d56 (K := fun j => (K (2 * (i % 3) + k % 2)).getD j 0) hs hk hR hB hsn hsb hkc hK, k1, eow, Option.toList_some, List.cons_append, List.nil_append]
  have key := nf_is (S := S) (l := K (2 * (i % 3) + k % 2)) (s := 2 * (i % 3) + k % 2) (k := k) (i := i) (O := S.2.2.2.1 (8 * i + k)) (q := fun n => decide (wF (S.2.1 4 n) k) && upB S.2.1 (x_sn X i) n) k3 k4 (fun n hn => h97 n ((k4 n).mp hn).1 (h38 _ n hs ((k4 n).mp hn).1 ((k4 n).mp hn).2)) (fun n hn => h97 n (hO n hn).1 (hO n hn).2) (fun n hn => by
    rw [Bool.and_eq_true, decide_eq_true_eq, esn, sn_up (h97 n ((k4 n).mp hn).1)])
  have e3 := isNw_u key (rb_nw (S := S) (c := i) (k := k) (s := 2 * (i % 3) + k % 2) S.1)
  have hQ : Q (some (va_rf ((nfO S.2.1 (S.2.2.2.1 (8 * i + k)) ((skF (fun j => decide (wF (S.2.1 4 ((K (2 * (i % 3) + k % 2)).getD j 0)) k) && upB S.2.1 (x_sn X i) ((K (2 * (i % 3) + k % 2)).getD j 0)) (K (2 * (i % 3) + k % 2)).length 0).map (fun j => (K (2 * (i % 3) + k % 2)).getD j 0))).map T))) h := by
    rw [e3]
    exact hQ
  cases hb : skF (fun j => decide (wF (S.2.1 4 ((K (2 * (i % 3) + k % 2)).getD j 0)) k) && upB S.2.1 (x_sn X i) ((K (2 * (i % 3) + k % 2)).getD j 0)) (K (2 * (i % 3) + k % 2)).length 0 with
  | none =>
    rw [hb] at hQ
    cases hown : S.2.2.2.1 (8 * i + k) with
    | none =>
      rw [hown] at hQ
      simp (disch := first | assumption | omega | exact am_isr_ref | exact am_isr_null | exact am_isr_rf | exact am_c1_int | exact am_c1_ref | exact am_c1_null | exact am_c1_rf | exact am_b0 | exact am_b1 | exact RM_obj (by assumption) | (simp only [ne_eq]; done) | exact am_nz2 | exact am_nz3 | exact am_nz6 | exact am_lt (hB _ _) | exact am_lt (stF_lt hB) | exact b32_01) only [e26_42, e26_44, e26_45r, e26_45n, e26_45q, e26_48, e26_50r, e26_50n, e26_50q, e26_53, e26_54r, e26_54n, e26_54q, e26_57, e26_59, e26_62, e26_63, Option.map_none, va_rf]
      exact hQ
    | some o =>
      rw [hown] at hQ
      simp (disch := first | assumption | omega | exact am_isr_ref | exact am_isr_null | exact am_isr_rf | exact am_c1_int | exact am_c1_ref | exact am_c1_null | exact am_c1_rf | exact am_b0 | exact am_b1 | exact RM_obj (by assumption) | (simp only [ne_eq]; done) | exact am_nz2 | exact am_nz3 | exact am_nz6 | exact am_lt (hB _ _) | exact am_lt (stF_lt hB) | exact b32_01) only [e26_42, e26_44, e26_45r, e26_45n, e26_45q, e26_48, e26_50r, e26_50n, e26_50q, e26_53, e26_54r, e26_54n, e26_54q, e26_57, e26_59, e26_62, e26_63, Option.map_none, Option.map_some, va_rf]
      exact hQ
  | some j =>
    rw [hb] at hQ
    cases hown : S.2.2.2.1 (8 * i + k) with
    | none =>
      rw [hown] at hQ
      simp (disch := first | assumption | omega | exact am_isr_ref | exact am_isr_null | exact am_isr_rf | exact am_c1_int | exact am_c1_ref | exact am_c1_null | exact am_c1_rf | exact am_b0 | exact am_b1 | exact RM_obj (by assumption) | (simp only [ne_eq]; done) | exact am_nz2 | exact am_nz3 | exact am_nz6 | exact am_lt (hB _ _) | exact am_lt (stF_lt hB) | exact b32_01) only [e26_42, e26_44, e26_45r, e26_45n, e26_45q, e26_48, e26_50r, e26_50n, e26_50q, e26_53, e26_54r, e26_54n, e26_54q, e26_57, e26_59, e26_62, e26_63, Option.map_none, Option.map_some, va_rf]
      exact hQ
    | some o =>
      rw [hown] at hQ
      have hj := skF_some _ _ _ hb
      have hjn := K_n (N := S.2.1) (i := j) hs hSS0 (by omega)
      have hon := (hO o hown).1
      have hT1 := TrNH hR (a9 _ hjn).2
      have hT2 := TrNH hR (a9 _ hon).2
      have hoT := oT hT1
      simp (disch := first | assumption | omega | exact am_isr_ref | exact am_isr_null | exact am_isr_rf | exact am_c1_int | exact am_c1_ref | exact am_c1_null | exact am_c1_rf | exact am_b0 | exact am_b1 | exact RM_obj (by assumption) | (simp only [ne_eq]; done) | exact am_nz2 | exact am_nz3 | exact am_nz6 | exact am_lt (hB _ _) | exact am_lt (stF_lt hB) | exact b32_01) only [e26_42, e26_44, e26_45r, e26_45n, e26_45q, e26_48, e26_50r, e26_50n, e26_50q, e26_53, e26_54r, e26_54n, e26_54q, e26_57, e26_59, e26_62, e26_63, e26_64, e26_66, e26_67, Option.map_some, va_rf, d62n hB hT1 hT2 (show (K (2 * (i % 3) + k % 2)).getD j 0 < 200 by omega) (show o < 200 by omega), Option.toList_some, List.cons_append, List.nil_append]
      simp only [Option.map_some, nfO] at hQ
      simp (disch := first | assumption | omega | exact am_isr_ref | exact am_isr_null | exact am_isr_rf | exact am_c1_int | exact am_c1_ref | exact am_c1_null | exact am_c1_rf | exact am_b0 | exact am_b1 | exact RM_obj (by assumption) | (simp only [ne_eq]; done) | exact am_nz2 | exact am_nz3 | exact am_nz6 | exact am_lt (hB _ _) | exact am_lt (stF_lt hB) | exact b32_01) only [e26_70, b32_q0]
      by_cases hn : nw7 S.2.1 ((K (2 * (i % 3) + k % 2)).getD j 0) o = true
      · rw [if_pos hn] at hQ
        rw [if_neg (fun q => q hn)]
        simp (disch := first | assumption | omega | exact am_isr_ref | exact am_isr_null | exact am_isr_rf | exact am_c1_int | exact am_c1_ref | exact am_c1_null | exact am_c1_rf | exact am_b0 | exact am_b1 | exact RM_obj (by assumption) | (simp only [ne_eq]; done) | exact am_nz2 | exact am_nz3 | exact am_nz6 | exact am_lt (hB _ _) | exact am_lt (stF_lt hB) | exact b32_01) only [e26_73, e26_75, e26_78, e26_79]
        exact hQ
      · rw [if_neg hn] at hQ
        rw [if_pos hn]
        simp (disch := first | assumption | omega | exact am_isr_ref | exact am_isr_null | exact am_isr_rf | exact am_c1_int | exact am_c1_ref | exact am_c1_null | exact am_c1_rf | exact am_b0 | exact am_b1 | exact RM_obj (by assumption) | (simp only [ne_eq]; done) | exact am_nz2 | exact am_nz3 | exact am_nz6 | exact am_lt (hB _ _) | exact am_lt (stF_lt hB) | exact b32_01) only [e26_78, e26_79]
        exact hQ
theorem SS_V {k e : Nat} {v : Int32} (hk : ¬ k = 5) (h : SS c X S T K) : SS c X (setV S k e v) T K := SS_cg (S := S) rfl (fun _ _ _ _ _ _ _ => rfl) (u2_n (fun q => hk q.symm)) h
theorem SC_lr {i : Nat} {v : Int32} (h : SC X S T) : SC (xs_lr X (va_up (x_lr X) i v)) (setV S 21 i v) T := by
  obtain ⟨b1, b2, b3, b4, b5, b6, b7⟩ := h
  have e20 : (setV S 21 i v).2.2.1 20 = S.2.2.1 20 := sV_n (by decide)
  have e21 : (setV S 21 i v).2.2.1 21 = va_up (S.2.2.1 21) i v := sV_s
  refine ⟨b1, b2, ?_, b4, b5, b6, ?_⟩
  · rw [e21, ← b3]
  · rw [e20]; exact b7
theorem d3 {i k : Nat} (hi : i < 6) (hk : k < 8) (hm : S.1 ≤ 200) (hB : am_BN S.2.1) (h15 : S.2.1 15 i < 3) (h97 : ∀ n, n < S.1 → S.2.1 8 n = 1 → S.2.1 9 n = S.2.1 7 n) (h38 : ∀ s n, s < 6 → n < S.1 → S.2.1 11 (200 * s + n) = 3 → S.2.1 8 n = 1) (hO : ∀ n, S.2.2.2.1 (8 * i + k) = some n → n < S.1 ∧ S.2.1 8 n = 1) (h5 : ∀ n, n < S.1 → ¬ wF (S.2.1 4 n) k → S.2.2.1 5 (8 * n + k) = nI 0) (hR : RC g h c X) (hSS : SS c X S T K) (hSC : SC X S T) (hSL : SL X S.2.2.2.2 LL tg) (hQ : OutQ g c T h X (if S.2.1 15 i = 1 then readF S i k else S) (fun h1 => Q (some (.int (if S.2.1 15 i = 1 then readA S i k else -1))) h1)) : am_R (d + 5) 3 0 [some (.ref c), some (.int (nI i)), some (.int (nI k)), none, none] [] h Q := by
  have ho := oA0 hR
  have hdg : x_dg X i = S.2.1 15 i := congrFun hSC.1 i
  have hw : Wr h (c + 5 + 6 * i) (x_hs X i) (x_iv X i) := WrC hi hR (fun k => by rw [hSC.2.2.2.2.2.1]; exact Nat.mod_lt _ (by decide))
  have how := oW hw
  have hd3 : x_dg X i < 3 := by rw [hdg]; exact h15
  have ehs : x_hs X i k = S.2.1 19 i / 2 ^ k % 2 := by rw [hSC.2.2.2.2.2.1]
  have eiv : x_iv X i k = if wF (S.2.1 19 i) k then S.2.2.1 20 (8 * i + k) else nI 0 := by rw [hSC.2.2.2.2.2.2]
  by_cases hop : S.2.1 15 i = 1
  · rw [if_pos hop, if_pos hop] at hQ
    have hdo : x_dg X i = 1 := by rw [hdg]; exact hop
    unfold readF readA at hQ
    simp (disch := first | assumption | omega | exact am_isr_ref | exact am_isr_null | exact am_isr_rf | exact am_c1_int | exact am_c1_ref | exact am_c1_null | exact am_c1_rf | exact am_b0 | exact am_b1 | exact RM_obj (by assumption) | (simp only [ne_eq]; done) | exact am_nz2 | exact am_nz3 | exact am_nz6 | exact am_lt (hB _ _) | exact am_lt (stF_lt hB) | exact b32_01) only [e3_0, e3_1, e3_2, e3_5, e3_6, e3_7r, e3_7n, e3_7q, e3_10, e3_11, e3_14, e3_17, e3_18, e3_19, e3_20, e3_23, e3_24, d17t hi hR hd3, if_pos hdo, d22t hk, if_pos (show ¬ nI 1 = 0 by decide), gC0_3 hi hR, d67t hk hw, Option.toList_some, List.cons_append, List.nil_append]
    simp (disch := first | assumption | omega | exact am_isr_ref | exact am_isr_null | exact am_isr_rf | exact am_c1_int | exact am_c1_ref | exact am_c1_null | exact am_c1_rf | exact am_b0 | exact am_b1 | exact RM_obj (by assumption) | (simp only [ne_eq]; done) | exact am_nz2 | exact am_nz3 | exact am_nz6 | exact am_lt (hB _ _) | exact am_lt (stF_lt hB) | exact b32_01) only [e3_27, b32_q0]
    rw [ehs]
    by_cases hhas : wF (S.2.1 19 i) k
    · rw [if_neg (fun q => q hhas)]
      rw [if_pos hhas, if_pos hhas] at hQ
      simp (disch := first | assumption | omega | exact am_isr_ref | exact am_isr_null | exact am_isr_rf | exact am_c1_int | exact am_c1_ref | exact am_c1_null | exact am_c1_rf | exact am_b0 | exact am_b1 | exact RM_obj (by assumption) | (simp only [ne_eq]; done) | exact am_nz2 | exact am_nz3 | exact am_nz6 | exact am_lt (hB _ _) | exact am_lt (stF_lt hB) | exact b32_01) only [e3_30, e3_31, e3_32, e3_35, e3_36, e3_39, gC0_3 hi hR, d68t hk hw, Option.toList_some, List.cons_append, List.nil_append]
      rw [ehs, if_pos hhas, eiv, if_pos hhas]
      refine pC0_lr hi hR (fun h1 g1 g2 hR1 => ?_)
      simp (disch := first | assumption | omega | exact am_isr_ref | exact am_isr_null | exact am_isr_rf | exact am_c1_int | exact am_c1_ref | exact am_c1_null | exact am_c1_rf | exact am_b0 | exact am_b1 | exact RM_obj (by assumption) | (simp only [ne_eq]; done) | exact am_nz2 | exact am_nz3 | exact am_nz6 | exact am_lt (hB _ _) | exact am_lt (stF_lt hB) | exact b32_01) only [e3_42, e3_44]
      exact hQ h1 _ K LL tg (by omega) (by omega) (by omega) hR1 (SS_V (by decide) hSS) (SC_lr hSC) (SL_cg rfl rfl rfl (fun b e q _ => q) hSL) Xm_rf
    · rw [if_pos hhas]
      rw [if_neg hhas, if_neg hhas] at hQ
      simp (disch := first | assumption | omega | exact am_isr_ref | exact am_isr_null | exact am_isr_rf | exact am_c1_int | exact am_c1_ref | exact am_c1_null | exact am_c1_rf | exact am_b0 | exact am_b1 | exact RM_obj (by assumption) | (simp only [ne_eq]; done) | exact am_nz2 | exact am_nz3 | exact am_nz6 | exact am_lt (hB _ _) | exact am_lt (stF_lt hB) | exact b32_01) only [e3_45, e3_46, e3_47, e3_48]
      refine d26 hi hk hm hB h97 h38 hO hR hSS hSC ?_
      cases hr : rdR S i k with
      | none =>
        rw [hr] at hQ
        simp (disch := first | assumption | omega | exact am_isr_ref | exact am_isr_null | exact am_isr_rf | exact am_c1_int | exact am_c1_ref | exact am_c1_null | exact am_c1_rf | exact am_b0 | exact am_b1 | exact RM_obj (by assumption) | (simp only [ne_eq]; done) | exact am_nz2 | exact am_nz3 | exact am_nz6 | exact am_lt (hB _ _) | exact am_lt (stF_lt hB) | exact b32_01) only [e3_51, e3_53, e3_55r, e3_55n, e3_55q, e3_58, e3_59, Option.map_none, va_rf, Option.toList_some, List.cons_append, List.nil_append]
        rw [e3_60]
        refine pC0_lr hi hR (fun h1 g1 g2 hR1 => ?_)
        simp (disch := first | assumption | omega | exact am_isr_ref | exact am_isr_null | exact am_isr_rf | exact am_c1_int | exact am_c1_ref | exact am_c1_null | exact am_c1_rf | exact am_b0 | exact am_b1 | exact RM_obj (by assumption) | (simp only [ne_eq]; done) | exact am_nz2 | exact am_nz3 | exact am_nz6 | exact am_lt (hB _ _) | exact am_lt (stF_lt hB) | exact b32_01) only [e3_63, e3_65]
        exact hQ h1 _ K LL tg (by omega) (by omega) (by omega) hR1 (SS_V (by decide) hSS) (SC_lr hSC) (SL_cg rfl rfl rfl (fun b e q _ => q) hSL) Xm_rf
      | some n =>
        rw [hr] at hQ
        have hn : n < S.1 := by
          have := (rb_nw (S := S) (c := i) (k := k) (s := 2 * (i % 3) + k % 2) S.1).1
          rcases this with e | ⟨n2, e1, e2, e3⟩
          · exact (hO n (e.symm.trans hr)).1
          · have e4 : some n = some n2 := hr.symm.trans e3
            cases e4
            exact e1
        have hTn := (hSS.2.2.2.2.2.2.2.2 n hn).2
        have hT := TrNH hR hTn
        have hoT := oW hT.2.2.1
        simp (disch := first | assumption | omega | exact am_isr_ref | exact am_isr_null | exact am_isr_rf | exact am_c1_int | exact am_c1_ref | exact am_c1_null | exact am_c1_rf | exact am_b0 | exact am_b1 | exact RM_obj (by assumption) | (simp only [ne_eq]; done) | exact am_nz2 | exact am_nz3 | exact am_nz6 | exact am_lt (hB _ _) | exact am_lt (stF_lt hB) | exact b32_01) only [e3_51, e3_53, e3_55r, e3_55n, e3_55q, e3_58, e3_59, e3_60, e3_63, e3_65, e3_66, e3_67, e3_69, e3_72, e3_73, Option.map_some, va_rf, gT_5 hT, d68t hk hT.2.2.1, Option.toList_some, List.cons_append, List.nil_append]
        have e : (if S.2.1 4 n / 2 ^ k % 2 = 1 then vN S.2.2.1 n k else nI 0) = S.2.2.1 5 (8 * n + k) := by
          by_cases hw : wF (S.2.1 4 n) k
          · rw [if_pos hw]
            exact if_pos hk
          · rw [if_neg hw, h5 n hn hw]
        rw [e]
        simp (disch := first | assumption | omega | exact am_isr_ref | exact am_isr_null | exact am_isr_rf | exact am_c1_int | exact am_c1_ref | exact am_c1_null | exact am_c1_rf | exact am_b0 | exact am_b1 | exact RM_obj (by assumption) | (simp only [ne_eq]; done) | exact am_nz2 | exact am_nz3 | exact am_nz6 | exact am_lt (hB _ _) | exact am_lt (stF_lt hB) | exact b32_01) only [e3_76]
        refine pC0_lr hi hR (fun h1 g1 g2 hR1 => ?_)
        have hT1 := TrNH hR1 (show TrN (yH (xs_lr X (va_up (x_lr X) i (S.2.2.1 5 (8 * n + k))))) c S.2.1 S.2.2.1 T n from hTn)
        simp (disch := first | assumption | omega | exact am_isr_ref | exact am_isr_null | exact am_isr_rf | exact am_c1_int | exact am_c1_ref | exact am_c1_null | exact am_c1_rf | exact am_b0 | exact am_b1 | exact RM_obj (by assumption) | (simp only [ne_eq]; done) | exact am_nz2 | exact am_nz3 | exact am_nz6 | exact am_lt (hB _ _) | exact am_lt (stF_lt hB) | exact b32_01) only [e3_79, e3_81, e3_84, gT_0 hT1]
        exact hQ h1 _ K LL tg (by omega) (by omega) (by omega) hR1 (SS_V (by decide) hSS) (SC_lr hSC) (SL_cg rfl rfl rfl (fun b e q _ => q) hSL) Xm_rf
  · rw [if_neg hop, if_neg hop] at hQ
    have hdo : ¬ x_dg X i = 1 := by rw [hdg]; exact hop
    simp (disch := first | assumption | omega | exact am_isr_ref | exact am_isr_null | exact am_isr_rf | exact am_c1_int | exact am_c1_ref | exact am_c1_null | exact am_c1_rf | exact am_b0 | exact am_b1 | exact RM_obj (by assumption) | (simp only [ne_eq]; done) | exact am_nz2 | exact am_nz3 | exact am_nz6 | exact am_lt (hB _ _) | exact am_lt (stF_lt hB) | exact b32_01) only [e3_0, e3_1, e3_2, e3_5, e3_6, e3_7r, e3_7n, e3_7q, e3_10, e3_11, e3_14, e3_17, e3_18, d17t hi hR hd3, if_neg hdo, Option.toList_some, List.cons_append, List.nil_append]
    exact hQ h X K LL tg (by omega) (by omega) (by omega) hR hSS hSC hSL Xm_rf
theorem d3f {x y : Int32} (hc : (x < 0 ∨ nI 6 ≤ x) ∨ (y < 0 ∨ nI 8 ≤ y)) (h15 : ∀ i, i < 6 → S.2.1 15 i < 3) (hR : RC g h c X) (hSC : SC X S T) (hQ : Q (some (.int (-1))) h) : am_R (d + 5) 3 0 [some (.ref c), some (.int x), some (.int y), none, none] [] h Q := by
  have ho := oA0 hR
  have out : (x < 0 ∨ nI 6 ≤ x) → am_R (d + 5) 3 0 [some (.ref c), some (.int x), some (.int y), none, none] [] h Q := fun hx => by
    simp (disch := first | assumption | omega | exact am_isr_ref | exact am_isr_null | exact am_isr_rf | exact am_c1_int | exact am_c1_ref | exact am_c1_null | exact am_c1_rf | exact am_b0 | exact am_b1 | exact RM_obj (by assumption) | (simp only [ne_eq]; done) | exact am_nz2 | exact am_nz3 | exact am_nz6 | exact am_lt (hB _ _) | exact am_lt (stF_lt hB) | exact b32_01) only [e3_0, e3_1, e3_2, e3_5, e3_6, e3_7r, e3_7n, e3_7q, e3_10, e3_11, e3_14, e3_17, e3_18, d17f hx hR, Option.toList_some, List.cons_append, List.nil_append]
    exact hQ
  rcases pk_ix x (n := 6) (by decide) with h1 | h1 | ⟨i, hi, rfl⟩
  · exact out (Or.inl h1)
  · exact out (Or.inr h1)
  · have hy : y < 0 ∨ nI 8 ≤ y := by
      rcases hc with (q | q) | q
      · exact absurd q (nI_pos (by omega))
      · have := (nI_leI (by decide) (by omega)).mp q
        omega
      · exact q
    have hd3 : x_dg X i < 3 := by rw [hSC.1]; exact h15 i hi
    by_cases hdo : x_dg X i = 1
    · simp (disch := first | assumption | omega | exact am_isr_ref | exact am_isr_null | exact am_isr_rf | exact am_c1_int | exact am_c1_ref | exact am_c1_null | exact am_c1_rf | exact am_b0 | exact am_b1 | exact RM_obj (by assumption) | (simp only [ne_eq]; done) | exact am_nz2 | exact am_nz3 | exact am_nz6 | exact am_lt (hB _ _) | exact am_lt (stF_lt hB) | exact b32_01) only [e3_0, e3_1, e3_2, e3_5, e3_6, e3_7r, e3_7n, e3_7q, e3_10, e3_11, e3_14, e3_17, e3_18, d17t hi hR hd3, if_pos hdo, d22f hy, Option.toList_some, List.cons_append, List.nil_append, if_neg (show ¬ ¬ nI 0 = 0 by decide)]
      exact hQ
    · simp (disch := first | assumption | omega | exact am_isr_ref | exact am_isr_null | exact am_isr_rf | exact am_c1_int | exact am_c1_ref | exact am_c1_null | exact am_c1_rf | exact am_b0 | exact am_b1 | exact RM_obj (by assumption) | (simp only [ne_eq]; done) | exact am_nz2 | exact am_nz3 | exact am_nz6 | exact am_lt (hB _ _) | exact am_lt (stF_lt hB) | exact b32_01) only [e3_0, e3_1, e3_2, e3_5, e3_6, e3_7r, e3_7n, e3_7q, e3_10, e3_11, e3_14, e3_17, e3_18, d17t hi hR hd3, if_neg hdo, Option.toList_some, List.cons_append, List.nil_append]
      exact hQ
end RD2
