/-! the law -/
section LAW
variable {d c b L : Nat} {xs : Nat → Int32} {Q : Option Value → aH → Prop}
theorem and15 (x : Int32) : ∃ j : Nat, j < 16 ∧ x &&& nI 15 = nI j := pk_andE x 4 (by decide +kernel)
theorem lw_loop (hL : L ≤ 2048) (hQ : ∀ (k : Nat) (h : aH), 4 * k ≤ L → LWx c b L xs k h → Q (some (.int (nI 1))) h) : ∀ t k (h : aH), L < 4 * (k + t) + 4 → 4 * k ≤ L → LWx c b L xs k h → am_R (d + 20) 0 18 [some (.ref b), some (.ref c), some (.ref (c + 95)), some (.int (nI (4 * k)))] [] h Q := by
  intro t
  induction t with
  | zero =>
    intro k h ht hk hW
    have hsc : h.2.2 b = some (.inl (9, L, .inl xs)) := by
      obtain ⟨S, X, T, K, LL, tg, pa, pl, P, hW0, _⟩ := hW
      exact hW0.2.2.2.1
    have ex : nI L - nI 4 < nI (4 * k) := by
      by_cases q : 4 ≤ L
      · rw [pk_sub q]
        exact nI_lt (by omega) (by omega)
      · exact Int32.lt_of_lt_of_le (pk_sneg (by decide) (by omega)) (nI_pos' (by omega))
    rw [e0_18]
    simp (disch := first | assumption | omega | exact am_isr_ref | exact am_isr_null | exact am_isr_rf | exact am_c1_int | exact am_c1_ref | exact am_c1_null | exact am_c1_rf | exact am_b0 | exact am_b1 | exact RM_obj (by assumption) | (simp only [ne_eq]; done) | exact am_nz2 | exact am_nz3 | exact am_nz6 | exact am_lt (hB _ _) | exact am_lt (stF_lt hB) | exact b32_01) only [e0_19, e0_20, e0_21, e0_22, am_gl_of hsc]
    rw [e0_23, if_pos ex, e0_552, e0_553 am_b1]
    exact hQ k h hk hW
  | succ t ih =>
    intro k h ht hk hW
    have hsc : h.2.2 b = some (.inl (9, L, .inl xs)) := by
      obtain ⟨S, X, T, K, LL, tg, pa, pl, P, hW0, _⟩ := hW
      exact hW0.2.2.2.1
    by_cases q4 : 4 * k + 4 ≤ L
    · have hn : ∀ h2, LWx c b L xs (k + 1) h2 → am_R (d + 20) 0 546 [some (.ref b), some (.ref c), some (.ref (c + 95)), some (.int (nI (4 * k)))] [] h2 Q := fun h2 hW2 => by
        rw [e0_546, nI_add, e0_549]
        exact ih (k + 1) h2 (by omega) (by omega) hW2
      have rd : ∀ F : Int32 → Prop, am_ga h b (nI (4 * k)) F = F (xs (4 * k)) := fun F => by
        rw [am_ga_of hsc (Or.inr rfl) (am_in_nI (by omega) (by omega)), nI_clamp (by omega)]
      have ex : ¬ nI L - nI 4 < nI (4 * k) := by
        rw [pk_sub (by omega)]
        exact nI_nlt (by omega) (by omega)
      rw [e0_18]
      simp (disch := first | assumption | omega | exact am_isr_ref | exact am_isr_null | exact am_isr_rf | exact am_c1_int | exact am_c1_ref | exact am_c1_null | exact am_c1_rf | exact am_b0 | exact am_b1 | exact RM_obj (by assumption) | (simp only [ne_eq]; done) | exact am_nz2 | exact am_nz3 | exact am_nz6 | exact am_lt (hB _ _) | exact am_lt (stF_lt hB) | exact b32_01) only [e0_19, e0_20, e0_21, e0_22, am_gl_of hsc]
      rw [e0_23, if_neg ex]
      simp (disch := first | assumption | omega | exact am_isr_ref | exact am_isr_null | exact am_isr_rf | exact am_c1_int | exact am_c1_ref | exact am_c1_null | exact am_c1_rf | exact am_b0 | exact am_b1 | exact RM_obj (by assumption) | (simp only [ne_eq]; done) | exact am_nz2 | exact am_nz3 | exact am_nz6 | exact am_lt (hB _ _) | exact am_lt (stF_lt hB) | exact b32_01) only [e0_26, e0_27, e0_28, e0_29, e0_31, rd]
      obtain ⟨j, hj, hx⟩ := and15 (xs (4 * k))
      rw [hx, e0_32]
      have hne : ∀ a, a < 16 → ¬ j = a → ¬ nI j = nI a := fun a ha h q => h ((nI_eq (by omega) (by omega)).mp q)
      have : j = 0 ∨ j = 1 ∨ j = 2 ∨ j = 3 ∨ j = 4 ∨ j = 5 ∨ j = 6 ∨ j = 7 ∨ j = 8 ∨ j = 9 ∨ j = 10 ∨ j = 11 ∨ j = 12 ∨ j = 13 ∨ j = 14 ∨ j = 15 := by omega
      rcases this with e | e | e | e | e | e | e | e | e | e | e | e | e | e | e | e <;> subst e
      · rw [if_pos (by decide)]
        exact kz0 hL q4 hW hn
      · rw [if_neg (by decide), if_pos (by decide)]
        exact kz1 hL q4 hW hn
      · rw [if_neg (by decide), if_neg (by decide), if_pos (by decide)]
        exact kz2 hL q4 hW hn
      · rw [if_neg (by decide), if_neg (by decide), if_neg (by decide), if_pos (by decide)]
        exact kz3 hL q4 hW hn
      · rw [if_neg (by decide), if_neg (by decide), if_neg (by decide), if_neg (by decide), if_pos (by decide)]
        exact kz4 hL q4 hW hn
      · rw [if_neg (by decide), if_neg (by decide), if_neg (by decide), if_neg (by decide), if_neg (by decide), if_pos (by decide)]
        exact kz5 hL q4 hW hn
      · rw [if_neg (by decide), if_neg (by decide), if_neg (by decide), if_neg (by decide), if_neg (by decide), if_neg (by decide), if_pos (by decide)]
        exact kz6 hL q4 hW hn
      · rw [if_neg (by decide), if_neg (by decide), if_neg (by decide), if_neg (by decide), if_neg (by decide), if_neg (by decide), if_neg (by decide), if_pos (by decide)]
        exact kz7 hL q4 hW hn
      · rw [if_neg (by decide), if_neg (by decide), if_neg (by decide), if_neg (by decide), if_neg (by decide), if_neg (by decide), if_neg (by decide), if_neg (by decide), if_pos (by decide)]
        exact kz8 hL q4 hW hn
      · rw [if_neg (by decide), if_neg (by decide), if_neg (by decide), if_neg (by decide), if_neg (by decide), if_neg (by decide), if_neg (by decide), if_neg (by decide), if_neg (by decide), if_pos (by decide)]
        exact kz9 hL q4 hW hn
      · rw [if_neg (by decide), if_neg (by decide), if_neg (by decide), if_neg (by decide), if_neg (by decide), if_neg (by decide), if_neg (by decide), if_neg (by decide), if_neg (by decide), if_neg (by decide), if_pos (by decide)]
        exact kz10 hL q4 hW hn
      · rw [if_neg (by decide), if_neg (by decide), if_neg (by decide), if_neg (by decide), if_neg (by decide), if_neg (by decide), if_neg (by decide), if_neg (by decide), if_neg (by decide), if_neg (by decide), if_neg (by decide), if_pos (by decide)]
        exact kz11 hL q4 hW hn
      · rw [if_neg (by decide), if_neg (by decide), if_neg (by decide), if_neg (by decide), if_neg (by decide), if_neg (by decide), if_neg (by decide), if_neg (by decide), if_neg (by decide), if_neg (by decide), if_neg (by decide), if_neg (by decide), if_pos (by decide)]
        exact kz12 hL q4 hW hn
      · rw [if_neg (by decide), if_neg (by decide), if_neg (by decide), if_neg (by decide), if_neg (by decide), if_neg (by decide), if_neg (by decide), if_neg (by decide), if_neg (by decide), if_neg (by decide), if_neg (by decide), if_neg (by decide), if_neg (by decide), if_pos (by decide)]
        exact kz13 hL q4 hW hn
      · have hW2 : LWx c b L xs (k + 1) h := by
          obtain ⟨S, X, T, K, LL, tg, pa, pl, P, hW0, a1, a2, a3, a4, a5, a6⟩ := hW
          exact ⟨S, X, T, K, LL, tg, pa, pl, P, hW0, a1, a2, a3, INV_b (by omega) a4, by omega, by omega⟩
        rw [if_neg (by decide), if_neg (by decide), if_neg (by decide), if_neg (by decide), if_neg (by decide), if_neg (by decide), if_neg (by decide), if_neg (by decide), if_neg (by decide), if_neg (by decide), if_neg (by decide), if_neg (by decide), if_neg (by decide), if_neg (by decide)]
        exact hn h hW2
      · have hW2 : LWx c b L xs (k + 1) h := by
          obtain ⟨S, X, T, K, LL, tg, pa, pl, P, hW0, a1, a2, a3, a4, a5, a6⟩ := hW
          exact ⟨S, X, T, K, LL, tg, pa, pl, P, hW0, a1, a2, a3, INV_b (by omega) a4, by omega, by omega⟩
        rw [if_neg (by decide), if_neg (by decide), if_neg (by decide), if_neg (by decide), if_neg (by decide), if_neg (by decide), if_neg (by decide), if_neg (by decide), if_neg (by decide), if_neg (by decide), if_neg (by decide), if_neg (by decide), if_neg (by decide), if_neg (by decide)]
        exact hn h hW2
    · have ex : nI L - nI 4 < nI (4 * k) := by
        by_cases q : 4 ≤ L
        · rw [pk_sub q]
          exact nI_lt (by omega) (by omega)
        · exact Int32.lt_of_lt_of_le (pk_sneg (by decide) (by omega)) (nI_pos' (by omega))
      rw [e0_18]
      simp (disch := first | assumption | omega | exact am_isr_ref | exact am_isr_null | exact am_isr_rf | exact am_c1_int | exact am_c1_ref | exact am_c1_null | exact am_c1_rf | exact am_b0 | exact am_b1 | exact RM_obj (by assumption) | (simp only [ne_eq]; done) | exact am_nz2 | exact am_nz3 | exact am_nz6 | exact am_lt (hB _ _) | exact am_lt (stF_lt hB) | exact b32_01) only [e0_19, e0_20, e0_21, e0_22, am_gl_of hsc]
      rw [e0_23, if_pos ex, e0_552, e0_553 am_b1]
      exact hQ k h hk hW
theorem INV_0 : INV S0 0 1000 := by
  have nk0 : ∀ s, nkF S0 s = 0 := fun s => rfl
  refine ⟨⟨⟨Nat.zero_le _, Nat.le_refl _⟩, fun _ _ => Nat.zero_le _, fun _ => Nat.zero_lt_succ _, fun _ _ => rfl, fun _ => Nat.zero_lt_succ _, fun _ => Nat.zero_lt_succ _, fun _ _ => rfl, fun n hn => absurd hn (Nat.not_lt_zero n), fun n hn => absurd hn (Nat.not_lt_zero n), fun _ => Nat.zero_lt_succ _, fun _ _ _ _ _ => rfl, fun n hn => absurd hn (Nat.not_lt_zero n), fun e n he ho => ?_, fun e n ho => ?_, fun n _ hn => absurd hn (Nat.not_lt_zero n), fun s n _ _ h => ?_, fun n hn => absurd hn (Nat.not_lt_zero n), fun n _ hn => absurd hn (Nat.not_lt_zero n)⟩, ⟨fun f t _ _ => ⟨fun _ => ?_, fun _ => Nat.le_refl _⟩, ?_⟩, fun q hq => (by cases hq), fun n hn => absurd hn (Nat.not_lt_zero n)⟩
  · have ho : Oi 48 e = some n := ho
    unfold Oi at ho
    rw [if_pos he] at ho
    cases ho
  · have ho : Oi 48 e = some n := ho
    unfold Oi at ho
    split at ho
    · cases ho
    · cases ho; decide
  · rcases h with h | h
    · exact absurd (show (0 : Nat) = 1 from h) (by decide)
    · exact absurd (show (0 : Nat) = 2 from h) (by decide)
  · rw [nk0]; exact Nat.le_refl _
  · unfold nkS
    rw [nk0, nk0, nk0, nk0, nk0, nk0]
    exact Nat.le_refl _
theorem am_law : am_Law := by
  intro base b L xs hb hL
  show am_R (19 + 1 + 20) 0 0 _ _ _ _
  rw [e0_0]
  have c0 : (am_h0 base b L xs).1 = base := rfl
  rw [c0]
  have hh1 : (am_nw (am_h0 base b L xs) 5 (.inr (0, am_df 0))).1 = base + 1 := rfl
  have hh2 : (am_nw (am_h0 base b L xs) 5 (.inr (0, am_df 0))).2.1 = 5 := rfl
  have hh3 : (am_nw (am_h0 base b L xs) 5 (.inr (0, am_df 0))).2.2 base = some (.inr (0, am_df 0)) := if_pos rfl
  have hh4 : (am_nw (am_h0 base b L xs) 5 (.inr (0, am_df 0))).2.2 b = some (.inl (9, L, .inl xs)) := by
    show (if b = base then _ else (if b = b then _ else _)) = _
    rw [if_neg (by omega), if_pos rfl]
  generalize am_nw (am_h0 base b L xs) 5 (.inr (0, am_df 0)) = h at hh1 hh2 hh3 hh4 ⊢
  rw [e0_3 am_c1_ref, e0_4 am_c1_ref]
  refine d1 (g := fun a => if a = b then some (.inl (9, L, .inl xs)) else none) hh1 hh3 (fun a e ha => ?_) (fun h1 s1 s2 hR => ?_)
  · by_cases q : a = b
    · rw [if_pos q] at ha
      rw [q, hh4]
      exact ⟨ha, hb⟩
    · rw [if_neg q] at ha
      cases ha
  have kb : h1.2.2 b = some (.inl (9, L, .inl xs)) := (hR.2.2.2.2.2.2.2.2.2.2.2.2.2.2.2.2.2.2.2.1 b _ (if_pos rfl)).1
  simp only [Option.toList_none, List.nil_append]
  rw [e0_7 am_isr_ref, e0_8, s1]
  have n1 : (am_nw h1 24 (.inr (7, am_df 7))).1 = base + 95 + 1 := by show h1.1 + 1 = _; omega
  have n2 : (am_nw h1 24 (.inr (7, am_df 7))).2.1 = h1.2.1 + 24 := rfl
  have n3 : (am_nw h1 24 (.inr (7, am_df 7))).2.2 (base + 95) = some (.inr (7, am_df 7)) := by
    show (if base + 95 = h1.1 then _ else _) = _
    rw [if_pos s1.symm]
  have n4 : ∀ a, a < base + 95 → (am_nw h1 24 (.inr (7, am_df 7))).2.2 a = h1.2.2 a := fun a ha => by
    show (if a = h1.1 then _ else _) = _
    rw [if_neg (by omega)]
  generalize am_nw h1 24 (.inr (7, am_df 7)) = h2 at n1 n2 n3 n4 ⊢
  rw [e0_11 am_c1_ref, e0_12 am_c1_ref]
  refine c71 (g := gCf b base X0 h1) n3 n1 (fun a e ha => ?_) (fun h3 s3 s4 hM => ?_)
  · unfold gCf at ha
    by_cases q : a = b ∨ (base ≤ a ∧ a < base + 95) ∨ (x_Y X0 a).isSome = true
    · rw [if_pos q] at ha
      have hlt : a < base + 95 := by
        rcases q with q | q | q
        · omega
        · omega
        · cases q
      exact ⟨(n4 a hlt).trans ha, hlt⟩
    · rw [if_neg q] at ha
      cases ha
  simp only [Option.toList_none, List.nil_append]
  rw [e0_15 am_isr_ref, e0_16, e0_17]
  obtain ⟨pa, P, hLW⟩ := toLW (L := L) (xs := xs) hR kb hb (by omega) hM
  have hSS : SS base X0 S0 (fun _ => 0) (fun _ => []) := by
    refine ⟨rfl, rfl, ?_, ?_, ?_, fun s n _ _ h => ?_, fun _ _ => (by show (0 : Nat) < 1000000; decide), fun s hs => ⟨rfl, fun i hi => absurd hi (Nat.not_lt_zero i), List.Pairwise.nil, fun n => ⟨fun w => (by cases w), fun w => absurd w.1 (Nat.not_lt_zero n)⟩⟩, fun n hn => absurd hn (Nat.not_lt_zero n)⟩
    · funext i p; show (0 : Nat) = if p < 3 then 0 else 0; split <;> rfl
    · funext i p; show (0 : Nat) = if p < 3 then 0 else 0; split <;> rfl
    · funext i p; show (0 : Nat) = if p < 200 then 0 else 0; split <;> rfl
    · rcases h with h | h
      · exact absurd (show (0 : Nat) = 1 from h) (by decide)
      · exact absurd (show (0 : Nat) = 2 from h) (by decide)
  have hSC : SC X0 S0 (fun _ => 0) := by
    refine ⟨rfl, rfl, rfl, ?_, ?_, ?_, ?_⟩
    · funext i p; show (0 : Nat) = if p < 3 then 0 else 0; split <;> rfl
    · funext i j
      show none = Option.map _ (if i < 6 ∧ j < 8 then Oi 48 (8 * i + j) else none)
      by_cases q : i < 6 ∧ j < 8
      · rw [if_pos q]
        unfold Oi
        rw [if_pos (by omega)]
        rfl
      · rw [if_neg q]; rfl
    · funext i j; show (0 : Nat) = 0 / 2 ^ j % 2; rw [Nat.zero_div]
    · funext i j; show (0 : Int32) = if wF 0 j then 0 else nI 0
      by_cases q : wF 0 j
      · rw [if_pos q]
      · rw [if_neg q]; exact nI_0.symm
  have hSL : SL X0 S0.2.2.2.2 [] (fun _ => 0) := by
    refine ⟨rfl, fun l hl hk => ⟨rfl, rfl, rfl, True.intro, List.Pairwise.nil, fun x hx => (by cases hx)⟩, fun z hz => (by cases hz)⟩
  have hx : LWx base b L xs 0 h3 := ⟨S0, X0, fun _ => 0, fun _ => [], [], fun _ => 0, pa, 448, P, hLW, hSS, hSC, hSL, INV_0, by omega, by omega⟩
  have e0 : nI 0 = nI (4 * 0) := rfl
  rw [e0]
  refine lw_loop hL (fun k h4 hk hW => ?_) (L + 1) 0 h3 (by omega) (by omega) hx
  obtain ⟨S, X, T, K, LL, tg, pa2, pl, P2, hW0, _, _, _, _, a5, a6⟩ := hW
  have hpl : pl ≤ 200000 := hW0.2.2.1.2.2.2
  exact ⟨rfl, by omega, by omega⟩
end LAW
