/-! version and read: what is found in the row kept newest first is what the reference finds -/
abbrev N97 (N : Nat → Nat → Nat) : Nat → Nat → Nat := fun k => if k = 7 then N 9 else N k
theorem nwB_7 {N : Nat → Nat → Nat} {a b : Nat} : nwB N a b = nw7 (N97 N) a b := rfl
theorem nwB_tot {N : Nat → Nat → Nat} {a b : Nat} (h : ¬ a = b) (h2 : ¬ nwB N a b = true) : nwB N b a = true := nw7_tot (N := N97 N) h h2
theorem nwB_tr {N : Nat → Nat → Nat} {a b e : Nat} (h : nwB N a b = true) (h2 : nwB N b e = true) : nwB N a e = true := nw7_tr (N := N97 N) h h2
theorem nwB_ir {N : Nat → Nat → Nat} {a : Nat} : ¬ nwB N a a = true := nw7_ir (N := N97 N)
theorem nwB_eq {N : Nat → Nat → Nat} {a b : Nat} (ha : N 9 a = N 7 a) (hb : N 9 b = N 7 b) : nwB N a b = nw7 N a b := by
  unfold nwB nw7 tnB
  rw [ha, hb]
theorem svF_some {p : Nat → Bool} {x : Int32} : ∀ t i j, svF p x t i (cntF p i) = some j → i ≤ j ∧ j < i + t ∧ p j = true ∧ nI (cntF p j) = x := by
  intro t
  induction t with
  | zero => intro i j h; cases h
  | succ t ih =>
    intro i j h
    rw [svF] at h
    by_cases hp : p i = true
    · rw [if_pos hp] at h
      by_cases hx : nI (cntF p i) = x
      · rw [if_pos hx] at h
        cases h
        exact ⟨Nat.le_refl _, by omega, hp, hx⟩
      · rw [if_neg hx, show cntF p i + 1 = cntF p (i + 1) by rw [cntF, if_pos hp]] at h
        obtain ⟨a, b, e⟩ := ih (i + 1) j h
        exact ⟨by omega, by omega, e⟩
    · rw [if_neg hp, show cntF p i = cntF p (i + 1) by rw [cntF, if_neg hp]; rfl] at h
      obtain ⟨a, b, e⟩ := ih (i + 1) j h
      exact ⟨by omega, by omega, e⟩
theorem svF_none {p : Nat → Bool} {x : Int32} : ∀ t i, svF p x t i (cntF p i) = none → ∀ j, i ≤ j → j < i + t → p j = true → ¬ nI (cntF p j) = x := by
  intro t
  induction t with
  | zero => intro i _ j h1 h2; omega
  | succ t ih =>
    intro i h j h1 h2 hj
    rw [svF] at h
    by_cases hp : p i = true
    · rw [if_pos hp] at h
      by_cases hx : nI (cntF p i) = x
      · rw [if_pos hx] at h
        cases h
      · rw [if_neg hx, show cntF p i + 1 = cntF p (i + 1) by rw [cntF, if_pos hp]] at h
        by_cases e : j = i
        · rw [e]; exact hx
        · exact ih (i + 1) h j (by omega) (by omega) hj
    · rw [if_neg hp, show cntF p i = cntF p (i + 1) by rw [cntF, if_neg hp]; rfl] at h
      by_cases e : j = i
      · rw [e] at hj; exact absurd hj hp
      · exact ih (i + 1) h j (by omega) (by omega) hj
theorem vrF_some {S : aSt} {s k : Nat} {x : Int32} : ∀ t n m, vrF S s k x t n = some m → n ≤ m ∧ m < n + t ∧ hvF S.2.1 s m k ∧ nI (cntF (nvB S.2.1 s k m) S.1) = x := by
  intro t
  induction t with
  | zero => intro n m h; cases h
  | succ t ih =>
    intro n m h
    rw [vrF] at h
    by_cases hp : hvF S.2.1 s n k ∧ nI (cntF (nvB S.2.1 s k n) S.1) = x
    · rw [if_pos hp] at h
      cases h
      exact ⟨Nat.le_refl _, by omega, hp.1, hp.2⟩
    · rw [if_neg hp] at h
      obtain ⟨a, b, e⟩ := ih (n + 1) m h
      exact ⟨by omega, by omega, e⟩
theorem vrF_none {S : aSt} {s k : Nat} {x : Int32} : ∀ t n, vrF S s k x t n = none → ∀ m, n ≤ m → m < n + t → hvF S.2.1 s m k → ¬ nI (cntF (nvB S.2.1 s k m) S.1) = x := by
  intro t
  induction t with
  | zero => intro n _ m h1 h2; omega
  | succ t ih =>
    intro n h m h1 h2 hm
    rw [vrF] at h
    by_cases hp : hvF S.2.1 s n k ∧ nI (cntF (nvB S.2.1 s k n) S.1) = x
    · rw [if_pos hp] at h
      cases h
    · rw [if_neg hp] at h
      by_cases e : m = n
      · rw [e] at hm ⊢
        exact fun q => hp ⟨hm, q⟩
      · exact ih (n + 1) h m (by omega) (by omega) hm
theorem cnt_tk {P : Nat → Bool} {l : List Nat} : ∀ n, n ≤ l.length → cntF (fun j => P (l.getD j 0)) n = (l.take n).countP P := by
  intro n
  induction n with
  | zero => intro _; rfl
  | succ n ih =>
    intro hn
    rw [cntF, ih (by omega), List.take_add_one, List.countP_append, List.getD_eq_getElem?_getD, List.getElem?_eq_getElem (by omega)]
    simp only [Option.toList_some, List.countP_singleton, Option.getD_some]
theorem cntF_lt {p : Nat → Bool} : ∀ b a, a < b → p a = true → cntF p a < cntF p b := by
  intro b
  induction b with
  | zero => intro a h; omega
  | succ b ih =>
    intro a h hp
    rw [cntF]
    by_cases e : a = b
    · subst e
      rw [if_pos hp]; omega
    · have := ih a (by omega) hp
      omega
section RD
variable {d : Nat} {g : Nat → Option aE} {c : Nat} {X : aX} {Q : Option Value → aH → Prop} {S : aSt} {T : Nat → Nat} {K : Nat → List Nat} {LL : List aLm} {L : List aMsg} {tg : Nat → Nat} {h : aH}
/-- as many are newer as stand before -/
theorem rank {l : List Nat} {s k j : Nat} (hpw : l.Pairwise (fun a b => nw7 S.2.1 a b = true)) (hmem : ∀ n, n ∈ l ↔ n < S.1 ∧ S.2.1 11 (200 * s + n) = 3) (h97 : ∀ n, n ∈ l → S.2.1 9 n = S.2.1 7 n) (hj : j < l.length) : cntF (nvB S.2.1 s k (l.getD j 0)) S.1 = cntF (fun i => decide (wF (S.2.1 4 (l.getD i 0)) k)) j := by
  have egd : l.getD j 0 = l[j] := by rw [List.getD_eq_getElem?_getD, List.getElem?_eq_getElem hj]; rfl
  rw [egd, cnt_tk (P := fun n => decide (wF (S.2.1 4 n) k)) j (by omega)]
  have hmj : l[j] ∈ l := List.getElem_mem _
  have e1 : cntF (nvB S.2.1 s k l[j]) S.1 = l.countP (fun n => decide (wF (S.2.1 4 n) k) && nwB S.2.1 n l[j]) := by
    rw [← cnt_list (f := fun n => decide (wF (S.2.1 4 n) k) && nwB S.2.1 n l[j]) l S.1 (nw_nd hpw) (fun a ha => ((hmem a).mp ha).1)]
    refine cntF_congr S.1 (fun n hn => ?_)
    unfold nvB hvF
    have : decide (n ∈ l) = decide (S.2.1 11 (200 * s + n) = 3) := decide_eq_decide.mpr ((hmem n).trans ⟨fun w => w.2, fun w => ⟨hn, w⟩⟩)
    rw [this, ← Bool.and_assoc, Bool.decide_and]
  rw [e1]
  have hpw2 := hpw
  rw [← List.take_append_drop j l] at hpw2
  obtain ⟨k1, k2, k3⟩ := List.pairwise_append.mp hpw2
  have hd : l.drop j = l[j] :: l.drop (j + 1) := List.drop_eq_getElem_cons hj
  rw [hd] at k2 k3
  have k4 := (List.pairwise_cons.mp k2).1
  have e2 : l.countP (fun n => decide (wF (S.2.1 4 n) k) && nwB S.2.1 n l[j]) = (l.take j ++ l[j] :: l.drop (j + 1)).countP (fun n => decide (wF (S.2.1 4 n) k) && nwB S.2.1 n l[j]) := by
    rw [← hd, List.take_append_drop]
  rw [e2, List.countP_append, List.countP_cons_of_neg (by rw [Bool.and_eq_true]; exact fun q => nwB_ir q.2)]
  have e3 : (l.drop (j + 1)).countP (fun n => decide (wF (S.2.1 4 n) k) && nwB S.2.1 n l[j]) = 0 := by
    rw [List.countP_eq_zero]
    intro y hy q
    rw [Bool.and_eq_true] at q
    have hyl : y ∈ l := List.mem_of_mem_drop hy
    have q2 := q.2
    rw [nwB_eq (h97 y hyl) (h97 _ hmj)] at q2
    exact nw7_ir (nw7_tr q2 (k4 y hy))
  rw [e3, Nat.add_zero]
  refine List.countP_congr (fun y hy => ?_)
  have hyl : y ∈ l := List.mem_of_mem_take hy
  have q2 := k3 y hy l[j] List.mem_cons_self
  rw [nwB_eq (h97 y hyl) (h97 _ hmj), q2, Bool.and_true]
theorem sv_vr {l : List Nat} {s k : Nat} {x : Int32} (hm : S.1 ≤ 200) (hlen : l.length ≤ S.1) (hpw : l.Pairwise (fun a b => nw7 S.2.1 a b = true)) (hmem : ∀ n, n ∈ l ↔ n < S.1 ∧ S.2.1 11 (200 * s + n) = 3) (h97 : ∀ n, n ∈ l → S.2.1 9 n = S.2.1 7 n) : (svF (fun i => decide (wF (S.2.1 4 (l.getD i 0)) k)) x l.length 0 0).map (fun i => l.getD i 0) = vrF S s k x S.1 0 := by
  have gd : ∀ j (hj : j < l.length), l.getD j 0 = l[j] := fun j hj => by rw [List.getD_eq_getElem?_getD, List.getElem?_eq_getElem hj]; rfl
  have pos : ∀ m, m < S.1 → hvF S.2.1 s m k → ∃ j, j < l.length ∧ l.getD j 0 = m ∧ decide (wF (S.2.1 4 (l.getD j 0)) k) = true := fun m hm1 hv => by
    obtain ⟨j, hj, e⟩ := List.mem_iff_getElem.mp ((hmem m).mpr ⟨hm1, hv.1⟩)
    refine ⟨j, hj, (gd j hj).trans e, ?_⟩
    rw [gd j hj, e]
    exact decide_eq_true hv.2
  generalize hp : (fun i => decide (wF (S.2.1 4 (l.getD i 0)) k)) = p at *
  have rk : ∀ j, j < l.length → cntF (nvB S.2.1 s k (l.getD j 0)) S.1 = cntF p j := fun j hj => by rw [← hp]; exact rank hpw hmem h97 hj
  have hpj : ∀ j, p j = decide (wF (S.2.1 4 (l.getD j 0)) k) := fun j => by rw [← hp]
  have cb : ∀ j, j < l.length → cntF p j < 2 ^ 31 := fun j hj => by have := cntF_le p j; omega
  cases hs : svF p x l.length 0 0 with
  | none =>
    have h1 := svF_none l.length 0 hs
    cases hv : vrF S s k x S.1 0 with
    | none => rfl
    | some m =>
      exfalso
      obtain ⟨a1, a2, a3, a4⟩ := vrF_some _ _ _ hv
      obtain ⟨j, b1, b2, b3⟩ := pos m (by omega) a3
      refine h1 j (by omega) (by omega) (by rw [hpj]; exact b3) ?_
      rw [← rk j b1, b2]
      exact a4
  | some j =>
    obtain ⟨c1, c2, c3, c4⟩ := svF_some _ _ _ hs
    have hj : j < l.length := by omega
    have hmj : l.getD j 0 ∈ l := by rw [gd j hj]; exact List.getElem_mem _
    have hmm := (hmem _).mp hmj
    have hvj : hvF S.2.1 s (l.getD j 0) k := ⟨hmm.2, by rw [hpj] at c3; exact of_decide_eq_true c3⟩
    cases hv : vrF S s k x S.1 0 with
    | none =>
      exfalso
      refine vrF_none _ _ hv (l.getD j 0) (by omega) (by omega) hvj ?_
      rw [rk j hj]
      exact c4
    | some m =>
      obtain ⟨a1, a2, a3, a4⟩ := vrF_some _ _ _ hv
      obtain ⟨i, b1, b2, b3⟩ := pos m (by omega) a3
      rw [← b2, rk i b1, ← c4] at a4
      have e := (nI_eq (cb i b1) (cb j hj)).mp a4
      have hij : i = j := by
        rcases Nat.lt_trichotomy i j with q | q | q
        · have := cntF_lt (p := p) j i q (by rw [hpj]; exact b3)
          omega
        · exact q
        · have := cntF_lt i j q c3
          omega
      rw [← hij, Option.map_some, b2]
theorem d14 {s k : Nat} {i : Int32} (hs : s < 6) (hk : k < 8) (hm : S.1 ≤ 200) (h97 : ∀ n, n < S.1 → S.2.1 11 (200 * s + n) = 3 → S.2.1 9 n = S.2.1 7 n) (hR : RC g h c X) (hSS : SS c X S T K) (hQ : Q (some (.int (if k % 2 = s % 2 then eO (vrF S s k i S.1 0) else -1))) h) : am_R (d + 3) 14 0 [some (.ref c), some (.int (nI s)), some (.int (nI k)), some (.int i), none, none] [] h Q := by
  have ho := oA0 hR
  have hov := oV0 hs hR
  have hlen := K_len hs hSS
  have hSS0 := hSS
  obtain ⟨a1, a2, a3, a4, a5, a6, a7, a8, a9⟩ := hSS
  obtain ⟨k1, k2, k3, k4⟩ := a8 s hs
  simp (disch := first | assumption | omega | exact am_isr_ref | exact am_isr_null | exact am_isr_rf | exact am_c1_int | exact am_c1_ref | exact am_c1_null | exact am_c1_rf | exact am_b0 | exact am_b1 | exact RM_obj (by assumption) | (simp only [ne_eq]; done) | exact am_nz2 | exact am_nz3 | exact am_nz6 | exact am_lt (hB _ _) | exact am_lt (stF_lt hB) | exact b32_01) only [e14_0, e14_1, e14_2, e14_5, e14_7, e14_9r, e14_9n, e14_9q, e14_12, e14_14, e14_15, e14_18, d18t hs hR, d44t hs hk hR, Option.toList_some, List.cons_append, List.nil_append, b32_q0]
  by_cases hp : k % 2 = s % 2
  · rw [if_pos (fun q => q hp)]
    rw [if_pos hp, ← sv_vr (l := K s) hm hlen k3 k4 (fun n hn => h97 n ((k4 n).mp hn).1 ((k4 n).mp hn).2)] at hQ
    have hK : ∀ i, i < x_kc X s → x_kp X s i = some (T ((K s).getD i 0)) ∧ TrN h c S.2.1 S.2.2.1 T ((K s).getD i 0) := fun i hi => by
      rw [k1] at hi
      exact ⟨k2 i hi, TrNH hR (a9 _ (K_n (N := S.2.1) hs hSS0 hi)).2⟩
    have hkc : x_kc X s ≤ 200 := by omega
    simp (disch := first | assumption | omega | exact am_isr_ref | exact am_isr_null | exact am_isr_rf | exact am_c1_int | exact am_c1_ref | exact am_c1_null | exact am_c1_rf | exact am_b0 | exact am_b1 | exact RM_obj (by assumption) | (simp only [ne_eq]; done) | exact am_nz2 | exact am_nz3 | exact am_nz6 | exact am_lt (hB _ _) | exact am_lt (stF_lt hB) | exact b32_01) only [e14_23, e14_25, e14_26, e14_27, d57 (K := fun j => (K s).getD j 0) hs hk hR hkc hK, k1, Option.toList_some, List.cons_append, List.nil_append]
    cases hsv : svF (fun i => decide (wF (S.2.1 4 ((K s).getD i 0)) k)) i (K s).length 0 0 with
    | none =>
      rw [hsv] at hQ
      simp (disch := first | assumption | omega | exact am_isr_ref | exact am_isr_null | exact am_isr_rf | exact am_c1_int | exact am_c1_ref | exact am_c1_null | exact am_c1_rf | exact am_b0 | exact am_b1 | exact RM_obj (by assumption) | (simp only [ne_eq]; done) | exact am_nz2 | exact am_nz3 | exact am_nz6 | exact am_lt (hB _ _) | exact am_lt (stF_lt hB) | exact b32_01) only [e14_30, e14_32, e14_34r, e14_34n, e14_34q, e14_37, e14_38, e14_41, e14_43, e14_46, Option.map_none, va_rf]
      exact hQ
    | some j =>
      rw [hsv] at hQ
      have hj := svF_some _ 0 _ hsv
      have hT := TrNH hR (a9 _ (K_n (N := S.2.1) (i := j) hs hSS0 (by omega))).2
      simp (disch := first | assumption | omega | exact am_isr_ref | exact am_isr_null | exact am_isr_rf | exact am_c1_int | exact am_c1_ref | exact am_c1_null | exact am_c1_rf | exact am_b0 | exact am_b1 | exact RM_obj (by assumption) | (simp only [ne_eq]; done) | exact am_nz2 | exact am_nz3 | exact am_nz6 | exact am_lt (hB _ _) | exact am_lt (stF_lt hB) | exact b32_01) only [e14_30, e14_32, e14_34r, e14_34n, e14_34q, e14_37, e14_38, e14_41, e14_43, e14_46, Option.map_some, va_rf, gT_0 hT]
      exact hQ
  · rw [if_neg (fun q => q hp)]
    rw [if_neg hp] at hQ
    simp (disch := first | assumption | omega | exact am_isr_ref | exact am_isr_null | exact am_isr_rf | exact am_c1_int | exact am_c1_ref | exact am_c1_null | exact am_c1_rf | exact am_b0 | exact am_b1 | exact RM_obj (by assumption) | (simp only [ne_eq]; done) | exact am_nz2 | exact am_nz3 | exact am_nz6 | exact am_lt (hB _ _) | exact am_lt (stF_lt hB) | exact b32_01) only [e14_21, e14_22]
    exact hQ
theorem d14f {x y i : Int32} (hc : (x < 0 ∨ nI 6 ≤ x) ∨ (y < 0 ∨ nI 8 ≤ y)) (hR : RC g h c X) (hQ : Q (some (.int (-1))) h) : am_R (d + 3) 14 0 [some (.ref c), some (.int x), some (.int y), some (.int i), none, none] [] h Q := by
  have ho := oA0 hR
  have out : (x < 0 ∨ nI 6 ≤ x) → am_R (d + 3) 14 0 [some (.ref c), some (.int x), some (.int y), some (.int i), none, none] [] h Q := fun hx => by
    simp (disch := first | assumption | omega | exact am_isr_ref | exact am_isr_null | exact am_isr_rf | exact am_c1_int | exact am_c1_ref | exact am_c1_null | exact am_c1_rf | exact am_b0 | exact am_b1 | exact RM_obj (by assumption) | (simp only [ne_eq]; done) | exact am_nz2 | exact am_nz3 | exact am_nz6 | exact am_lt (hB _ _) | exact am_lt (stF_lt hB) | exact b32_01) only [e14_0, e14_1, e14_2, e14_5, e14_7, e14_9r, e14_9n, e14_9q, e14_12, e14_14, e14_15, e14_18, e14_21, e14_22, d18f hx hR, Option.toList_some, List.cons_append, List.nil_append]
    exact hQ
  rcases pk_ix x (n := 6) (by decide) with h1 | h1 | ⟨s, hs, rfl⟩
  · exact out (Or.inl h1)
  · exact out (Or.inr h1)
  · have hy : y < 0 ∨ nI 8 ≤ y := by
      rcases hc with (q | q) | q
      · exact absurd q (nI_pos (by omega))
      · have := (nI_leI (by decide) (by omega)).mp q
        omega
      · exact q
    have hov := oV0 hs hR
    simp (disch := first | assumption | omega | exact am_isr_ref | exact am_isr_null | exact am_isr_rf | exact am_c1_int | exact am_c1_ref | exact am_c1_null | exact am_c1_rf | exact am_b0 | exact am_b1 | exact RM_obj (by assumption) | (simp only [ne_eq]; done) | exact am_nz2 | exact am_nz3 | exact am_nz6 | exact am_lt (hB _ _) | exact am_lt (stF_lt hB) | exact b32_01) only [e14_0, e14_1, e14_2, e14_5, e14_7, e14_9r, e14_9n, e14_9q, e14_12, e14_14, e14_15, e14_18, e14_21, e14_22, d18t hs hR, d44f hy, Option.toList_some, List.cons_append, List.nil_append, if_neg (show ¬ ¬ nI 0 = 0 by decide)]
    exact hQ
end RD
