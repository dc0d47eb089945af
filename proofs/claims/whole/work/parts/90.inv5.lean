/-! the invariant: tick, commit -/
section INV5
variable {S S1 : aSt} {b b1 x : Nat}
theorem INV_L (h1 : S1.1 = S.1) (hN : S1.2.1 = S.2.1) (hV : S1.2.2.1 = S.2.2.1) (hO : S1.2.2.2.1 = S.2.2.2.1) (hK : KI S1 b) (hM : ∀ q, q ∈ S1.2.2.2.2 → MF S b q) (hc : ∀ k n, k = 1 ∨ k = 2 ∨ k = 3 → cK S1.2.2.2.2 k n = cK S.2.2.2.2 k n) (hv : ∀ n s, cV S1.2.2.2.2 n s = cV S.2.2.2.2 n s) (h : INV S b x) : INV S1 b x := by
  obtain ⟨i1, i2, i3, i4⟩ := h
  refine ⟨?_, hK, fun q hq => MF_cg (S := S) (fun n _ => by rw [hN]) (by omega) (Nat.le_refl _) (hM q hq), fun n hn hx => ?_⟩
  · unfold TI UI at *
    rw [h1, hN, hV, hO]
    exact i1
  · rw [h1] at hn
    exact JN_cg (by rw [hN]) (by rw [hN]) (by rw [hN]) (fun _ _ => by rw [hN]) (fun k hk => hc k n hk) (fun s _ => hv n s) (i4 n hn hx)
theorem up_bd {N : Nat → Nat → Nat} {s B : Nat} (h : ∀ e, N 12 e ≤ B) : ∀ k v, upF N s k = some v → v ≤ B := by
  intro k
  induction k with
  | zero => intro v q; cases q
  | succ k ih =>
    intro v q
    rw [upF] at q
    have h1 := h (200 * s + k)
    split at q
    · cases hu : upF N s k with
      | none => rw [hu] at q; simp only [Option.some.injEq] at q; omega
      | some w =>
        rw [hu] at q
        have := ih w hu
        simp only [Option.some.injEq] at q
        omega
    · exact ih v q
theorem INV_tick {s : Nat} (hb : b + 1 ≤ 512) (hs : s < 6) (h : INV S b 1000) : INV (tickF S s) (b + 1) 1000 := by
  have hbd := h.1.2.1
  have hu : tkU S s ≤ b + 1 + 256 := by
    unfold tkU
    have a1 := hbd 10 s
    cases hq : upF (setN S 10 s (S.2.1 10 s + 1)).2.1 s S.1 with
    | none => simp only [Option.getD_none]; omega
    | some v =>
      have := up_bd (N := (setN S 10 s (S.2.1 10 s + 1)).2.1) (s := s) (B := b + 256) (fun e => by rw [sN_n (by decide)]; exact hbd 12 e) S.1 v hq
      simp only [Option.getD_some]; omega
  have h1 : INV (tkS S s) (b + 1) 1000 := by
    unfold tkS
    exact INV_n (by decide) hu (INV_n (by decide) (by have := hbd 10 s; omega) (INV_b (by omega) h))
  have hnb := nb_lk hs
  have etk : tickF S s = (S.1, (tkS S s).2.1, S.2.2.1, S.2.2.2.1, othL s (fun p => (s, 2 * p + s % 2, 5, nI (tkU S s), 0, 0, 0)) 3 0 S.2.2.2.2 ++ [(s, nbF s, 6, -1, (tkS S s).2.1 13 (3 * s), (tkS S s).2.1 13 (3 * s + 1), (tkS S s).2.1 13 (3 * s + 2))]) := by
    unfold tickF
    rw [othF_L]
    rfl
  have hnp : s / 2 = nbF s / 2 ∧ ¬ s = nbF s := by unfold nbF; split <;> omega
  have h13 := h1.1.2.1
  refine INV_L (S := tkS S s) (by rw [etk]; rfl) (by rw [etk]) (by rw [etk]; rfl) (by rw [etk]; rfl) ?_ (fun q hq => ?_) (fun k n hk => ?_) (fun n t => ?_) h1
  · rw [etk]
    obtain ⟨k1, k2⟩ := h.2.1
    have e : ∀ s2 L2, nkF (S.1, (tkS S s).2.1, S.2.2.1, S.2.2.2.1, L2) s2 = nkF S s2 := fun s2 L2 => by
      unfold nkF
      show cntF (fun j => decide (¬ (tkS S s).2.1 11 (200 * s2 + j) = 3)) S.1 = _
      unfold tkS
      rw [sN_n (by decide), sN_n (by decide)]
    unfold KI nkS at *
    rw [e, e, e, e, e, e]
    refine ⟨fun f t hf ht => ?_, ?_⟩
    · rw [e]
      have k3 := k1 f t hf ht
      show (¬ f / 2 = t / 2 → cnL (othL s _ 3 0 S.2.2.2.2 ++ [_]) (6 * f + t) + nkF S f ≤ b + 1) ∧ (f / 2 = t / 2 → cnL (othL s _ 3 0 S.2.2.2.2 ++ [_]) (6 * f + t) ≤ b + 1)
      rw [cnL_app, cnL_1]
      by_cases ef : f = s
      · subst ef
        by_cases q : f / 2 = t / 2
        · refine ⟨fun w => absurd q w, fun _ => ?_⟩
          rw [cn_oth0 (fun p hp hne => by omega)]
          have := k3.2 q
          split <;> omega
        · refine ⟨fun _ => ?_, fun w => absurd w q⟩
          have := k3.1 q
          rw [if_neg (fun w => by have w : 6 * f + nbF f = 6 * f + t := w; omega)]
          by_cases pr : t % 2 = f % 2
          · rw [cn_oth (r := t / 2) (by omega) (by omega) (fun w => q w.symm)]
            omega
          · rw [cn_oth0 (fun p hp hne => by omega)]
            omega
      · rw [cn_oth0 (fun p hp hne => by omega), if_neg (fun w => by have w : 6 * s + nbF s = 6 * f + t := w; omega)]
        exact ⟨fun w => by have := k3.1 w; omega, fun w => by have := k3.2 w; omega⟩
    · show (othL s _ 3 0 S.2.2.2.2 ++ [_]).length + _ ≤ _
      rw [List.length_append, oth_len hs, List.length_singleton]
      omega
  · rw [etk] at hq
    rcases List.mem_append.mp hq with w | w
    · rcases oth_mem w with w | ⟨p, hp, hne, rfl⟩
      · exact h1.2.2.1 q w
      · have hqn : qn (s, 2 * p + s % 2, 5, nI (tkU S s), 0, 0, 0) = tkU S s := qn_n (by omega)
        refine ⟨⟨hs, ?_, ?_⟩, ⟨?_, ?_⟩, fun _ => ⟨?_, ?_⟩, fun z => ?_, ⟨Nat.zero_le _, Nat.zero_le _, Nat.zero_le _⟩, fun z => ?_, fun z => ?_, fun z => ?_⟩
        · show 2 * p + s % 2 < 6; omega
        · show ¬ s = 2 * p + s % 2 ∧ (s / 2 = (2 * p + s % 2) / 2 ∨ s % 2 = (2 * p + s % 2) % 2); omega
        · show 1 ≤ 5; omega
        · show 5 ≤ 6; omega
        · rw [hqn]
        · rw [hqn]; exact hu
        · exact absurd (show (5 : Nat) ≤ 4 from z) (by decide)
        · exact absurd (show (5 : Nat) = 1 from z) (by decide)
        · exact absurd (show (5 : Nat) = 2 from z) (by decide)
        · exact absurd (show (5 : Nat) = 3 from z) (by decide)
    · rw [List.mem_singleton.mp w]
      refine ⟨⟨hs, hnb.1, ⟨hnp.2, Or.inl hnp.1⟩⟩, ⟨?_, ?_⟩, fun z => ?_, fun z => ?_, ⟨h13 _ _, h13 _ _, h13 _ _⟩, fun z => ?_, fun z => ?_, fun z => ?_⟩
      · show 1 ≤ 6; omega
      · show 6 ≤ 6; omega
      · exact absurd (show (6 : Nat) ≤ 5 from z) (by decide)
      · exact absurd (show (6 : Nat) ≤ 4 from z) (by decide)
      · exact absurd (show (6 : Nat) = 1 from z) (by decide)
      · exact absurd (show (6 : Nat) = 2 from z) (by decide)
      · exact absurd (show (6 : Nat) = 3 from z) (by decide)
  · rw [etk]
    show (othL s _ 3 0 S.2.2.2.2 ++ [_]).countP _ = S.2.2.2.2.countP _
    rw [List.countP_append, List.countP_singleton, oth_cnt]
    have z : ∀ p, pK k n (s, 2 * p + s % 2, 5, nI (tkU S s), 0, 0, 0) = false := fun p => decide_eq_false (fun w => by have : (5 : Nat) = k := w.1; omega)
    have z2 : ∀ v1 v2 v3, pK k n (s, nbF s, 6, -1, v1, v2, v3) = false := fun v1 v2 v3 => decide_eq_false (fun w => by have : (6 : Nat) = k := w.1; omega)
    rw [z, z, z, z2]
    simp
  · rw [etk]
    show (othL s _ 3 0 S.2.2.2.2 ++ [_]).countP _ = S.2.2.2.2.countP _
    rw [List.countP_append, List.countP_singleton, oth_cnt]
    have z : ∀ p, pV n t (s, 2 * p + s % 2, 5, nI (tkU S s), 0, 0, 0) = false := fun p => decide_eq_false (fun w => by have : (5 : Nat) = 4 := w.1; omega)
    have z2 : ∀ v1 v2 v3, pV n t (s, nbF s, 6, -1, v1, v2, v3) = false := fun v1 v2 v3 => decide_eq_false (fun w => by have : (6 : Nat) = 4 := w.1; omega)
    rw [z, z, z, z2]
    simp
theorem cm_6 {i m : Nat} (hm : ¬ m = S.1) : (cmS S i).2.1 6 m = S.2.1 6 m := by
  have hi := intF_same (c := i) (n := S.1) 8 0 (sawF i S.1 3 0 (cmA S i))
  have hs := sawF_same (c := i) (n := S.1) 3 0 (cmA S i)
  unfold cmS cm2 cm1
  rw [sN_s, vu_n hm, sN_s, vu_n hm, sN_n (by decide), sN_s, vu_n hm, sN_n (by decide), sN_n (by decide), hi.2.1, hs.2.2.1 6 m (by decide), sN_n (by decide), sN_n (by decide), sN_n (by decide)]
  rfl
theorem INV_7 {n v : Nat} (h8 : S.2.1 8 n = 0) (hv : v ≤ b + 256) (h : INV S b x) : INV (setN S 7 n v) b x := by
  refine INV_N (by decide) (by decide) (by decide) (by decide) ?_ (Nat.le_refl _) h
  obtain ⟨t1, t2, t3, t4, t5, t6, t7, t8, t9, t10, t11, t12, t13⟩ := h.1
  have nk : ∀ k, ¬ k = 7 → (setN S 7 n v).2.1 k = S.2.1 k := fun k hk => sN_n hk
  unfold TI UI
  rw [nk 1 (by decide), nk 4 (by decide), nk 8 (by decide), nk 9 (by decide), nk 11 (by decide), nk 12 (by decide), nk 15 (by decide), nk 19 (by decide), sN_s]
  refine ⟨t1, fun k e => ?_, t3, t4, t5, t6, t7, t8, t9, t10, t11, fun m hm q => ?_, t13⟩
  · show up2 S.2.1 7 n v k e ≤ b + 256
    unfold up2; split
    · exact hv
    · exact t2 k e
  · rw [vu_n (fun e => by rw [e, h8] at q; omega)]
    exact t12 m hm q
theorem INV_6x {n v : Nat} (hv : v ≤ b + 256) (h : INV S b n) : INV (setN S 6 n v) b n := by
  obtain ⟨i1, i2, i3, i4⟩ := h
  refine ⟨TI_N (by decide) hv i1, KI_cg (S := S) rfl (sN_n (by decide)) rfl (Nat.le_refl _) i2, fun q hq => MF_cg (S := S) (fun n _ => by rw [sN_n (by decide)]) (Nat.le_refl _) (Nat.le_refl _) (i3 q hq), fun m hm hx => ?_⟩
  exact JN_cg (S := S) (by rw [sN_n (by decide)]) (by rw [sN_s, vu_n hx]) (by rw [sN_n (by decide)]) (fun _ _ => by rw [sN_n (by decide)]) (fun _ _ => rfl) (fun _ _ => rfl) (i4 m hm hx)
/-- counts, when a transaction was made and one message sent to the neighbour -/
theorem KI_cm {q : aMsg} (h1 : S1.1 = S.1 + 1) (hn : ∀ s, s < 6 → nkF S1 s = nkF S s + 1) (hL : S1.2.2.2.2 = S.2.2.2.2 ++ [q]) (q1 : q.1 < 6) (q2 : q.2.1 < 6) (hp : q.1 / 2 = q.2.1 / 2) (h : KI S b) : KI S1 (b + 1) := by
  obtain ⟨k1, k2⟩ := h
  unfold KI nkS at *
  rw [hn 0 (by decide), hn 1 (by decide), hn 2 (by decide), hn 3 (by decide), hn 4 (by decide), hn 5 (by decide), hL, List.length_append, List.length_singleton]
  refine ⟨fun f t hf ht => ?_, by omega⟩
  rw [hn f hf, cnL_app, cnL_1]
  have k3 := k1 f t hf ht
  refine ⟨fun w => ?_, fun w => ?_⟩
  · have := k3.1 w
    rw [if_neg (fun z => by unfold lkM at z; omega)]; omega
  · have := k3.2 w
    split <;> omega
theorem KI_cm0 (h1 : S1.1 = S.1 + 1) (hn : ∀ s, s < 6 → nkF S1 s = nkF S s + 1) (hL : S1.2.2.2.2 = S.2.2.2.2) (h : KI S b) : KI S1 (b + 1) := by
  obtain ⟨k1, k2⟩ := h
  unfold KI nkS at *
  rw [hn 0 (by decide), hn 1 (by decide), hn 2 (by decide), hn 3 (by decide), hn 4 (by decide), hn 5 (by decide), hL]
  refine ⟨fun f t hf ht => ?_, by omega⟩
  rw [hn f hf]
  have k3 := k1 f t hf ht
  exact ⟨fun w => by have := k3.1 w; omega, fun w => by have := k3.2 w; omega⟩
theorem INV_commit {i : Nat} (hb : b + 1 ≤ 512) (hi : i < 6) (ho : S.2.1 15 i = 1) (h0 : ¬ S.2.1 19 i = 0) (hlt : S.1 < 200) (h : INV S b 1000) : INV (commitF S i) (b + 1) 1000 := by
  obtain ⟨q1, q2, q3, n1, n2, n3, n4, n7, n15, n19, qV, v5⟩ := cmS_is (S := S) (i := i)
  obtain ⟨i1, i2, i3, i4⟩ := h
  obtain ⟨t1, t2, t3, t4, t5, t6, t7, t8, t9, t10, t11, t12, t13, t14, t15, t16, t17, t18⟩ := i1
  have m8 := q3 8 (by decide) (by decide) (by decide) (by decide) (by decide) (by decide) (by decide) (by decide)
  have m9 := q3 9 (by decide) (by decide) (by decide) (by decide) (by decide) (by decide) (by decide) (by decide)
  have m11 := q3 11 (by decide) (by decide) (by decide) (by decide) (by decide) (by decide) (by decide) (by decide)
  have m12 := q3 12 (by decide) (by decide) (by decide) (by decide) (by decide) (by decide) (by decide) (by decide)
  have hO2 : (cmS S i).2.2.2.1 = S.2.2.2.1 := by rw [q2]
  have hL2 : (cmS S i).2.2.2.2 = S.2.2.2.2 := by rw [q2]
  have h15i : ∀ m, m < S.1 → S.2.1 8 m = 0 → ¬ S.2.1 1 m = i := fun m hm h8 e => by
    have := t17 m hm h8
    rw [e, ho] at this
    omega
  have bd : ∀ k e, (cmS S i).2.1 k e ≤ b + 256 := fun k e => by
    by_cases k1 : k = 1
    · rw [k1, n1]; unfold va_up; split
      · omega
      · exact t2 _ _
    · by_cases k2 : k = 2
      · rw [k2, n2]
        have a1 := t2 17 (3 * i)
        have a2 := t2 17 (3 * i + 1)
        have a3 := t2 17 (3 * i + 2)
        have a4 := t2 2 e
        unfold va_up
        repeat' split
        all_goals omega
      · by_cases k3 : k = 3
        · rw [k3, n3]; unfold va_up; split
          · exact t2 _ _
          · exact t2 _ _
        · by_cases k4 : k = 4
          · rw [k4, n4]; unfold va_up; split
            · exact t2 _ _
            · exact t2 _ _
          · by_cases k6 : k = 6
            · rw [k6]
              by_cases e6 : e = S.1
              · have c1 : ∀ s, coN (cm1 S i).2.1 S.1 s ≤ 1 := fun s => by unfold coN; split <;> omega
                have := c1 (2 * (i % 3))
                have := c1 (2 * (i % 3) + 1)
                rw [e6]
                unfold cmS cm2
                rw [sN_s, vu_s]
                omega
              · rw [cm_6 e6]; exact t2 _ _
            · by_cases k7 : k = 7
              · rw [k7, n7]; unfold va_up; split
                · omega
                · exact t2 _ _
              · by_cases k15 : k = 15
                · rw [k15, n15]; unfold va_up; split
                  · omega
                  · exact t2 _ _
                · by_cases k19 : k = 19
                  · rw [k19, n19]; unfold va_up; split
                    · omega
                    · exact t2 _ _
                  · rw [q3 k k1 k2 k3 k4 k6 k7 k15 k19]; exact t2 _ _
  have hnk : ∀ s, s < 6 → nkF (cmS S i) s = nkF S s + 1 := fun s hs => by
    unfold nkF
    rw [q1, m11, cntF, if_pos (decide_eq_true (by rw [t11 s S.1 hs (Nat.le_refl _) hlt]; omega))]
  have hT : TI (cmS S i) (b + 1) := by
    unfold TI UI
    rw [q1, m8, m9, m11, m12, hO2]
    refine ⟨by omega, fun k e => by have := bd k e; omega, t3, fun n hn => t4 n (by omega), fun j => ?_, fun j => ?_, fun j hj => ?_, fun n hn => ?_, fun n hn => ?_, t10, fun s n hs hn => t11 s n hs (by omega), fun n hn h8 => ?_, fun e n he hq => ?_, t14, fun n k hn hk hw => ?_, t16, fun n hn h8 => ?_, fun n m hn hm h8 h82 he => ?_⟩
    · rw [n19]; unfold va_up; split
      · decide
      · exact t5 j
    · rw [n15]; unfold va_up; split
      · decide
      · exact t6 j
    · rw [n19]
      rw [n15] at hj
      by_cases e : j = i
      · rw [e, vu_s]
      · rw [vu_n e] at hj ⊢
        exact t7 j hj
    · rw [n1]; unfold va_up; split
      · exact hi
      · exact t8 n (by omega)
    · rw [n4]; unfold va_up; split
      · exact t5 i
      · exact t9 n (by omega)
    · have e : ¬ n = S.1 := fun e => by rw [e, t4 S.1 (Nat.le_refl _)] at h8; omega
      rw [n7, vu_n e]
      exact t12 n (by omega) h8
    · have := t13 e n he hq
      exact ⟨by omega, this.2⟩
    · rw [v5]
      by_cases e : n = S.1
      · rw [e] at hw ⊢
        rw [n4, vu_s] at hw
        rw [if_pos (show 8 * S.1 + 0 ≤ 8 * S.1 + k ∧ 8 * S.1 + k < 8 * S.1 + 0 + 8 by omega), show 8 * S.1 + k - 8 * S.1 = k by omega, if_neg hw]
      · rw [n4, vu_n e] at hw
        rw [if_neg (show ¬ (8 * S.1 + 0 ≤ 8 * n + k ∧ 8 * n + k < 8 * S.1 + 0 + 8) by omega)]
        exact t15 n k (by omega) hk hw
    · rw [n1, n15]
      by_cases e : n = S.1
      · rw [e, vu_s, vu_s]
      · rw [vu_n e, vu_n (h15i n (by omega) h8)]
        exact t17 n (by omega) h8
    · rw [n1] at he
      by_cases e : n = S.1
      · by_cases e2 : m = S.1
        · omega
        · rw [e, vu_s, vu_n e2] at he
          exact absurd he.symm (h15i m (by omega) h82)
      · by_cases e2 : m = S.1
        · rw [e2, vu_s, vu_n e] at he
          exact absurd he (h15i n (by omega) h8)
        · rw [vu_n e, vu_n e2] at he
          exact t18 n m (by omega) (by omega) h8 h82 he
  have hcnt : ∀ P : aMsg → Bool, (∀ q, q ∈ S.2.2.2.2 → P q = true → q.2.2.1 ≤ 4 ∧ q.2.2.2.1 = nI S.1) → S.2.2.2.2.countP P = 0 := fun P hP => by
    rw [List.countP_eq_zero]
    intro q hq w
    have hp := hP q hq w
    have m := i3 q hq
    have a1 := (m.2.2.1 (by omega)).1
    have a2 := m.2.2.2.1 hp.1
    rw [hp.2] at a1
    have := (nI_eq (by omega) (by omega)).mp a1
    omega
  have hP0 : P0 (cmS S i) S.1 := by
    refine ⟨by rw [m8]; exact t4 S.1 (Nat.le_refl _), ?_, ?_, ?_, fun s hs _ => ⟨?_, ?_⟩, fun s hs _ => ⟨?_, ?_⟩⟩
    · rw [hL2]; exact hcnt _ (fun q _ w => ⟨by have := (of_decide_eq_true w).1; omega, (of_decide_eq_true w).2⟩)
    · rw [hL2]; exact hcnt _ (fun q _ w => ⟨by have := (of_decide_eq_true w).1; omega, (of_decide_eq_true w).2⟩)
    · rw [hL2]; exact hcnt _ (fun q _ w => ⟨by have := (of_decide_eq_true w).1; omega, (of_decide_eq_true w).2⟩)
    · rw [hL2]; exact hcnt _ (fun q _ w => ⟨by have := (of_decide_eq_true w).1; omega, (of_decide_eq_true w).2.1⟩)
    · rw [m11, t11 s S.1 hs (Nat.le_refl _) hlt]; decide
    · rw [hL2]; exact hcnt _ (fun q _ w => ⟨by have := (of_decide_eq_true w).1; omega, (of_decide_eq_true w).2.1⟩)
    · rw [m11, t11 s S.1 hs (Nat.le_refl _) hlt]
  have hI : INV (cmS S i) (b + 1) S.1 := by
    refine ⟨hT, KI_cm0 q1 hnk hL2 i2, ?_, fun m hm hx => ?_⟩
    · rw [hL2]
      exact fun q hq => MF_cg (S := S) (fun m hm => by rw [n1, vu_n (by omega)]) (by omega) (by omega) (i3 q hq)
    · rw [q1] at hm
      exact JN_cg (S := S) (by rw [n1, vu_n hx]) (cm_6 hx) (by rw [m8]) (fun _ _ => by rw [m11]) (fun _ _ => by rw [hL2]) (fun _ _ => by rw [hL2]) (i4 m (by omega) (by omega))
  have e1n : (cmS S i).2.1 1 S.1 = i := by rw [n1, vu_s]
  have e4n : (cmS S i).2.1 4 S.1 = S.2.1 19 i := by rw [n4, vu_s]
  have e6n : (cmS S i).2.1 6 S.1 = coN (cmS S i).2.1 S.1 (2 * (i % 3)) + coN (cmS S i).2.1 S.1 (2 * (i % 3) + 1) := by
    have eco : ∀ s, coF (cmS S i).2.1 S.1 s = coF (cm1 S i).2.1 S.1 s := fun s => coB_congr (by
      unfold cmS cm2
      rw [sN_n (by decide), sN_n (by decide)])
    have : ∀ s, coN (cmS S i).2.1 S.1 s = coN (cm1 S i).2.1 S.1 s := fun s => by unfold coN; rw [eco]
    rw [this, this]
    unfold cmS cm2
    rw [sN_s, vu_s]
  have h19 := t5 i
  have hn2 : S.1 < (cmS S i).1 := by rw [q1]; omega
  have htm : tmF (cmS S i).2.1 (2 * (i % 3)) S.1 ≤ b + 1 + 256 := tm_le bd
  have ecm : commitF S i = cm3 (cmS S i) (2 * (i % 3)) S.1 := rfl
  rw [ecm]
  have hF0 : ∀ s, s < 6 → (cmS S i).2.1 11 (200 * s + S.1) = 0 := fun s hs => by rw [m11, t11 s S.1 hs (Nat.le_refl _) hlt]
  have hld2 : 2 * (i % 3) % 2 = 0 := by omega
  have hld6 : 2 * (i % 3) + 1 < 6 := by omega
  have hldi : 2 * (i % 3) = 2 * ((cmS S i).2.1 1 S.1 % 3) := by rw [e1n]
  have hKI := i2
  generalize hS2 : cmS S i = S2 at *
  generalize hld : 2 * (i % 3) = ld at *
  clear n2 n3 n7 n15 n19 qV v5 q3 bd
  -- PREPARE to the second server
  have push : ∀ S3 : aSt, INV S3 (b + 1) S.1 → S3.1 = S2.1 → S3.2.2.2.2 = S.2.2.2.2 → (∀ s, s < 6 → nkF S3 s = nkF S s + 1) → P0 S3 S.1 → S3.2.1 1 S.1 = S2.2.1 1 S.1 → S3.2.1 6 S.1 = 1 → S3.2.1 11 (200 * (ld + 1) + S.1) = 0 → INV (pushF S3 (ld, ld + 1, 1, nI S.1, 0, 0, 0)) (b + 1) 1000 := by
    intro S3 h3 s1 sL snk sp s11 s6 sF
    have hqn : qn (ld, ld + 1, 1, nI S.1, 0, 0, 0) = S.1 := qn_n (by omega)
    refine INV_push (S := S3) (y := S.1) ?_ ?_ rfl hlt (Or.inl rfl) (fun _ => ?_) h3
    · refine ⟨⟨?_, ?_, ?_⟩, ⟨?_, ?_⟩, fun _ => ⟨?_, ?_⟩, fun _ => ?_, ⟨Nat.zero_le _, Nat.zero_le _, Nat.zero_le _⟩, fun w => ⟨?_, rfl⟩, fun w => ?_, fun w => ?_⟩
      · show ld < 6; omega
      · show ld + 1 < 6; omega
      · show ¬ ld = ld + 1 ∧ (ld / 2 = (ld + 1) / 2 ∨ ld % 2 = (ld + 1) % 2); omega
      · show 1 ≤ 1; omega
      · show 1 ≤ 6; omega
      · rw [hqn]
      · rw [hqn]; omega
      · rw [hqn, s1]; exact hn2
      · rw [hqn, s11]; exact hldi
      · exact absurd (show (1 : Nat) = 2 from w) (by decide)
      · exact absurd (show (1 : Nat) = 3 from w) (by decide)
    · refine KI_cm (S := S) (S1 := pushF S3 (ld, ld + 1, 1, nI S.1, 0, 0, 0)) (q := (ld, ld + 1, 1, nI S.1, 0, 0, 0)) ?_ snk ?_ ?_ ?_ ?_ hKI
      · show S3.1 = _; rw [s1, q1]
      · show S3.2.2.2.2 ++ [_] = _; rw [sL]
      · show ld < 6; omega
      · show ld + 1 < 6; omega
      · show ld / 2 = (ld + 1) / 2; omega
    · obtain ⟨p1, p2, p3, p4, p5, p6⟩ := sp
      have cnt : ∀ P : aMsg → Bool, (pushF S3 (ld, ld + 1, 1, nI S.1, 0, 0, 0)).2.2.2.2.countP P = S3.2.2.2.2.countP P + (if P (ld, ld + 1, 1, nI S.1, 0, 0, 0) = true then 1 else 0) := fun P => by
        show (S3.2.2.2.2 ++ [_]).countP P = _
        rw [List.countP_append, List.countP_singleton]
      have c1 : cK (pushF S3 (ld, ld + 1, 1, nI S.1, 0, 0, 0)).2.2.2.2 1 S.1 = 1 := by
        unfold cK at p2 ⊢
        rw [cnt, p2, if_pos (show pK 1 S.1 (ld, ld + 1, 1, nI S.1, 0, 0, 0) = true from decide_eq_true ⟨rfl, rfl⟩)]
      have c23 : ∀ k, ¬ k = 1 → cK (pushF S3 (ld, ld + 1, 1, nI S.1, 0, 0, 0)).2.2.2.2 k S.1 = cK S3.2.2.2.2 k S.1 := fun k hk => by
        unfold cK; rw [cnt, if_neg (fun w => by have : (1 : Nat) = k := (of_decide_eq_true w).1; omega)]; rfl
      have cv : ∀ s, cV (pushF S3 (ld, ld + 1, 1, nI S.1, 0, 0, 0)).2.2.2.2 S.1 s = cV S3.2.2.2.2 S.1 s := fun s => by
        unfold cV; rw [cnt, if_neg (fun w => by have : (1 : Nat) = 4 := (of_decide_eq_true w).1; omega)]; rfl
      have x1 : (pushF S3 (ld, ld + 1, 1, nI S.1, 0, 0, 0)).2.1 = S3.2.1 := rfl
      unfold JN
      rw [x1, c1, c23 2 (by decide), c23 3 (by decide)]
      refine ⟨fun _ => ⟨s6, by omega, p4, ?_⟩, fun w => by omega, fun s hs he => ?_, fun s hs he => ?_⟩
      · rw [p3, s11, ← hldi]; exact sF
      · rw [cv]
        have := p5 s hs he
        exact ⟨this.1, fun w => by omega⟩
      · rw [cv]
        have := p6 s hs he
        exact ⟨Or.inl this.2, by omega, fun _ => this.2, fun _ => this⟩
  have nkp : ∀ s, s < 6 → nkF (prpF S2 ld S.1) s = nkF S s + 1 := fun s hs => by
    rw [← hnk s hs]
    unfold nkF
    have p11 : (prpF S2 ld S.1).2.1 11 = va_up (S2.2.1 11) (200 * ld + S.1) 1 := by
      rw [prp_eq, sN_s, sN_n (by decide), sN_n (by decide)]
    rw [p11]
    refine cntF_congr _ (fun j hj => ?_)
    by_cases e : 200 * s + j = 200 * ld + S.1
    · rw [e, vu_s, hF0 ld (by omega)]
      rfl
    · rw [vu_n e]
  unfold cm3
  by_cases hc1 : coF S2.2.1 S.1 ld = true
  · simp only [hc1, if_true]
    have hPr := INV_prp (S := S2) (s := ld) (n := S.1) (by omega) hn2 (by rw [hF0 ld (by omega)]; decide) htm hI
    have p11 : (prpF S2 ld S.1).2.1 11 = va_up (S2.2.1 11) (200 * ld + S.1) 1 := by
      rw [prp_eq, sN_s, sN_n (by decide), sN_n (by decide)]
    have pk : ∀ k, ¬ k = 10 → ¬ k = 11 → ¬ k = 12 → (prpF S2 ld S.1).2.1 k = S2.2.1 k := fun k a c d => prpF_N a c d
    have pP0 : ∀ S3 : aSt, S3.2.1 8 S.1 = S2.2.1 8 S.1 → S3.2.1 1 S.1 = S2.2.1 1 S.1 → S3.2.1 11 = (prpF S2 ld S.1).2.1 11 → S3.2.2.2.2 = S2.2.2.2.2 → P0 S3 S.1 := fun S3 a1 a2 a3 a4 => by
      obtain ⟨p1, p2, p3, p4, p5, p6⟩ := hP0
      refine ⟨a1.trans p1, by rw [a4]; exact p2, by rw [a4]; exact p3, by rw [a4]; exact p4, fun s hs he => ?_, fun s hs he => ?_⟩
      · rw [a2] at he
        rw [a3, a4, p11]
        refine ⟨(p5 s hs he).1, ?_⟩
        unfold va_up; split
        · decide
        · exact (p5 s hs he).2
      · rw [a2] at he
        rw [a3, a4, p11, vu_n (by omega)]
        exact p6 s hs he
    by_cases hc2 : coF S2.2.1 S.1 (ld + 1) = true
    · have e6p : (prpF S2 ld S.1).2.1 6 S.1 = 2 := by
        rw [pk 6 (by decide) (by decide) (by decide), e6n]
        unfold coN
        rw [if_pos hc1, if_pos hc2]
      have ep : prepF S2 ld ld S.1 = setN (setN (prpF S2 ld S.1) 7 S.1 (max ((prpF S2 ld S.1).2.1 7 S.1) (tmF S2.2.1 ld S.1))) 6 S.1 1 := by
        unfold prepF prdF
        rw [if_pos rfl, e6p, if_pos (by decide)]
      have e4p : (prepF S2 ld ld S.1).2.1 4 S.1 = S2.2.1 4 S.1 := by
        rw [ep, sN_n (by decide), sN_n (by decide), pk 4 (by decide) (by decide) (by decide)]
      rw [coB_congr (N := (prepF S2 ld ld S.1).2.1) (N' := S2.2.1) e4p, if_pos hc2, ep]
      have h7 := hPr.1.2.1 7 S.1
      refine push _ (INV_6x (by omega) (INV_7 (by rw [pk 8 (by decide) (by decide) (by decide)]; exact hP0.1) (by omega) hPr)) rfl (by show S2.2.2.2.2 = _; exact hL2) ?_ ?_ ?_ ?_ ?_
      · intro s hs
        rw [← nkp s hs]
        unfold nkF
        rw [sN_n (by decide), sN_n (by decide)]
        rfl
      · refine pP0 _ ?_ ?_ ?_ rfl
        · rw [sN_n (by decide), sN_n (by decide), pk 8 (by decide) (by decide) (by decide)]
        · rw [sN_n (by decide), sN_n (by decide), pk 1 (by decide) (by decide) (by decide)]
        · rw [sN_n (by decide), sN_n (by decide)]
      · rw [sN_n (by decide), sN_n (by decide), pk 1 (by decide) (by decide) (by decide)]
      · rw [sN_s, vu_s]
      · rw [sN_n (by decide), sN_n (by decide), p11, vu_n (by omega)]
        exact hF0 (ld + 1) (by omega)
    · have e6p : (prpF S2 ld S.1).2.1 6 S.1 = 1 := by
        rw [pk 6 (by decide) (by decide) (by decide), e6n]
        unfold coN
        rw [if_pos hc1, if_neg hc2]
      have ep : prepF S2 ld ld S.1 = dcdF (toldF (prpF S2 ld S.1) S.1 (tmF S2.2.1 ld S.1)) ld S.1 := by
        unfold prepF prdF
        rw [if_pos rfl, e6p, if_neg (by decide)]
      have h7 := hPr.1.2.1 7 S.1
      have e1p : 2 * ((prpF S2 ld S.1).2.1 1 S.1 % 3) = ld := by rw [pk 1 (by decide) (by decide) (by decide), ← hldi]
      have co2 : coF (prpF S2 ld S.1).2.1 S.1 (ld + 1) = coF S2.2.1 S.1 (ld + 1) := coB_congr (by rw [pk 4 (by decide) (by decide) (by decide)])
      have hD := INV_dcd (S := prpF S2 ld S.1) (n := S.1) (t := tmF S2.2.1 ld S.1) (by omega) hn2 (pP0 _ (by rw [pk 8 (by decide) (by decide) (by decide)]) (by rw [pk 1 (by decide) (by decide) (by decide)]) rfl rfl) (fun w => by rw [e1p, co2] at w; exact absurd w hc2) (by omega) (by unfold tmF; omega) hPr
      rw [e1p, co2, if_neg hc2] at hD
      have e4d : (prepF S2 ld ld S.1).2.1 4 S.1 = S2.2.1 4 S.1 := by
        have hBp : am_BN (prpF S2 ld S.1).2.1 := fun k e => by have := hPr.1.2.1 k e; omega
        have hds := dcdF_same (S := toldF (prpF S2 ld S.1) S.1 (tmF S2.2.1 ld S.1)) (ld := ld) (n := S.1) ((toldF_same hBp (by omega)).2.1)
        rw [ep, hds.2.2.2 4 S.1 (by decide) (by decide) (by decide), told_N (by decide) (by decide) (by decide) (by decide) (by decide) (by decide), pk 4 (by decide) (by decide) (by decide)]
      rw [coB_congr (N := (prepF S2 ld ld S.1).2.1) (N' := S2.2.1) e4d, if_neg hc2, ep]
      exact hD
  · simp only [hc1, Bool.false_eq_true, if_false]
    have hc2 : coF S2.2.1 S.1 (ld + 1) = true := by
      rcases co_ex (N := S2.2.1) (n := S.1) (ld := ld) (by rw [e4n]; exact h19) (by rw [e4n]; exact h0) hld2 with q | q
      · exact absurd q hc1
      · exact q
    rw [if_pos hc2]
    refine push S2 hI rfl hL2 hnk hP0 rfl ?_ (hF0 (ld + 1) (by omega))
    rw [e6n]
    unfold coN
    rw [if_neg hc1, if_pos hc2]
end INV5
