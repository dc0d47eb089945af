/-! commit: the new transaction by the reference's state -/
theorem intF_is {i n : Nat} : ∀ t k (S : aSt), (∀ j, ¬ j = 5 → (intF i n t k S).2.2.1 j = S.2.2.1 j) ∧ ∀ e, (intF i n t k S).2.2.1 5 e = if 8 * n + k ≤ e ∧ e < 8 * n + k + t then (if wF (S.2.1 4 n) (e - 8 * n) then S.2.2.1 20 (8 * i + (e - 8 * n)) else nI 0) else S.2.2.1 5 e := by
  intro t
  induction t with
  | zero => intro k S; exact ⟨fun j _ => rfl, fun e => by rw [if_neg (by omega)]; rfl⟩
  | succ t ih =>
    intro k S
    rw [intF]
    obtain ⟨i1, i2⟩ := ih (k + 1) (setV S 5 (8 * n + k) (if wF (S.2.1 4 n) k then S.2.2.1 20 (8 * i + k) else nI 0))
    refine ⟨fun j hj => (i1 j hj).trans (sV_n hj), fun e => ?_⟩
    rw [i2, sV_s, sV_n (by decide)]
    show (if 8 * n + (k + 1) ≤ e ∧ e < 8 * n + (k + 1) + t then (if wF (S.2.1 4 n) (e - 8 * n) then S.2.2.1 20 (8 * i + (e - 8 * n)) else nI 0) else va_up (S.2.2.1 5) (8 * n + k) (if wF (S.2.1 4 n) k then S.2.2.1 20 (8 * i + k) else nI 0) e) = _
    by_cases q : e = 8 * n + k
    · rw [if_neg (show ¬ (8 * n + (k + 1) ≤ e ∧ e < 8 * n + (k + 1) + t) by omega), if_pos (show 8 * n + k ≤ e ∧ e < 8 * n + k + (t + 1) by omega), q, vu_s, show 8 * n + k - 8 * n = k by omega]
    · rw [vu_n q]
      by_cases q2 : 8 * n + (k + 1) ≤ e ∧ e < 8 * n + (k + 1) + t
      · rw [if_pos q2, if_pos (show 8 * n + k ≤ e ∧ e < 8 * n + k + (t + 1) by omega)]
      · rw [if_neg q2, if_neg (show ¬ (8 * n + k ≤ e ∧ e < 8 * n + k + (t + 1)) by omega)]
section CM1
variable {d : Nat} {g : Nat → Option aE} {c : Nat} {X : aX} {Q : Option Value → aH → Prop} {S : aSt} {T : Nat → Nat} {K : Nat → List Nat} {LL : List aLm} {tg : Nat → Nat} {h : aH}
abbrev cmS (S : aSt) (i : Nat) : aSt := cm2 (cm1 S i) (2 * (i % 3)) S.1
abbrev cmA (S : aSt) (i : Nat) : aSt := setN (setN (setN (setMany S (S.1 + 1)) 1 S.1 i) 3 S.1 (S.2.1 16 i)) 4 S.1 (S.2.1 19 i)
theorem cmS_is {i : Nat} : (cmS S i).1 = S.1 + 1 ∧ (cmS S i).2.2.2 = S.2.2.2 ∧ (∀ k, ¬ k = 1 → ¬ k = 2 → ¬ k = 3 → ¬ k = 4 → ¬ k = 6 → ¬ k = 7 → ¬ k = 15 → ¬ k = 19 → (cmS S i).2.1 k = S.2.1 k) ∧ (cmS S i).2.1 1 = va_up (S.2.1 1) S.1 i ∧ (cmS S i).2.1 2 = va_up (va_up (va_up (S.2.1 2) (3 * S.1) (S.2.1 17 (3 * i))) (3 * S.1 + 1) (S.2.1 17 (3 * i + 1))) (3 * S.1 + 2) (S.2.1 17 (3 * i + 2)) ∧ (cmS S i).2.1 3 = va_up (S.2.1 3) S.1 (S.2.1 16 i) ∧ (cmS S i).2.1 4 = va_up (S.2.1 4) S.1 (S.2.1 19 i) ∧ (cmS S i).2.1 7 = va_up (S.2.1 7) S.1 0 ∧ (cmS S i).2.1 15 = va_up (S.2.1 15) i 2 ∧ (cmS S i).2.1 19 = va_up (S.2.1 19) i 0 ∧ (∀ j, ¬ j = 5 → (cmS S i).2.2.1 j = S.2.2.1 j) ∧ (∀ e, (cmS S i).2.2.1 5 e = if 8 * S.1 + 0 ≤ e ∧ e < 8 * S.1 + 0 + 8 then (if wF (S.2.1 19 i) (e - 8 * S.1) then S.2.2.1 20 (8 * i + (e - 8 * S.1)) else nI 0) else S.2.2.1 5 e) := by
  have hi := intF_same (c := i) (n := S.1) 8 0 (sawF i S.1 3 0 (cmA S i))
  have hI := intF_is (i := i) (n := S.1) 8 0 (sawF i S.1 3 0 (cmA S i))
  have hs := sawF_same (c := i) (n := S.1) 3 0 (cmA S i)
  have sk : ∀ k, ¬ k = 2 → (sawF i S.1 3 0 (cmA S i)).2.1 k = (cmA S i).2.1 k := fun k hk => funext (fun e => hs.2.2.1 k e hk)
  have s2 : (sawF i S.1 3 0 (cmA S i)).2.1 2 = va_up (va_up (va_up (S.2.1 2) (3 * S.1) (S.2.1 17 (3 * i))) (3 * S.1 + 1) (S.2.1 17 (3 * i + 1))) (3 * S.1 + 2) (S.2.1 17 (3 * i + 2)) := by
    simp only [sawF]
    rw [sN_s, sN_s, sN_s]
    simp only [sN_n (show ¬ 17 = 2 by decide), sN_n (show ¬ 17 = 4 by decide), sN_n (show ¬ 17 = 3 by decide), sN_n (show ¬ 17 = 1 by decide), sN_n (show ¬ 2 = 4 by decide), sN_n (show ¬ 2 = 3 by decide), sN_n (show ¬ 2 = 1 by decide)]
    rfl
  have eN : ∀ k, ¬ k = 6 → ¬ k = 7 → ¬ k = 15 → ¬ k = 19 → (cmS S i).2.1 k = (sawF i S.1 3 0 (cmA S i)).2.1 k := fun k a b e f => by
    unfold cmS cm2 cm1
    rw [sN_n a, sN_n a, sN_n b, sN_n a, sN_n f, sN_n e, hi.2.1]
  have a4 : (cmA S i).2.1 4 = va_up (S.2.1 4) S.1 (S.2.1 19 i) := by
    rw [sN_s, sN_n (by decide), sN_n (by decide)]
    rfl
  have ak : ∀ k, ¬ k = 1 → ¬ k = 3 → ¬ k = 4 → (cmA S i).2.1 k = S.2.1 k := fun k a b e => by
    rw [sN_n e, sN_n b, sN_n a]
    rfl
  have e7 : (cmS S i).2.1 7 = va_up (S.2.1 7) S.1 0 := by
    unfold cmS cm2 cm1
    rw [sN_n (by decide), sN_n (by decide), sN_s, sN_n (by decide), sN_n (by decide), sN_n (by decide), hi.2.1, sk 7 (by decide), ak 7 (by decide) (by decide) (by decide)]
  have e15 : (cmS S i).2.1 15 = va_up (S.2.1 15) i 2 := by
    unfold cmS cm2 cm1
    rw [sN_n (by decide), sN_n (by decide), sN_n (by decide), sN_n (by decide), sN_n (by decide), sN_s, hi.2.1, sk 15 (by decide), ak 15 (by decide) (by decide) (by decide)]
  have e19 : (cmS S i).2.1 19 = va_up (S.2.1 19) i 0 := by
    unfold cmS cm2 cm1
    rw [sN_n (by decide), sN_n (by decide), sN_n (by decide), sN_n (by decide), sN_s, sN_n (by decide), hi.2.1, sk 19 (by decide), ak 19 (by decide) (by decide) (by decide)]
  have eV : (cmS S i).2.2.1 = (intF i S.1 8 0 (sawF i S.1 3 0 (cmA S i))).2.2.1 := rfl
  have sV : (sawF i S.1 3 0 (cmA S i)).2.2.1 = S.2.2.1 := by rw [hs.2.1]; rfl
  refine ⟨?_, ?_, ?_, ?_, ?_, ?_, ?_, e7, e15, e19, ?_, ?_⟩
  · show (intF i S.1 8 0 (sawF i S.1 3 0 (cmA S i))).1 = S.1 + 1
    rw [hi.1, hs.1]
    rfl
  · show (intF i S.1 8 0 (sawF i S.1 3 0 (cmA S i))).2.2.2 = S.2.2.2
    rw [hi.2.2, hs.2.1]
    rfl
  · intro k k1 k2 k3 k4 k6 k7 k15 k19
    rw [eN k k6 k7 k15 k19, sk k k2, ak k k1 k3 k4]
  · rw [eN 1 (by decide) (by decide) (by decide) (by decide), sk 1 (by decide), sN_n (by decide), sN_n (by decide), sN_s]
    rfl
  · rw [eN 2 (by decide) (by decide) (by decide) (by decide), s2]
  · rw [eN 3 (by decide) (by decide) (by decide) (by decide), sk 3 (by decide), sN_n (by decide), sN_s, sN_n (by decide)]
    rfl
  · rw [eN 4 (by decide) (by decide) (by decide) (by decide), sk 4 (by decide), a4]
  · intro j hj
    rw [eV, hI.1 j hj, sV]
  · intro e
    rw [eV, hI.2, sV, sk 4 (by decide), a4, vu_s]
theorem SS_T {T1 : Nat → Nat} (hT : ∀ n, n < S.1 → T1 n = T n) (h : SS c X S T K) : SS c X S T1 K := by
  have h0 := h
  obtain ⟨a1, a2, a3, a4, a5, a6, a7, a8, a9⟩ := h
  refine ⟨a1, a2, a3, a4, a5, a6, a7, fun s hs => ?_, fun n hn => ?_⟩
  · obtain ⟨k1, k2, k3, k4⟩ := a8 s hs
    refine ⟨k1, fun i hi => ?_, k3, k4⟩
    rw [hT _ (K_n (N := S.2.1) hs h0 hi)]
    exact k2 i hi
  · rw [hT n hn]
    refine ⟨(a9 n hn).1, ?_⟩
    have := (a9 n hn).2
    unfold TrN at *
    rw [hT n hn]
    exact this
theorem SS_new {i t : Nat} {Y2 : Nat → Option aE} (hi : i < 6) (h19 : S.2.1 19 i < 256) (hz : ∀ s, s < 6 → S.2.1 11 (200 * s + S.1) = 0) (h8 : S.2.1 8 S.1 = 0) (hY : ∀ b e, x_Y X b = some e → Y2 b = some e) (hT : Tr (0, 0, Y2) t S.1 (i % 3) (c + 2 + 6 * i) (x_lt X i) 0 0 (x_sn X i) (thF 8 (x_hs X i) (fun _ => 0)) (thF 8 (x_iv X i) (fun _ => nI 0))) (hSC : SC X S T) (h : SS c X S T K) : SS c (xs_cnt (xs_ta (xs_Y X Y2) (va_up (x_ta X) S.1 (some t))) (S.1 + 1)) (cmS S i) (va_up T S.1 t) K := by
  obtain ⟨q1, q2, q3, n1, n2, n3, n4, n7, n15, n19, qV, v5⟩ := cmS_is (S := S) (i := i)
  have h1 := SS_T (T1 := va_up T S.1 t) (fun n hn => vu_n (by omega)) h
  obtain ⟨a1, a2, a3, a4, a5, a6, a7, a8, a9⟩ := h1
  have m10 := q3 10 (by decide) (by decide) (by decide) (by decide) (by decide) (by decide) (by decide) (by decide)
  have m11 := q3 11 (by decide) (by decide) (by decide) (by decide) (by decide) (by decide) (by decide) (by decide)
  have m12 := q3 12 (by decide) (by decide) (by decide) (by decide) (by decide) (by decide) (by decide) (by decide)
  have m13 := q3 13 (by decide) (by decide) (by decide) (by decide) (by decide) (by decide) (by decide) (by decide)
  have m14 := q3 14 (by decide) (by decide) (by decide) (by decide) (by decide) (by decide) (by decide) (by decide)
  have m8 := q3 8 (by decide) (by decide) (by decide) (by decide) (by decide) (by decide) (by decide) (by decide)
  refine ⟨q1.symm, ?_, ?_, ?_, ?_, ?_, a7, ?_, ?_⟩
  · rw [m10]; exact a2
  · rw [m13]; exact a3
  · rw [m14]; exact a4
  · rw [m11]; exact a5
  · rw [m11, m12]; exact a6
  · intro s hs
    obtain ⟨k1, k2, k3, k4⟩ := a8 s hs
    refine ⟨k1, k2, ?_, fun m => ?_⟩
    · refine List.Pairwise.imp_of_mem (fun {a b} ha hb hab => ?_) k3
      have na : ¬ a = S.1 := fun q => by have := ((k4 a).mp ha).1; omega
      have nb : ¬ b = S.1 := fun q => by have := ((k4 b).mp hb).1; omega
      unfold nw7 plT at *
      rw [n7, n1, vu_n na, vu_n nb, vu_n na, vu_n nb]
      exact hab
    · rw [k4, m11, q1]
      constructor
      · exact fun w => ⟨by omega, w.2⟩
      · intro w
        refine ⟨?_, w.2⟩
        by_cases e : m = S.1
        · rw [e, hz s hs] at w
          omega
        · omega
  · intro m hm
    rw [q1] at hm
    by_cases e : m = S.1
    · subst e
      refine ⟨vu_s.trans (by rw [vu_s]), ?_⟩
      unfold TrN plT
      rw [vu_s, n1, n3, n4, n7, m8, vu_s, vu_s, vu_s, vu_s, h8]
      have esn : sN (cmS S i).2.1 S.1 = x_sn X i := by
        rw [hSC.2.2.2.1]
        unfold sN clF
        rw [n2]
        funext p
        by_cases hp : p < 3
        · rw [if_pos hp, if_pos hp]
          have : p = 0 ∨ p = 1 ∨ p = 2 := by omega
          rcases this with rfl | rfl | rfl
          · rw [vu_n (by omega), vu_n (by omega)]; exact vu_s
          · rw [vu_n (by omega), vu_s]
          · rw [vu_s]
        · rw [if_neg hp, if_neg hp]
      have ef : (fun k => S.2.1 19 i / 2 ^ k % 2) = thF 8 (x_hs X i) (fun _ => 0) := by
        rw [hSC.2.2.2.2.2.1]
        funext k
        unfold thF
        by_cases hk : k < 8
        · rw [if_pos hk]
        · rw [if_neg hk]
          exact big_bit h19 (by omega)
      have ev : vN (cmS S i).2.2.1 S.1 = thF 8 (x_iv X i) (fun _ => nI 0) := by
        rw [hSC.2.2.2.2.2.2]
        funext k
        unfold vN thF
        by_cases hk : k < 8
        · rw [if_pos hk, if_pos hk, v5, if_pos (by omega), show 8 * S.1 + k - 8 * S.1 = k by omega]
        · rw [if_neg hk, if_neg hk]
      have elt : x_lt X i = S.2.1 16 i := congrFun hSC.2.1 i
      rw [esn, ef, ev, ← elt]
      exact hT
    · have hm2 : m < S.1 := by omega
      refine ⟨?_, ?_⟩
      · refine (vu_n e).trans ((a9 m hm2).1)
      · have hTm := Tr_kp (Y := x_Y X) (Y1 := Y2) (fun b e q _ => hY b e q) (a9 m hm2).2
        unfold TrN plT at *
        rw [n1, n3, n4, n7, m8, vu_n (f := S.2.1 1) e, vu_n (f := S.2.1 3) e, vu_n (f := S.2.1 4) e, vu_n (f := S.2.1 7) e]
        have esn : sN (cmS S i).2.1 m = sN S.2.1 m := by
          unfold sN
          rw [n2]
          funext p
          by_cases hp : p < 3
          · rw [if_pos hp, if_pos hp, vu_n (by omega), vu_n (by omega), vu_n (by omega)]
          · rw [if_neg hp, if_neg hp]
        have ev : vN (cmS S i).2.2.1 m = vN S.2.2.1 m := by
          funext k
          unfold vN
          by_cases hk : k < 8
          · rw [if_pos hk, if_pos hk, v5, if_neg (by omega)]
          · rw [if_neg hk, if_neg hk]
        rw [esn, ev]
        exact hTm
end CM1
