/-! what a state's other parts leave; a transaction's cell; decide -/
section DC
variable {d : Nat} {g : Nat → Option aE} {c : Nat} {X X1 : aX} {Q : Option Value → aH → Prop} {S S1 : aSt} {T : Nat → Nat} {K : Nat → List Nat} {L : List aMsg} {LL : List aLm} {tg : Nat → Nat}
theorem SS_cg (h1 : S1.1 = S.1) (hN : ∀ k, ¬ k = 6 → ¬ k = 9 → ¬ k = 15 → ¬ k = 16 → ¬ k = 17 → ¬ k = 19 → S1.2.1 k = S.2.1 k) (hV : S1.2.2.1 5 = S.2.2.1 5) (h : SS c X S T K) : SS c X S1 T K := by
  obtain ⟨a1, a2, a3, a4, a5, a6, a7, a8, a9⟩ := h
  have hcg : Ncg S.2.1 S1.2.1 := by
    refine ⟨?_, ?_, ?_, ?_, ?_, ?_⟩ <;> exact hN _ (by decide) (by decide) (by decide) (by decide) (by decide) (by decide)
  refine ⟨a1.trans h1.symm, ?_, ?_, ?_, ?_, ?_, a7, ?_, ?_⟩
  · rw [hN 10 (by decide) (by decide) (by decide) (by decide) (by decide) (by decide)]; exact a2
  · rw [hN 13 (by decide) (by decide) (by decide) (by decide) (by decide) (by decide)]; exact a3
  · rw [hN 14 (by decide) (by decide) (by decide) (by decide) (by decide) (by decide)]; exact a4
  · rw [hN 11 (by decide) (by decide) (by decide) (by decide) (by decide) (by decide)]; exact a5
  · rw [hN 11 (by decide) (by decide) (by decide) (by decide) (by decide) (by decide), hN 12 (by decide) (by decide) (by decide) (by decide) (by decide) (by decide)]; exact a6
  · rw [hN 11 (by decide) (by decide) (by decide) (by decide) (by decide) (by decide), nw7_cg hcg, h1]; exact a8
  · intro m hm
    rw [h1] at hm
    exact ⟨(a9 m hm).1, TrN_cg hcg hV (a9 m hm).2⟩
theorem SC_cg (h15 : S1.2.1 15 = S.2.1 15) (h16 : S1.2.1 16 = S.2.1 16) (h17 : S1.2.1 17 = S.2.1 17) (h19 : S1.2.1 19 = S.2.1 19) (h20 : S1.2.2.1 20 = S.2.2.1 20) (h21 : S1.2.2.1 21 = S.2.2.1 21) (hO : S1.2.2.2.1 = S.2.2.2.1) (h : SC X S T) : SC X S1 T := by
  unfold SC at *
  rw [h15, h16, h17, h19, h20, h21, hO]
  exact h
abbrev trC (c : Nat) (N : Nat → Nat → Nat) (T : Nat → Nat) (n tm td : Nat) : aE := .inr (5, [.int (nI n), .int (nI (plT N n)), .ref (c + 2 + 6 * N 1 n), .int (nI (N 3 n)), .ref (T n + 1), .ref (T n + 2), .int (nI tm), .int (nI td)])
theorem tr_ot {Y : Nat → Option aE} {b : Nat} {e e2 : aE} {fs : List Value} {t : Nat} (ht : Y t = some (.inr (5, fs))) (hb : Y b = some e) (he : ∀ fs, ¬ e = .inr (5, fs)) : va_up Y t (some e2) b = some e := by
  refine (if_neg (fun q => ?_)).trans hb
  rw [q, ht] at hb
  cases hb
  exact he _ rfl
theorem Xm_tr5 {Y : Nat → Option aE} {t : Nat} {e2 : aE} {fs : List Value} (ht : Y t = some (.inr (5, fs))) : Xm Y (va_up Y t (some e2)) := fun b f2 hb => ⟨f2, tr_ot ht hb (fun fs q => by cases q), rfl⟩
theorem SS_tr {n tm td : Nat} (hn : n < S.1) (hm : S.1 ≤ 200) (htd : td < 2) (hk : tm = S.2.1 7 n ∨ ∀ s, s < 6 → ¬ S.2.1 11 (200 * s + n) = 3) (h : SS c X S T K) : SS c (xs_Y X (va_up (x_Y X) (T n) (some (trC c S.2.1 T n tm td)))) (setN (setN S 7 n tm) 8 n td) T K := by
  obtain ⟨a1, a2, a3, a4, a5, a6, a7, a8, a9⟩ := h
  have hTn := (a9 n hn).2
  refine ⟨a1, ?_, ?_, ?_, ?_, ?_, a7, ?_, ?_⟩
  · rw [sN_n (by decide), sN_n (by decide)]; exact a2
  · rw [sN_n (by decide), sN_n (by decide)]; exact a3
  · rw [sN_n (by decide), sN_n (by decide)]; exact a4
  · rw [sN_n (by decide), sN_n (by decide)]; exact a5
  · rw [sN_n (by decide), sN_n (by decide), sN_n (by decide), sN_n (by decide)]; exact a6
  · intro s hs
    obtain ⟨k1, k2, k3, k4⟩ := a8 s hs
    rw [sN_n (by decide), sN_n (by decide)]
    refine ⟨k1, k2, ?_, k4⟩
    refine List.Pairwise.imp_of_mem (fun {a b} ha hb hab => ?_) k3
    unfold nw7 plT at *
    rw [sN_n (by decide), sN_s, sN_n (by decide), sN_n (by decide)]
    rcases hk with hk | hk
    · rw [hk, vu_i]; exact hab
    · have na : ¬ a = n := fun q => hk s hs (by rw [← q]; exact ((k4 a).mp ha).2)
      have nb : ¬ b = n := fun q => hk s hs (by rw [← q]; exact ((k4 b).mp hb).2)
      rw [vu_n na, vu_n nb]
      exact hab
  · intro m hmm
    refine ⟨(a9 m hmm).1, ?_⟩
    have hTm := (a9 m hmm).2
    have e1 : (setN (setN S 7 n tm) 8 n td).2.1 1 = S.2.1 1 := by rw [sN_n (by decide), sN_n (by decide)]
    have e2 : (setN (setN S 7 n tm) 8 n td).2.1 2 = S.2.1 2 := by rw [sN_n (by decide), sN_n (by decide)]
    have e3 : (setN (setN S 7 n tm) 8 n td).2.1 3 = S.2.1 3 := by rw [sN_n (by decide), sN_n (by decide)]
    have e4 : (setN (setN S 7 n tm) 8 n td).2.1 4 = S.2.1 4 := by rw [sN_n (by decide), sN_n (by decide)]
    have e7 : (setN (setN S 7 n tm) 8 n td).2.1 7 = va_up (S.2.1 7) n tm := by rw [sN_n (by decide), sN_s]
    have e8 : (setN (setN S 7 n tm) 8 n td).2.1 8 = va_up (S.2.1 8) n td := by rw [sN_s, sN_n (by decide)]
    have eV : (setN (setN S 7 n tm) 8 n td).2.2.1 = S.2.2.1 := rfl
    unfold TrN sN plT at *
    rw [e1, e2, e3, e4, e7, e8, eV]
    have m200 : m < 200 := Nat.lt_of_lt_of_le hmm hm
    have n200 : n < 200 := Nat.lt_of_lt_of_le hn hm
    by_cases q : m = n
    · subst q
      rw [vu_s, vu_s]
      obtain ⟨h1, h2, ⟨h3, h4, h5, h6⟩, h7⟩ := hTm
      exact ⟨vu_s, (vu_n (by omega)).trans h2, ⟨(vu_n (by omega)).trans h3, (vu_n (by omega)).trans h4, (vu_n (by omega)).trans h5, h6⟩, htd⟩
    · rw [vu_n q, vu_n q]
      obtain ⟨h1, h2, ⟨h3, h4, h5, h6⟩, h7⟩ := hTm
      refine ⟨?_, tr_ot hTn.1 h2 (fun fs q => by cases q), ⟨tr_ot hTn.1 h3 (fun fs q => by cases q), tr_ot hTn.1 h4 (fun fs q => by cases q), tr_ot hTn.1 h5 (fun fs q => by cases q), h6⟩, h7⟩
      refine (vu_n (fun q2 => q ?_)).trans h1
      have h8 := hTn.1
      rw [← q2] at h8
      have h9 := h1.symm.trans h8
      simp only [Option.some.injEq, Sum.inr.injEq, Prod.mk.injEq, List.cons.injEq, Value.int.injEq, true_and] at h9
      exact (nI_eq (by omega) (by omega)).mp h9.1
theorem SL_tr {n tm td : Nat} (hn : n < S.1) (h : SS c X S T K) (hL : SL X L LL tg) : SL (xs_Y X (va_up (x_Y X) (T n) (some (trC c S.2.1 T n tm td)))) L LL tg :=
  SL_cg (X := X) rfl rfl rfl (fun b e hb he => tr_ot ((h.2.2.2.2.2.2.2.2 n hn).2).1 hb he) hL
/-- noteTime -/
theorem d59s {h : aH} {n x : Nat} (hn : n < S.1) (hm : S.1 ≤ 200) (hB : am_BN S.2.1) (hx : x < 1000000) (h3 : ∀ s, s < 6 → ¬ S.2.1 11 (200 * s + n) = 3) (h8 : S.2.1 8 n < 2) (hR : RC g h c X) (hSS : SS c X S T K) (hSL : SL X L LL tg) (hQ : ∀ (h1 : aH) (X1 : aX), h1.1 = h.1 → h1.2.1 = h.2.1 → RC g h1 c X1 → SS c X1 (setN S 7 n (max (S.2.1 7 n) x)) T K → SL X1 L LL tg → Xc X X1 → Q none h1) : am_R d 59 0 [some (.ref (T n)), some (.int (nI x))] [] h Q := by
  have hT := (hSS.2.2.2.2.2.2.2.2 n hn).2
  refine d59 (hB _ _) hx hT hR (fun h1 g1 g2 hR1 => ?_)
  have h9 := SS_tr (tm := max (S.2.1 7 n) x) (td := S.2.1 8 n) hn hm h8 (Or.inr h3) hSS
  refine hQ h1 _ g1 g2 hR1 ?_ (SL_tr hn hSS hSL) ⟨rfl, rfl, rfl, rfl, rfl, rfl, rfl, Xm_tr5 hT.1⟩
  have e : (setN (setN S 7 n (max (S.2.1 7 n) x)) 8 n (S.2.1 8 n)) = setN S 7 n (max (S.2.1 7 n) x) := by
    unfold setN
    simp only [Prod.mk.injEq, true_and, and_true]
    funext k e
    unfold up2
    by_cases q : k = 8 ∧ e = n
    · rw [if_pos q, if_neg (fun w => by omega), q.1, q.2]
    · rw [if_neg q]
  rw [e] at h9
  exact h9
theorem owF_O {i n : Nat} : ∀ t k (S : aSt) (e : Nat), (owF i n t k S).2.2.2.1 e = if (8 * i + k ≤ e ∧ e < 8 * i + k + t) ∧ wF (S.2.1 4 n) (e - 8 * i) then some n else S.2.2.2.1 e := by
  intro t
  induction t with
  | zero => intro k S e; rw [if_neg (by omega)]; rfl
  | succ t ih =>
    intro k S e
    rw [owF, ih]
    by_cases hw : wF (S.2.1 4 n) k
    · rw [if_pos hw]
      show (if (8 * i + (k + 1) ≤ e ∧ e < 8 * i + (k + 1) + t) ∧ wF (S.2.1 4 n) (e - 8 * i) then some n else va_up S.2.2.2.1 (8 * i + k) (some n) e) = _
      by_cases q : e = 8 * i + k
      · rw [if_neg (by omega), if_pos ⟨by omega, by rw [show e - 8 * i = k by omega]; exact hw⟩, q]
        exact vu_s
      · rw [vu_n q]
        by_cases q2 : (8 * i + (k + 1) ≤ e ∧ e < 8 * i + (k + 1) + t) ∧ wF (S.2.1 4 n) (e - 8 * i)
        · rw [if_pos q2, if_pos ⟨by omega, q2.2⟩]
        · rw [if_neg q2, if_neg (fun w => q2 ⟨by omega, w.2⟩)]
    · rw [if_neg hw]
      by_cases q2 : (8 * i + (k + 1) ≤ e ∧ e < 8 * i + (k + 1) + t) ∧ wF (S.2.1 4 n) (e - 8 * i)
      · rw [if_pos q2, if_pos ⟨by omega, q2.2⟩]
      · rw [if_neg q2, if_neg (fun w => ?_)]
        by_cases q : e = 8 * i + k
        · have := w.2
          rw [show e - 8 * i = k by omega] at this
          exact hw this
        · exact q2 ⟨by omega, w.2⟩
theorem SC_fc {i n tm : Nat} (hi : i < 6) (h15 : S1.2.1 15 = va_up (S.2.1 15) i 0) (h16 : S1.2.1 16 = va_up (S.2.1 16) i tm) (h17 : S1.2.1 17 = S.2.1 17) (h19 : S1.2.1 19 = S.2.1 19) (hV : S1.2.2.1 = S.2.2.1) (hO : ∀ e, S1.2.2.2.1 e = if (8 * i + 0 ≤ e ∧ e < 8 * i + 0 + 8) ∧ wF (S.2.1 4 n) (e - 8 * i) then some n else S.2.2.2.1 e) (h : SC X S T) : SC (fcX X i 8 (T n) tm (fun k => S.2.1 4 n / 2 ^ k % 2)) S1 T := by
  obtain ⟨b1, b2, b3, b4, b5, b6, b7⟩ := h
  unfold SC
  rw [h15, h16, h17, h19, hV]
  refine ⟨by rw [← b1], by rw [← b2], b3, b4, ?_, b6, b7⟩
  funext j k
  show va_up (x_ow X) i (thF 8 (fun k => if S.2.1 4 n / 2 ^ k % 2 = 1 then some (T n) else x_ow X i k) (x_ow X i)) j k = _
  by_cases hj : j = i
  · subst hj
    rw [vu_s]
    unfold thF
    by_cases hk : k < 8
    · rw [if_pos hk, if_pos ⟨hi, hk⟩, hO, show 8 * j + k - 8 * j = k by omega]
      simp only []
      by_cases hw : wF (S.2.1 4 n) k
      · rw [if_pos hw, if_pos ⟨by omega, hw⟩]; rfl
      · rw [if_neg hw, if_neg (fun w => hw w.2), b5]
        simp only [if_pos (And.intro hi hk)]
    · rw [if_neg hk, if_neg (fun w => hk w.2), b5]
      simp only [if_neg (show ¬ (j < 6 ∧ k < 8) from fun w => hk w.2)]
  · rw [vu_n hj, b5]
    by_cases hk : j < 6 ∧ k < 8
    · simp only [if_pos hk]
      rw [hO, if_neg (by omega)]
    · simp only [if_neg hk]
end DC
