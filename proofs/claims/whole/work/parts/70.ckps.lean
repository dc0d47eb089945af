/-! keepVersions and nextToApply, by the reference's state -/
def Xc (X X1 : aX) : Prop := x_dg X1 = x_dg X ∧ x_lt X1 = x_lt X ∧ x_lr X1 = x_lr X ∧ x_sn X1 = x_sn X ∧ x_ow X1 = x_ow X ∧ x_hs X1 = x_hs X ∧ x_iv X1 = x_iv X ∧ Xm (x_Y X) (x_Y X1)
theorem sN_n {S : aSt} {k e v j : Nat} (h : ¬ j = k) : (setN S k e v).2.1 j = S.2.1 j := u2_n h
theorem sN_s {S : aSt} {k e v : Nat} : (setN S k e v).2.1 k = va_up (S.2.1 k) e v := u2_s
section KPS
variable {d : Nat} {g : Nat → Option aE} {c : Nat} {X X1 X2 : aX} {Q : Option Value → aH → Prop} {S : aSt} {T : Nat → Nat} {K : Nat → List Nat} {L : List aMsg} {LL : List aLm} {tg : Nat → Nat}
theorem Xc_rf : Xc X X := ⟨rfl, rfl, rfl, rfl, rfl, rfl, rfl, Xm_rf⟩
theorem Xc_tr (h1 : Xc X X1) (h2 : Xc X1 X2) : Xc X X2 := by
  obtain ⟨a1, a2, a3, a4, a5, a6, a7, a8⟩ := h1
  obtain ⟨b1, b2, b3, b4, b5, b6, b7, b8⟩ := h2
  exact ⟨b1.trans a1, b2.trans a2, b3.trans a3, b4.trans a4, b5.trans a5, b6.trans a6, b7.trans a7, Xm_tr a8 b8⟩
theorem Xc_lk (hx : Xlk X X1) : Xc X X1 := by
  obtain ⟨lf, ll, lc, Y, rfl, hY, hM⟩ := hx
  exact ⟨rfl, rfl, rfl, rfl, rfl, rfl, rfl, hM⟩
theorem SC_c (hx : Xc X X1) (h : SC X S T) : SC X1 S T := by
  obtain ⟨a1, a2, a3, a4, a5, a6, a7, a8⟩ := hx
  obtain ⟨b1, b2, b3, b4, b5, b6, b7⟩ := h
  exact ⟨a1.trans b1, a2.trans b2, a3.trans b3, a4.trans b4, a5.trans b5, a6.trans b6, a7.trans b7⟩
def Ncg (N N1 : Nat → Nat → Nat) : Prop := N1 1 = N 1 ∧ N1 2 = N 2 ∧ N1 3 = N 3 ∧ N1 4 = N 4 ∧ N1 7 = N 7 ∧ N1 8 = N 8
theorem TrN_cg {h : aH} {N N1 : Nat → Nat → Nat} {V V1 : Nat → Nat → Int32} {n : Nat} (hN : Ncg N N1) (hV : V1 5 = V 5) (hT : TrN h c N V T n) : TrN h c N1 V1 T n := by
  obtain ⟨a1, a2, a3, a4, a7, a8⟩ := hN
  unfold TrN sN vN at *
  unfold plT at *
  rw [a1, a2, a3, a4, a7, a8, hV]
  exact hT
theorem nw7_cg {N N1 : Nat → Nat → Nat} (hN : Ncg N N1) : nw7 N1 = nw7 N := by
  obtain ⟨a1, a2, a3, a4, a7, a8⟩ := hN
  funext a b
  unfold nw7 plT
  rw [a1, a7]
theorem Ncg_u {N : Nat → Nat → Nat} {k e v : Nat} (hk : 9 ≤ k) : Ncg N (up2 N k e v) := ⟨u2_n (by omega), u2_n (by omega), u2_n (by omega), u2_n (by omega), u2_n (by omega), u2_n (by omega)⟩
theorem K_n {N : Nat → Nat → Nat} {s : Nat} (hs : s < 6) (h : SS c X S T K) {i : Nat} (hi : i < (K s).length) : (K s).getD i 0 < S.1 := by
  obtain ⟨a1, a2, a3, a4, a5, a6, a7, a8, a9⟩ := h
  obtain ⟨k1, k2, k3, k4⟩ := a8 s hs
  refine ((k4 _).mp ?_).1
  rw [List.getD_eq_getElem?_getD, List.getElem?_eq_getElem hi]
  exact List.getElem_mem _
theorem pg_le {R : Nat → Nat → Prop} (hir : ∀ a, ¬ R a a) : ∀ (m : Nat) (l : List Nat), l.Pairwise R → (∀ a, a ∈ l → a < m) → (∀ a b, R a b → ¬ R b a) → l.length ≤ m := by
  intro m
  induction m with
  | zero =>
    intro l _ h _
    cases l with
    | nil => exact Nat.le_refl _
    | cons x r => exact absurd (h x List.mem_cons_self) (by omega)
  | succ m ih =>
    intro l hp h has
    have h1 := ih (l.filter (fun a => decide (a ≠ m))) (hp.filter _) (fun a ha => by
      have := List.mem_filter.mp ha
      have h2 := h a this.1
      have h3 := of_decide_eq_true this.2
      omega) has
    have h2 : l.length ≤ (l.filter (fun a => decide (a ≠ m))).length + 1 := by
      clear h1 h ih
      induction l with
      | nil => exact Nat.zero_le _
      | cons x r ih2 =>
        have hp2 := List.pairwise_cons.mp hp
        by_cases hx : x = m
        · have e : r.filter (fun a => decide (a ≠ m)) = r := by
            apply List.filter_eq_self.mpr
            intro a ha
            refine decide_eq_true (fun q => ?_)
            have := hp2.1 a ha
            rw [q, hx] at this
            exact hir _ this
          rw [List.filter_cons_of_neg (by simp [hx]), e]
          exact Nat.le_refl _
        · rw [List.filter_cons_of_pos (by simp [hx])]
          have := ih2 hp2.2
          simp only [List.length_cons]
          omega
    omega
theorem K_len {s : Nat} (hs : s < 6) (h : SS c X S T K) : (K s).length ≤ S.1 := by
  obtain ⟨a1, a2, a3, a4, a5, a6, a7, a8, a9⟩ := h
  obtain ⟨k1, k2, k3, k4⟩ := a8 s hs
  refine pg_le (fun a => nw7_ir) S.1 _ k3 (fun a ha => ((k4 a).mp ha).1) (fun a b q1 q2 => ?_)
  exact absurd (nw7_tr q1 q2) nw7_ir
theorem K_lt {s n : Nat} (hs : s < 6) (h : SS c X S T K) (hn : n < S.1) (hn3 : ¬ S.2.1 11 (200 * s + n) = 3) : (K s).length < S.1 := by
  obtain ⟨a1, a2, a3, a4, a5, a6, a7, a8, a9⟩ := h
  obtain ⟨k1, k2, k3, k4⟩ := a8 s hs
  have hnk : ¬ n ∈ K s := fun q => hn3 ((k4 n).mp q).2
  have := pg_le (fun a => nw7_ir) S.1 _ (insK_pw hnk k3) (fun a ha => by
    rcases insK_mem.mp ha with q | q
    · rw [q]; exact hn
    · exact ((k4 a).mp q).1) (fun a b q1 q2 => absurd (nw7_tr q1 q2) nw7_ir)
  rw [insK_len] at this
  omega
theorem SS_kp {s n : Nat} (hs : s < 6) (hn : n < S.1) (hm : S.1 ≤ 200) (hn3 : ¬ S.2.1 11 (200 * s + n) = 3) (h7 : S.2.1 7 n < 1000000) (h : SS c X S T K) : SS c (kvX (xs_tm (xs_sg X (va_up (x_sg X) s (va_up (x_sg X s) n 3))) (va_up (x_tm X) s (va_up (x_tm X s) n (S.2.1 7 n)))) s (ipF (fun j => nw7 S.2.1 n ((K s).getD j 0)) (x_kc X s)) (T n)) (setN S 11 (200 * s + n) 3) T (va_up K s (insK S.2.1 (K s) n)) := by
  obtain ⟨a1, a2, a3, a4, a5, a6, a7, a8, a9⟩ := h
  have hc : Ncg S.2.1 (setN S 11 (200 * s + n) 3).2.1 := Ncg_u (by omega)
  refine ⟨a1, ?_, ?_, ?_, ?_, ?_, ?_, ?_, ?_⟩
  · rw [sN_n (by decide)]; exact a2
  · rw [sN_n (by decide)]; exact a3
  · rw [sN_n (by decide)]; exact a4
  · show va_up (x_sg X) s (va_up (x_sg X s) n 3) = clF 200 (up2 S.2.1 11 (200 * s + n) 3 11)
    rw [a5, cl_up (by omega), u2_s]
  · intro s2 n2 hs2 hn2 hf
    have hne : ¬ 200 * s2 + n2 = 200 * s + n := fun q => by
      rcases hf with hf | hf <;> · rw [q] at hf; rw [show (setN S 11 (200 * s + n) 3).2.1 11 (200 * s + n) = 3 from if_pos ⟨rfl, rfl⟩] at hf; omega
    have e1 : (setN S 11 (200 * s + n) 3).2.1 11 (200 * s2 + n2) = S.2.1 11 (200 * s2 + n2) := if_neg (fun q => hne q.2)
    have e2 : (setN S 11 (200 * s + n) 3).2.1 12 (200 * s2 + n2) = S.2.1 12 (200 * s2 + n2) := by rw [sN_n (by decide)]
    rw [e1] at hf
    rw [e2, ← a6 s2 n2 hs2 hn2 hf]
    show va_up (x_tm X) s (va_up (x_tm X s) n (S.2.1 7 n)) s2 n2 = x_tm X s2 n2
    unfold va_up
    by_cases q1 : s2 = s
    · rw [if_pos q1, if_neg (by omega), q1]
    · rw [if_neg q1]
  · intro s2 e
    show va_up (x_tm X) s (va_up (x_tm X s) n (S.2.1 7 n)) s2 e < 1000000
    unfold va_up
    by_cases q1 : s2 = s
    · rw [if_pos q1]
      by_cases q2 : e = n
      · rw [if_pos q2]; exact h7
      · rw [if_neg q2]; exact a7 _ _
    · rw [if_neg q1]; exact a7 _ _
  · intro s2 hs2
    obtain ⟨k1, k2, k3, k4⟩ := a8 s2 hs2
    rw [nw7_cg hc]
    by_cases q1 : s2 = s
    · subst q1
      have hnk : ¬ n ∈ K s2 := fun q => hn3 ((k4 n).mp q).2
      refine ⟨?_, fun i hi => ?_, ?_, fun m => ?_⟩
      · rw [vu_s, insK_len]
        exact vu_s.trans (congrArg (· + 1) k1)
      · rw [vu_s] at hi ⊢
        rw [insK_len] at hi
        refine (congrFun (vu_s (f := x_kp X) (i := s2)) i).trans ?_
        show va_up (mvF (x_kp X s2) (x_kc X s2) (ipF (fun j => nw7 S.2.1 n ((K s2).getD j 0)) (x_kc X s2))) (ipF (fun j => nw7 S.2.1 n ((K s2).getD j 0)) (x_kc X s2)) (some (T n)) i = _
        rw [k1]
        exact insK_at k2 hi
      · rw [vu_s]
        exact insK_pw hnk k3
      · rw [vu_s, insK_mem, k4]
        show _ ↔ m < S.1 ∧ up2 S.2.1 11 (200 * s2 + n) 3 11 (200 * s2 + m) = 3
        by_cases q : m = n
        · rw [q, up2_eq]
          exact ⟨fun _ => ⟨hn, rfl⟩, fun _ => Or.inl rfl⟩
        · rw [show up2 S.2.1 11 (200 * s2 + n) 3 11 (200 * s2 + m) = S.2.1 11 (200 * s2 + m) from if_neg (fun w => by omega)]
          exact ⟨fun w => w.resolve_left q, fun w => Or.inr w⟩
    · refine ⟨?_, fun i hi => ?_, ?_, fun m => ?_⟩
      · rw [vu_n q1]
        exact (vu_n q1).trans k1
      · rw [vu_n q1] at hi ⊢
        exact (congrFun (vu_n (f := x_kp X) q1) i).trans (k2 i hi)
      · rw [vu_n q1]; exact k3
      · rw [vu_n q1, k4]
        show _ ↔ m < S.1 ∧ up2 S.2.1 11 (200 * s + n) 3 11 (200 * s2 + m) = 3
        have key : m < S.1 → up2 S.2.1 11 (200 * s + n) 3 11 (200 * s2 + m) = S.2.1 11 (200 * s2 + m) := fun w => if_neg (fun z => by omega)
        exact ⟨fun w => ⟨w.1, (key w.1).trans w.2⟩, fun w => ⟨w.1, (key w.1).symm.trans w.2⟩⟩
  · intro m hm
    exact ⟨(a9 m hm).1, TrN_cg hc rfl (a9 m hm).2⟩
/-- keepVersions -/
theorem d55s {h : aH} {s n : Nat} (hs : s < 6) (hn : n < S.1) (hm : S.1 ≤ 200) (hB : am_BN S.2.1) (hn3 : ¬ S.2.1 11 (200 * s + n) = 3) (hR : RC g h c X) (hSS : SS c X S T K) (hSL : SL X L LL tg) (hQ : ∀ (h1 : aH) (X1 : aX) (K1 : Nat → List Nat), h1.1 = h.1 → h1.2.1 = h.2.1 → RC g h1 c X1 → SS c X1 (setN S 11 (200 * s + n) 3) T K1 → SL X1 L LL tg → Xc X X1 → Q none h1) : am_R (d + 1) 55 0 [some (.ref (c + 39 + 6 * s)), some (.ref (T n)), none] [] h Q := by
  have hSS0 := hSS
  have hlt := K_lt hs hSS hn hn3
  obtain ⟨a1, a2, a3, a4, a5, a6, a7, a8, a9⟩ := hSS
  obtain ⟨k1, k2, k3, k4⟩ := a8 s hs
  refine d55 (N := S.2.1) (V := S.2.2.1) (K := fun j => (K s).getD j 0) hs (by omega) hB (a9 n hn).2 (by omega) (fun i hi => ?_) hR (fun h1 g1 g2 hR1 => ?_)
  · rw [k1] at hi
    have h3 := K_n (N := S.2.1) hs hSS0 hi
    exact ⟨k2 i hi, (a9 _ h3).2, by omega⟩
  · exact hQ h1 _ _ g1 g2 hR1 (SS_kp hs hn hm hn3 (hB _ _) hSS0) (SL_cg rfl rfl rfl (fun b e q _ => q) hSL) ⟨rfl, rfl, rfl, rfl, rfl, rfl, rfl, Xm_rf⟩
/-- the least time at a stage -/
theorem lm_le {N : Nat → Nat → Nat} {sg tm : Nat → Nat} {s w : Nat} (hsg : ∀ n, n < 200 → sg n = N 11 (200 * s + n)) (htm : ∀ n, n < 200 → N 11 (200 * s + n) = w → tm n = N 12 (200 * s + n)) (hB : am_BN N) : ∀ k, k ≤ 200 → lmF sg tm w k = (match leF N s w k with
  | none => 2147483647
  | some b => N 12 (200 * s + b)) := by
  intro k
  induction k with
  | zero => intro _; rfl
  | succ k ih =>
    intro hk
    have ih := ih (by omega)
    rw [lmF, leF, hsg k (by omega)]
    by_cases h1 : N 11 (200 * s + k) = w
    · rw [if_pos h1, if_pos h1, htm k (by omega) h1, ih]
      have hb := hB 12 (200 * s + k)
      cases hl : leF N s w k with
      | none => simp only []; omega
      | some b =>
        simp only []
        by_cases h2 : N 12 (200 * s + k) < N 12 (200 * s + b)
        · rw [if_pos h2]; simp only []; omega
        · rw [if_neg h2]; simp only []; omega
    · rw [if_neg h1, if_neg h1, ih]
theorem na_le {N : Nat → Nat → Nat} {sg tm : Nat → Nat} {s l0 : Nat} (hsg : ∀ n, n < 200 → sg n = N 11 (200 * s + n)) (htm : ∀ n, n < 200 → N 11 (200 * s + n) = 2 → tm n = N 12 (200 * s + n)) : ∀ k, k ≤ 200 → naF sg tm l0 k = (match leF N s 2 k with
  | none => (none, l0)
  | some b => if N 12 (200 * s + b) < l0 then (some b, N 12 (200 * s + b)) else (none, l0)) := by
  intro k
  induction k with
  | zero => intro _; rfl
  | succ k ih =>
    intro hk
    have ih := ih (by omega)
    rw [naF, leF, hsg k (by omega), ih]
    by_cases h1 : N 11 (200 * s + k) = 2
    · rw [if_pos h1, htm k (by omega) h1]
      cases hl : leF N s 2 k with
      | none =>
        simp only [h1, true_and]
      | some b =>
        simp only [h1, true_and]
        by_cases h2 : N 12 (200 * s + k) < N 12 (200 * s + b)
        · rw [if_pos h2]
          simp only []
          by_cases h3 : N 12 (200 * s + b) < l0
          · rw [if_pos h3, if_pos h2, if_pos (by omega)]
          · rw [if_neg h3]
        · rw [if_neg h2]
          simp only []
          by_cases h3 : N 12 (200 * s + b) < l0
          · rw [if_pos h3, if_neg h2]
          · rw [if_neg h3, if_neg (by simp only []; omega)]
    · rw [if_neg (fun q => h1 q.1), if_neg h1]
theorem le_200 {N : Nat → Nat → Nat} {s w m : Nat} (hz : ∀ n, m ≤ n → n < 200 → ¬ N 11 (200 * s + n) = w) : ∀ k, m + k ≤ 200 → leF N s w (m + k) = leF N s w m := by
  intro k
  induction k with
  | zero => intro _; rfl
  | succ k ih =>
    intro hk
    rw [show m + (k + 1) = (m + k) + 1 by omega, leF, if_neg (hz (m + k) (by omega) (by omega))]
    exact ih (by omega)
/-- nextToApply -/
theorem d54s {h : aH} {s : Nat} (hs : s < 6) (hm : S.1 ≤ 200) (hB : am_BN S.2.1) (h4 : ∀ e, S.2.1 11 e < 4) (hz : ∀ n, S.1 ≤ n → n < 200 → S.2.1 11 (200 * s + n) = 0) (hR : RC g h c X) (hSS : SS c X S T K) : am_R (d + 1) 54 0 [some (.ref (c + 39 + 6 * s)), none, none, none] [] h Q = Q (some (.int (eO (match leF S.2.1 s 2 S.1 with
  | none => none
  | some b => if bfF S.2.1 s b (leF S.2.1 s 1 S.1) = true then some b else none)))) h := by
  obtain ⟨a1, a2, a3, a4, a5, a6, a7, a8, a9⟩ := hSS
  have hsg : ∀ n, n < 200 → x_sg X s n = S.2.1 11 (200 * s + n) := fun n hn => by rw [a5]; exact cl_at hn
  have hb : ∀ e, x_sg X s e < 4 := fun e => by
    rw [a5]; unfold clF; split
    · exact h4 _
    · omega
  rw [d54 hs hR hb (a7 s)]
  rw [na_le hsg (fun n hn q => a6 s n hs hn (Or.inr q)) 200 (Nat.le_refl _), lm_le hsg (fun n hn q => a6 s n hs hn (Or.inl q)) hB 200 (Nat.le_refl _)]
  have e2 := le_200 (N := S.2.1) (s := s) (w := 2) (m := S.1) (fun n q1 q2 => by rw [hz n q1 q2]; omega) (200 - S.1) (by omega)
  have e1 := le_200 (N := S.2.1) (s := s) (w := 1) (m := S.1) (fun n q1 q2 => by rw [hz n q1 q2]; omega) (200 - S.1) (by omega)
  rw [show S.1 + (200 - S.1) = 200 by omega] at e1 e2
  rw [e1, e2]
  cases hl : leF S.2.1 s 2 S.1 with
  | none => rfl
  | some b =>
    simp only []
    cases hl1 : leF S.2.1 s 1 S.1 with
    | none =>
      have hb := hB 12 (200 * s + b)
      simp only [bfF, if_true]
      rw [if_pos (by omega)]
    | some b1 =>
      simp only [bfF, decide_eq_true_eq]
      by_cases h3 : S.2.1 12 (200 * s + b) < S.2.1 12 (200 * s + b1)
      · rw [if_pos h3, if_pos h3]
      · rw [if_neg h3, if_neg h3]
end KPS
