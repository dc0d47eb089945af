/-! the invariant: decide, prepare, deliver -/
theorem sN_comm {S : aSt} {k e v k2 e2 v2 : Nat} (h : ¬ k = k2) : setN (setN S k e v) k2 e2 v2 = setN (setN S k2 e2 v2) k e v := by
  unfold setN
  simp only [Prod.mk.injEq, true_and, and_true]
  funext a c
  unfold up2
  by_cases q1 : a = k2 ∧ c = e2
  · rw [if_pos q1, if_neg (fun w => h (w.1.symm.trans q1.1)), if_pos q1]
  · rw [if_neg q1]
    by_cases q2 : a = k ∧ c = e
    · rw [if_pos q2, if_pos q2]
    · rw [if_neg q2, if_neg q2, if_neg q1]
section INV3
variable {S S1 : aSt} {b b1 x : Nat}
theorem TI_12 {e v : Nat} (hv : v ≤ b + 256) (hv1 : 1 ≤ v) (h : TI S b) : TI (setN S 12 e v) b := by
  obtain ⟨t1, t2, t3, t4, t5, t6, t7, t8, t9, t10, t11, t12, t13, t14, t15, t16⟩ := h
  have nk : ∀ k, ¬ k = 12 → (setN S 12 e v).2.1 k = S.2.1 k := fun k hk => sN_n hk
  unfold TI UI
  rw [nk 1 (by decide), nk 4 (by decide), nk 7 (by decide), nk 8 (by decide), nk 9 (by decide), nk 11 (by decide), nk 15 (by decide), nk 19 (by decide), sN_s]
  refine ⟨t1, fun k2 e2 => ?_, t3, t4, t5, t6, t7, t8, t9, t10, t11, t12, t13, t14, t15, fun s2 n2 hs2 hn2 q => ?_, t16.2⟩
  · show up2 S.2.1 12 e v k2 e2 ≤ b + 256
    unfold up2; split
    · exact hv
    · exact t2 k2 e2
  · unfold va_up; split
    · exact hv1
    · exact t16.1 s2 n2 hs2 hn2 q
theorem INV_12 {e v : Nat} (hv : v ≤ b + 256) (hv1 : 1 ≤ v) (h : INV S b x) : INV (setN S 12 e v) b x := INV_N (by decide) (by decide) (by decide) (by decide) (TI_12 hv hv1 h.1) (Nat.le_refl _) h
theorem KI_11 {s n v : Nat} (hs : s < 6) (hn : n < S.1) (hm : S.1 ≤ 200) (hv : ¬ v = 3) (h3 : ¬ S.2.1 11 (200 * s + n) = 3) (h : KI S b) : KI (setN S 11 (200 * s + n) v) b := by
  have e : ∀ s2, nkF (setN S 11 (200 * s + n) v) s2 = nkF S s2 := fun s2 => by
    unfold nkF
    rw [sN_s]
    refine cntF_congr S.1 (fun j hj => ?_)
    by_cases q : 200 * s2 + j = 200 * s + n
    · rw [q, vu_s, decide_eq_true hv, decide_eq_true h3]
    · rw [vu_n q]
  obtain ⟨k1, k2⟩ := h
  unfold KI nkS at *
  rw [e, e, e, e, e, e]
  exact ⟨fun f t hf ht => by rw [e]; exact k1 f t hf ht, k2⟩
theorem INV_11x {s n v : Nat} (hs : s < 6) (hn : n < S.1) (hv : v < 3) (h12 : (v = 1 ∨ v = 2) → 1 ≤ S.2.1 12 (200 * s + n)) (h3 : ¬ S.2.1 11 (200 * s + n) = 3) (h : INV S b x) (hx : x = n ∨ x = 1000) : INV (setN S 11 (200 * s + n) v) b n := by
  have hm := h.1.1
  obtain ⟨i1, i2, i3, i4⟩ := h
  refine ⟨TI_11 hs hn (by omega) h12 i1, KI_11 hs hn hm.1 (by omega) h3 i2, fun q hq => MF_cg (S := S) (fun n _ => by rw [sN_n (by decide)]) (Nat.le_refl _) (Nat.le_refl _) (i3 q hq), fun m hmm hne => ?_⟩
  have hmm : m < S.1 := hmm
  refine JN_cg (S := S) (by rw [sN_n (by decide)]) (by rw [sN_n (by decide)]) (by rw [sN_n (by decide)]) (fun s2 hs2 => ?_) (fun _ _ => rfl) (fun _ _ => rfl) (i4 m hmm (by omega))
  rw [sN_s, vu_n (by omega)]
theorem INV_full {n : Nat} (hJ : JN S n) (h : INV S b n) : INV S b 1000 := by
  obtain ⟨i1, i2, i3, i4⟩ := h
  refine ⟨i1, i2, i3, fun m hm _ => ?_⟩
  by_cases e : m = n
  · rw [e]; exact hJ
  · exact i4 m hm e
/-- a decided transaction, and what is applied then -/
theorem INV_dec {s n t : Nat} (hs : s < 6) (hn : n < S.1) (h8 : S.2.1 8 n = 1) (home : s / 2 = S.2.1 1 n % 3) (h3 : ¬ S.2.1 11 (200 * s + n) = 3) (hc3 : cK S.2.2.2.2 3 n = 1 → ¬ s = 2 * (S.2.1 1 n % 3) + 1) (ht : t ≤ b + 256) (ht1 : 1 ≤ t) (h : INV S b 1000) : INV (decF S s n t) b 1000 := by
  have hm := h.1.1
  have jn := h.2.2.2 n hn (by omega)
  have ml : S.2.1 1 n % 3 < 3 := Nat.mod_lt _ (by decide)
  have hck := h.1.2.1 10 s
  unfold decF
  refine INV_apF hs _ _ (INV_n (by decide) (by omega) ?_)
  rw [sN_comm (by decide)]
  refine INV_full ?_ (INV_11x (S := setN S 12 (200 * s + n) t) hs hn (by decide) (fun _ => by rw [sN_s, vu_s]; exact ht1) (by rw [sN_n (by decide)]; exact h3) (INV_12 ht ht1 h) (Or.inr rfl))
  obtain ⟨j1, j2, j3, j4⟩ := jn
  have nk : ∀ k, ¬ k = 12 → ¬ k = 11 → (setN (setN S 12 (200 * s + n) t) 11 (200 * s + n) 2).2.1 k = S.2.1 k := fun k a c => by rw [sN_n c, sN_n a]
  have n11 : (setN (setN S 12 (200 * s + n) t) 11 (200 * s + n) 2).2.1 11 = va_up (S.2.1 11) (200 * s + n) 2 := by rw [sN_s, sN_n (by decide)]
  unfold JN
  rw [nk 1 (by decide) (by decide), nk 6 (by decide) (by decide), nk 8 (by decide) (by decide), n11]
  refine ⟨fun q => by omega, fun q => ?_, fun s2 hs2 he => ?_, fun s2 hs2 he => ?_⟩
  · have := j2 q
    refine ⟨this.1, this.2.1, this.2.2.1, fun w => ?_⟩
    have := hc3 w
    rw [vu_n (by omega)]
    exact (j2 q).2.2.2 w
  · exact ⟨(j3 s2 hs2 he).1, fun _ => h8⟩
  · have h4 := j4 s2 hs2 he
    rw [vu_n (show ¬ 200 * s2 + n = 200 * s + n by intro w; exact he (by rw [show s2 = s by omega]; exact home))]
    refine ⟨h4.1, h4.2.1, h4.2.2.1, fun w => h4.2.2.2 (fun z => w ?_)⟩
    by_cases e : 2 * (S.2.1 1 n % 3) + s2 % 2 = s
    · rw [e] at z; exact absurd z h3
    · rw [vu_n (by omega)]; exact z
/-- what is known of a transaction that is not told and has no message on its way -/
def P0 (S : aSt) (n : Nat) : Prop := S.2.1 8 n = 0 ∧ cK S.2.2.2.2 1 n = 0 ∧ cK S.2.2.2.2 2 n = 0 ∧ cK S.2.2.2.2 3 n = 0 ∧ (∀ s, s < 6 → s / 2 = S.2.1 1 n % 3 → cV S.2.2.2.2 n s = 0 ∧ S.2.1 11 (200 * s + n) < 2) ∧ ∀ s, s < 6 → ¬ s / 2 = S.2.1 1 n % 3 → cV S.2.2.2.2 n s = 0 ∧ S.2.1 11 (200 * s + n) = 0
theorem P0_3 {n : Nat} (h : P0 S n) : ∀ s, s < 6 → ¬ S.2.1 11 (200 * s + n) = 3 := fun s hs q => by
  by_cases e : s / 2 = S.2.1 1 n % 3
  · have := (h.2.2.2.2.1 s hs e).2; omega
  · have := (h.2.2.2.2.2 s hs e).2; omega
theorem INV_told {n t : Nat} (hn : n < S.1) (hP : P0 S n) (hg : max (S.2.1 7 n) t ≤ b + 256) (h : INV S b n) : INV (toldF S n t) b 1000 := by
  obtain ⟨i1, i2, i3, i4⟩ := h
  obtain ⟨p1, p2, p3, p4, p5, p6⟩ := hP
  obtain ⟨q1, q2, q3, q4, q5⟩ := toldF_is (S := S) (n := n) (t := t)
  have nk : ∀ k, ¬ k = 7 → ¬ k = 6 → ¬ k = 8 → ¬ k = 9 → ¬ k = 15 → ¬ k = 16 → (toldF S n t).2.1 k = S.2.1 k := fun k a b c d e f => told_N a b c d e f
  have m1 := nk 1 (by decide) (by decide) (by decide) (by decide) (by decide) (by decide)
  have m11 := nk 11 (by decide) (by decide) (by decide) (by decide) (by decide) (by decide)
  have n6 : ∀ m, ¬ m = n → (toldF S n t).2.1 6 m = S.2.1 6 m := fun m hm => by
    rw [q2, sN_n (by decide), sN_n (by decide), sN_n (by decide), sN_n (by decide), sN_s, vu_n hm, sN_n (by decide)]
  refine ⟨?_, KI_cg q1 m11 q4 (Nat.le_refl _) i2, ?_, fun m hm _ => ?_⟩
  · obtain ⟨t1, t2, t3, t4, t5, t6, t7, t8, t9, t10, t11, t12, t13, t14, t15, t16, t17, t18⟩ := i1
    unfold TI UI
    rw [q1, q3, m1, m11, told_7, told_8, told_9, told_15, nk 4 (by decide) (by decide) (by decide) (by decide) (by decide) (by decide), nk 12 (by decide) (by decide) (by decide) (by decide) (by decide) (by decide), nk 19 (by decide) (by decide) (by decide) (by decide) (by decide) (by decide)]
    refine ⟨t1, fun k e => ?_, fun m => ?_, fun m hm => ?_, t5, fun j => ?_, fun j hj => ?_, t8, t9, t10, t11, fun m hm h8 => ?_, fun e m he ho => ?_, fun e m ho => ?_, t15, t16, fun m hm h8 => ?_, fun m m2 hm hm2 h8 h82 he => ?_⟩
    · rw [q2]
      have a1 := t2 k e
      have a2 := t2 6 n
      unfold told6 setN up2
      simp only []
      repeat' split
      all_goals omega
    · unfold va_up; split
      · decide
      · exact t3 m
    · rw [vu_n (by omega)]; exact t4 m hm
    · unfold va_up; split
      · decide
      · exact t6 j
    · by_cases e : j = S.2.1 1 n
      · rw [e]
        refine t7 _ ?_
        rw [t17 n hn p1]; decide
      · rw [vu_n e] at hj
        exact t7 j hj
    · by_cases e : m = n
      · rw [e, vu_s, vu_s]
      · rw [vu_n e] at h8 ⊢
        rw [vu_n e]
        exact t12 m hm h8
    · rw [q5] at ho
      split at ho
      · cases ho
        exact ⟨hn, vu_s⟩
      · have := t13 e m he ho
        refine ⟨this.1, ?_⟩
        unfold va_up; split
        · rfl
        · exact this.2
    · rw [q5] at ho
      split at ho
      · cases ho
        omega
      · exact t14 e m ho
    · by_cases e : m = n
      · rw [e, vu_s] at h8; omega
      · rw [vu_n e] at h8
        rw [vu_n (fun q => e (t18 m n hm hn h8 p1 q))]
        exact t17 m hm h8
    · have e : ¬ m = n := fun q => by rw [q, vu_s] at h8; omega
      have e2 : ¬ m2 = n := fun q => by rw [q, vu_s] at h82; omega
      rw [vu_n e] at h8
      rw [vu_n e2] at h82
      exact t18 m m2 hm hm2 h8 h82 he
  · rw [q4]
    exact fun q hq => MF_cg (S := S) (fun m _ => by rw [m1]) (by rw [q1]; exact Nat.le_refl _) (Nat.le_refl _) (i3 q hq)
  · rw [q1] at hm
    by_cases e : m = n
    · subst e
      unfold JN
      rw [q4, m1, m11, told_8, vu_s]
      refine ⟨fun q => by omega, fun _ => ⟨p2, p3, by omega, fun w => by omega⟩, fun s hs he => ⟨(p5 s hs he).1, fun _ => rfl⟩, fun s hs he => ?_⟩
      have := p6 s hs he
      exact ⟨Or.inl this.2, by omega, fun w => this.2, fun _ => this⟩
    · refine JN_cg (S := S) (by rw [m1]) (n6 m e) (by rw [told_8, vu_n e]) (fun s _ => by rw [m11]) (fun _ _ => by rw [q4]) (fun _ _ => by rw [q4]) (i4 m hm e)
theorem apF_fr {s : Nat} {f : Option Nat} (hs : s < 6) : ∀ t (S : aSt), S.1 ≤ 200 → (∀ k n, k = 1 ∨ k = 2 ∨ k = 3 → cK (apF t S s f).2.2.2.2 k n = cK S.2.2.2.2 k n) ∧ ∀ s2 m, ¬ s2 = s → m < 200 → (apF t S s f).2.1 11 (200 * s2 + m) = S.2.1 11 (200 * s2 + m) := by
  intro t
  induction t with
  | zero => intro S _; exact ⟨fun _ _ _ => rfl, fun _ _ _ _ => rfl⟩
  | succ t ih =>
    intro S hm
    rw [apF]
    cases hl : leF S.2.1 s 2 S.1 with
    | none => exact ⟨fun _ _ _ => rfl, fun _ _ _ _ => rfl⟩
    | some n =>
      simp only []
      split
      · have hn := leF_lt _ _ hl
        obtain ⟨i1, i2⟩ := ih (stA S s n) (by rw [stA_1.1]; exact hm)
        refine ⟨fun k m hk => ?_, fun s2 m h1 h2 => ?_⟩
        · rw [i1 k m hk]
          unfold cK
          rw [stA_L, oth_cnt]
          have z : ∀ p, pK k m (s, 2 * p + s % 2, 4, nI n, 0, 0, 0) = false := fun p => decide_eq_false (fun w => by have : (4 : Nat) = k := w.1; omega)
          rw [z, z, z]
          simp
        · rw [i2 s2 m h1 h2, stA_1.2.1, u2_s, vu_n (by omega)]
      · exact ⟨fun _ _ _ => rfl, fun _ _ _ _ => rfl⟩
/-- told, then DECIDE at the place's servers -/
theorem INV_dcd {n t : Nat} (hb : b ≤ 512) (hn : n < S.1) (hP : P0 S n) (h1 : coF S.2.1 n (2 * (S.2.1 1 n % 3) + 1) = true → S.2.1 11 (200 * (2 * (S.2.1 1 n % 3) + 1) + n) = 1) (hg : max (S.2.1 7 n) t ≤ b + 256) (ht1 : 1 ≤ t) (h : INV S b n) : INV (dcdF (toldF S n t) (2 * (S.2.1 1 n % 3)) n) (if coF S.2.1 n (2 * (S.2.1 1 n % 3) + 1) = true then b + 1 else b) 1000 := by
  have hT := INV_told (t := t) hn hP hg h
  have ml : S.2.1 1 n % 3 < 3 := Nat.mod_lt _ (by decide)
  have hm := h.1.1
  obtain ⟨q1, q2, q3, q4, q5⟩ := toldF_is (S := S) (n := n) (t := t)
  have nk : ∀ k, ¬ k = 7 → ¬ k = 6 → ¬ k = 8 → ¬ k = 9 → ¬ k = 15 → ¬ k = 16 → (toldF S n t).2.1 k = S.2.1 k := fun k a b c d e f => told_N a b c d e f
  have m1 := nk 1 (by decide) (by decide) (by decide) (by decide) (by decide) (by decide)
  have m4 := nk 4 (by decide) (by decide) (by decide) (by decide) (by decide) (by decide)
  have m11 := nk 11 (by decide) (by decide) (by decide) (by decide) (by decide) (by decide)
  have t9 : (toldF S n t).2.1 9 n = max (S.2.1 7 n) t := by rw [told_9, vu_s]
  have t8 : (toldF S n t).2.1 8 n = 1 := by rw [told_8, vu_s]
  have co : ∀ s, coF (toldF S n t).2.1 n s = coF S.2.1 n s := fun s => coB_congr (by rw [m4])
  have P3 := P0_3 hP
  generalize hld : 2 * (S.2.1 1 n % 3) = ld at *
  -- the leader
  have key : ∀ S2 : aSt, INV S2 b 1000 → S2.1 = S.1 → (∀ k, ¬ k = 11 → ¬ k = 12 → ¬ k = 10 → S2.2.1 k = (toldF S n t).2.1 k) → cK S2.2.2.2.2 3 n = 0 → (∀ m, m < 200 → S2.2.1 11 (200 * (ld + 1) + m) = S.2.1 11 (200 * (ld + 1) + m)) → INV (if coF S2.2.1 n (ld + 1) = true then pushF S2 (ld, ld + 1, 3, nI n, S2.2.1 9 n, 0, 0) else S2) (if coF S.2.1 n (ld + 1) = true then b + 1 else b) 1000 := by
    intro S2 i2 e1 eN c3 f1
    have ec : coF S2.2.1 n (ld + 1) = coF S.2.1 n (ld + 1) := by
      rw [coB_congr (N' := (toldF S n t).2.1) (by rw [eN 4 (by decide) (by decide) (by decide)]), co]
    rw [ec]
    by_cases hc : coF S.2.1 n (ld + 1) = true
    · rw [if_pos hc, if_pos hc]
      have hF := h1 hc
      have x9 : S2.2.1 9 n = max (S.2.1 7 n) t := by rw [eN 9 (by decide) (by decide) (by decide)]; exact t9
      have x8 : S2.2.1 8 n = 1 := by rw [eN 8 (by decide) (by decide) (by decide)]; exact t8
      have x1 : S2.2.1 1 n = S.2.1 1 n := by rw [eN 1 (by decide) (by decide) (by decide), m1]
      have hn2 : n < S2.1 := by rw [e1]; exact hn
      have hq : qn (ld, ld + 1, 3, nI n, S2.2.1 9 n, 0, 0) = n := qn_n (by omega)
      refine INV_push (S := S2) (y := n) ?_ (KI_nb (by show ld < 6; omega) (by show ld + 1 < 6; omega) (by show ld / 2 = (ld + 1) / 2; omega) i2.2.1) rfl (by omega) (Or.inr rfl) (fun _ => ?_) (INV_b (by omega) i2)
      · refine ⟨⟨?_, ?_, ?_⟩, ⟨?_, ?_⟩, fun _ => ⟨?_, ?_⟩, fun _ => ?_, ⟨?_, Nat.zero_le _, Nat.zero_le _⟩, fun w => ?_, fun w => ?_, fun w => ⟨?_, rfl, ?_⟩⟩
        · show ld < 6; omega
        · show ld + 1 < 6; omega
        · show ¬ ld = ld + 1 ∧ (ld / 2 = (ld + 1) / 2 ∨ ld % 2 = (ld + 1) % 2); omega
        · show 1 ≤ 3; omega
        · show 3 ≤ 6; omega
        · rw [hq]
        · rw [hq]; omega
        · rw [hq]; exact hn2
        · show S2.2.1 9 n ≤ b + 1 + 256; omega
        · exact absurd (show (3 : Nat) = 1 from w) (by decide)
        · exact absurd (show (3 : Nat) = 2 from w) (by decide)
        · rw [hq, x1]; exact hld.symm
        · show 1 ≤ S2.2.1 9 n; omega
      · obtain ⟨j1, j2, j3, j4⟩ := i2.2.2.2 n hn2 (by omega)
        have cnt : ∀ P : aMsg → Bool, (pushF S2 (ld, ld + 1, 3, nI n, S2.2.1 9 n, 0, 0)).2.2.2.2.countP P = S2.2.2.2.2.countP P + (if P (ld, ld + 1, 3, nI n, S2.2.1 9 n, 0, 0) = true then 1 else 0) := fun P => by
          show (S2.2.2.2.2 ++ [_]).countP P = _
          rw [List.countP_append, List.countP_singleton]
        have k12 : ∀ k, ¬ k = 3 → cK (pushF S2 (ld, ld + 1, 3, nI n, S2.2.1 9 n, 0, 0)).2.2.2.2 k n = cK S2.2.2.2.2 k n := fun k hk => by
          unfold cK; rw [cnt, if_neg (fun w => by have : (3 : Nat) = k := (of_decide_eq_true w).1; omega)]; rfl
        have k3 : cK (pushF S2 (ld, ld + 1, 3, nI n, S2.2.1 9 n, 0, 0)).2.2.2.2 3 n = 1 := by
          unfold cK at c3 ⊢; rw [cnt, c3, if_pos (show pK 3 n (ld, ld + 1, 3, nI n, S2.2.1 9 n, 0, 0) = true from decide_eq_true ⟨rfl, rfl⟩)]
        have kv : ∀ s, cV (pushF S2 (ld, ld + 1, 3, nI n, S2.2.1 9 n, 0, 0)).2.2.2.2 n s = cV S2.2.2.2.2 n s := fun s => by
          unfold cV; rw [cnt, if_neg (fun w => by have : (3 : Nat) = 4 := (of_decide_eq_true w).1; omega)]; rfl
        have jj := j2 x8
        refine ⟨fun w => absurd (show S2.2.1 8 n = 0 from w) (by omega), fun _ => ⟨by rw [k12 1 (by decide)]; exact jj.1, by rw [k12 2 (by decide)]; exact jj.2.1, by rw [k3]; exact Nat.le_refl _, fun _ => ?_⟩, fun s hs he => by rw [kv]; exact j3 s hs he, fun s hs he => by rw [kv]; exact j4 s hs he⟩
        show S2.2.1 11 (200 * (2 * (S2.2.1 1 n % 3) + 1) + n) = 1
        rw [x1, hld, f1 n (by omega)]
        exact hF
    · rw [if_neg hc, if_neg hc]
      exact i2
  unfold dcdF
  simp only []
  rw [co ld, t9]
  by_cases hc : coF S.2.1 n ld = true
  · rw [if_pos hc]
    have i2 := INV_dec (S := toldF S n t) (s := ld) (n := n) (t := max (S.2.1 7 n) t) (by omega) (by rw [q1]; exact hn) t8 (by rw [m1]; omega) (by rw [m11]; exact P3 ld (by omega)) (fun _ => by rw [m1, hld]; omega) hg (by omega) hT
    have hBt : am_BN (toldF S n t).2.1 := fun k e => by have := hT.1.2.1 k e; omega
    have hs := decF_same (S := toldF S n t) (s := ld) (n := n) (t := max (S.2.1 7 n) t) hBt (by omega)
    have fr := apF_fr (s := ld) (f := leF (setN (setN (setN (toldF S n t) 11 (200 * ld + n) 2) 12 (200 * ld + n) (max (S.2.1 7 n) t)) 10 ld (max ((toldF S n t).2.1 10 ld) (max (S.2.1 7 n) t))).2.1 ld 1 (toldF S n t).1) (by omega) (toldF S n t).1 (setN (setN (setN (toldF S n t) 11 (200 * ld + n) 2) 12 (200 * ld + n) (max (S.2.1 7 n) t)) 10 ld (max ((toldF S n t).2.1 10 ld) (max (S.2.1 7 n) t))) (by show (toldF S n t).1 ≤ 200; omega)
    refine key _ i2 (hs.1.trans q1) (fun k a b e => funext (fun y => hs.2.2.2.1 k y a b e)) ?_ (fun m hm2 => ?_)
    · refine (fr.1 3 n (by omega)).trans ?_
      show cK (toldF S n t).2.2.2.2 3 n = 0
      rw [q4]; exact hP.2.2.2.1
    · refine (fr.2 (ld + 1) m (by omega) hm2).trans ?_
      rw [sN_n (by decide), sN_n (by decide), sN_s, vu_n (by omega), m11]
  · rw [if_neg hc]
    refine key (toldF S n t) hT q1 (fun _ _ _ _ => rfl) ?_ (fun m hm2 => by rw [m11])
    rw [q4]; exact hP.2.2.2.1
end INV3
