/-! what the invariant gives; the invariant after each call -/
theorem GR_rf {h : aH} {pl : Nat} : GR h pl h pl := ⟨Nat.le_refl _, Nat.le_refl _, Nat.le_refl _, Nat.le_refl _⟩
def FX (S : aSt) (k : Nat) : Prop := (S.1 ≤ 200) ∧ (am_BN S.2.1) ∧ (∀ n, S.2.1 8 n < 2) ∧ (S.2.1 8 S.1 = 0) ∧ (∀ i, S.2.1 19 i < 256) ∧ (∀ i, S.2.1 15 i < 3) ∧ (∀ i, ¬ S.2.1 15 i = 1 → S.2.1 19 i = 0) ∧ (∀ n, n < S.1 → S.2.1 4 n < 256) ∧ (∀ e, S.2.1 11 e < 4) ∧ (∀ s n, s < 6 → S.1 ≤ n → n < 200 → S.2.1 11 (200 * s + n) = 0) ∧ (∀ n, n < S.1 → S.2.1 8 n = 1 → S.2.1 9 n = S.2.1 7 n) ∧ (∀ e n, e < 48 → S.2.2.2.1 e = some n → n < S.1 ∧ S.2.1 8 n = 1) ∧ (WfO S) ∧ (∀ n k, n < S.1 → k < 8 → ¬ wF (S.2.1 4 n) k → S.2.2.1 5 (8 * n + k) = nI 0) ∧ (∀ s n, s < 6 → n < 200 → (S.2.1 11 (200 * s + n) = 1 ∨ S.2.1 11 (200 * s + n) = 2) → 1 ≤ S.2.1 12 (200 * s + n)) ∧ (∀ s n, s < 6 → n < S.1 → S.2.1 11 (200 * s + n) = 3 → S.2.1 8 n = 1) ∧ (WfL S.2.2.2.2) ∧ (S.2.2.2.2.length + 2000 ≤ 10000) ∧ (∀ s, S.2.1 10 s + 1 < 1000000) ∧ (∀ s, s < 6 → ∀ r, r < 3 → ¬ r = s / 2 → cnL S.2.2.2.2 (6 * s + (2 * r + s % 2)) + (nkF S s + 1) ≤ 512) ∧ (∀ s t, s < 6 → t < 6 → s / 2 = t / 2 → cnL S.2.2.2.2 (6 * s + t) < 512) ∧ (∀ i, tmF (cm1 S i).2.1 (2 * (i % 3)) S.1 < 1000000)
theorem FX.hm {S : aSt} {k : Nat} (h : FX S k) : S.1 ≤ 200 := h.1
theorem FX.hB {S : aSt} {k : Nat} (h : FX S k) : am_BN S.2.1 := h.2.1
theorem FX.h8 {S : aSt} {k : Nat} (h : FX S k) : ∀ n, S.2.1 8 n < 2 := h.2.2.1
theorem FX.h80 {S : aSt} {k : Nat} (h : FX S k) : S.2.1 8 S.1 = 0 := h.2.2.2.1
theorem FX.h19 {S : aSt} {k : Nat} (h : FX S k) : ∀ i, S.2.1 19 i < 256 := h.2.2.2.2.1
theorem FX.h15 {S : aSt} {k : Nat} (h : FX S k) : ∀ i, S.2.1 15 i < 3 := h.2.2.2.2.2.1
theorem FX.h190 {S : aSt} {k : Nat} (h : FX S k) : ∀ i, ¬ S.2.1 15 i = 1 → S.2.1 19 i = 0 := h.2.2.2.2.2.2.1
theorem FX.h4c {S : aSt} {k : Nat} (h : FX S k) : ∀ n, n < S.1 → S.2.1 4 n < 256 := h.2.2.2.2.2.2.2.1
theorem FX.h11 {S : aSt} {k : Nat} (h : FX S k) : ∀ e, S.2.1 11 e < 4 := h.2.2.2.2.2.2.2.2.1
theorem FX.hz {S : aSt} {k : Nat} (h : FX S k) : ∀ s n, s < 6 → S.1 ≤ n → n < 200 → S.2.1 11 (200 * s + n) = 0 := h.2.2.2.2.2.2.2.2.2.1
theorem FX.h97 {S : aSt} {k : Nat} (h : FX S k) : ∀ n, n < S.1 → S.2.1 8 n = 1 → S.2.1 9 n = S.2.1 7 n := h.2.2.2.2.2.2.2.2.2.2.1
theorem FX.hO {S : aSt} {k : Nat} (h : FX S k) : ∀ e n, e < 48 → S.2.2.2.1 e = some n → n < S.1 ∧ S.2.1 8 n = 1 := h.2.2.2.2.2.2.2.2.2.2.2.1
theorem FX.hW {S : aSt} {k : Nat} (h : FX S k) : WfO S := h.2.2.2.2.2.2.2.2.2.2.2.2.1
theorem FX.h5 {S : aSt} {k : Nat} (h : FX S k) : ∀ n k, n < S.1 → k < 8 → ¬ wF (S.2.1 4 n) k → S.2.2.1 5 (8 * n + k) = nI 0 := h.2.2.2.2.2.2.2.2.2.2.2.2.2.1
theorem FX.h12 {S : aSt} {k : Nat} (h : FX S k) : ∀ s n, s < 6 → n < 200 → (S.2.1 11 (200 * s + n) = 1 ∨ S.2.1 11 (200 * s + n) = 2) → 1 ≤ S.2.1 12 (200 * s + n) := h.2.2.2.2.2.2.2.2.2.2.2.2.2.2.1
theorem FX.h38 {S : aSt} {k : Nat} (h : FX S k) : ∀ s n, s < 6 → n < S.1 → S.2.1 11 (200 * s + n) = 3 → S.2.1 8 n = 1 := h.2.2.2.2.2.2.2.2.2.2.2.2.2.2.2.1
theorem FX.hL {S : aSt} {k : Nat} (h : FX S k) : WfL S.2.2.2.2 := h.2.2.2.2.2.2.2.2.2.2.2.2.2.2.2.2.1
theorem FX.hlen {S : aSt} {k : Nat} (h : FX S k) : S.2.2.2.2.length + 2000 ≤ 10000 := h.2.2.2.2.2.2.2.2.2.2.2.2.2.2.2.2.2.1
theorem FX.hck {S : aSt} {k : Nat} (h : FX S k) : ∀ s, S.2.1 10 s + 1 < 1000000 := h.2.2.2.2.2.2.2.2.2.2.2.2.2.2.2.2.2.2.1
theorem FX.cx {S : aSt} {k : Nat} (h : FX S k) : ∀ s, s < 6 → ∀ r, r < 3 → ¬ r = s / 2 → cnL S.2.2.2.2 (6 * s + (2 * r + s % 2)) + (nkF S s + 1) ≤ 512 := h.2.2.2.2.2.2.2.2.2.2.2.2.2.2.2.2.2.2.2.1
theorem FX.cn {S : aSt} {k : Nat} (h : FX S k) : ∀ s t, s < 6 → t < 6 → s / 2 = t / 2 → cnL S.2.2.2.2 (6 * s + t) < 512 := h.2.2.2.2.2.2.2.2.2.2.2.2.2.2.2.2.2.2.2.2.1
theorem FX.htm {S : aSt} {k : Nat} (h : FX S k) : ∀ i, tmF (cm1 S i).2.1 (2 * (i % 3)) S.1 < 1000000 := h.2.2.2.2.2.2.2.2.2.2.2.2.2.2.2.2.2.2.2.2.2
theorem INV_fx {S : aSt} {k : Nat} (hk : k + 1 ≤ 512) (hI : INV S k 1000) : FX S k := by
  obtain ⟨⟨t1, t2, t3, t4, t5, t6, t7, t8, t9, t10, t11, t12, t13, t14, t15, t16, t17, t18⟩, ⟨k1, k2⟩, i3, i4⟩ := hI
  have hB : am_BN S.2.1 := fun k2 e => by have := t2 k2 e; omega
  refine ⟨t1.1, hB, t3, t4 S.1 (Nat.le_refl _), t5, t6, t7, t9, t10, t11, t12, t13, ⟨hB, t3, t14⟩, t15, t16, fun s n hs hn h3 => ?_, fun q hq => ⟨(i3 q hq).1.1, (i3 q hq).1.2.1⟩, by omega, fun s => by have := t2 10 s; omega, fun s hs r hr hne => ?_, fun s t hs ht he => ?_, fun i => ?_⟩
  · obtain ⟨j1, j2, j3, j4⟩ := i4 n hn (by omega)
    have ml : S.2.1 1 n % 3 < 3 := Nat.mod_lt _ (by decide)
    by_cases e : s / 2 = S.2.1 1 n % 3
    · exact (j3 s hs e).2 (by omega)
    · have h4 := j4 s hs e
      have hF : S.2.1 11 (200 * (2 * (S.2.1 1 n % 3) + s % 2) + n) = 3 := by
        by_cases q : S.2.1 11 (200 * (2 * (S.2.1 1 n % 3) + s % 2) + n) = 3
        · exact q
        · have := (h4.2.2.2 q).2; omega
      exact (j3 (2 * (S.2.1 1 n % 3) + s % 2) (by omega) (by omega)).2 (by omega)
  · have := (k1 s (2 * r + s % 2) hs (by omega)).1 (by omega)
    omega
  · have := (k1 s t hs ht).2 he
    omega
  · obtain ⟨q1, q2, q3, n1, n2, n3, n4, n7, n15, n19, qV, v5⟩ := cmS_is (S := S) (i := i)
    have e6 : ∀ k, ¬ k = 6 → (cmS S i).2.1 k = (cm1 S i).2.1 k := fun k h => by
      unfold cmS cm2
      rw [sN_n h, sN_n h]
    have m10 := q3 10 (by decide) (by decide) (by decide) (by decide) (by decide) (by decide) (by decide) (by decide)
    rw [e6 10 (by decide)] at m10
    rw [e6 2 (by decide)] at n2
    rw [e6 3 (by decide)] at n3
    have a1 := t2 10 (2 * (i % 3))
    have a2 := t2 16 i
    have a3 := t2 17 (3 * i)
    have a4 := t2 17 (3 * i + 1)
    have a5 := t2 17 (3 * i + 2)
    unfold tmF
    rw [m10, n2, n3, vu_s, vu_s, vu_n (show ¬ 3 * S.1 + 1 = 3 * S.1 + 2 by omega), vu_s, vu_n (show ¬ 3 * S.1 + 0 = 3 * S.1 + 2 by omega), vu_n (show ¬ 3 * S.1 + 0 = 3 * S.1 + 1 by omega), show 3 * S.1 + 0 = 3 * S.1 from rfl, vu_s]
    omega
theorem INV_cmt {S : aSt} {k i : Nat} (hk : k + 1 ≤ 512) (hi : i < 6) (h : INV S k 1000) : INV (cmtF S i) (k + 1) 1000 := by
  unfold cmtF
  by_cases ho : S.2.1 15 i = 1
  · rw [if_pos ho]
    by_cases h0 : S.2.1 19 i = 0
    · rw [if_pos h0]
      exact INV_b (by omega) (INV_empty ho h0 h)
    · rw [if_neg h0]
      by_cases h2 : S.1 = 200
      · rw [if_pos h2]
        exact INV_b (by omega) h
      · rw [if_neg h2]
        have := h.1.1
        exact INV_commit hk hi ho h0 (by omega) h
  · rw [if_neg ho]
    exact INV_b (by omega) h
theorem foL_get {f t j : Nat} {L : List aMsg} (h : foL f t L 0 = some j) : ∃ q, L[j]? = some q := by
  obtain ⟨A, q, B, h1, h2, _⟩ := foL_at L 0 j h
  refine ⟨q, ?_⟩
  rw [h1, show j = A.length by omega, List.getElem?_append_right (Nat.le_refl _), Nat.sub_self]
  rfl
theorem INV_dl {S : aSt} {k f t : Nat} (hk : k + 1 ≤ 512) (h : INV S k 1000) : INV (dlvF S f t) (k + 1) 1000 := by
  unfold dlvF
  cases hfo : foL f t S.2.2.2.2 0 with
  | none => exact INV_b (by omega) h
  | some j =>
    obtain ⟨q, hq⟩ := foL_get hfo
    simp only [hq]
    exact (INV_dlv hk hfo hq h).1
