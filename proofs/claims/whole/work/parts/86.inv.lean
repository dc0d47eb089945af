/-! the invariant of the reference's state -/
def pK (k n : Nat) (q : aMsg) : Bool := decide (q.2.2.1 = k ∧ q.2.2.2.1 = nI n)
def pV (n t : Nat) (q : aMsg) : Bool := decide (q.2.2.1 = 4 ∧ q.2.2.2.1 = nI n ∧ q.2.1 = t)
abbrev cK (L : List aMsg) (k n : Nat) : Nat := L.countP (pK k n)
abbrev cV (L : List aMsg) (n t : Nat) : Nat := L.countP (pV n t)
/-- one transaction: its messages and how far it is -/
def JN (S : aSt) (n : Nat) : Prop :=
  (S.2.1 8 n = 0 → S.2.1 6 n = 1 ∧ cK S.2.2.2.2 1 n + cK S.2.2.2.2 2 n = 1 ∧ cK S.2.2.2.2 3 n = 0 ∧ S.2.1 11 (200 * (2 * (S.2.1 1 n % 3) + 1) + n) = cK S.2.2.2.2 2 n) ∧
  (S.2.1 8 n = 1 → cK S.2.2.2.2 1 n = 0 ∧ cK S.2.2.2.2 2 n = 0 ∧ cK S.2.2.2.2 3 n ≤ 1 ∧ (cK S.2.2.2.2 3 n = 1 → S.2.1 11 (200 * (2 * (S.2.1 1 n % 3) + 1) + n) = 1)) ∧
  (∀ s, s < 6 → s / 2 = S.2.1 1 n % 3 → cV S.2.2.2.2 n s = 0 ∧ (2 ≤ S.2.1 11 (200 * s + n) → S.2.1 8 n = 1)) ∧
  (∀ s, s < 6 → ¬ s / 2 = S.2.1 1 n % 3 → (S.2.1 11 (200 * s + n) = 0 ∨ S.2.1 11 (200 * s + n) = 3) ∧ cV S.2.2.2.2 n s ≤ 1 ∧ (cV S.2.2.2.2 n s = 1 → S.2.1 11 (200 * s + n) = 0) ∧ (¬ S.2.1 11 (200 * (2 * (S.2.1 1 n % 3) + s % 2) + n) = 3 → cV S.2.2.2.2 n s = 0 ∧ S.2.1 11 (200 * s + n) = 0))
/-- a message's form -/
def MF (S : aSt) (b : Nat) (q : aMsg) : Prop := (q.1 < 6 ∧ q.2.1 < 6 ∧ lkF q.1 q.2.1) ∧ (1 ≤ q.2.2.1 ∧ q.2.2.1 ≤ 6) ∧ (q.2.2.1 ≤ 5 → q.2.2.2.1 = nI (qn q) ∧ qn q ≤ b + 256) ∧ (q.2.2.1 ≤ 4 → qn q < S.1) ∧ (q.2.2.2.2.1 ≤ b + 256 ∧ q.2.2.2.2.2.1 ≤ b + 256 ∧ q.2.2.2.2.2.2 ≤ b + 256) ∧
  (q.2.2.1 = 1 → q.1 = 2 * (S.2.1 1 (qn q) % 3) ∧ q.2.1 = q.1 + 1) ∧ (q.2.2.1 = 2 → q.2.1 = 2 * (S.2.1 1 (qn q) % 3) ∧ q.1 = q.2.1 + 1 ∧ 1 ≤ q.2.2.2.2.1) ∧ (q.2.2.1 = 3 → q.1 = 2 * (S.2.1 1 (qn q) % 3) ∧ q.2.1 = q.1 + 1 ∧ 1 ≤ q.2.2.2.2.1)
def nkS (S : aSt) : Nat := nkF S 0 + nkF S 1 + nkF S 2 + nkF S 3 + nkF S 4 + nkF S 5
/-- counts -/
def KI (S : aSt) (b : Nat) : Prop := (∀ f t, f < 6 → t < 6 → (¬ f / 2 = t / 2 → cnL S.2.2.2.2 (6 * f + t) + nkF S f ≤ b) ∧ (f / 2 = t / 2 → cnL S.2.2.2.2 (6 * f + t) ≤ b)) ∧ S.2.2.2.2.length + 2 * nkS S ≤ 13 * b
/-- who waits for a commit -/
def UI (S : aSt) : Prop := (∀ n, n < S.1 → S.2.1 8 n = 0 → S.2.1 15 (S.2.1 1 n) = 2) ∧ ∀ n m, n < S.1 → m < S.1 → S.2.1 8 n = 0 → S.2.1 8 m = 0 → S.2.1 1 n = S.2.1 1 m → n = m
/-- what is of numbers, clients, transactions -/
def TI (S : aSt) (b : Nat) : Prop := (S.1 ≤ 200 ∧ S.1 ≤ b) ∧ (∀ k e, S.2.1 k e ≤ b + 256) ∧ (∀ n, S.2.1 8 n < 2) ∧ (∀ n, S.1 ≤ n → S.2.1 8 n = 0) ∧ (∀ i, S.2.1 19 i < 256) ∧ (∀ i, S.2.1 15 i < 3) ∧ (∀ i, ¬ S.2.1 15 i = 1 → S.2.1 19 i = 0) ∧ (∀ n, n < S.1 → S.2.1 1 n < 6) ∧ (∀ n, n < S.1 → S.2.1 4 n < 256) ∧ (∀ e, S.2.1 11 e < 4) ∧ (∀ s n, s < 6 → S.1 ≤ n → n < 200 → S.2.1 11 (200 * s + n) = 0) ∧ (∀ n, n < S.1 → S.2.1 8 n = 1 → S.2.1 9 n = S.2.1 7 n) ∧ (∀ e n, e < 48 → S.2.2.2.1 e = some n → n < S.1 ∧ S.2.1 8 n = 1) ∧ (∀ e n, S.2.2.2.1 e = some n → n < 200) ∧ (∀ n k, n < S.1 → k < 8 → ¬ wF (S.2.1 4 n) k → S.2.2.1 5 (8 * n + k) = nI 0) ∧ (∀ s n, s < 6 → n < 200 → (S.2.1 11 (200 * s + n) = 1 ∨ S.2.1 11 (200 * s + n) = 2) → 1 ≤ S.2.1 12 (200 * s + n)) ∧ UI S
/-- all; but for transaction x, if it is one -/
def INV (S : aSt) (b x : Nat) : Prop := TI S b ∧ KI S b ∧ (∀ q, q ∈ S.2.2.2.2 → MF S b q) ∧ ∀ n, n < S.1 → ¬ n = x → JN S n
section INV1
variable {S S1 : aSt} {b b1 x : Nat}
theorem JN_cg {n : Nat} (h1 : S1.2.1 1 n = S.2.1 1 n) (h6 : S1.2.1 6 n = S.2.1 6 n) (h8 : S1.2.1 8 n = S.2.1 8 n) (h11 : ∀ s, s < 6 → S1.2.1 11 (200 * s + n) = S.2.1 11 (200 * s + n)) (hK : ∀ k, k = 1 ∨ k = 2 ∨ k = 3 → cK S1.2.2.2.2 k n = cK S.2.2.2.2 k n) (hV : ∀ s, s < 6 → cV S1.2.2.2.2 n s = cV S.2.2.2.2 n s) (h : JN S n) : JN S1 n := by
  have hm : S.2.1 1 n % 3 < 3 := Nat.mod_lt _ (by decide)
  obtain ⟨j1, j2, j3, j4⟩ := h
  unfold JN
  rw [h1, h6, h8, hK 1 (by omega), hK 2 (by omega), hK 3 (by omega), h11 (2 * (S.2.1 1 n % 3) + 1) (by omega)]
  refine ⟨j1, j2, fun s hs he => ?_, fun s hs he => ?_⟩
  · rw [hV s hs, h11 s hs]
    exact j3 s hs he
  · rw [hV s hs, h11 s hs, h11 (2 * (S.2.1 1 n % 3) + s % 2) (by omega)]
    exact j4 s hs he
theorem MF_cg {q : aMsg} (h1 : ∀ n, n < S.1 → S1.2.1 1 n = S.2.1 1 n) (hm : S.1 ≤ S1.1) (hb : b ≤ b1) (h : MF S b q) : MF S1 b1 q := by
  obtain ⟨m1, m2, m3, m4, m5, m6, m7, m8⟩ := h
  refine ⟨m1, m2, fun h => ⟨(m3 h).1, by have := (m3 h).2; omega⟩, fun h => by have := m4 h; omega, by omega, fun h => ?_, fun h => ?_, fun h => ?_⟩
  · rw [h1 _ (m4 (by omega))]; exact m6 h
  · rw [h1 _ (m4 (by omega))]; exact m7 h
  · rw [h1 _ (m4 (by omega))]; exact m8 h
theorem KI_cg (hm : S1.1 = S.1) (h11 : S1.2.1 11 = S.2.1 11) (hL : S1.2.2.2.2 = S.2.2.2.2) (hb : b ≤ b1) (h : KI S b) : KI S1 b1 := by
  have e : ∀ s, nkF S1 s = nkF S s := fun s => by unfold nkF; rw [hm, h11]
  obtain ⟨k1, k2⟩ := h
  unfold KI nkS at *
  rw [hL, e, e, e, e, e, e]
  refine ⟨fun f t hf ht => ?_, by omega⟩
  rw [e]
  have := k1 f t hf ht
  exact ⟨fun q => by have := this.1 q; omega, fun q => by have := this.2 q; omega⟩
/-- one entry of one table that MF, JN, KI don't look at -/
theorem INV_N {k e v : Nat} (hk1 : ¬ k = 1) (hk6 : ¬ k = 6) (hk8 : ¬ k = 8) (hk11 : ¬ k = 11) (hT : TI (setN S k e v) b1) (hb : b ≤ b1) (h : INV S b x) : INV (setN S k e v) b1 x := by
  obtain ⟨i1, i2, i3, i4⟩ := h
  refine ⟨hT, KI_cg (S := S) rfl (sN_n (fun q => hk11 q.symm)) rfl hb i2, fun q hq => MF_cg (S := S) (fun n _ => by rw [sN_n (fun q => hk1 q.symm)]) (Nat.le_refl _) hb (i3 q hq), fun n hn hx => ?_⟩
  refine JN_cg (S := S) ?_ ?_ ?_ ?_ (fun _ _ => rfl) (fun _ _ => rfl) (i4 n hn hx)
  · rw [sN_n (fun q => hk1 q.symm)]
  · rw [sN_n (fun q => hk6 q.symm)]
  · rw [sN_n (fun q => hk8 q.symm)]
  · intro s _; rw [sN_n (fun q => hk11 q.symm)]
theorem TI_b (hb : b ≤ b1) (h : TI S b) : TI S b1 := by
  obtain ⟨t1, t2, t3⟩ := h
  exact ⟨by omega, fun k e => by have := t2 k e; omega, t3⟩
theorem INV_b (hb : b ≤ b1) (h : INV S b x) : INV S b1 x := by
  obtain ⟨i1, i2, i3, i4⟩ := h
  exact ⟨TI_b hb i1, KI_cg rfl rfl rfl hb i2, fun q hq => MF_cg (fun n _ => rfl) (Nat.le_refl _) hb (i3 q hq), i4⟩
/-- tables that only the bound looks at -/
theorem TI_N {k e v : Nat} (hk : k = 2 ∨ k = 3 ∨ k = 6 ∨ k = 10 ∨ k = 13 ∨ k = 14 ∨ k = 16 ∨ k = 17) (hv : v ≤ b + 256) (h : TI S b) : TI (setN S k e v) b := by
  obtain ⟨t1, t2, t3, t4, t5, t6, t7, t8, t9, t10, t11, t12, t13, t14, t15, t16⟩ := h
  have n1 : (setN S k e v).2.1 1 = S.2.1 1 := sN_n (by omega)
  have n4 : (setN S k e v).2.1 4 = S.2.1 4 := sN_n (by omega)
  have n7 : (setN S k e v).2.1 7 = S.2.1 7 := sN_n (by omega)
  have n8 : (setN S k e v).2.1 8 = S.2.1 8 := sN_n (by omega)
  have n9 : (setN S k e v).2.1 9 = S.2.1 9 := sN_n (by omega)
  have n11 : (setN S k e v).2.1 11 = S.2.1 11 := sN_n (by omega)
  have n12 : (setN S k e v).2.1 12 = S.2.1 12 := sN_n (by omega)
  have n15 : (setN S k e v).2.1 15 = S.2.1 15 := sN_n (by omega)
  have n19 : (setN S k e v).2.1 19 = S.2.1 19 := sN_n (by omega)
  unfold TI UI
  rw [n1, n4, n7, n8, n9, n11, n12, n15, n19]
  refine ⟨t1, fun k2 e2 => ?_, t3, t4, t5, t6, t7, t8, t9, t10, t11, t12, t13, t14, t15, t16⟩
  show up2 S.2.1 k e v k2 e2 ≤ b + 256
  unfold up2
  split
  · exact hv
  · exact t2 k2 e2
theorem INV_n {k e v : Nat} (hk : k = 2 ∨ k = 3 ∨ k = 10 ∨ k = 13 ∨ k = 14 ∨ k = 16 ∨ k = 17) (hv : v ≤ b + 256) (h : INV S b x) : INV (setN S k e v) b x := INV_N (by omega) (by omega) (by omega) (by omega) (TI_N (by omega) hv h.1) (Nat.le_refl _) h
theorem INV_V {k e : Nat} {v : Int32} (hk : ¬ k = 5) (h : INV S b x) : INV (setV S k e v) b x := by
  obtain ⟨i1, i2, i3, i4⟩ := h
  obtain ⟨t1, t2, t3, t4, t5, t6, t7, t8, t9, t10, t11, t12, t13, t14, t15, t16⟩ := i1
  refine ⟨⟨t1, t2, t3, t4, t5, t6, t7, t8, t9, t10, t11, t12, t13, t14, ?_, t16⟩, KI_cg (S := S) rfl rfl rfl (Nat.le_refl _) i2, i3, fun n hn hx => JN_cg (S := S) rfl rfl rfl (fun _ _ => rfl) (fun _ _ => rfl) (fun _ _ => rfl) (i4 n hn hx)⟩
  rw [sV_n (fun q => hk q.symm)]
  exact t15
/-- doing and writes of a client -/
theorem INV_c {i a w : Nat} (h2 : ¬ S.2.1 15 i = 2) (ha : a < 3) (hw : w < 256) (haw : ¬ a = 1 → w = 0) (h : INV S b x) : INV (setN (setN S 15 i a) 19 i w) b x := by
  have hT : TI (setN (setN S 15 i a) 19 i w) b := by
    obtain ⟨t1, t2, t3, t4, t5, t6, t7, t8, t9, t10, t11, t12, t13, t14, t15, t16⟩ := h.1
    have n : ∀ k, ¬ k = 15 → ¬ k = 19 → (setN (setN S 15 i a) 19 i w).2.1 k = S.2.1 k := fun k a1 a2 => by rw [sN_n a2, sN_n a1]
    have n15 : (setN (setN S 15 i a) 19 i w).2.1 15 = va_up (S.2.1 15) i a := by rw [sN_n (by decide), sN_s]
    have n19 : (setN (setN S 15 i a) 19 i w).2.1 19 = va_up (S.2.1 19) i w := by rw [sN_s, sN_n (by decide)]
    unfold TI UI
    rw [n 1 (by decide) (by decide), n 4 (by decide) (by decide), n 7 (by decide) (by decide), n 8 (by decide) (by decide), n 9 (by decide) (by decide), n 11 (by decide) (by decide), n 12 (by decide) (by decide), n15, n19]
    refine ⟨t1, fun k2 e2 => ?_, t3, t4, fun j => ?_, fun j => ?_, fun j hj => ?_, t8, t9, t10, t11, t12, t13, t14, t15, t16.1, fun n hn h8 => ?_, t16.2.2⟩
    · have := t2 k2 e2
      unfold setN up2
      simp only []
      repeat' split
      all_goals omega
    · unfold va_up; split
      · exact hw
      · exact t5 j
    · unfold va_up; split
      · exact ha
      · exact t6 j
    · unfold va_up at *
      by_cases q : j = i
      · rw [if_pos q] at hj ⊢
        exact haw hj
      · rw [if_neg q] at hj ⊢
        exact t7 j hj
    · have := t16.2.1 n hn h8
      rw [vu_n (fun q => h2 (by rw [← q]; exact this))]
      exact this
  obtain ⟨i1, i2, i3, i4⟩ := h
  refine ⟨hT, KI_cg (S := S) rfl ?_ rfl (Nat.le_refl _) i2, fun q hq => MF_cg (S := S) (fun n _ => ?_) (Nat.le_refl _) (Nat.le_refl _) (i3 q hq), fun n hn hx => JN_cg (S := S) ?_ ?_ ?_ (fun s _ => ?_) (fun _ _ => rfl) (fun _ _ => rfl) (i4 n hn hx)⟩
  all_goals rw [sN_n (by decide), sN_n (by decide)]
/-- own rows: fewer -/
theorem INV_O (h1 : S1.1 = S.1) (hN : S1.2.1 = S.2.1) (hV : S1.2.2.1 = S.2.2.1) (hL : S1.2.2.2.2 = S.2.2.2.2) (hO : ∀ e n, S1.2.2.2.1 e = some n → S.2.2.2.1 e = some n) (h : INV S b x) : INV S1 b x := by
  obtain ⟨i1, i2, i3, i4⟩ := h
  obtain ⟨t1, t2, t3, t4, t5, t6, t7, t8, t9, t10, t11, t12, t13, t14, t15, t16⟩ := i1
  refine ⟨?_, KI_cg h1 (by rw [hN]) hL (Nat.le_refl _) i2, ?_, ?_⟩
  · unfold TI UI
    rw [h1, hN, hV]
    exact ⟨t1, t2, t3, t4, t5, t6, t7, t8, t9, t10, t11, t12, fun e n he q => t13 e n he (hO e n q), fun e n q => t14 e n (hO e n q), t15, t16⟩
  · rw [hL]
    exact fun q hq => MF_cg (fun n _ => by rw [hN]) (by omega) (Nat.le_refl _) (i3 q hq)
  · rw [h1]
    exact fun n hn hx => JN_cg (by rw [hN]) (by rw [hN]) (by rw [hN]) (fun _ _ => by rw [hN]) (fun _ _ => by rw [hL]) (fun _ _ => by rw [hL]) (i4 n hn hx)
theorem INV_start {i : Nat} (hi : S.2.1 15 i = 0) (h : INV S b x) : INV (startF S i) b x := by
  have h1 := INV_c (i := i) (a := 1) (w := 0) (by omega) (by decide) (by decide) (fun _ => rfl) h
  have h2 : INV (seF i 3 0 (setN (setN S 15 i 1) 19 i 0)) b x := by
    simp only [seF]
    have bd : ∀ (S : aSt) k e, INV S b x → S.2.1 k e ≤ b + 256 := fun S k e hh => hh.1.2.1 k e
    have mx : ∀ (S : aSt) (p q : Nat), INV S b x → max (S.2.1 17 p) (min (S.2.1 13 q) (S.2.1 14 q)) ≤ b + 256 := fun S p q hh => by
      have a1 := bd S 17 p hh
      have a2 := bd S 13 q hh
      omega
    refine INV_n (by decide) (mx _ _ _ ?_) ?_
    · refine INV_n (by decide) (mx _ _ _ ?_) ?_
      · exact INV_n (by decide) (mx _ _ _ h1) h1
      · exact INV_n (by decide) (mx _ _ _ h1) h1
    · refine INV_n (by decide) (mx _ _ _ ?_) ?_
      · exact INV_n (by decide) (mx _ _ _ h1) h1
      · exact INV_n (by decide) (mx _ _ _ h1) h1
  unfold startF
  obtain ⟨f1, f2, f3, f4, f5⟩ := fgF_is (i := i) 8 0 (seF i 3 0 (setN (setN S 15 i 1) 19 i 0))
  refine INV_O f1 f2 f3 f4 (fun e n q => ?_) h2
  rw [f5] at q
  split at q
  · unfold fo1 at q
    split at q
    · cases q
    · rename_i n2 he
      split at q
      · cases q
      · rw [he]; exact q
  · exact q
theorem INV_write {i k : Nat} {v : Int32} (hk : k < 8) (ho : S.2.1 15 i = 1) (h : INV S b x) : INV (writeF S i k v) b x := by
  have e : setN S 19 i (S.2.1 19 i ||| 2 ^ k) = setN (setN S 15 i 1) 19 i (S.2.1 19 i ||| 2 ^ k) := by
    have : setN S 15 i 1 = S := by
      unfold setN
      rw [← ho]
      have : up2 S.2.1 15 i (S.2.1 15 i) = S.2.1 := by
        funext a b
        unfold up2
        split
        · rename_i q; rw [q.1, q.2]
        · rfl
      rw [this]
    rw [this]
  unfold writeF
  rw [e]
  refine INV_V (by decide) (INV_c (by omega) (by decide) ?_ (fun q => absurd rfl q) h)
  have h1 := h.1.2.2.2.2.1 i
  have h2 : 2 ^ k < 2 ^ 8 := Nat.pow_lt_pow_right (by decide) hk
  exact Nat.or_lt_two_pow (n := 8) h1 h2
theorem INV_abort {i : Nat} (ho : S.2.1 15 i = 1) (h : INV S b x) : INV (abortF S i) b x := INV_c (by omega) (by decide) (by decide) (fun _ => rfl) h
theorem INV_empty {i : Nat} (ho : S.2.1 15 i = 1) (h0 : S.2.1 19 i = 0) (h : INV S b x) : INV (setN S 15 i 0) b x := by
  have e : setN S 15 i 0 = setN (setN S 15 i 0) 19 i 0 := by
    unfold setN
    simp only [Prod.mk.injEq, true_and, and_true]
    funext a e
    by_cases q : a = 19 ∧ e = i
    · rw [q.1, q.2, up2_eq, up2_ne (by decide), h0]
    · exact (if_neg q).symm
  rw [e]
  exact INV_c (by omega) (by decide) (by decide) (fun _ => rfl) h
end INV1
