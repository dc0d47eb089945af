/-! the invariant: messages sent, taken; versions applied -/
theorem oth_cnt {P : aMsg → Bool} {s : Nat} {q : Nat → aMsg} {L : List aMsg} : (othL s q 3 0 L).countP P = L.countP P + (if 0 = s / 2 then 0 else if P (q 0) = true then 1 else 0) + (if 1 = s / 2 then 0 else if P (q 1) = true then 1 else 0) + (if 2 = s / 2 then 0 else if P (q 2) = true then 1 else 0) := by
  have key : ∀ (L : List aMsg) (p : Nat), (if p = s / 2 then L else L ++ [q p]).countP P = L.countP P + (if p = s / 2 then 0 else if P (q p) = true then 1 else 0) := fun L p => by
    by_cases h : p = s / 2
    · rw [if_pos h, if_pos h]; rfl
    · rw [if_neg h, if_neg h, List.countP_append, List.countP_singleton]
  simp only [othL]
  rw [key, key, key]
theorem oth_len {s : Nat} {q : Nat → aMsg} {L : List aMsg} (hs : s < 6) : (othL s q 3 0 L).length = L.length + 2 := by
  have key : ∀ (L : List aMsg) (p : Nat), (if p = s / 2 then L else L ++ [q p]).length = L.length + (if p = s / 2 then 0 else 1) := fun L p => by
    by_cases h : p = s / 2
    · rw [if_pos h, if_pos h]; rfl
    · rw [if_neg h, if_neg h, List.length_append]; rfl
  simp only [othL]
  rw [key, key, key]
  have : s / 2 = 0 ∨ s / 2 = 1 ∨ s / 2 = 2 := by omega
  rcases this with h | h | h <;> rw [h] <;> simp
theorem oth_mem {s : Nat} {q : Nat → aMsg} {L : List aMsg} {m : aMsg} (h : m ∈ othL s q 3 0 L) : m ∈ L ∨ ∃ p, p < 3 ∧ ¬ p = s / 2 ∧ m = q p := by
  have key : ∀ (L : List aMsg) (p : Nat), m ∈ (if p = s / 2 then L else L ++ [q p]) → m ∈ L ∨ (¬ p = s / 2 ∧ m = q p) := fun L p h => by
    by_cases e : p = s / 2
    · rw [if_pos e] at h; exact Or.inl h
    · rw [if_neg e] at h
      rcases List.mem_append.mp h with h | h
      · exact Or.inl h
      · exact Or.inr ⟨e, List.mem_singleton.mp h⟩
  simp only [othL] at h
  rcases key _ _ h with h | ⟨h1, h2⟩
  · rcases key _ _ h with h | ⟨h1, h2⟩
    · rcases key _ _ h with h | ⟨h1, h2⟩
      · exact Or.inl h
      · exact Or.inr ⟨0, by decide, h1, h2⟩
    · exact Or.inr ⟨1, by decide, h1, h2⟩
  · exact Or.inr ⟨2, by decide, h1, h2⟩
theorem nI_ne200 {a b : Nat} (ha : a < 200) (hb : b < 200) (h : ¬ a = b) : ¬ nI a = nI b := fun q => h ((nI_eq (by omega) (by omega)).mp q)
theorem qn_n {f t k n x y z : Nat} (hn : n < 2 ^ 31) : qn (f, t, k, nI n, x, y, z) = n := nI_clamp hn
section INV2
variable {S S1 : aSt} {b b1 x : Nat}
/-- fewer of the messages that only bound -/
theorem JN_le {n : Nat} (hN : S1.2.1 = S.2.1) (hK : ∀ k, k = 1 ∨ k = 2 → cK S1.2.2.2.2 k n = cK S.2.2.2.2 k n) (h3 : cK S1.2.2.2.2 3 n ≤ cK S.2.2.2.2 3 n) (hV : ∀ s, cV S1.2.2.2.2 n s ≤ cV S.2.2.2.2 n s) (h : JN S n) : JN S1 n := by
  obtain ⟨j1, j2, j3, j4⟩ := h
  unfold JN
  rw [hN, hK 1 (by omega), hK 2 (by omega)]
  refine ⟨fun q => ?_, fun q => ?_, fun s hs he => ?_, fun s hs he => ?_⟩
  · have := j1 q; omega
  · have := j2 q
    refine ⟨this.1, this.2.1, by omega, fun w => this.2.2.2 (by omega)⟩
  · have := j3 s hs he
    have := hV s
    exact ⟨by omega, (j3 s hs he).2⟩
  · have h4 := j4 s hs he
    have := hV s
    exact ⟨h4.1, by omega, fun w => h4.2.2.1 (by omega), fun w => ⟨by have := (h4.2.2.2 w).1; omega, (h4.2.2.2 w).2⟩⟩
theorem KI_le (hm : S1.1 = S.1) (h11 : S1.2.1 11 = S.2.1 11) (hc : ∀ l, cnL S1.2.2.2.2 l ≤ cnL S.2.2.2.2 l) (hl : S1.2.2.2.2.length ≤ S.2.2.2.2.length) (h : KI S b) : KI S1 b := by
  have e : ∀ s, nkF S1 s = nkF S s := fun s => by unfold nkF; rw [hm, h11]
  obtain ⟨k1, k2⟩ := h
  unfold KI nkS at *
  rw [e, e, e, e, e, e]
  refine ⟨fun f t hf ht => ?_, by omega⟩
  rw [e]
  have h1 := k1 f t hf ht
  have h2 := hc (6 * f + t)
  exact ⟨fun q => by have := h1.1 q; omega, fun q => by have := h1.2 q; omega⟩
theorem TI_L {L : List aMsg} (h : TI S b) : TI (S.1, S.2.1, S.2.2.1, S.2.2.2.1, L) b := h
/-- a message is taken -/
theorem INV_drop {j y : Nat} {q : aMsg} {A B : List aMsg} (hL : S.2.2.2.2 = A ++ q :: B) (hE : S.2.2.2.2.eraseIdx j = A ++ B) (hy : q.2.2.1 ≤ 2 → q.2.2.2.1 = nI y) (hy2 : y < 200) (h : INV S b x) (hx : x = y ∨ (x = 1000 ∧ (3 ≤ q.2.2.1 ∨ ∀ n, n < S.1 → True))) : INV (dropF S j) b (if q.2.2.1 ≤ 2 then y else x) := by
  have hd : (dropF S j).2.2.2.2 = A ++ B := hE
  have cnt : ∀ P : aMsg → Bool, S.2.2.2.2.countP P = (A ++ B).countP P + (if P q = true then 1 else 0) := fun P => by
    rw [hL, List.countP_append, List.countP_append, List.countP_cons]; omega
  obtain ⟨i1, i2, i3, i4⟩ := h
  refine ⟨i1, ?_, fun m hm => ?_, fun n hn hne => ?_⟩
  · refine KI_le (S := S) rfl rfl (fun l => ?_) ?_ i2
    · unfold cnL
      rw [hd, cnt]; omega
    · rw [hd, hL, List.length_append, List.length_append, List.length_cons]; omega
  · rw [hd] at hm
    have hm2 : m ∈ S.2.2.2.2 := by
      rw [hL]
      rcases List.mem_append.mp hm with w | w
      · exact List.mem_append_left _ w
      · exact List.mem_append_right _ (List.mem_cons_of_mem _ w)
    exact i3 m hm2
  · have hn : n < S.1 := hn
    have hn200 : n < 200 := by have := i1.1; omega
    have hxn : ¬ n = x := by
      split at hne
      · rcases hx with e | e
        · rw [e]; exact hne
        · omega
      · exact hne
    refine JN_le (S := S) rfl (fun k hk => ?_) ?_ (fun s => ?_) (i4 n hn hxn)
    · rw [hd]
      unfold cK
      rw [cnt (pK k n), if_neg]
      · rfl
      · intro w
        have w := of_decide_eq_true w
        rw [if_pos (by omega)] at hne
        have := hy (by omega)
        rw [this] at w
        exact nI_ne200 hy2 hn200 (fun e => hne e.symm) w.2
    · rw [hd]; unfold cK; rw [cnt (pK 3 n)]; omega
    · rw [hd]; unfold cV; rw [cnt (pV n s)]; omega
/-- a message about y is sent -/
theorem INV_push {y : Nat} {q : aMsg} (hM : MF S b q) (hK : KI (pushF S q) b) (hq : q.2.2.2.1 = nI y) (hy2 : y < 200) (hx : x = y ∨ x = 1000) (hJ : y < S.1 → JN (pushF S q) y) (h : INV S b x) : INV (pushF S q) b 1000 := by
  have hd : (pushF S q).2.2.2.2 = S.2.2.2.2 ++ [q] := rfl
  have cnt : ∀ P : aMsg → Bool, (S.2.2.2.2 ++ [q]).countP P = S.2.2.2.2.countP P + (if P q = true then 1 else 0) := fun P => by
    rw [List.countP_append, List.countP_singleton]
  obtain ⟨i1, i2, i3, i4⟩ := h
  refine ⟨i1, hK, fun m hm => ?_, fun n hn hne => ?_⟩
  · rw [hd] at hm
    rcases List.mem_append.mp hm with w | w
    · exact i3 m w
    · rw [List.mem_singleton.mp w]; exact hM
  · have hn : n < S.1 := hn
    have hn200 : n < 200 := by have := i1.1; omega
    by_cases e : n = y
    · rw [e]; exact hJ (by rw [← e]; exact hn)
    · have ne : ¬ q.2.2.2.1 = nI n := by rw [hq]; exact nI_ne200 hy2 hn200 (fun w => e w.symm)
      refine JN_cg (S := S) rfl rfl rfl (fun _ _ => rfl) (fun k hk => ?_) (fun s hs => ?_) (i4 n hn (by omega))
      · rw [hd]; unfold cK; rw [cnt (pK k n), if_neg (fun w => ne (of_decide_eq_true w).2)]; rfl
      · rw [hd]; unfold cV; rw [cnt (pV n s), if_neg (fun w => ne (of_decide_eq_true w).2.1)]; rfl
/-- a message that tells no transaction -/
theorem INV_push56 {q : aMsg} (hk : 5 ≤ q.2.2.1) (hM : MF S b q) (hK : KI (pushF S q) b) (h : INV S b x) : INV (pushF S q) b x := by
  have cnt : ∀ P : aMsg → Bool, (S.2.2.2.2 ++ [q]).countP P = S.2.2.2.2.countP P + (if P q = true then 1 else 0) := fun P => by
    rw [List.countP_append, List.countP_singleton]
  have hd : (pushF S q).2.2.2.2 = S.2.2.2.2 ++ [q] := rfl
  obtain ⟨i1, i2, i3, i4⟩ := h
  refine ⟨i1, hK, fun m hm => ?_, fun n hn hne => ?_⟩
  · rw [hd] at hm
    rcases List.mem_append.mp hm with w | w
    · exact i3 m w
    · rw [List.mem_singleton.mp w]; exact hM
  · refine JN_cg (S := S) rfl rfl rfl (fun _ _ => rfl) (fun k hk2 => ?_) (fun s hs => ?_) (i4 n hn hne)
    · rw [hd]; unfold cK; rw [cnt (pK k n), if_neg (fun w => by have := (of_decide_eq_true w).1; omega)]; rfl
    · rw [hd]; unfold cV; rw [cnt (pV n s), if_neg (fun w => by have := (of_decide_eq_true w).1; omega)]; rfl
theorem KI_nb {q : aMsg} (h1 : q.1 < 6) (h2 : q.2.1 < 6) (hp : q.1 / 2 = q.2.1 / 2) (h : KI S b) : KI (pushF S q) (b + 1) := by
  obtain ⟨k1, k2⟩ := h
  have hd : (pushF S q).2.2.2.2 = S.2.2.2.2 ++ [q] := rfl
  have e : ∀ s, nkF (pushF S q) s = nkF S s := fun s => rfl
  unfold KI nkS at *
  rw [e, e, e, e, e, e, hd, List.length_append]
  refine ⟨fun f t hf ht => ?_, by simp only [List.length_singleton]; omega⟩
  rw [e, cnL_app, cnL_1]
  have h3 := k1 f t hf ht
  refine ⟨fun w => ?_, fun w => ?_⟩
  · have := h3.1 w
    rw [if_neg (fun z => by unfold lkM at z; omega)]; omega
  · have := h3.2 w
    split <;> omega
/-- a version is applied -/
theorem nk_3 {s n : Nat} (hn : n < S.1) (h3 : ¬ S.2.1 11 (200 * s + n) = 3) (hm : S1.1 = S.1) (h11 : S1.2.1 11 = va_up (S.2.1 11) (200 * s + n) 3) : nkF S s = nkF S1 s + 1 := by
  unfold nkF
  rw [hm, h11]
  refine cntF_drop S.1 hn (decide_eq_true h3) ?_ (fun j hj => ?_)
  · rw [vu_s]; rfl
  · rw [vu_n (by omega)]
theorem nk_o {s s2 n v : Nat} (hn : n < S.1) (hm2 : S.1 ≤ 200) (hs : ¬ s2 = s) (hm : S1.1 = S.1) (h11 : S1.2.1 11 = va_up (S.2.1 11) (200 * s + n) v) : nkF S1 s2 = nkF S s2 := by
  unfold nkF
  rw [hm, h11]
  refine cntF_congr S.1 (fun j hj => ?_)
  rw [vu_n (by omega)]
theorem nkS_3 {s n : Nat} (hs : s < 6) (hn : n < S.1) (hm2 : S.1 ≤ 200) (h3 : ¬ S.2.1 11 (200 * s + n) = 3) (hm : S1.1 = S.1) (h11 : S1.2.1 11 = va_up (S.2.1 11) (200 * s + n) 3) : nkS S = nkS S1 + 1 := by
  have a := nk_3 hn h3 hm h11
  have o : ∀ s2, ¬ s2 = s → nkF S1 s2 = nkF S s2 := fun s2 h => nk_o hn hm2 h hm h11
  unfold nkS
  have : s = 0 ∨ s = 1 ∨ s = 2 ∨ s = 3 ∨ s = 4 ∨ s = 5 := by omega
  rcases this with rfl | rfl | rfl | rfl | rfl | rfl
  · have := o 1 (by decide); have := o 2 (by decide); have := o 3 (by decide); have := o 4 (by decide); have := o 5 (by decide); omega
  · have := o 0 (by decide); have := o 2 (by decide); have := o 3 (by decide); have := o 4 (by decide); have := o 5 (by decide); omega
  · have := o 0 (by decide); have := o 1 (by decide); have := o 3 (by decide); have := o 4 (by decide); have := o 5 (by decide); omega
  · have := o 0 (by decide); have := o 1 (by decide); have := o 2 (by decide); have := o 4 (by decide); have := o 5 (by decide); omega
  · have := o 0 (by decide); have := o 1 (by decide); have := o 2 (by decide); have := o 3 (by decide); have := o 5 (by decide); omega
  · have := o 0 (by decide); have := o 1 (by decide); have := o 2 (by decide); have := o 3 (by decide); have := o 4 (by decide); omega
/-- how far one is at one server -/
theorem TI_11 {s n v : Nat} (hs : s < 6) (hn : n < S.1) (hv : v < 4) (h12 : (v = 1 ∨ v = 2) → 1 ≤ S.2.1 12 (200 * s + n)) (h : TI S b) : TI (setN S 11 (200 * s + n) v) b := by
  obtain ⟨t1, t2, t3, t4, t5, t6, t7, t8, t9, t10, t11, t12, t13, t14, t15, t16⟩ := h
  have nk : ∀ k, ¬ k = 11 → (setN S 11 (200 * s + n) v).2.1 k = S.2.1 k := fun k hk => sN_n hk
  unfold TI UI
  rw [nk 1 (by decide), nk 4 (by decide), nk 7 (by decide), nk 8 (by decide), nk 9 (by decide), nk 12 (by decide), nk 15 (by decide), nk 19 (by decide), sN_s]
  refine ⟨t1, fun k2 e2 => ?_, t3, t4, t5, t6, t7, t8, t9, fun e => ?_, fun s2 n2 hs2 hn2 hn3 => ?_, t12, t13, t14, t15, fun s2 n2 hs2 hn2 => ?_, t16.2⟩
  · show up2 S.2.1 11 (200 * s + n) v k2 e2 ≤ b + 256
    unfold up2; split
    · omega
    · exact t2 k2 e2
  · unfold va_up; split
    · exact hv
    · exact t10 e
  · have hn2 : S.1 ≤ n2 := hn2
    rw [vu_n (by omega)]
    exact t11 s2 n2 hs2 hn2 hn3
  · unfold va_up
    by_cases q : 200 * s2 + n2 = 200 * s + n
    · rw [if_pos q, q]
      exact h12
    · rw [if_neg q]
      exact t16.1 s2 n2 hs2 hn2
theorem INV_stA {s n : Nat} (hs : s < 6) (hn : n < S.1) (h2 : S.2.1 11 (200 * s + n) = 2) (h : INV S b 1000) : INV (stA S s n) b 1000 := by
  have e1 := stA_1 (S := S) (s := s) (n := n)
  have eL := stA_L (S := S) (s := s) (n := n)
  have h11 : (stA S s n).2.1 11 = va_up (S.2.1 11) (200 * s + n) 3 := by rw [e1.2.1, u2_s]
  have hk : ∀ k, ¬ k = 11 → (stA S s n).2.1 k = S.2.1 k := fun k hk => by rw [e1.2.1, u2_n hk]
  obtain ⟨i1, i2, i3, i4⟩ := h
  have hm := i1.1
  have hT : TI (stA S s n) b := by
    have := TI_11 (v := 3) hs hn (by decide) (fun q => by omega) i1
    unfold TI UI at this ⊢
    rw [e1.1, e1.2.1, e1.2.2.1, e1.2.2.2]
    exact this
  refine ⟨hT, ?_, fun m hmm => ?_, fun n2 hn2 hx => ?_⟩
  · obtain ⟨k1, k2⟩ := i2
    have a3 := nk_3 (S1 := stA S s n) hn (by omega) e1.1 h11
    have aS := nkS_3 (S1 := stA S s n) hs hn (by omega) (by omega) e1.1 h11
    refine ⟨fun f t hf ht => ?_, ?_⟩
    · have k3 := k1 f t hf ht
      by_cases ef : f = s
      · subst ef
        by_cases q : f / 2 = t / 2
        · refine ⟨fun w => absurd q w, fun _ => ?_⟩
          rw [eL, cn_oth0 (fun p hp hne => by omega)]
          exact k3.2 q
        · refine ⟨fun _ => ?_, fun w => absurd w q⟩
          have := k3.1 q
          by_cases pr : t % 2 = f % 2
          · rw [eL, cn_oth (r := t / 2) (by omega) (by omega) (fun w => q w.symm)]
            omega
          · rw [eL, cn_oth0 (fun p hp hne => by omega)]
            omega
      · have o := nk_o (S1 := stA S s n) (v := 3) hn (by omega) ef e1.1 h11
        rw [eL, cn_oth0 (fun p hp hne => by omega), o]
        exact k3
    · rw [eL, oth_len hs]
      omega
  · rw [eL] at hmm
    have m1 : ∀ q, MF S b q → MF (stA S s n) b q := fun q => MF_cg (fun n _ => by rw [hk 1 (by decide)]) (by rw [e1.1]; exact Nat.le_refl _) (Nat.le_refl _)
    rcases oth_mem hmm with w | ⟨p, hp, hne, rfl⟩
    · exact m1 m (i3 m w)
    · have hq : qn (s, 2 * p + s % 2, 4, nI n, 0, 0, 0) = n := qn_n (by omega)
      refine ⟨⟨hs, ?_, ?_⟩, ⟨?_, ?_⟩, fun _ => ⟨?_, ?_⟩, fun _ => ?_, ⟨Nat.zero_le _, Nat.zero_le _, Nat.zero_le _⟩, fun w => ?_, fun w => ?_, fun w => ?_⟩
      · show 2 * p + s % 2 < 6; omega
      · show ¬ s = 2 * p + s % 2 ∧ (s / 2 = (2 * p + s % 2) / 2 ∨ s % 2 = (2 * p + s % 2) % 2); omega
      · show 1 ≤ 4; omega
      · show 4 ≤ 6; omega
      · rw [hq]
      · rw [hq]; omega
      · rw [hq, e1.1]; exact hn
      · exact absurd (show (4 : Nat) = 1 from w) (by decide)
      · exact absurd (show (4 : Nat) = 2 from w) (by decide)
      · exact absurd (show (4 : Nat) = 3 from w) (by decide)
  · rw [e1.1] at hn2
    have jn := i4 n2 hn2 hx
    have ck : ∀ k m, k = 1 ∨ k = 2 ∨ k = 3 → cK (stA S s n).2.2.2.2 k m = cK S.2.2.2.2 k m := fun k m hk => by
      unfold cK
      rw [eL, oth_cnt]
      have z : ∀ p, pK k m (s, 2 * p + s % 2, 4, nI n, 0, 0, 0) = false := fun p => decide_eq_false (fun w => by have : (4 : Nat) = k := w.1; omega)
      rw [z, z, z]
      simp
    by_cases en : n2 = n
    · subst en
      obtain ⟨j1, j2, j3, j4⟩ := jn
      have hml : S.2.1 1 n2 % 3 < 3 := Nat.mod_lt _ (by decide)
      have home : s / 2 = S.2.1 1 n2 % 3 := by
        by_cases q : s / 2 = S.2.1 1 n2 % 3
        · exact q
        · have := (j4 s hs q).1; omega
      have told := (j3 s hs home).2 (by omega)
      have cv : ∀ t, t < 6 → cV (stA S s n2).2.2.2.2 n2 t = cV S.2.2.2.2 n2 t + (if ¬ t / 2 = s / 2 ∧ t % 2 = s % 2 then 1 else 0) := fun t ht => by
        unfold cV
        rw [eL, oth_cnt]
        have z : ∀ p, pV n2 t (s, 2 * p + s % 2, 4, nI n2, 0, 0, 0) = decide (2 * p + s % 2 = t) := fun p => by
          unfold pV
          exact decide_eq_decide.mpr ⟨fun w => w.2.2, fun w => ⟨rfl, rfl, w⟩⟩
        rw [z, z, z]
        simp only [decide_eq_true_eq]
        repeat' split
        all_goals omega
      unfold JN
      rw [ck 1 n2 (by omega), ck 2 n2 (by omega), ck 3 n2 (by omega), hk 8 (by decide), hk 6 (by decide), hk 1 (by decide), h11]
      refine ⟨fun q => by omega, fun q => ?_, fun t ht he => ?_, fun t ht he => ?_⟩
      · have := j2 q
        refine ⟨this.1, this.2.1, this.2.2.1, fun w => ?_⟩
        have w2 := this.2.2.2 w
        have : ¬ 200 * (2 * (S.2.1 1 n2 % 3) + 1) + n2 = 200 * s + n2 := fun e => by rw [e] at w2; omega
        rw [vu_n this]; exact w2
      · rw [cv t ht, if_neg (by omega)]
        exact ⟨(j3 t ht he).1, fun _ => told⟩
      · have h4 := j4 t ht he
        rw [cv t ht, vu_n (show ¬ 200 * t + n2 = 200 * s + n2 by omega)]
        by_cases pr : t % 2 = s % 2
        · have hh : 2 * (S.2.1 1 n2 % 3) + t % 2 = s := by omega
          rw [hh] at h4 ⊢
          have z := h4.2.2.2 (by omega)
          rw [vu_s, if_pos ⟨by omega, pr⟩]
          refine ⟨Or.inl z.2, by omega, fun _ => z.2, fun w => absurd rfl w⟩
        · rw [if_neg (fun w => pr w.2), vu_n (show ¬ 200 * (2 * (S.2.1 1 n2 % 3) + t % 2) + n2 = 200 * s + n2 by omega)]
          exact h4
    · have ne : ¬ nI n = nI n2 := nI_ne200 (by omega) (by omega) (fun w => en w.symm)
      refine JN_cg (S := S) (by rw [hk 1 (by decide)]) (by rw [hk 6 (by decide)]) (by rw [hk 8 (by decide)]) (fun s2 hs2 => ?_) (fun k hk => ck k n2 hk) (fun t ht => ?_) jn
      · rw [h11, vu_n (by omega)]
      · unfold cV
        rw [eL, oth_cnt]
        have z : ∀ p, pV n2 t (s, 2 * p + s % 2, 4, nI n, 0, 0, 0) = false := fun p => decide_eq_false (fun w => ne w.2.1)
        rw [z, z, z]
        simp
theorem INV_apF {s : Nat} {f : Option Nat} (hs : s < 6) : ∀ t (S : aSt), INV S b 1000 → INV (apF t S s f) b 1000 := by
  intro t
  induction t with
  | zero => intro S h; exact h
  | succ t ih =>
    intro S h
    rw [apF]
    cases hl : leF S.2.1 s 2 S.1 with
    | none => exact h
    | some n =>
      simp only []
      split
      · exact ih _ (INV_stA hs (leF_lt _ _ hl) (leF_is _ _ hl) h)
      · exact h
end INV2
