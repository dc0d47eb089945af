/-! the invariant: deliver -/
section INV4
variable {S S1 : aSt} {b b1 x : Nat}
theorem cnt_er {A B : List aMsg} {q : aMsg} (P : aMsg → Bool) : (A ++ q :: B).countP P = (A ++ B).countP P + (if P q = true then 1 else 0) := by
  rw [List.countP_append, List.countP_append, List.countP_cons]; omega
theorem drop12 {j n k : Nat} {q : aMsg} {A B : List aMsg} (hL : S.2.2.2.2 = A ++ q :: B) (hE : S.2.2.2.2.eraseIdx j = A ++ B) (hk : q.2.2.1 = k) (hk2 : k = 1 ∨ k = 2) (hq : q.2.2.2.1 = nI n) (hn : n < S.1) (h : INV S b 1000) : P0 (dropF S j) n ∧ S.2.1 6 n = 1 ∧ S.2.1 11 (200 * (2 * (S.2.1 1 n % 3) + 1) + n) = k - 1 := by
  have hm := h.1.1
  obtain ⟨j1, j2, j3, j4⟩ := h.2.2.2 n hn (by omega)
  have h82 := h.1.2.2.1 n
  have ml : S.2.1 1 n % 3 < 3 := Nat.mod_lt _ (by decide)
  have hd : (dropF S j).2.2.2.2 = A ++ B := hE
  have ck : ∀ k2, cK S.2.2.2.2 k2 n = cK (dropF S j).2.2.2.2 k2 n + (if k2 = k then 1 else 0) := fun k2 => by
    unfold cK
    rw [hd, hL, cnt_er]
    by_cases e : k2 = k
    · rw [if_pos e, if_pos (show pK k2 n q = true from decide_eq_true ⟨by rw [hk, e], hq⟩)]
    · rw [if_neg e, if_neg (fun w => e (by rw [← hk]; exact (of_decide_eq_true w).1.symm))]
  have cv : ∀ s, cV S.2.2.2.2 n s = cV (dropF S j).2.2.2.2 n s := fun s => by
    unfold cV
    rw [hd, hL, cnt_er, if_neg (fun w => by have := (of_decide_eq_true w).1; omega)]
    rfl
  have c1 := ck 1
  have c2 := ck 2
  have c3 := ck 3
  have h80 : S.2.1 8 n = 0 := by
    by_cases e : S.2.1 8 n = 1
    · have := j2 e
      rcases hk2 with q | q
      · rw [if_pos q.symm] at c1; omega
      · rw [if_pos q.symm] at c2; omega
    · omega
  have jj := j1 h80
  rw [if_neg (by omega)] at c3
  refine ⟨⟨h80, ?_, ?_, ?_, fun s hs he => ?_, fun s hs he => ?_⟩, jj.1, ?_⟩
  · rcases hk2 with q | q
    · rw [if_pos q.symm] at c1; omega
    · rw [if_neg (by omega)] at c1; rw [if_pos q.symm] at c2; omega
  · rcases hk2 with q | q
    · rw [if_pos q.symm] at c1; rw [if_neg (by omega)] at c2; omega
    · rw [if_pos q.symm] at c2; omega
  · omega
  · have h3 := j3 s hs he
    refine ⟨by rw [← cv]; exact h3.1, ?_⟩
    show S.2.1 11 (200 * s + n) < 2
    by_cases w : 2 ≤ S.2.1 11 (200 * s + n)
    · have := h3.2 w; omega
    · omega
  · have h4 := j4 s hs he
    have hh := j3 (2 * (S.2.1 1 n % 3) + s % 2) (by omega) (by omega)
    have : ¬ S.2.1 11 (200 * (2 * (S.2.1 1 n % 3) + s % 2) + n) = 3 := fun w => by
      have := hh.2 (by omega); omega
    have h5 := h4.2.2.2 this
    exact ⟨by rw [← cv]; exact h5.1, h5.2⟩
  · rw [jj.2.2.2]
    rcases hk2 with q | q
    · rw [if_pos q.symm] at c1; rw [q]; omega
    · rw [if_pos q.symm] at c2; rw [q]; omega
theorem prp_eq {s n : Nat} : prpF S s n = setN (setN (setN S 10 s (tmF S.2.1 s n)) 12 (200 * s + n) (tmF S.2.1 s n)) 11 (200 * s + n) 1 := by
  unfold prpF
  rw [sN_comm (by decide)]
theorem INV_prp {s n : Nat} (hs : s < 6) (hn : n < S.1) (h3 : ¬ S.2.1 11 (200 * s + n) = 3) (ht : tmF S.2.1 s n ≤ b + 256) (h : INV S b n) : INV (prpF S s n) b n := by
  have h1 : 1 ≤ tmF S.2.1 s n := by unfold tmF; omega
  rw [prp_eq]
  refine INV_11x (S := setN (setN S 10 s (tmF S.2.1 s n)) 12 (200 * s + n) (tmF S.2.1 s n)) hs hn (by decide) (fun _ => by rw [sN_s, vu_s]; exact h1) (by rw [sN_n (by decide), sN_n (by decide)]; exact h3) (INV_12 ht h1 (INV_n (by decide) ht h)) (Or.inl rfl)
theorem tm_le {s n : Nat} (h : ∀ k e, S.2.1 k e ≤ b + 256) : tmF S.2.1 s n ≤ b + 1 + 256 := by
  have a1 := h 10 s
  have a2 := h 3 n
  have a3 := h 2 (3 * n + 0)
  have a4 := h 2 (3 * n + 1)
  have a5 := h 2 (3 * n + 2)
  unfold tmF
  omega
theorem INV_3 {s n : Nat} (hs : s < 6) (hn : n < S.1) (h8 : S.2.1 8 n = 1) (hnh : ¬ s / 2 = S.2.1 1 n % 3) (h3 : ¬ S.2.1 11 (200 * s + n) = 3) (hv : cV S.2.2.2.2 n s = 0) (hF : S.2.1 11 (200 * (2 * (S.2.1 1 n % 3) + s % 2) + n) = 3) (h : INV S b 1000) : INV (setN S 11 (200 * s + n) 3) b 1000 := by
  have hm := h.1.1
  have ml : S.2.1 1 n % 3 < 3 := Nat.mod_lt _ (by decide)
  obtain ⟨i1, i2, i3, i4⟩ := h
  have e11 : (setN S 11 (200 * s + n) 3).2.1 11 = va_up (S.2.1 11) (200 * s + n) 3 := sN_s
  refine ⟨TI_11 hs hn (by decide) (fun q => by omega) i1, ?_, fun q hq => MF_cg (S := S) (fun n _ => by rw [sN_n (by decide)]) (Nat.le_refl _) (Nat.le_refl _) (i3 q hq), fun m hmm hne => ?_⟩
  · obtain ⟨k1, k2⟩ := i2
    have a3 := nk_3 (S1 := setN S 11 (200 * s + n) 3) hn h3 rfl e11
    have aS := nkS_3 (S1 := setN S 11 (200 * s + n) 3) hs hn hm.1 h3 rfl e11
    refine ⟨fun f t hf ht => ?_, ?_⟩
    · have k3 := k1 f t hf ht
      show (¬ f / 2 = t / 2 → cnL S.2.2.2.2 (6 * f + t) + _ ≤ b) ∧ (f / 2 = t / 2 → cnL S.2.2.2.2 (6 * f + t) ≤ b)
      refine ⟨fun w => ?_, k3.2⟩
      have k4 := k3.1 w
      by_cases e : f = s
      · rw [e] at k4 ⊢; omega
      · rw [nk_o (S := S) (S1 := setN S 11 (200 * s + n) 3) (v := 3) hn hm.1 e rfl e11]; exact k4
    · show S.2.2.2.2.length + _ ≤ _
      omega
  · have hmm : m < S.1 := hmm
    have jn := i4 m hmm hne
    by_cases e : m = n
    · subst e
      obtain ⟨j1, j2, j3, j4⟩ := jn
      unfold JN
      rw [e11, sN_n (show ¬ 8 = 11 by decide), sN_n (show ¬ 6 = 11 by decide), sN_n (show ¬ 1 = 11 by decide)]
      refine ⟨fun q => by omega, fun q => ?_, fun s2 hs2 he => ?_, fun s2 hs2 he => ?_⟩
      · rw [vu_n (by omega)]; exact j2 q
      · rw [vu_n (show ¬ 200 * s2 + m = 200 * s + m from fun w => hnh (by rw [show s = s2 by omega]; exact he))]; exact j3 s2 hs2 he
      · rw [vu_n (show ¬ 200 * (2 * (S.2.1 1 m % 3) + s2 % 2) + m = 200 * s + m by omega)]
        by_cases e2 : s2 = s
        · subst e2
          rw [vu_s]
          have hv : cV (setN S 11 (200 * s2 + m) 3).2.2.2.2 m s2 = 0 := hv
          exact ⟨Or.inr rfl, by omega, fun w => by omega, fun w => absurd hF w⟩
        · rw [vu_n (by omega)]; exact j4 s2 hs2 he
    · refine JN_cg (S := S) (by rw [sN_n (by decide)]) (by rw [sN_n (by decide)]) (by rw [sN_n (by decide)]) (fun s2 hs2 => ?_) (fun _ _ => rfl) (fun _ _ => rfl) jn
      rw [sN_s, vu_n (by omega)]
/-- deliver -/
theorem INV_dlv {f t j : Nat} {q : aMsg} (hb : b + 1 ≤ 512) (hfo : foL f t S.2.2.2.2 0 = some j) (hq : S.2.2.2.2[j]? = some q) (h : INV S b 1000) : INV (takeF (dropF S j) f t q) (b + 1) 1000 ∧ TkOk (dropF S j) f t q ∧ OkQ S f t q := by
  obtain ⟨A, q2, B, hL, hj, hA, hqf, hqt⟩ := foL_at S.2.2.2.2 0 j hfo
  have hj : j = A.length := by omega
  have hqq : q2 = q := by
    rw [hL, hj, List.getElem?_append_right (Nat.le_refl _), Nat.sub_self] at hq
    exact Option.some.inj hq
  subst hqq
  have hE : S.2.2.2.2.eraseIdx j = A ++ B := by
    rw [hL, hj, List.eraseIdx_append_of_length_le (Nat.le_refl _), Nat.sub_self]
    rfl
  have hmem : q2 ∈ S.2.2.2.2 := by rw [hL]; exact List.mem_append_right _ List.mem_cons_self
  obtain ⟨⟨f1, f2, f3⟩, ⟨f4, f5⟩, f6, f7, ⟨f8, f9, f10⟩, f11, f12, f13⟩ := h.2.2.1 q2 hmem
  rw [hqf] at f1 f3 f11 f13
  rw [hqt] at f2 f3 f11 f12 f13
  rw [hqf] at f12
  have hm := h.1.1
  have hbd := h.1.2.1
  have hd : (dropF S j).2.2.2.2 = A ++ B := hE
  have hBN : am_BN S.2.1 := fun k e => by have := hbd k e; omega
  have hti := h.1
  have hkd : ∀ y, y < 200 → (q2.2.2.1 ≤ 2 → q2.2.2.2.1 = nI y) → INV (dropF S j) b (if q2.2.2.1 ≤ 2 then y else 1000) := fun y hy hyy => INV_drop hL hE hyy hy h (Or.inr ⟨rfl, Or.inr (fun _ _ => trivial)⟩)
  have hKd : KI (dropF S j) b := (hkd (if q2.2.2.1 ≤ 4 then qn q2 else 0) (by
    split
    · rename_i w
      have := f7 w
      omega
    · decide) (fun w => by rw [if_pos (by omega)]; exact (f6 (by omega)).1)).2.1
  have cap : ∀ u, u < 6 → ∀ r, r < 3 → ¬ r = u / 2 → cnL (dropF S j).2.2.2.2 (6 * u + (2 * r + u % 2)) + nkF (dropF S j) u ≤ 512 := fun u hu r hr hne => by
    have := (hKd.1 u (2 * r + u % 2) hu (by omega)).1 (by omega)
    omega
  have capn : ∀ u v, u < 6 → v < 6 → u / 2 = v / 2 → cnL (dropF S j).2.2.2.2 (6 * u + v) < 512 := fun u v hu hv e => by
    have := (hKd.1 u v hu hv).2 e
    omega
  have hN : (dropF S j).2.1 = S.2.1 := rfl
  have hmul : S.2.1 1 (qn q2) % 3 < 3 := Nat.mod_lt _ (by decide)
  -- what is asked of each kind
  have k1 : q2.2.2.1 = 1 → P0 (dropF S j) (qn q2) ∧ S.2.1 6 (qn q2) = 1 ∧ S.2.1 11 (200 * (2 * (S.2.1 1 (qn q2) % 3) + 1) + qn q2) = 0 := fun w => drop12 (k := 1) hL hE w (Or.inl rfl) (f6 (by omega)).1 (f7 (by omega)) h
  have k2 : q2.2.2.1 = 2 → P0 (dropF S j) (qn q2) ∧ S.2.1 6 (qn q2) = 1 ∧ S.2.1 11 (200 * (2 * (S.2.1 1 (qn q2) % 3) + 1) + qn q2) = 1 := fun w => drop12 (k := 2) hL hE w (Or.inr rfl) (f6 (by omega)).1 (f7 (by omega)) h
  have k3 : q2.2.2.1 = 3 → S.2.1 8 (qn q2) = 1 ∧ S.2.1 11 (200 * t + qn q2) = 1 ∧ cK (dropF S j).2.2.2.2 3 (qn q2) = 0 := fun w => by
    have hn := f7 (by omega)
    obtain ⟨j1, j2, j3, j4⟩ := h.2.2.2 (qn q2) hn (by omega)
    have h82 := h.1.2.2.1 (qn q2)
    have c3 : cK S.2.2.2.2 3 (qn q2) = cK (dropF S j).2.2.2.2 3 (qn q2) + 1 := by
      unfold cK
      rw [hd, hL, cnt_er, if_pos (show pK 3 (qn q2) q2 = true from decide_eq_true ⟨w, (f6 (by omega)).1⟩)]
    have h8 : S.2.1 8 (qn q2) = 1 := by
      by_cases e : S.2.1 8 (qn q2) = 0
      · have := j1 e; omega
      · omega
    have jj := j2 h8
    have e := f13 w
    refine ⟨h8, ?_, by omega⟩
    have := jj.2.2.2 (by omega)
    rw [e.2.1, e.1]
    exact this
  have k4 : q2.2.2.1 = 4 → ¬ t / 2 = S.2.1 1 (qn q2) % 3 ∧ S.2.1 8 (qn q2) = 1 ∧ S.2.1 11 (200 * t + qn q2) = 0 ∧ cV (dropF S j).2.2.2.2 (qn q2) t = 0 ∧ S.2.1 11 (200 * (2 * (S.2.1 1 (qn q2) % 3) + t % 2) + qn q2) = 3 := fun w => by
    have hn := f7 (by omega)
    obtain ⟨j1, j2, j3, j4⟩ := h.2.2.2 (qn q2) hn (by omega)
    have cv : cV S.2.2.2.2 (qn q2) t = cV (dropF S j).2.2.2.2 (qn q2) t + 1 := by
      unfold cV
      rw [hd, hL, cnt_er, if_pos (show pV (qn q2) t q2 = true from decide_eq_true ⟨w, (f6 (by omega)).1, hqt⟩)]
    have nh : ¬ t / 2 = S.2.1 1 (qn q2) % 3 := fun e => by
      have := (j3 t f2 e).1; omega
    have h4 := j4 t f2 nh
    have hF : S.2.1 11 (200 * (2 * (S.2.1 1 (qn q2) % 3) + t % 2) + qn q2) = 3 := by
      by_cases e : S.2.1 11 (200 * (2 * (S.2.1 1 (qn q2) % 3) + t % 2) + qn q2) = 3
      · exact e
      · have := (h4.2.2.2 e).1; omega
    have h8 := (j3 (2 * (S.2.1 1 (qn q2) % 3) + t % 2) (by omega) (by omega)).2 (by omega)
    exact ⟨nh, h8, h4.2.2.1 (by omega), by omega, hF⟩
  have htm : ∀ s n, tmF S.2.1 s n ≤ b + 1 + 256 := fun s n => tm_le hbd
  refine ⟨?_, ?_, ?_⟩
  · unfold takeF
    by_cases e1 : q2.2.2.1 = 1
    · rw [if_pos e1]
      have hn := f7 (by omega)
      obtain ⟨p0, p6, pF⟩ := k1 e1
      have ef := f11 e1
      have hI := hkd (qn q2) (by omega) (fun _ => (f6 (by omega)).1)
      rw [if_pos (by omega)] at hI
      have hF3 := P0_3 p0 t f2
      have hP := INV_prp (S := dropF S j) f2 hn hF3 (htm t (qn q2)) (INV_b (b1 := b + 1) (by omega) hI)
      unfold prepF
      rw [if_neg (by omega)]
      have hqn : qn (t, f, 2, nI (qn q2), tmF (dropF S j).2.1 t (qn q2), 0, 0) = qn q2 := qn_n (by omega)
      have n11 : (prpF (dropF S j) t (qn q2)).2.1 11 = va_up (S.2.1 11) (200 * t + qn q2) 1 := by
        rw [prp_eq, sN_s, sN_n (by decide), sN_n (by decide)]
        rfl
      have nk : ∀ k, ¬ k = 10 → ¬ k = 11 → ¬ k = 12 → (prpF (dropF S j) t (qn q2)).2.1 k = S.2.1 k := fun k a c d => prpF_N a c d
      refine INV_push (S := prpF (dropF S j) t (qn q2)) (y := qn q2) ?_ ?_ rfl (by omega) (Or.inl rfl) (fun _ => ?_) hP
      · refine ⟨⟨f2, f1, ?_⟩, ⟨?_, ?_⟩, fun _ => ⟨?_, ?_⟩, fun _ => ?_, ⟨htm t (qn q2), Nat.zero_le _, Nat.zero_le _⟩, fun w => ?_, fun w => ⟨?_, ?_, ?_⟩, fun w => ?_⟩
        · show ¬ t = f ∧ (t / 2 = f / 2 ∨ t % 2 = f % 2); omega
        · show 1 ≤ 2; omega
        · show 2 ≤ 6; omega
        · rw [hqn]
        · rw [hqn]; omega
        · rw [hqn]; exact hn
        · exact absurd (show (2 : Nat) = 1 from w) (by decide)
        · rw [hqn, nk 1 (by decide) (by decide) (by decide)]; exact ef.1
        · exact ef.2
        · show 1 ≤ tmF (dropF S j).2.1 t (qn q2); unfold tmF; omega
        · exact absurd (show (2 : Nat) = 3 from w) (by decide)
      · have kk : KI (prpF (dropF S j) t (qn q2)) b := by
          rw [prp_eq]
          refine KI_11 (S := setN (setN (dropF S j) 10 t (tmF (dropF S j).2.1 t (qn q2))) 12 (200 * t + qn q2) (tmF (dropF S j).2.1 t (qn q2))) f2 hn hm.1 (by decide) (by rw [sN_n (by decide), sN_n (by decide)]; exact hF3) ?_
          exact KI_cg (S := dropF S j) rfl (by rw [sN_n (by decide), sN_n (by decide)]) rfl (Nat.le_refl _) hKd
        exact KI_nb f2 f1 (by show t / 2 = f / 2; omega) kk
      · obtain ⟨p1, p2, p3, p4, p5, p7⟩ := p0
        have cnt : ∀ P : aMsg → Bool, (pushF (prpF (dropF S j) t (qn q2)) (t, f, 2, nI (qn q2), tmF (dropF S j).2.1 t (qn q2), 0, 0)).2.2.2.2.countP P = (dropF S j).2.2.2.2.countP P + (if P (t, f, 2, nI (qn q2), tmF (dropF S j).2.1 t (qn q2), 0, 0) = true then 1 else 0) := fun P => by
          show ((dropF S j).2.2.2.2 ++ [_]).countP P = _
          rw [List.countP_append, List.countP_singleton]
        have c13 : ∀ k, ¬ k = 2 → cK (pushF (prpF (dropF S j) t (qn q2)) (t, f, 2, nI (qn q2), tmF (dropF S j).2.1 t (qn q2), 0, 0)).2.2.2.2 k (qn q2) = cK (dropF S j).2.2.2.2 k (qn q2) := fun k hk => by
          unfold cK; rw [cnt, if_neg (fun w => by have : (2 : Nat) = k := (of_decide_eq_true w).1; omega)]; rfl
        have c2 : cK (pushF (prpF (dropF S j) t (qn q2)) (t, f, 2, nI (qn q2), tmF (dropF S j).2.1 t (qn q2), 0, 0)).2.2.2.2 2 (qn q2) = 1 := by
          unfold cK at p3 ⊢; rw [cnt, p3, if_pos (show pK 2 (qn q2) (t, f, 2, nI (qn q2), tmF (dropF S j).2.1 t (qn q2), 0, 0) = true from decide_eq_true ⟨rfl, rfl⟩)]
        have cv : ∀ s, cV (pushF (prpF (dropF S j) t (qn q2)) (t, f, 2, nI (qn q2), tmF (dropF S j).2.1 t (qn q2), 0, 0)).2.2.2.2 (qn q2) s = cV (dropF S j).2.2.2.2 (qn q2) s := fun s => by
          unfold cV; rw [cnt, if_neg (fun w => by have : (2 : Nat) = 4 := (of_decide_eq_true w).1; omega)]; rfl
        have x1 : (pushF (prpF (dropF S j) t (qn q2)) (t, f, 2, nI (qn q2), tmF (dropF S j).2.1 t (qn q2), 0, 0)).2.1 = (prpF (dropF S j) t (qn q2)).2.1 := rfl
        have ht1 : 2 * (S.2.1 1 (qn q2) % 3) + 1 = t := by omega
        unfold JN
        rw [x1, c13 1 (by decide), c13 3 (by decide), c2, nk 8 (by decide) (by decide) (by decide), nk 6 (by decide) (by decide) (by decide), nk 1 (by decide) (by decide) (by decide), n11, ht1, vu_s]
        refine ⟨fun _ => ⟨p6, by omega, p4, rfl⟩, fun w => absurd (show S.2.1 8 (qn q2) = 1 from w) (by rw [show S.2.1 8 (qn q2) = 0 from p1]; decide), fun s hs he => ?_, fun s hs he => ?_⟩
        · rw [cv]
          refine ⟨(p5 s hs he).1, fun w => ?_⟩
          exfalso
          have p52 : S.2.1 11 (200 * s + qn q2) < 2 := (p5 s hs he).2
          unfold va_up at w
          split at w <;> omega
        · rw [cv, vu_n (show ¬ 200 * s + qn q2 = 200 * t + qn q2 from fun w => he (by rw [show s = t by omega]; omega))]
          have p72 := p7 s hs he
          exact ⟨Or.inl p72.2, by omega, fun _ => p72.2, fun _ => p72⟩
    · rw [if_neg e1]
      by_cases e2 : q2.2.2.1 = 2
      · rw [if_pos e2]
        have hn := f7 (by omega)
        obtain ⟨p0, p6, pF⟩ := k2 e2
        have ef := f12 e2
        have hI := hkd (qn q2) (by omega) (fun _ => (f6 (by omega)).1)
        rw [if_pos (by omega)] at hI
        have h7 := hbd 7 (qn q2)
        have hD := INV_dcd (S := dropF S j) (n := qn q2) (t := q2.2.2.2.2.1) (by omega) hn p0 (fun _ => pF) (by show max (S.2.1 7 (qn q2)) _ ≤ _; omega) ef.2.2 hI
        unfold prdF
        rw [if_neg (by show ¬ 1 < S.2.1 6 (qn q2); omega), ef.1]
        refine INV_b ?_ hD
        split <;> omega
      · rw [if_neg e2]
        have hI := hkd 0 (by decide) (fun w => by omega)
        rw [if_neg (by omega)] at hI
        have hI1 := INV_b (b1 := b + 1) (by omega) hI
        by_cases e3 : q2.2.2.1 = 3
        · rw [if_pos e3]
          have hn := f7 (by omega)
          obtain ⟨c1, c2, c3⟩ := k3 e3
          have ef := f13 e3
          refine INV_dec (S := dropF S j) f2 hn c1 (by show t / 2 = S.2.1 1 (qn q2) % 3; omega) (by show ¬ S.2.1 11 (200 * t + qn q2) = 3; omega) (fun w => by omega) (by omega) ef.2.2 hI1
        · rw [if_neg e3]
          by_cases e4 : q2.2.2.1 = 4
          · rw [if_pos e4]
            have hn := f7 (by omega)
            obtain ⟨c1, c2, c3, c4, c5⟩ := k4 e4
            exact INV_3 (S := dropF S j) f2 hn c2 c1 (by show ¬ S.2.1 11 (200 * t + qn q2) = 3; omega) c4 c5 hI1
          · rw [if_neg e4]
            by_cases e5 : q2.2.2.1 = 5
            · rw [if_pos e5]
              exact INV_n (by decide) (by have := (f6 (by omega)).2; omega) hI1
            · rw [if_neg e5]
              unfold hearF
              exact INV_n (by decide) (by omega) (INV_n (by decide) (by omega) (INV_n (by decide) (by omega) hI1))
  · refine ⟨⟨f4, f5⟩, fun w => (f6 w).1, f7, by omega, fun w => ?_, fun w => ?_, fun w => ?_, fun w => ?_⟩
    · have ef := f11 w
      exact ⟨⟨ef.2, by omega⟩, P0_3 (k1 w).1 t f2, by show tmF S.2.1 t (qn q2) < 1000000; have := htm t (qn q2); omega, capn t f f2 f1 (by omega)⟩
    · have ef := f12 w
      obtain ⟨p0, p6, pF⟩ := k2 w
      have h16 := h.1.2.2.2.2.2.2.2.1 (qn q2) (f7 (by omega))
      exact ⟨h16, ef.1, by show ¬ 1 < S.2.1 6 (qn q2); omega, h.1.2.2.1 (qn q2), P0_3 p0, cap t f2, capn t (t + 1) f2 (by omega) (by omega)⟩
    · exact ⟨by show ¬ S.2.1 11 (200 * t + qn q2) = 3; have := (k3 w).2.1; omega, cap t f2⟩
    · show ¬ S.2.1 11 (200 * t + qn q2) = 3
      have := (k4 w).2.2.1; omega
  · refine ⟨⟨f4, f5⟩, fun w => (f6 w).1, fun w => by have := f7 w; omega, by omega, fun w => ?_, fun w => ?_⟩
    · have h16 := h.1.2.2.2.2.2.2.2.1 (qn q2) (f7 (by omega))
      have ef := f11 w
      have := (k1 w).2.1
      exact ⟨by omega, by have := htm t (qn q2); omega, by omega, h16⟩
    · have h16 := h.1.2.2.2.2.2.2.2.1 (qn q2) (f7 (by omega))
      have ef := f12 w
      have := (k2 w).2.1
      exact ⟨by omega, by omega, h16⟩
end INV4
