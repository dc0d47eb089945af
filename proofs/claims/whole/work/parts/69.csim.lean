/-! the class's state by the reference's -/
def clF (b : Nat) (f : Nat → Nat) : Nat → Nat → Nat := fun i p => if p < b then f (b * i + p) else 0
theorem cl_up {b i p v : Nat} {f : Nat → Nat} (hp : p < b) : va_up (clF b f) i (va_up (clF b f i) p v) = clF b (va_up f (b * i + p) v) := by
  funext j q
  unfold va_up clF
  simp only []
  by_cases h1 : j = i
  · subst h1
    rw [if_pos rfl]
    by_cases h2 : q = p
    · subst h2
      rw [if_pos rfl, if_pos hp, if_pos rfl]
    · rw [if_neg h2, if_neg (show ¬ b * j + q = b * j + p by omega)]
  · rw [if_neg h1]
    by_cases h2 : q < b
    · rw [if_pos h2, if_pos h2, if_neg]
      intro h3
      apply h1
      have a1 : (b * j + q) / b = j := by rw [Nat.mul_add_div (by omega), Nat.div_eq_of_lt h2, Nat.add_zero]
      have a2 : (b * i + p) / b = i := by rw [Nat.mul_add_div (by omega), Nat.div_eq_of_lt hp, Nat.add_zero]
      rw [← a1, ← a2, h3]
    · rw [if_neg h2, if_neg h2]
theorem cl_at {b i p : Nat} {f : Nat → Nat} (hp : p < b) : clF b f i p = f (b * i + p) := if_pos hp
theorem u2_s {β : Type} {N : Nat → Nat → β} {k e : Nat} {v : β} : up2 N k e v k = va_up (N k) e v := by
  funext j
  unfold up2 va_up
  by_cases h : j = e
  · rw [if_pos h, if_pos ⟨rfl, h⟩]
  · rw [if_neg h, if_neg (fun q => h q.2)]
theorem u2_n {β : Type} {N : Nat → Nat → β} {k j e : Nat} {v : β} (h : ¬ j = k) : up2 N k e v j = N j := by
  funext i
  exact if_neg (fun q => h q.1)
def SS (c : Nat) (X : aX) (S : aSt) (T : Nat → Nat) (K : Nat → List Nat) : Prop :=
  x_cnt X = S.1 ∧ x_ck X = S.2.1 10 ∧ x_kn X = clF 3 (S.2.1 13) ∧ x_hd X = clF 3 (S.2.1 14) ∧ x_sg X = clF 200 (S.2.1 11) ∧
  (∀ s n, s < 6 → n < 200 → (S.2.1 11 (200 * s + n) = 1 ∨ S.2.1 11 (200 * s + n) = 2) → x_tm X s n = S.2.1 12 (200 * s + n)) ∧ (∀ s e, x_tm X s e < 1000000) ∧
  (∀ s, s < 6 → x_kc X s = (K s).length ∧ (∀ i, i < (K s).length → x_kp X s i = some (T ((K s).getD i 0))) ∧ (K s).Pairwise (fun a b => nw7 S.2.1 a b = true) ∧ ∀ n, n ∈ K s ↔ n < S.1 ∧ S.2.1 11 (200 * s + n) = 3) ∧
  (∀ n, n < S.1 → x_ta X n = some (T n) ∧ TrN (yH X) c S.2.1 S.2.2.1 T n)
def SC (X : aX) (S : aSt) (T : Nat → Nat) : Prop :=
  x_dg X = S.2.1 15 ∧ x_lt X = S.2.1 16 ∧ x_lr X = S.2.2.1 21 ∧ x_sn X = clF 3 (S.2.1 17) ∧ x_ow X = (fun i k => (if i < 6 ∧ k < 8 then S.2.2.2.1 (8 * i + k) else none).map T) ∧ x_hs X = (fun i k => S.2.1 19 i / 2 ^ k % 2) ∧ x_iv X = (fun i k => if wF (S.2.1 19 i) k then S.2.2.1 20 (8 * i + k) else nI 0)
section SIM
variable {c : Nat} {X X1 : aX} {S : aSt} {T : Nat → Nat} {K : Nat → List Nat}
/-- cells of transactions are kept where cells but messages are -/
theorem Tr_kp {Y Y1 : Nat → Option aE} {t n pl cl lt tm td : Nat} {s f : Nat → Nat} {v : Nat → Int32} (hY : ∀ b e, Y b = some e → (∀ fs, ¬ e = .inr (3, fs)) → Y1 b = some e) (hT : Tr (0, 0, Y) t n pl cl lt tm td s f v) : Tr (0, 0, Y1) t n pl cl lt tm td s f v := by
  obtain ⟨h1, h2, ⟨h3, h4, h5, h6⟩, h7⟩ := hT
  exact ⟨hY _ _ h1 (fun fs q => by cases q), hY _ _ h2 (fun fs q => by cases q), ⟨hY _ _ h3 (fun fs q => by cases q), hY _ _ h4 (fun fs q => by cases q), hY _ _ h5 (fun fs q => by cases q), h6⟩, h7⟩
theorem SS_lk (hx : Xlk X X1) (h : SS c X S T K) : SS c X1 S T K := by
  obtain ⟨lf, ll, lc, Y, rfl, hY, hM⟩ := hx
  obtain ⟨a1, a2, a3, a4, a5, a6, a7, a8, a9⟩ := h
  exact ⟨a1, a2, a3, a4, a5, a6, a7, a8, fun n hn => ⟨(a9 n hn).1, Tr_kp hY (a9 n hn).2⟩⟩
theorem SC_lk (hx : Xlk X X1) (h : SC X S T) : SC X1 S T := by
  obtain ⟨lf, ll, lc, Y, rfl, hY, hM⟩ := hx
  exact h
/-- the order of versions: total and transitive -/
theorem nw7_tot {N : Nat → Nat → Nat} {a b : Nat} (h : ¬ a = b) (h2 : ¬ nw7 N a b = true) : nw7 N b a = true := by
  unfold nw7 tnB at *
  by_cases h3 : N 7 a = N 7 b
  · rw [if_pos h3] at h2
    rw [if_pos h3.symm]
    by_cases h4 : plT N a = plT N b
    · rw [if_pos h4] at h2
      rw [if_pos h4.symm]
      simp only [decide_eq_true_eq] at *
      omega
    · rw [if_neg h4] at h2
      rw [if_neg (fun q => h4 q.symm)]
      simp only [decide_eq_true_eq] at *
      omega
  · rw [if_neg h3] at h2
    rw [if_neg (fun q => h3 q.symm)]
    simp only [decide_eq_true_eq] at *
    omega
theorem nw7_tr {N : Nat → Nat → Nat} {a b e : Nat} (h : nw7 N a b = true) (h2 : nw7 N b e = true) : nw7 N a e = true := by
  have key : ∀ a b, nw7 N a b = true ↔ (N 7 b < N 7 a ∨ (N 7 a = N 7 b ∧ (plT N b < plT N a ∨ (plT N a = plT N b ∧ b < a)))) := by
    intro a b
    unfold nw7 tnB
    by_cases h3 : N 7 a = N 7 b
    · rw [if_pos h3]
      by_cases h4 : plT N a = plT N b
      · rw [if_pos h4, decide_eq_true_eq]
        omega
      · rw [if_neg h4, decide_eq_true_eq]
        omega
    · rw [if_neg h3, decide_eq_true_eq]
      omega
  rw [key] at *
  omega
theorem nw7_ir {N : Nat → Nat → Nat} {a : Nat} : ¬ nw7 N a a = true := by
  unfold nw7 tnB
  rw [if_pos rfl, if_pos rfl]
  simp
theorem ip_all {p : Nat → Bool} : ∀ i m, ipF p i ≤ m → m < i → p m = true := by
  intro i
  induction i with
  | zero => intro m _ h; omega
  | succ i ih =>
    intro m h1 h2
    rw [ipF] at h1
    by_cases h3 : p i = true
    · rw [if_pos h3] at h1
      by_cases h4 : m = i
      · subst h4; exact h3
      · exact ih m h1 (by omega)
    · rw [if_neg h3] at h1
      omega
theorem ip_no {p : Nat → Bool} : ∀ i, 0 < ipF p i → ¬ p (ipF p i - 1) = true := by
  intro i
  induction i with
  | zero => intro h; exact absurd h (by rw [ipF]; omega)
  | succ i ih =>
    intro h
    rw [ipF] at h ⊢
    by_cases h3 : p i = true
    · rw [if_pos h3] at h ⊢
      exact ih h
    · rw [if_neg h3]
      exact h3
def insK (N : Nat → Nat → Nat) (Ks : List Nat) (n : Nat) : List Nat := Ks.take (ipF (fun j => nw7 N n (Ks.getD j 0)) Ks.length) ++ n :: Ks.drop (ipF (fun j => nw7 N n (Ks.getD j 0)) Ks.length)
theorem insK_mem {N : Nat → Nat → Nat} {Ks : List Nat} {n m : Nat} : m ∈ insK N Ks n ↔ m = n ∨ m ∈ Ks := by
  unfold insK
  generalize ipF (fun j => nw7 N n (Ks.getD j 0)) Ks.length = j
  rw [List.mem_append, List.mem_cons]
  constructor
  · rintro (h | h | h)
    · exact Or.inr (List.mem_of_mem_take h)
    · exact Or.inl h
    · exact Or.inr (List.mem_of_mem_drop h)
  · rintro (h | h)
    · exact Or.inr (Or.inl h)
    · rw [← List.take_append_drop j Ks] at h
      rcases List.mem_append.mp h with h | h
      · exact Or.inl h
      · exact Or.inr (Or.inr h)
theorem insK_len {N : Nat → Nat → Nat} {Ks : List Nat} {n : Nat} : (insK N Ks n).length = Ks.length + 1 := by
  unfold insK
  have := ipF_le (p := fun j => nw7 N n (Ks.getD j 0)) Ks.length
  rw [List.length_append, List.length_cons, List.length_take, List.length_drop]
  omega
theorem insK_pw {N : Nat → Nat → Nat} {Ks : List Nat} {n : Nat} (hn : ¬ n ∈ Ks) (hK : Ks.Pairwise (fun a b => nw7 N a b = true)) : (insK N Ks n).Pairwise (fun a b => nw7 N a b = true) := by
  unfold insK
  have h1 := ip_all (p := fun j => nw7 N n (Ks.getD j 0)) Ks.length
  have h2 := ip_no (p := fun j => nw7 N n (Ks.getD j 0)) Ks.length
  have h3 := ipF_le (p := fun j => nw7 N n (Ks.getD j 0)) Ks.length
  generalize ipF (fun j => nw7 N n (Ks.getD j 0)) Ks.length = j at *
  have hK2 := hK
  rw [← List.take_append_drop j Ks] at hK2
  obtain ⟨k1, k2, k3⟩ := List.pairwise_append.mp hK2
  have hd : ∀ b, b ∈ Ks.drop j → nw7 N n b = true := by
    intro b hb
    obtain ⟨i, hi, rfl⟩ := List.mem_iff_getElem.mp hb
    rw [List.getElem_drop]
    rw [List.length_drop] at hi
    have := h1 (j + i) (by omega) (by omega)
    simp only [List.getD_eq_getElem?_getD, List.getElem?_eq_getElem (show j + i < Ks.length by omega), Option.getD_some] at this
    exact this
  have ht : ∀ a, a ∈ Ks.take j → nw7 N a n = true := by
    intro a ha
    obtain ⟨i, hi, rfl⟩ := List.mem_iff_getElem.mp ha
    rw [List.length_take] at hi
    rw [List.getElem_take]
    have hz := h2 (by omega)
    simp only [List.getD_eq_getElem?_getD, List.getElem?_eq_getElem (show j - 1 < Ks.length by omega), Option.getD_some] at hz
    have hne : ¬ n = Ks[j - 1] := fun q => hn (q ▸ List.getElem_mem _)
    have hl := nw7_tot hne hz
    by_cases hij : i = j - 1
    · subst hij; exact hl
    · exact nw7_tr ((List.pairwise_iff_getElem.mp hK) i (j - 1) (by omega) (by omega) (by omega)) hl
  refine List.pairwise_append.mpr ⟨k1, List.pairwise_cons.mpr ⟨hd, k2⟩, fun a ha b hb => ?_⟩
  rcases List.mem_cons.mp hb with hb | hb
  · rw [hb]; exact ht a ha
  · exact k3 a ha b hb
theorem insK_at {N : Nat → Nat → Nat} {Ks : List Nat} {n i : Nat} {B : Nat → Option Nat} (hB : ∀ i, i < Ks.length → B i = some (T (Ks.getD i 0))) (hi : i < Ks.length + 1) : va_up (mvF B Ks.length (ipF (fun j => nw7 N n (Ks.getD j 0)) Ks.length)) (ipF (fun j => nw7 N n (Ks.getD j 0)) Ks.length) (some (T n)) i = some (T ((insK N Ks n).getD i 0)) := by
  unfold insK
  have h3 := ipF_le (p := fun j => nw7 N n (Ks.getD j 0)) Ks.length
  generalize ipF (fun j => nw7 N n (Ks.getD j 0)) Ks.length = j at *
  have hl : (Ks.take j).length = j := by rw [List.length_take]; omega
  unfold va_up mvF
  by_cases h1 : i = j
  · subst h1
    rw [if_pos rfl, List.getD_eq_getElem?_getD, List.getElem?_append_right (by omega), hl, Nat.sub_self]
    rfl
  · rw [if_neg h1]
    by_cases h2 : i < j
    · rw [if_neg (by omega), hB i (by omega), List.getD_eq_getElem?_getD, List.getD_eq_getElem?_getD, List.getElem?_append_left (by omega), List.getElem?_take_of_lt h2]
    · rw [if_pos ⟨by omega, by omega⟩, hB (i - 1) (by omega), List.getD_eq_getElem?_getD, List.getD_eq_getElem?_getD, List.getElem?_append_right (by omega), hl]
      obtain ⟨m, hm⟩ : ∃ m, i - j = m + 1 := ⟨i - j - 1, by omega⟩
      rw [hm, List.getElem?_cons_succ, List.getElem?_drop, show j + m = i - 1 by omega]
end SIM
