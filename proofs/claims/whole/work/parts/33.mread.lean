/-! the model's readers -/
def b32 (P : Prop) [Decidable P] : Int32 := if P then nI 1 else nI 0
theorem b32_01 {P : Prop} [Decidable P] : b32 P = 0 ∨ b32 P = 1 := by
  unfold b32
  split
  · exact Or.inr rfl
  · exact Or.inl rfl
abbrev wF (w k : Nat) : Prop := w / 2 ^ k % 2 = 1
abbrev plT (N : Nat → Nat → Nat) (n : Nat) : Nat := N 1 n % 3
def stF (N : Nat → Nat → Nat) (n p : Nat) : Nat := if N 8 n = 1 ∧ p = N 1 n % 3 then N 9 n else N 2 (3 * n + p)
abbrev am_BN (N : Nat → Nat → Nat) : Prop := ∀ k e, N k e < 1000000
theorem sh_l : ∀ n, n < 32 → ((nI n &&& 31).toBitVec.smod 32).toNat = n := by decide +kernel
theorem nI_31 : nI 31 = 31 := rfl
theorem nI_ne {a b : Nat} (ha : a < 2 ^ 31) (hb : b < 2 ^ 31) (h : ¬ a = b) : ¬ nI a = nI b := fun q => h ((nI_eq ha hb).mp q)
section MR
variable {d : Nat} {g : Nat → Option aE} {h : aH} {m many wt pa pl : Nat} {N : Nat → Nat → Nat} {V : Nat → Nat → Int32} {O : Nat → Option Nat} {P : Nat → Int32} {Q : Option Value → aH → Prop}
theorem bit_val {w k : Nat} (hw : w < 1000000) (hk : k < 8) : nI w >>> (nI k &&& 31) &&& nI 1 = nI (w / 2 ^ k % 2) := by
  rw [pk_shrN (by omega) _ k (sh_l k (by omega)), pk_andN (k := 1) (Nat.lt_of_le_of_lt (Nat.div_le_self _ _) (by omega)) (m := nI 1) (by decide)]
theorem am_lt {a : Nat} (h1 : a < 1000000) : a < 2 ^ 31 := by omega
theorem nq {a b : Nat} (ha : a < 2 ^ 31) (hb : b < 2 ^ 31) : (nI a = nI b) = (a = b) := propext (nI_eq ha hb)
theorem nle {a b : Nat} (ha : a < 2 ^ 31) (hb : b < 2 ^ 31) : (nI a ≤ nI b) = (a ≤ b) := propext (nI_leI ha hb)
theorem nlt {a b : Nat} (ha : a < 2 ^ 31) (hb : b < 2 ^ 31) : (nI a < nI b) = (a < b) := propext (nI_ltI ha hb)
theorem b32_i {P : Prop} [Decidable P] {F : Option Value → aH → Prop} : (if P then F (some (.int (nI 1))) h else F (some (.int (nI 0))) h) = F (some (.int (b32 P))) h := by
  unfold b32
  by_cases hp : P
  · rw [if_pos hp, if_pos hp]
  · rw [if_neg hp, if_neg hp]
theorem b32_n {P : Prop} [Decidable P] {F : Option Value → aH → Prop} : (if ¬ P then F (some (.int (nI 0))) h else F (some (.int (nI 1))) h) = F (some (.int (b32 P))) h := by
  unfold b32
  by_cases hp : P
  · rw [if_neg (fun q => q hp), if_pos hp]
  · rw [if_pos hp, if_neg hp]
theorem b32_q1 {P : Prop} [Decidable P] : (b32 P = nI 1) = P := by
  unfold b32
  by_cases hp : P
  · simp [hp]
  · simp only [if_neg hp, eq_iff_iff]
    exact ⟨fun q => absurd q (by decide), fun q => absurd q hp⟩
theorem b32_q0 {P : Prop} [Decidable P] : (b32 P = 0) = ¬ P := by
  unfold b32
  by_cases hp : P
  · simp only [if_pos hp, eq_iff_iff]
    exact ⟨fun q => absurd q (by decide), fun q => absurd hp q⟩
  · simp only [if_neg hp, eq_iff_iff]
    exact ⟨fun _ => hp, fun _ => rfl⟩
theorem b32_a {P R : Prop} [Decidable P] [Decidable R] {F : Option Value → aH → Prop} : (if P then F (some (.int (b32 R))) h else F (some (.int (nI 0))) h) = F (some (.int (b32 (P ∧ R)))) h := by
  unfold b32
  by_cases hp : P
  · simp [hp]
  · simp [hp]
theorem b32_m {P : Prop} [Decidable P] {F : Option Value → aH → Prop} : (if P then F (some (.int (nI 0))) h else F (some (.int (nI 1))) h) = F (some (.int (b32 (¬ P)))) h := by
  unfold b32
  by_cases hp : P
  · simp [hp]
  · simp [hp]
theorem b32_t {P : Prop} [Decidable P] (hp : P) : b32 P = nI 1 := if_pos hp
theorem b32_f {P : Prop} [Decidable P] (hp : ¬ P) : b32 P = nI 0 := if_neg hp
theorem nI_z : (0 : Int32) = nI 0 := rfl
theorem c79 {n k : Nat} (hR : MM g h m many wt pa pl N V O P) (hB : am_BN N) (hn : n < 200) (hk : k < 8) : am_R d 79 0 [some (.ref m), some (.int (nI n)), some (.int (nI k))] [] h Q = Q (some (.int (b32 (wF (N 4 n) k)))) h := by
  have h2 : N 4 n / 2 ^ k % 2 < 2 := Nat.mod_lt _ (by decide)
  simp (disch := first | assumption | omega | exact am_isr_ref | exact am_isr_null | exact am_isr_rf | exact am_c1_int | exact am_c1_ref | exact am_c1_null | exact am_c1_rf | exact am_b0 | exact am_b1 | exact RM_obj (by assumption) | (simp only [ne_eq]; done) | exact am_nz2 | exact am_nz3 | exact am_nz6 | exact am_lt (hB _ _) | exact am_lt (stF_lt hB) | exact b32_01) only [e79_0, e79_1, e79_4, e79_5, e79_6, e79_7, e79_8, e79_9, e79_10, e79_11, e79_14, e79_15, e79_18, e79_19, gM_4 hR, rN_4 hR hn, bit_val (hB 4 n) hk, nq, b32_n]
theorem c78n {n : Nat} (hR : MM g h m many wt pa pl N V O P) (hB : am_BN N) (hn : n < 200) : am_R d 78 0 [some (.ref m), some (.int (nI n))] [] h Q = Q (some (.int (nI (plT N n)))) h := by
  have hb := hB 1 n
  simp (disch := first | assumption | omega | exact am_isr_ref | exact am_isr_null | exact am_isr_rf | exact am_c1_int | exact am_c1_ref | exact am_c1_null | exact am_c1_rf | exact am_b0 | exact am_b1 | exact RM_obj (by assumption) | (simp only [ne_eq]; done) | exact am_nz2 | exact am_nz3 | exact am_nz6 | exact am_lt (hB _ _) | exact am_lt (stF_lt hB) | exact b32_01) only [e78_0, e78_1, e78_4, e78_5, e78_6, e78_7, e78_8, gM_1 hR, rN_1 hR hn]
  rw [pk_rem (by omega) (by decide) (by decide)]
theorem stF_lt {n p : Nat} (hB : am_BN N) : stF N n p < 1000000 := by
  unfold stF
  split
  · exact hB _ _
  · exact hB _ _
theorem c80 {n p : Nat} (hR : MM g h m many wt pa pl N V O P) (hB : am_BN N) (hn : n < 200) (hp : p < 3) (h8 : N 8 n < 2) : am_R (d + 1) 80 0 [some (.ref m), some (.int (nI n)), some (.int (nI p))] [] h Q = Q (some (.int (nI (stF N n p)))) h := by
  have hb := hB 8 n
  simp (disch := first | assumption | omega | exact am_isr_ref | exact am_isr_null | exact am_isr_rf | exact am_c1_int | exact am_c1_ref | exact am_c1_null | exact am_c1_rf | exact am_b0 | exact am_b1 | exact RM_obj (by assumption) | (simp only [ne_eq]; done) | exact am_nz2 | exact am_nz3 | exact am_nz6 | exact am_lt (hB _ _) | exact am_lt (stF_lt hB) | exact b32_01) only [e80_0, e80_1, e80_4, e80_5, e80_6, e80_9, e80_10, e80_11, e80_12, e80_15, e80_18, e80_19, e80_22, e80_23, e80_24, e80_27, e80_28, e80_31, e80_32, e80_33, e80_34, e80_35, e80_36, e80_37, gM_8 hR, rN_8 hR hn, gM_9 hR, rN_9 hR hn, gM_2 hR, c78n hR hB hn, Option.toList_some, List.cons_append, List.nil_append, pk_mul, nI_add, rN_2 hR (show 3 * n + p < 600 by omega)]
  unfold stF
  by_cases ht : N 8 n = 1
  · rw [ht, if_neg (by decide)]
    by_cases hpp : p = plT N n
    · rw [if_neg (by rw [hpp]; simp), if_pos ⟨rfl, hpp⟩]
    · rw [if_pos (nI_ne (by omega) (by unfold plT; omega) hpp), if_neg (fun q => hpp q.2)]
  · rw [show N 8 n = 0 by omega, if_pos (by decide), if_neg (fun q => by cases q.1)]
abbrev snF (N : Nat → Nat → Nat) (n c : Nat) : Prop := stF N n 0 ≤ N 17 (3 * c + 0) ∧ stF N n 1 ≤ N 17 (3 * c + 1) ∧ stF N n 2 ≤ N 17 (3 * c + 2)
theorem c81 {n c : Nat} (hR : MM g h m many wt pa pl N V O P) (hB : am_BN N) (hn : n < 200) (hc : c < 6) (h8 : N 8 n < 2) : am_R (d + 2) 81 0 [some (.ref m), some (.int (nI n)), some (.int (nI c)), none] [] h Q = Q (some (.int (b32 (snF N n c)))) h := by
  have b0 := stF_lt (n := n) (p := 0) hB
  have b1 := stF_lt (n := n) (p := 1) hB
  have b2 := stF_lt (n := n) (p := 2) hB
  have q0 := hB 17 (3 * c + 0)
  have q1 := hB 17 (3 * c + 1)
  have q2 := hB 17 (3 * c + 2)
  simp (disch := first | assumption | omega | exact am_isr_ref | exact am_isr_null | exact am_isr_rf | exact am_c1_int | exact am_c1_ref | exact am_c1_null | exact am_c1_rf | exact am_b0 | exact am_b1 | exact RM_obj (by assumption) | (simp only [ne_eq]; done) | exact am_nz2 | exact am_nz3 | exact am_nz6 | exact am_lt (hB _ _) | exact am_lt (stF_lt hB) | exact b32_01) only [e81_0, e81_1, e81_2, e81_3, e81_4, e81_7, e81_8, e81_9, e81_10, e81_13, e81_14, e81_17, e81_18, e81_19, e81_20, e81_21, e81_22, e81_23, e81_26, e81_27, e81_28, e81_31, e81_34, e81_35, gM_17 hR, c80 hR hB hn, Option.toList_some, List.cons_append, List.nil_append, pk_mul, nI_add, rN_17 hR, nle, if_true, if_false, Nat.reduceAdd, Nat.reduceLeDiff, b32_i, b32_a]
def nwB (N : Nat → Nat → Nat) (a b : Nat) : Bool := if N 9 a = N 9 b then (if plT N a = plT N b then decide (b < a) else decide (plT N b < plT N a)) else decide (N 9 b < N 9 a)
theorem c82 {a b : Nat} (hR : MM g h m many wt pa pl N V O P) (hB : am_BN N) (ha : a < 200) (hb : b < 200) : am_R (d + 1) 82 0 [some (.ref m), some (.int (nI a)), some (.int (nI b))] [] h Q = Q (some (.int (b32 (nwB N a b = true)))) h := by
  have p0 : plT N a < 3 := Nat.mod_lt _ (by decide)
  have p1 : plT N b < 3 := Nat.mod_lt _ (by decide)
  simp (disch := first | assumption | omega | exact am_isr_ref | exact am_isr_null | exact am_isr_rf | exact am_c1_int | exact am_c1_ref | exact am_c1_null | exact am_c1_rf | exact am_b0 | exact am_b1 | exact RM_obj (by assumption) | (simp only [ne_eq]; done) | exact am_nz2 | exact am_nz3 | exact am_nz6 | exact am_lt (hB _ _) | exact am_lt (stF_lt hB) | exact b32_01) only [e82_0, e82_1, e82_4, e82_5, e82_6, e82_7, e82_10, e82_11, e82_12, e82_15, e82_16, e82_19, e82_20, e82_21, e82_22, e82_25, e82_26, e82_27, e82_30, e82_31, e82_34, e82_35, e82_36, e82_37, e82_38, e82_41, e82_42, e82_43, e82_46, e82_49, e82_50, e82_51, e82_54, e82_55, e82_56, e82_59, e82_62, e82_63, e82_66, e82_67, e82_68, e82_69, e82_70, e82_73, e82_74, e82_77, e82_78, gM_9 hR, rN_9 hR, c78n hR hB, Option.toList_some, List.cons_append, List.nil_append, nq, nle, b32_m]
  unfold nwB
  by_cases h1 : N 9 a = N 9 b
  · by_cases h2 : plT N a = plT N b
    · simp only [if_pos h1, if_pos h2, decide_eq_true_eq, Nat.not_le]
    · simp only [if_pos h1, if_neg h2, decide_eq_true_eq, Nat.not_le]
  · simp only [if_neg h1, decide_eq_true_eq, Nat.not_le]
abbrev hvF (N : Nat → Nat → Nat) (s n k : Nat) : Prop := N 11 (200 * s + n) = 3 ∧ wF (N 4 n) k
theorem c83 {s n k : Nat} (hR : MM g h m many wt pa pl N V O P) (hB : am_BN N) (hs : s < 6) (hn : n < 200) (hk : k < 8) : am_R (d + 1) 83 0 [some (.ref m), some (.int (nI s)), some (.int (nI n)), some (.int (nI k))] [] h Q = Q (some (.int (b32 (hvF N s n k)))) h := by
  have he : 200 * s + n < 1200 := by omega
  simp (disch := first | assumption | omega | exact am_isr_ref | exact am_isr_null | exact am_isr_rf | exact am_c1_int | exact am_c1_ref | exact am_c1_null | exact am_c1_rf | exact am_b0 | exact am_b1 | exact RM_obj (by assumption) | (simp only [ne_eq]; done) | exact am_nz2 | exact am_nz3 | exact am_nz6 | exact am_lt (hB _ _) | exact am_lt (stF_lt hB) | exact b32_01) only [e83_0, e83_1, e83_4, e83_7, e83_8, e83_9, e83_10, e83_11, e83_12, e83_13, e83_16, e83_17, e83_18, e83_19, e83_22, e83_25, e83_26, e83_29, e83_30, gM_11 hR, rN_11 hR he, c79 hR hB hn hk, Option.toList_some, List.cons_append, List.nil_append, nq, nI_add, pk_mul, b32_q0, b32_n]
  by_cases h1 : N 11 (200 * s + n) = 3
  · rw [if_neg (fun q => q h1)]
    congr 3
    unfold b32
    by_cases h2 : wF (N 4 n) k
    · rw [if_pos h2, if_pos ⟨h1, h2⟩]
    · rw [if_neg h2, if_neg (fun q => h2 q.2)]
  · rw [if_pos h1, b32_f (fun q => h1 q.1)]
theorem c76 {s k : Nat} (hs : s < 6) (hk : k < 8) : am_R d 76 0 [some (.int (nI s)), some (.int (nI k))] [] h Q = Q (some (.int (b32 (k % 2 = s % 2)))) h := by
  simp (disch := first | assumption | omega | exact am_isr_ref | exact am_isr_null | exact am_isr_rf | exact am_c1_int | exact am_c1_ref | exact am_c1_null | exact am_c1_rf | exact am_b0 | exact am_b1 | exact RM_obj (by assumption) | (simp only [ne_eq]; done) | exact am_nz2 | exact am_nz3 | exact am_nz6 | exact am_lt (hB _ _) | exact am_lt (stF_lt hB) | exact b32_01) only [e76_0, e76_1, e76_2, e76_3, e76_4, e76_5, e76_6, e76_9, e76_10, e76_13, e76_14, pk_rem (a := k) (d := 2) (by omega) (by decide) (by decide), pk_rem (a := s) (d := 2) (by omega) (by decide) (by decide), nq, b32_n]
def exB (f : Nat → Bool) : Nat → Nat → Bool
  | 0, _ => false
  | t + 1, k => f k || exB f t (k + 1)
theorem exB_iff {f : Nat → Bool} : ∀ t k, exB f t k = true ↔ ∃ j, k ≤ j ∧ j < k + t ∧ f j = true := by
  intro t
  induction t with
  | zero => intro k; exact ⟨(fun q => by cases q), (fun ⟨j, h1, h2, _⟩ => by omega)⟩
  | succ t ih =>
    intro k
    rw [exB, Bool.or_eq_true, ih]
    constructor
    · rintro (q | ⟨j, h1, h2, h3⟩)
      · exact ⟨k, by omega, by omega, q⟩
      · exact ⟨j, by omega, by omega, h3⟩
    · rintro ⟨j, h1, h2, h3⟩
      by_cases hj : j = k
      · subst hj; exact Or.inl h3
      · exact Or.inr ⟨j, by omega, by omega, h3⟩
def coB (N : Nat → Nat → Nat) (n s : Nat) : Nat → Bool := fun k => decide (wF (N 4 n) k ∧ k % 2 = s % 2)
theorem l84 {n s : Nat} (hR : MM g h m many wt pa pl N V O P) (hB : am_BN N) (hs : s < 6) (hn : n < 200) : ∀ t k, k + t = 8 → am_R (d + 1) 84 2 [some (.ref m), some (.int (nI n)), some (.int (nI s)), some (.int (nI k))] [] h Q = Q (some (.int (b32 (exB (coB N n s) t k = true)))) h := by
  intro t
  induction t with
  | zero =>
    intro k hk
    obtain rfl : k = 8 := by omega
    simp (disch := first | assumption | omega | exact am_isr_ref | exact am_isr_null | exact am_isr_rf | exact am_c1_int | exact am_c1_ref | exact am_c1_null | exact am_c1_rf | exact am_b0 | exact am_b1 | exact RM_obj (by assumption) | (simp only [ne_eq]; done) | exact am_nz2 | exact am_nz3 | exact am_nz6 | exact am_lt (hB _ _) | exact am_lt (stF_lt hB) | exact b32_01) only [e84_0, e84_1, e84_2, e84_3, e84_5, e84_8, e84_9, e84_10, e84_11, e84_14, e84_17, e84_18, e84_19, e84_22, e84_25, e84_26, e84_27, e84_30, e84_33, e84_34, nle, if_true, Nat.le_refl]
    rw [b32_f (fun q => by cases q)]
  | succ t ih =>
    intro k hk
    have hk8 : k < 8 := by omega
    rw [e84_2]
    simp (disch := first | assumption | omega | exact am_isr_ref | exact am_isr_null | exact am_isr_rf | exact am_c1_int | exact am_c1_ref | exact am_c1_null | exact am_c1_rf | exact am_b0 | exact am_b1 | exact RM_obj (by assumption) | (simp only [ne_eq]; done) | exact am_nz2 | exact am_nz3 | exact am_nz6 | exact am_lt (hB _ _) | exact am_lt (stF_lt hB) | exact b32_01) only [e84_0, e84_1, e84_3, e84_5, e84_8, e84_9, e84_10, e84_11, e84_14, e84_17, e84_18, e84_19, e84_22, e84_25, e84_26, e84_27, e84_30, e84_33, e84_34, nle, if_neg (show ¬ 8 ≤ k by omega), c79 hR hB hn hk8, c76 hs hk8, Option.toList_some, List.cons_append, List.nil_append, b32_q0, nI_add, ih (k + 1) (by omega)]
    rw [exB]
    by_cases h1 : wF (N 4 n) k
    · by_cases h2 : k % 2 = s % 2
      · have hb : coB N n s k = true := decide_eq_true ⟨h1, h2⟩
        rw [if_neg (fun q => q h1), if_neg (fun q => q h2), b32_t (by rw [hb]; rfl)]
      · have hb : coB N n s k = false := decide_eq_false (fun q => h2 q.2)
        rw [if_neg (fun q => q h1), if_pos h2]
        simp only [hb, Bool.false_or]
    · have hb : coB N n s k = false := decide_eq_false (fun q => h1 q.1)
      rw [if_pos h1]
      simp only [hb, Bool.false_or]
def coF (N : Nat → Nat → Nat) (n s : Nat) : Bool := exB (coB N n s) 8 0
theorem c84 {n s : Nat} (hR : MM g h m many wt pa pl N V O P) (hB : am_BN N) (hs : s < 6) (hn : n < 200) : am_R (d + 1) 84 0 [some (.ref m), some (.int (nI n)), some (.int (nI s)), none] [] h Q = Q (some (.int (b32 (coF N n s = true)))) h := by
  rw [e84_0, e84_1]
  exact l84 hR hB hs hn 8 0 rfl
theorem c93 {s p : Nat} (hR : MM g h m many wt pa pl N V O P) (hB : am_BN N) (hs : s < 6) (hp : p < 3) : am_R d 93 0 [some (.ref m), some (.int (nI s)), some (.int (nI p))] [] h Q = Q (some (.int (nI (min (N 13 (3 * s + p)) (N 14 (3 * s + p)))))) h := by
  have he : 3 * s + p < 18 := by omega
  simp (disch := first | assumption | omega | exact am_isr_ref | exact am_isr_null | exact am_isr_rf | exact am_c1_int | exact am_c1_ref | exact am_c1_null | exact am_c1_rf | exact am_b0 | exact am_b1 | exact RM_obj (by assumption) | (simp only [ne_eq]; done) | exact am_nz2 | exact am_nz3 | exact am_nz6 | exact am_lt (hB _ _) | exact am_lt (stF_lt hB) | exact b32_01) only [e93_0, e93_1, e93_4, e93_5, e93_6, e93_7, e93_8, e93_9, e93_10, e93_11, e93_14, e93_15, e93_16, e93_17, e93_18, e93_19, e93_20, e93_23, gM_13 hR, gM_14 hR, rN_13 hR he, rN_14 hR he, nI_add, pk_mul, nlt]
  congr 3
  by_cases h1 : N 14 (3 * s + p) < N 13 (3 * s + p)
  · rw [if_pos h1, Nat.min_eq_right (by omega)]
  · rw [if_neg h1, Nat.min_eq_left (by omega)]
def cntF (f : Nat → Bool) : Nat → Nat
  | 0 => 0
  | n + 1 => cntF f n + (if f n = true then 1 else 0)
theorem cntF_le (f : Nat → Bool) : ∀ n, cntF f n ≤ n := by
  intro n
  induction n with
  | zero => exact Nat.le_refl _
  | succ n ih => rw [cntF]; split <;> omega
theorem l104 {s w : Nat} (hR : MM g h m many wt pa pl N V O P) (hB : am_BN N) (hs : s < 6) (hw : w < 4) (hm : many ≤ 200) : ∀ t k, k + t = many → am_R d 104 5 [some (.ref m), some (.int (nI s)), some (.int (nI w)), some (.int (nI (cntF (fun j => decide (N 11 (200 * s + j) = w)) k))), some (.int (nI k))] [] h Q = Q (some (.int (nI (cntF (fun j => decide (N 11 (200 * s + j) = w)) many)))) h := by
  intro t
  induction t with
  | zero =>
    intro k hk
    obtain rfl : k = many := by omega
    simp (disch := first | assumption | omega | exact am_isr_ref | exact am_isr_null | exact am_isr_rf | exact am_c1_int | exact am_c1_ref | exact am_c1_null | exact am_c1_rf | exact am_b0 | exact am_b1 | exact RM_obj (by assumption) | (simp only [ne_eq]; done) | exact am_nz2 | exact am_nz3 | exact am_nz6 | exact am_lt (hB _ _) | exact am_lt (stF_lt hB) | exact b32_01) only [e104_0, e104_1, e104_2, e104_3, e104_5, e104_7, e104_8, e104_11, e104_14, e104_15, e104_16, e104_19, e104_22, e104_23, e104_24, e104_26, e104_27, e104_28, e104_29, e104_32, e104_33, e104_36, e104_37, e104_38, e104_39, e104_42, e104_45, e104_46, gM_0 hR, nle, if_true, Nat.le_refl]
  | succ t ih =>
    intro k hk
    have he : 200 * s + k < 1200 := by omega
    have ih := ih (k + 1) (by omega)
    rw [cntF] at ih
    rw [e104_5]
    simp (disch := first | assumption | omega | exact am_isr_ref | exact am_isr_null | exact am_isr_rf | exact am_c1_int | exact am_c1_ref | exact am_c1_null | exact am_c1_rf | exact am_b0 | exact am_b1 | exact RM_obj (by assumption) | (simp only [ne_eq]; done) | exact am_nz2 | exact am_nz3 | exact am_nz6 | exact am_lt (hB _ _) | exact am_lt (stF_lt hB) | exact b32_01) only [e104_0, e104_1, e104_2, e104_3, e104_7, e104_8, e104_11, e104_14, e104_15, e104_16, e104_19, e104_22, e104_23, e104_24, e104_26, e104_27, e104_28, e104_29, e104_32, e104_33, e104_36, e104_37, e104_38, e104_39, e104_42, e104_45, e104_46, gM_0 hR, nle, if_neg (show ¬ many ≤ k by omega), gM_11 hR, rN_11 hR he, nI_add, pk_mul, nq]
    by_cases h1 : N 11 (200 * s + k) = w
    · simp only [h1, decide_true, if_true, not_true_eq_false, if_false] at ih ⊢
      exact ih
    · simp only [h1, decide_false, Bool.false_eq_true, if_false, not_false_eq_true, if_true] at ih ⊢
      exact ih
theorem c104 {s w : Nat} (hR : MM g h m many wt pa pl N V O P) (hB : am_BN N) (hs : s < 6) (hw : w < 4) (hm : many ≤ 200) : am_R d 104 0 [some (.ref m), some (.int (nI s)), some (.int (nI w)), none, none] [] h Q = Q (some (.int (nI (cntF (fun j => decide (N 11 (200 * s + j) = w)) many)))) h := by
  rw [e104_0, e104_1, e104_2, e104_3]
  exact l104 hR hB hs hw hm many 0 (by omega)
theorem bit_v2 {w k : Nat} (hw : w < 256) (hk : k < 8) : nI w >>> (nI k &&& 31) &&& nI 1 = nI (if decide (wF w k) = true then 1 else 0) := by
  rw [bit_val (by omega) hk]
  congr 1
  have h2 : w / 2 ^ k % 2 < 2 := Nat.mod_lt _ (by decide)
  simp only [decide_eq_true_eq]
  split
  · assumption
  · rename_i h3; unfold wF at h3; omega
theorem l102 {w : Nat} (hw : w < 256) : ∀ t k, k + t = 8 → am_R d 102 4 [some (.int (nI w)), some (.int (nI (cntF (fun j => decide (wF w j)) k))), some (.int (nI k))] [] h Q = Q (some (.int (nI (cntF (fun j => decide (wF w j)) 8)))) h := by
  intro t
  induction t with
  | zero =>
    intro k hk
    obtain rfl : k = 8 := by omega
    simp (disch := first | assumption | omega | exact am_isr_ref | exact am_isr_null | exact am_isr_rf | exact am_c1_int | exact am_c1_ref | exact am_c1_null | exact am_c1_rf | exact am_b0 | exact am_b1 | exact RM_obj (by assumption) | (simp only [ne_eq]; done) | exact am_nz2 | exact am_nz3 | exact am_nz6 | exact am_lt (hB _ _) | exact am_lt (stF_lt hB) | exact b32_01) only [e102_4, e102_5, e102_7, e102_24, e102_25, nle, if_true, Nat.le_refl]
  | succ t ih =>
    intro k hk
    have ih := ih (k + 1) (by omega)
    rw [cntF] at ih
    rw [e102_4]
    simp (disch := first | assumption | omega | exact am_isr_ref | exact am_isr_null | exact am_isr_rf | exact am_c1_int | exact am_c1_ref | exact am_c1_null | exact am_c1_rf | exact am_b0 | exact am_b1 | exact RM_obj (by assumption) | (simp only [ne_eq]; done) | exact am_nz2 | exact am_nz3 | exact am_nz6 | exact am_lt (hB _ _) | exact am_lt (stF_lt hB) | exact b32_01) only [e102_0, e102_1, e102_2, e102_3, e102_5, e102_7, e102_10, e102_11, e102_12, e102_13, e102_14, e102_15, e102_16, e102_17, e102_18, e102_21, e102_24, e102_25, nle, if_neg (show ¬ 8 ≤ k by omega), bit_v2 hw (show k < 8 by omega), nI_add]
    exact ih
theorem c102 {w : Nat} (hw : w < 256) : am_R d 102 0 [some (.int (nI w)), none, none] [] h Q = Q (some (.int (nI (cntF (fun j => decide (wF w j)) 8)))) h := by
  rw [e102_0, e102_1, e102_2, e102_3]
  exact l102 hw 8 0 rfl
/-- isLink -/
abbrev lkF (f t : Nat) : Prop := ¬ f = t ∧ (f / 2 = t / 2 ∨ f % 2 = t % 2)
theorem c77 {f t : Nat} (hf : f < 6) (ht : t < 6) : am_R (d + 1) 77 0 [some (.int (nI f)), some (.int (nI t))] [] h Q = Q (some (.int (b32 (lkF f t)))) h := by
  simp (disch := first | assumption | omega | exact am_isr_ref | exact am_isr_null | exact am_isr_rf | exact am_c1_int | exact am_c1_ref | exact am_c1_null | exact am_c1_rf | exact am_b0 | exact am_b1 | exact RM_obj (by assumption) | (simp only [ne_eq]; done) | exact am_nz2 | exact am_nz3 | exact am_nz6 | exact am_lt (hB _ _) | exact am_lt (stF_lt hB) | exact b32_01) only [e77_0, e77_1, e77_4, e77_7, e77_8, e77_11, e77_14, e77_15, e77_16, e77_19, e77_20, e77_23, e77_24, e77_27, e77_30, e77_31, e77_32, e77_33, e77_34, e77_35, e77_36, e77_39, e77_40, e77_43, e77_44, c73t hf, c73t ht, c75 hf, c75 ht, Option.toList_some, List.cons_append, List.nil_append, pk_rem (a := f) (d := 2) (by omega) (by decide) (by decide), pk_rem (a := t) (d := 2) (by omega) (by decide) (by decide), nq, nI_z, if_false, Nat.reduceEqDiff]
  by_cases h1 : f = t
  · rw [if_pos h1, b32_f (fun q => q.1 h1)]
  · rw [if_neg h1]
    by_cases h2 : f / 2 = t / 2
    · rw [if_pos h2, b32_t ⟨h1, Or.inl h2⟩]
    · rw [if_neg h2]
      by_cases h3 : f % 2 = t % 2
      · rw [if_neg (fun q => q h3), b32_t ⟨h1, Or.inr h3⟩]
      · rw [if_pos h3, b32_f (fun q => q.2.elim h2 h3)]
theorem c77f {f t : Int32} (hc : (f < 0 ∨ nI 6 ≤ f) ∨ (t < 0 ∨ nI 6 ≤ t)) : am_R (d + 1) 77 0 [some (.int f), some (.int t)] [] h Q = Q (some (.int (nI 0))) h := by
  by_cases h1 : f < 0 ∨ nI 6 ≤ f
  · simp (disch := first | assumption | omega | exact am_isr_ref | exact am_isr_null | exact am_isr_rf | exact am_c1_int | exact am_c1_ref | exact am_c1_null | exact am_c1_rf | exact am_b0 | exact am_b1 | exact RM_obj (by assumption) | (simp only [ne_eq]; done) | exact am_nz2 | exact am_nz3 | exact am_nz6 | exact am_lt (hB _ _) | exact am_lt (stF_lt hB) | exact b32_01) only [e77_0, e77_1, e77_4, e77_7, e77_8, e77_11, e77_14, e77_15, e77_16, e77_19, e77_20, e77_23, e77_24, e77_27, e77_30, e77_31, e77_32, e77_33, e77_34, e77_35, e77_36, e77_39, e77_40, e77_43, e77_44, c73f h1, Option.toList_some, List.cons_append, List.nil_append, nI_z, if_true]
  · have h2 := hc.resolve_left h1
    obtain ⟨j, hj, rfl⟩ : ∃ j, j < 6 ∧ f = nI j := by
      rcases pk_ix f (n := 6) (by decide) with q | q | q
      · exact absurd (Or.inl q) h1
      · exact absurd (Or.inr q) h1
      · exact q
    simp (disch := first | assumption | omega | exact am_isr_ref | exact am_isr_null | exact am_isr_rf | exact am_c1_int | exact am_c1_ref | exact am_c1_null | exact am_c1_rf | exact am_b0 | exact am_b1 | exact RM_obj (by assumption) | (simp only [ne_eq]; done) | exact am_nz2 | exact am_nz3 | exact am_nz6 | exact am_lt (hB _ _) | exact am_lt (stF_lt hB) | exact b32_01) only [e77_0, e77_1, e77_4, e77_7, e77_8, e77_11, e77_14, e77_15, e77_16, e77_19, e77_20, e77_23, e77_24, e77_27, e77_30, e77_31, e77_32, e77_33, e77_34, e77_35, e77_36, e77_39, e77_40, e77_43, e77_44, c73t hj, c73f h2, Option.toList_some, List.cons_append, List.nil_append, nI_z, nq, if_true, if_false, Nat.reduceEqDiff]
/-- least -/
def leF (N : Nat → Nat → Nat) (s w : Nat) : Nat → Option Nat
  | 0 => none
  | n + 1 => if N 11 (200 * s + n) = w then (match leF N s w n with
    | none => some n
    | some b => if N 12 (200 * s + n) < N 12 (200 * s + b) then some n else some b) else leF N s w n
theorem leF_lt {s w : Nat} : ∀ n b, leF N s w n = some b → b < n := by
  intro n
  induction n with
  | zero => intro b q; cases q
  | succ n ih =>
    intro b q
    rw [leF] at q
    split at q
    · split at q
      · cases q; exact Nat.lt_succ_self _
      · rename_i b2 hb
        split at q
        · cases q; exact Nat.lt_succ_self _
        · cases q; exact Nat.lt_succ_of_lt (ih _ hb)
    · exact Nat.lt_succ_of_lt (ih _ q)
theorem l91 {s w : Nat} (hR : MM g h m many wt pa pl N V O P) (hB : am_BN N) (hs : s < 6) (hw : w < 4) (hm : many ≤ 200) : ∀ t k, k + t = many → am_R d 91 5 [some (.ref m), some (.int (nI s)), some (.int (nI w)), some (.int (eO (leF N s w k))), some (.int (nI k))] [] h Q = Q (some (.int (eO (leF N s w many)))) h := by
  intro t
  induction t with
  | zero =>
    intro k hk
    obtain rfl : k = many := by omega
    simp (disch := first | assumption | omega | exact am_isr_ref | exact am_isr_null | exact am_isr_rf | exact am_c1_int | exact am_c1_ref | exact am_c1_null | exact am_c1_rf | exact am_b0 | exact am_b1 | exact RM_obj (by assumption) | (simp only [ne_eq]; done) | exact am_nz2 | exact am_nz3 | exact am_nz6 | exact am_lt (hB _ _) | exact am_lt (stF_lt hB) | exact b32_01) only [e91_0, e91_1, e91_2, e91_3, e91_5, e91_7, e91_8, e91_11, e91_14, e91_15, e91_18, e91_21, e91_22, e91_23, e91_25, e91_26, e91_27, e91_28, e91_31, e91_32, e91_33, e91_36, e91_37, e91_40, e91_43, e91_44, e91_45, e91_47, e91_48, e91_49, e91_50, e91_53, e91_56, e91_57, e91_58, e91_59, e91_60, e91_61, e91_64, e91_66, e91_67, e91_70, e91_73, e91_74, gM_0 hR, nle, if_true, Nat.le_refl]
  | succ t ih =>
    intro k hk
    have he : 200 * s + k < 1200 := by omega
    have ih := ih (k + 1) (by omega)
    rw [leF] at ih
    rw [e91_5]
    cases hb : leF N s w k with
    | none =>
      rw [hb] at ih
      simp (disch := first | assumption | omega | exact am_isr_ref | exact am_isr_null | exact am_isr_rf | exact am_c1_int | exact am_c1_ref | exact am_c1_null | exact am_c1_rf | exact am_b0 | exact am_b1 | exact RM_obj (by assumption) | (simp only [ne_eq]; done) | exact am_nz2 | exact am_nz3 | exact am_nz6 | exact am_lt (hB _ _) | exact am_lt (stF_lt hB) | exact b32_01) only [e91_0, e91_1, e91_2, e91_3, e91_7, e91_8, e91_11, e91_14, e91_15, e91_18, e91_21, e91_22, e91_23, e91_25, e91_26, e91_27, e91_28, e91_31, e91_32, e91_33, e91_36, e91_37, e91_40, e91_43, e91_44, e91_45, e91_47, e91_48, e91_49, e91_50, e91_53, e91_56, e91_57, e91_58, e91_59, e91_60, e91_61, e91_64, e91_66, e91_67, e91_70, e91_73, e91_74, gM_0 hR, nle, if_neg (show ¬ many ≤ k by omega), gM_11 hR, rN_11 hR he, nI_add, pk_mul, nq, eO, if_true]
      by_cases h1 : N 11 (200 * s + k) = w
      · rw [if_neg (fun q => q h1)]
        rw [if_pos h1] at ih
        exact ih
      · rw [if_pos h1]
        rw [if_neg h1] at ih
        exact ih
    | some b =>
      rw [hb] at ih
      have hbk := leF_lt _ _ hb
      have he2 : 200 * s + b < 1200 := by omega
      simp (disch := first | assumption | omega | exact am_isr_ref | exact am_isr_null | exact am_isr_rf | exact am_c1_int | exact am_c1_ref | exact am_c1_null | exact am_c1_rf | exact am_b0 | exact am_b1 | exact RM_obj (by assumption) | (simp only [ne_eq]; done) | exact am_nz2 | exact am_nz3 | exact am_nz6 | exact am_lt (hB _ _) | exact am_lt (stF_lt hB) | exact b32_01) only [e91_0, e91_1, e91_2, e91_3, e91_7, e91_8, e91_11, e91_14, e91_15, e91_18, e91_21, e91_22, e91_23, e91_25, e91_26, e91_27, e91_28, e91_31, e91_32, e91_33, e91_36, e91_37, e91_40, e91_43, e91_44, e91_45, e91_47, e91_48, e91_49, e91_50, e91_53, e91_56, e91_57, e91_58, e91_59, e91_60, e91_61, e91_64, e91_66, e91_67, e91_70, e91_73, e91_74, gM_0 hR, nle, if_neg (show ¬ many ≤ k by omega), gM_11 hR, rN_11 hR he, nI_add, pk_mul, nq, eO, gM_12 hR, rN_12 hR he, rN_12 hR he2, if_neg (show ¬ nI b = -1 from fun q => by have := nI_pos (n := b) (by omega); rw [q] at this; exact this (by decide))]
      by_cases h1 : N 11 (200 * s + k) = w
      · rw [if_neg (fun q => q h1)]
        rw [if_pos h1] at ih
        by_cases h2 : N 12 (200 * s + k) < N 12 (200 * s + b)
        · rw [if_neg (by omega)]
          dsimp only at ih
          rw [if_pos h2] at ih
          exact ih
        · rw [if_pos (by omega)]
          dsimp only at ih
          rw [if_neg h2] at ih
          exact ih
      · rw [if_pos h1]
        rw [if_neg h1] at ih
        exact ih
theorem c91 {s w : Nat} (hR : MM g h m many wt pa pl N V O P) (hB : am_BN N) (hs : s < 6) (hw : w < 4) (hm : many ≤ 200) : am_R d 91 0 [some (.ref m), some (.int (nI s)), some (.int (nI w)), none, none] [] h Q = Q (some (.int (eO (leF N s w many)))) h := by
  rw [e91_0, e91_1, e91_2, e91_3]
  exact l91 hR hB hs hw hm many 0 (by omega)
/-- firstOf -/
def foF (P : Nat → Int32) (f t : Nat) : Nat → Nat → Option Nat
  | 0, _ => none
  | c + 1, j => if P (7 * j) = nI f ∧ P (7 * j + 1) = nI t then some j else foF P f t c (j + 1)
theorem l86 {f t : Nat} (hR : MM g h m many wt pa pl N V O P) (hw : 7 * wt ≤ pl) : ∀ c j, j + c = wt → am_R d 86 2 [some (.ref m), some (.int (nI f)), some (.int (nI t)), some (.int (nI j))] [] h Q = Q (some (.int (eO (foF P f t c j)))) h := by
  have hpl : pl < 1000000 := hR.2.2.2.1.2.2.2
  intro c
  induction c with
  | zero =>
    intro j hj
    obtain rfl : j = wt := by omega
    simp (disch := first | assumption | omega | exact am_isr_ref | exact am_isr_null | exact am_isr_rf | exact am_c1_int | exact am_c1_ref | exact am_c1_null | exact am_c1_rf | exact am_b0 | exact am_b1 | exact RM_obj (by assumption) | (simp only [ne_eq]; done) | exact am_nz2 | exact am_nz3 | exact am_nz6 | exact am_lt (hB _ _) | exact am_lt (stF_lt hB) | exact b32_01) only [e86_0, e86_1, e86_2, e86_3, e86_4, e86_7, e86_10, e86_11, e86_14, e86_16, e86_17, e86_18, e86_19, e86_20, e86_23, e86_24, e86_27, e86_29, e86_30, e86_31, e86_32, e86_33, e86_34, e86_35, e86_38, e86_39, e86_40, e86_43, e86_46, e86_47, gM_22 hR, nle, if_true, Nat.le_refl, foF, eO]
  | succ c ih =>
    intro j hj
    have ih := ih (j + 1) (by omega)
    rw [foF, e86_2]
    simp (disch := first | assumption | omega | exact am_isr_ref | exact am_isr_null | exact am_isr_rf | exact am_c1_int | exact am_c1_ref | exact am_c1_null | exact am_c1_rf | exact am_b0 | exact am_b1 | exact RM_obj (by assumption) | (simp only [ne_eq]; done) | exact am_nz2 | exact am_nz3 | exact am_nz6 | exact am_lt (hB _ _) | exact am_lt (stF_lt hB) | exact b32_01) only [e86_0, e86_1, e86_3, e86_4, e86_7, e86_10, e86_11, e86_14, e86_16, e86_17, e86_18, e86_19, e86_20, e86_23, e86_24, e86_27, e86_29, e86_30, e86_31, e86_32, e86_33, e86_34, e86_35, e86_38, e86_39, e86_40, e86_43, e86_46, e86_47, gM_22 hR, nle, if_neg (show ¬ wt ≤ j by omega), gM_23 hR, rP hR (show 7 * j < pl by omega), rP hR (show 7 * j + 1 < pl by omega), nI_add, pk_mul, ih]
    by_cases h1 : P (7 * j) = nI f
    · rw [if_neg (fun q => q h1)]
      by_cases h2 : P (7 * j + 1) = nI t
      · rw [if_neg (fun q => q h2), if_pos ⟨h1, h2⟩, eO]
      · rw [if_pos h2, if_neg (fun q => h2 q.2)]
    · rw [if_pos h1, if_neg (fun q => h1 q.1)]
theorem c86 {f t : Nat} (hR : MM g h m many wt pa pl N V O P) (hw : 7 * wt ≤ pl) : am_R d 86 0 [some (.ref m), some (.int (nI f)), some (.int (nI t)), none] [] h Q = Q (some (.int (eO (foF P f t wt 0)))) h := by
  rw [e86_0, e86_1]
  exact l86 hR hw wt 0 (by omega)
end MR
