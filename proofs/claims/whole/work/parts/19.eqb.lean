/-! rows for the equations: one step, told as an equation of am_R -/
theorem am_ifp {β : Type} {c : Prop} [Decidable c] {y : Option β} (hc : c) : (if c then y else none) = y := if_pos hc
def am_isr (v : Value) : Bool := (am_unrf v).isSome
theorem am_isr_ref {a : Nat} : am_isr (.ref a) = true := rfl
theorem am_isr_null : am_isr .null = true := rfl
theorem am_isr_rf {o : Option Nat} : am_isr (va_rf o) = true := by cases o <;> rfl
theorem am_c1_int {x : Int32} : am_c1 (.int x) = true := rfl
theorem am_c1_ref {a : Nat} : am_c1 (.ref a) = true := rfl
theorem am_c1_null : am_c1 .null = true := rfl
theorem am_c1_rf {o : Option Nat} : am_c1 (va_rf o) = true := by cases o <;> rfl
theorem am_isr_spec {v : Value} (h : am_isr v = true) : ∃ o, am_unrf v = some o ∧ v = va_rf o := by
  obtain ⟨o, ho⟩ := Option.isSome_iff_exists.mp h
  exact ⟨o, ho, am_unrf_spec ho⟩
theorem am_q_aload {i : aI} {pc : Nat} {ls : aL} {st : List Value} {h : aH} {v : Value} (hl : ls[i.2.1]? = some (some v)) (hv : am_isr v = true) : o_aload i pc ls st h = some (pc + i.2.2.1, ls, v :: st, h) := by
  obtain ⟨o, h1, -⟩ := am_isr_spec hv
  unfold o_aload
  rw [hl]
  dsimp only
  rw [h1]
  rfl
theorem am_q_astore {i : aI} {pc : Nat} {ls ls' : aL} {st : List Value} {h : aH} {v : Value} (hl : ls.set i.2.1 (some v) = ls') (hv : am_isr v = true) : o_astore i pc ls (v :: st) h = some (pc + i.2.2.1, ls', st, h) := by
  obtain ⟨o, h1, h2⟩ := am_isr_spec hv
  subst hl
  have e2 : am_pq (v :: st) = some (o, st) := by unfold am_pq; dsimp only; rw [h1]; rfl
  unfold o_astore
  rw [e2, Option.bind_some, h2]
theorem am_q_div {i : aI} {pc : Nat} {ls : aL} {st : List Value} {h : aH} {x y : Int32} (hy : ¬ y = 0) : o_div i pc ls (.int y :: .int x :: st) h = some (pc + 1, ls, .int (x / y) :: st, h) := if_neg hy
theorem am_q_rem {i : aI} {pc : Nat} {ls : aL} {st : List Value} {h : aH} {x y : Int32} (hy : ¬ y = 0) : o_rem i pc ls (.int y :: .int x :: st) h = some (pc + 1, ls, .int (x - x / y * y) :: st, h) := if_neg hy
theorem am_q_dup {i : aI} {pc : Nat} {ls : aL} {st : List Value} {h : aH} {v : Value} (hv : am_c1 v = true) : o_dup i pc ls (v :: st) h = some (pc + 1, ls, v :: v :: st, h) := if_pos hv
theorem am_q_pop {i : aI} {pc : Nat} {ls : aL} {st : List Value} {h : aH} {v : Value} (hv : am_c1 v = true) : o_pop i pc ls (v :: st) h = some (pc + 1, ls, st, h) := if_pos hv
theorem am_q_dup2 {i : aI} {pc : Nat} {ls : aL} {st : List Value} {h : aH} {v w : Value} (hv : am_c1 v = true) (hw : am_c1 w = true) : o_dup2 i pc ls (v :: w :: st) h = some (pc + 1, ls, v :: w :: v :: w :: st, h) := if_pos (by rw [hv, hw]; rfl)
theorem am_alc {v : Value} {l : List Value} (h1 : am_c1 v = true) (h2 : l.all am_c1 = true) : (v :: l).all am_c1 = true := by rw [List.all_cons, h1, h2]; rfl
theorem am_all_sum {l : List Value} (h : l.all am_c1 = true) : (l.map fun v => v.category).sum = l.length := by
  induction l with
  | nil => rfl
  | cons v l ih =>
    rw [List.all_cons, Bool.and_eq_true] at h
    have h1 : v.category = 1 := by have := h.1; simpa [am_c1] using this
    rw [List.map_cons, List.sum_cons, List.length_cons, ih h.2, h1]
    omega
theorem am_rst {l : List Value} (h : l.all am_c1 = true) (hl : l.length ≤ 8) : (l.map fun v => v.category).sum ≤ 8 := by rw [am_all_sum h]; exact hl
theorem am_q_castI {i : aI} {pc : Nat} {ls : aL} {st : List Value} {h : aH} {q n : Nat} {f : Nat → Int32} (hq : h.2.2 q = some (.inl (0, n, .inl f))) : o_castI i pc ls (.ref q :: st) h = some (pc + 3, ls, .ref q :: st, h) := by
  show (am_arr h q).bind _ = _
  unfold am_arr
  rw [hq]
  rfl
theorem am_q_clone {i : aI} {pc : Nat} {ls : aL} {st : List Value} {h : aH} {q n : Nat} {f : Nat → Int32} (hq : h.2.2 q = some (.inl (0, n, .inl f))) (hr : (st.map fun v => v.category).sum ≤ 8) : o_clone i pc ls (.ref q :: st) h = some (pc + 3, ls, .ref h.1 :: st, am_nw h n (.inl (0, n, .inl f))) := by
  show (am_arr h q).bind _ = _
  unfold am_arr
  rw [hq]
  exact if_pos ⟨rfl, hr⟩
theorem am_q_aret {v : Value} (hv : am_isr v = true) : am_ret (52, 0, 0, 0, []) [v] = some (some v) := by
  obtain ⟨o, h1, -⟩ := am_isr_spec hv
  show (am_unrf v).map _ = _
  rw [h1]
  rfl
theorem am_st {d mid pc : Nat} {i : aI} (hi : am_ins mid pc = i) (h50 : i.1 < 50) {ls : aL} {st : List Value} {h : aH} {Q : Option Value → aH → Prop} : am_R d mid pc ls st h Q ↔ ∃ s, am_step i pc ls st h = some s ∧ am_R d mid s.1 s.2.1 s.2.2.1 s.2.2.2 Q := by
  constructor
  · rintro ⟨n, r, h1, h2⟩
    subst hi
    cases n with
    | zero => cases h1
    | succ n =>
      rw [am_run, if_pos h50] at h1
      obtain ⟨s, e1, e2⟩ := Option.bind_eq_some_iff.mp h1
      exact ⟨s, e1, n, r, e2, h2⟩
  · rintro ⟨s, h1, h2⟩
    rw [am_go hi h50 h1]
    exact h2
def am_gf (h : aH) (ci a k : Nat) (F : Value → Prop) : Prop := ∃ fs v, h.2.2 a = some (.inr (ci, fs)) ∧ fs[k]? = some v ∧ F v
theorem am_gf_of {h : aH} {ci a k : Nat} {F : Value → Prop} {fs : List Value} {v : Value} (h1 : h.2.2 a = some (.inr (ci, fs))) (h2 : fs[k]? = some v) : am_gf h ci a k F = F v := by
  refine propext ⟨?_, fun hF => ⟨fs, v, h1, h2, hF⟩⟩
  rintro ⟨fs2, v2, g1, g2, g3⟩
  rw [h1] at g1
  cases g1
  rw [h2] at g2
  cases g2
  exact g3
def am_pf (h : aH) (ci a k : Nat) (v : Value) (F : aH → Prop) : Prop := ∃ fs, h.2.2 a = some (.inr (ci, fs)) ∧ k < fs.length ∧ F (am_up h a (.inr (ci, fs.set k v)))
theorem am_pf_of {h : aH} {ci a k : Nat} {v : Value} {F : aH → Prop} {fs : List Value} (h1 : h.2.2 a = some (.inr (ci, fs))) (h2 : k < fs.length) : am_pf h ci a k v F = F (am_up h a (.inr (ci, fs.set k v))) := by
  refine propext ⟨?_, fun hF => ⟨fs, h1, h2, hF⟩⟩
  rintro ⟨fs2, g1, g2, g3⟩
  rw [h1] at g1
  cases g1
  exact g3
def am_ga (h : aH) (a : Nat) (j : Int32) (F : Int32 → Prop) : Prop := ∃ t n f, h.2.2 a = some (.inl (t, n, .inl f)) ∧ (t = 0 ∨ t = 9) ∧ am_in j n = true ∧ F (f j.toNatClampNeg)
theorem am_ga_of {h : aH} {a : Nat} {j : Int32} {F : Int32 → Prop} {t n : Nat} {f : Nat → Int32} (h1 : h.2.2 a = some (.inl (t, n, .inl f))) (h2 : t = 0 ∨ t = 9) (h3 : am_in j n = true) : am_ga h a j F = F (f j.toNatClampNeg) := by
  refine propext ⟨?_, fun hF => ⟨t, n, f, h1, h2, h3, hF⟩⟩
  rintro ⟨t2, n2, f2, g1, g2, g3, g4⟩
  rw [h1] at g1
  cases g1
  exact g4
def am_gaz (h : aH) (a : Nat) (j : Int32) (F : Int32 → Prop) : Prop := ∃ n f, h.2.2 a = some (.inl (1, n, .inl f)) ∧ am_in j n = true ∧ F (f j.toNatClampNeg)
theorem am_gaz_of {h : aH} {a : Nat} {j : Int32} {F : Int32 → Prop} {n : Nat} {f : Nat → Int32} (h1 : h.2.2 a = some (.inl (1, n, .inl f))) (h3 : am_in j n = true) : am_gaz h a j F = F (f j.toNatClampNeg) := by
  refine propext ⟨?_, fun hF => ⟨n, f, h1, h3, hF⟩⟩
  rintro ⟨n2, f2, g1, g3, g4⟩
  rw [h1] at g1
  cases g1
  exact g4
def am_pa (h : aH) (a : Nat) (j x : Int32) (F : aH → Prop) : Prop := ∃ n f, h.2.2 a = some (.inl (0, n, .inl f)) ∧ am_in j n = true ∧ F (am_up h a (.inl (0, n, .inl (upd f j.toNatClampNeg x))))
theorem am_pa_of {h : aH} {a : Nat} {j x : Int32} {F : aH → Prop} {n : Nat} {f : Nat → Int32} (h1 : h.2.2 a = some (.inl (0, n, .inl f))) (h3 : am_in j n = true) : am_pa h a j x F = F (am_up h a (.inl (0, n, .inl (upd f j.toNatClampNeg x)))) := by
  refine propext ⟨?_, fun hF => ⟨n, f, h1, h3, hF⟩⟩
  rintro ⟨n2, f2, g1, g3, g4⟩
  rw [h1] at g1
  cases g1
  exact g4
def am_paz (h : aH) (a : Nat) (j x : Int32) (F : aH → Prop) : Prop := ∃ n f, h.2.2 a = some (.inl (1, n, .inl f)) ∧ am_in j n = true ∧ F (am_up h a (.inl (1, n, .inl (upd f j.toNatClampNeg x))))
theorem am_paz_of {h : aH} {a : Nat} {j x : Int32} {F : aH → Prop} {n : Nat} {f : Nat → Int32} (h1 : h.2.2 a = some (.inl (1, n, .inl f))) (h3 : am_in j n = true) : am_paz h a j x F = F (am_up h a (.inl (1, n, .inl (upd f j.toNatClampNeg x)))) := by
  refine propext ⟨?_, fun hF => ⟨n, f, h1, h3, hF⟩⟩
  rintro ⟨n2, f2, g1, g3, g4⟩
  rw [h1] at g1
  cases g1
  exact g4
def am_gq (h : aH) (a : Nat) (j : Int32) (F : Option Nat → Prop) : Prop := ∃ t n f, h.2.2 a = some (.inl (t, n, .inr f)) ∧ am_in j n = true ∧ F (f j.toNatClampNeg)
theorem am_gq_of {h : aH} {a : Nat} {j : Int32} {F : Option Nat → Prop} {t n : Nat} {f : Nat → Option Nat} (h1 : h.2.2 a = some (.inl (t, n, .inr f))) (h3 : am_in j n = true) : am_gq h a j F = F (f j.toNatClampNeg) := by
  refine propext ⟨?_, fun hF => ⟨t, n, f, h1, h3, hF⟩⟩
  rintro ⟨t2, n2, f2, g1, g3, g4⟩
  rw [h1] at g1
  cases g1
  exact g4
def am_paq (h : aH) (a : Nat) (j : Int32) (o : Option Nat) (F : aH → Prop) : Prop := ∃ t n f, h.2.2 a = some (.inl (t, n, .inr f)) ∧ am_in j n = true ∧ am_isc h t o = true ∧ F (am_up h a (.inl (t, n, .inr (va_up f j.toNatClampNeg o))))
theorem am_paq_of {h : aH} {a : Nat} {j : Int32} {o : Option Nat} {F : aH → Prop} {t n : Nat} {f : Nat → Option Nat} (h1 : h.2.2 a = some (.inl (t, n, .inr f))) (h3 : am_in j n = true) (h4 : am_isc h t o = true) : am_paq h a j o F = F (am_up h a (.inl (t, n, .inr (va_up f j.toNatClampNeg o)))) := by
  refine propext ⟨?_, fun hF => ⟨t, n, f, h1, h3, h4, hF⟩⟩
  rintro ⟨t2, n2, f2, g1, g3, g4, g5⟩
  rw [h1] at g1
  cases g1
  exact g5
def am_gl (h : aH) (a : Nat) (F : Nat → Prop) : Prop := ∃ t n c, h.2.2 a = some (.inl (t, n, c)) ∧ F n
theorem am_gl_of {h : aH} {a t n : Nat} {c : (Nat → Int32) ⊕ (Nat → Option Nat)} {F : Nat → Prop} (h1 : h.2.2 a = some (.inl (t, n, c))) : am_gl h a F = F n := by
  refine propext ⟨?_, fun hF => ⟨t, n, c, h1, hF⟩⟩
  rintro ⟨t2, n2, c2, g1, g2⟩
  rw [h1] at g1
  cases g1
  exact g2
section QQ
variable {d mid pc : Nat} {ls : aL} {st : List Value} {h : aH} {Q : Option Value → aH → Prop}
theorem am_q_if {k tgt : Nat} {x : Int32} (hi : am_ins mid pc = (12, k, tgt, 0, [])) {P : Prop} [Decidable P] (hP : am_cnd k x 0 = decide P) : am_R d mid pc ls (.int x :: st) h Q = (if P then am_R d mid tgt ls st h Q else am_R d mid (pc + 3) ls st h Q) := by
  rw [am_go hi (Nat.lt_of_lt_of_le (Nat.lt_succ_self _) (Nat.le_of_ble_eq_true rfl)) (show am_step _ _ _ _ _ = some (if am_cnd k x 0 = true then tgt else pc + 3, ls, st, h) from rfl), hP]
  by_cases hc : P
  · rw [decide_eq_true hc, if_pos rfl, if_pos hc]
  · rw [decide_eq_false hc, if_neg Bool.false_ne_true, if_neg hc]
theorem am_q_ic {k tgt : Nat} {x y : Int32} (hi : am_ins mid pc = (13, k, tgt, 0, [])) {P : Prop} [Decidable P] (hP : am_cnd k x y = decide P) : am_R d mid pc ls (.int y :: .int x :: st) h Q = (if P then am_R d mid tgt ls st h Q else am_R d mid (pc + 3) ls st h Q) := by
  rw [am_go hi (Nat.lt_of_lt_of_le (Nat.lt_succ_self _) (Nat.le_of_ble_eq_true rfl)) (show am_step _ _ _ _ _ = some (if am_cnd k x y = true then tgt else pc + 3, ls, st, h) from rfl), hP]
  by_cases hc : P
  · rw [decide_eq_true hc, if_pos rfl, if_pos hc]
  · rw [decide_eq_false hc, if_neg Bool.false_ne_true, if_neg hc]
theorem am_q_nulq {tgt : Nat} {o : Option Nat} (hi : am_ins mid pc = (15, tgt, 0, 0, [])) : am_R d mid pc ls (va_rf o :: st) h Q = (if o = none then am_R d mid tgt ls st h Q else am_R d mid (pc + 3) ls st h Q) := by
  cases o with
  | none => rw [if_pos rfl]; exact am_go hi (Nat.lt_of_lt_of_le (Nat.lt_succ_self _) (Nat.le_of_ble_eq_true rfl)) rfl
  | some a => rw [if_neg (fun q => by cases q)]; exact am_go hi (Nat.lt_of_lt_of_le (Nat.lt_succ_self _) (Nat.le_of_ble_eq_true rfl)) rfl
theorem am_q_nonq {tgt : Nat} {o : Option Nat} (hi : am_ins mid pc = (16, tgt, 0, 0, [])) : am_R d mid pc ls (va_rf o :: st) h Q = (if o = none then am_R d mid (pc + 3) ls st h Q else am_R d mid tgt ls st h Q) := by
  cases o with
  | none => rw [if_pos rfl]; exact am_go hi (Nat.lt_of_lt_of_le (Nat.lt_succ_self _) (Nat.le_of_ble_eq_true rfl)) rfl
  | some a => rw [if_neg (fun q => by cases q)]; exact am_go hi (Nat.lt_of_lt_of_le (Nat.lt_succ_self _) (Nat.le_of_ble_eq_true rfl)) rfl
theorem am_q_sw {L : List (Int32 × Nat)} {dd : Nat} {x : Int32} (hi : am_ins mid pc = (32, dd, 0, 0, L)) : am_R d mid pc ls (.int x :: st) h Q = am_R d mid (am_sw L dd x) ls st h Q := am_go hi (Nat.lt_of_lt_of_le (Nat.lt_succ_self _) (Nat.le_of_ble_eq_true rfl)) rfl
theorem am_q_get {ci k q : Nat} (hi : am_ins mid pc = (18, ci, k, 0, [])) : am_R d mid pc ls (.ref q :: st) h Q = am_gf h ci q k (fun v => am_R d mid (pc + 3) ls (v :: st) h Q) := by
  refine propext ((am_st hi (Nat.lt_of_lt_of_le (Nat.lt_succ_self _) (Nat.le_of_ble_eq_true rfl))).trans ⟨?_, ?_⟩)
  · rintro ⟨s, h1, h2⟩
    obtain ⟨fs, h3, h4⟩ := Option.bind_eq_some_iff.mp (show (am_fld h ci q).bind _ = some s from h1)
    obtain ⟨v, h5, h6⟩ := Option.bind_eq_some_iff.mp h4
    cases h6
    exact ⟨fs, v, am_fld_spec h3, h5, h2⟩
  · rintro ⟨fs, v, h1, h2, h3⟩
    refine ⟨(pc + 3, ls, v :: st, h), ?_, h3⟩
    show (am_fld h ci q).bind _ = _
    unfold am_fld
    rw [h1]
    dsimp only
    rw [if_pos rfl, Option.bind_some, h2]
    rfl
theorem am_wr_iff {ci k a : Nat} {v : Value} {F : aH → Prop} : (∃ h', am_wr h ci k a v = some h' ∧ F h') ↔ am_pf h ci a k v F := by
  constructor
  · rintro ⟨h', h1, h2⟩
    obtain ⟨fs, g1, g2, rfl⟩ := am_wr_spec h1
    exact ⟨fs, g1, g2, h2⟩
  · rintro ⟨fs, g1, g2, g3⟩
    refine ⟨_, ?_, g3⟩
    unfold am_wr am_fld
    rw [g1]
    dsimp only
    rw [if_pos rfl, Option.bind_some, if_pos g2]
theorem am_q_puti {ci k q : Nat} {x : Int32} (hi : am_ins mid pc = (19, ci, k, 0, [])) : am_R d mid pc ls (.int x :: .ref q :: st) h Q = am_pf h ci q k (.int x) (fun h => am_R d mid (pc + 3) ls st h Q) := by
  refine propext (((am_st hi (Nat.lt_of_lt_of_le (Nat.lt_succ_self _) (Nat.le_of_ble_eq_true rfl))).trans ⟨?_, ?_⟩).trans am_wr_iff)
  · rintro ⟨s, h1, h2⟩
    obtain ⟨h', h3, h4⟩ := Option.bind_eq_some_iff.mp (show (am_wr h ci k q (.int x)).bind _ = some s from h1)
    cases h4
    exact ⟨h', h3, h2⟩
  · rintro ⟨h', h1, h2⟩
    refine ⟨(pc + 3, ls, st, h'), ?_, h2⟩
    show (am_wr h ci k q (.int x)).bind _ = _
    rw [h1]
    rfl
theorem am_q_putz {ci k q : Nat} {x : Int32} (hi : am_ins mid pc = (20, ci, k, 0, [])) (hx : x = 0 ∨ x = 1) : am_R d mid pc ls (.int x :: .ref q :: st) h Q = am_pf h ci q k (.int x) (fun h => am_R d mid (pc + 3) ls st h Q) := by
  refine propext (((am_st hi (Nat.lt_of_lt_of_le (Nat.lt_succ_self _) (Nat.le_of_ble_eq_true rfl))).trans ⟨?_, ?_⟩).trans am_wr_iff)
  · rintro ⟨s, h1, h2⟩
    have h1 : (if x = 0 ∨ x = 1 then (am_wr h ci k q (.int x)).bind fun h' => some (pc + 3, ls, st, h') else none) = some s := h1
    rw [if_pos hx] at h1
    obtain ⟨h', h3, h4⟩ := Option.bind_eq_some_iff.mp h1
    cases h4
    exact ⟨h', h3, h2⟩
  · rintro ⟨h', h1, h2⟩
    refine ⟨(pc + 3, ls, st, h'), ?_, h2⟩
    show (if x = 0 ∨ x = 1 then (am_wr h ci k q (.int x)).bind fun h' => some (pc + 3, ls, st, h') else none) = _
    rw [if_pos hx, h1]
    rfl
theorem am_q_putr {ci k q : Nat} {v : Value} (hi : am_ins mid pc = (21, ci, k, 0, [])) (hv : am_isr v = true) : am_R d mid pc ls (v :: .ref q :: st) h Q = am_pf h ci q k v (fun h => am_R d mid (pc + 3) ls st h Q) := by
  obtain ⟨o, -, rfl⟩ := am_isr_spec hv
  have e : ∀ s, am_step (21, ci, k, 0, []) pc ls (va_rf o :: .ref q :: st) h = some s ↔ (am_wr h ci k q (va_rf o)).bind (fun h' => some (pc + 3, ls, st, h')) = some s := by
    intro s
    cases o <;> exact Iff.rfl
  refine propext (((am_st hi (Nat.lt_of_lt_of_le (Nat.lt_succ_self _) (Nat.le_of_ble_eq_true rfl))).trans ⟨?_, ?_⟩).trans am_wr_iff)
  · rintro ⟨s, h1, h2⟩
    obtain ⟨h', h3, h4⟩ := Option.bind_eq_some_iff.mp ((e s).mp h1)
    cases h4
    exact ⟨h', h3, h2⟩
  · rintro ⟨h', h1, h2⟩
    refine ⟨(pc + 3, ls, st, h'), (e _).mpr ?_, h2⟩
    rw [h1]
    rfl
theorem am_q_iald {q : Nat} {j : Int32} (hi : am_ins mid pc = (22, 0, 0, 0, [])) : am_R d mid pc ls (.int j :: .ref q :: st) h Q = am_ga h q j (fun x => am_R d mid (pc + 1) ls (.int x :: st) h Q) := by
  refine propext ((am_st hi (Nat.lt_of_lt_of_le (Nat.lt_succ_self _) (Nat.le_of_ble_eq_true rfl))).trans ⟨?_, ?_⟩)
  · rintro ⟨s, h1, h2⟩
    obtain ⟨⟨t, n, f⟩, h3, h4⟩ := Option.bind_eq_some_iff.mp (show (am_arr h q).bind _ = some s from h1)
    refine am_if h4 (fun hc h5 => ?_)
    cases h5
    exact ⟨t, n, f, am_arr_spec h3, hc.1, hc.2, h2⟩
  · rintro ⟨t, n, f, h1, h2, h3, h4⟩
    refine ⟨(pc + 1, ls, .int (f j.toNatClampNeg) :: st, h), ?_, h4⟩
    show (am_arr h q).bind _ = _
    unfold am_arr
    rw [h1]
    exact if_pos ⟨h2, h3⟩
theorem am_q_zald {q : Nat} {j : Int32} (hi : am_ins mid pc = (24, 0, 0, 0, [])) : am_R d mid pc ls (.int j :: .ref q :: st) h Q = am_gaz h q j (fun x => am_R d mid (pc + 1) ls (.int x :: st) h Q) := by
  refine propext ((am_st hi (Nat.lt_of_lt_of_le (Nat.lt_succ_self _) (Nat.le_of_ble_eq_true rfl))).trans ⟨?_, ?_⟩)
  · rintro ⟨s, h1, h2⟩
    obtain ⟨⟨t, n, f⟩, h3, h4⟩ := Option.bind_eq_some_iff.mp (show (am_arr h q).bind _ = some s from h1)
    refine am_if h4 (fun hc h5 => ?_)
    cases h5
    have h6 := am_arr_spec h3
    obtain ⟨rfl, hc2⟩ := hc
    exact ⟨n, f, h6, hc2, h2⟩
  · rintro ⟨n, f, h1, h3, h4⟩
    refine ⟨(pc + 1, ls, .int (f j.toNatClampNeg) :: st, h), ?_, h4⟩
    show (am_arr h q).bind _ = _
    unfold am_arr
    rw [h1]
    exact if_pos ⟨rfl, h3⟩
theorem am_q_iast {q : Nat} {j x : Int32} (hi : am_ins mid pc = (23, 0, 0, 0, [])) : am_R d mid pc ls (.int x :: .int j :: .ref q :: st) h Q = am_pa h q j x (fun h => am_R d mid (pc + 1) ls st h Q) := by
  refine propext ((am_st hi (Nat.lt_of_lt_of_le (Nat.lt_succ_self _) (Nat.le_of_ble_eq_true rfl))).trans ⟨?_, ?_⟩)
  · rintro ⟨s, h1, h2⟩
    obtain ⟨⟨t, n, f⟩, h3, h4⟩ := Option.bind_eq_some_iff.mp (show (am_arr h q).bind _ = some s from h1)
    refine am_if h4 (fun hc h5 => ?_)
    cases h5
    have h6 := am_arr_spec h3
    obtain ⟨rfl, hc2⟩ := hc
    exact ⟨n, f, h6, hc2, h2⟩
  · rintro ⟨n, f, h1, h3, h4⟩
    refine ⟨(pc + 1, ls, st, am_up h q (.inl (0, n, .inl (upd f j.toNatClampNeg x)))), ?_, h4⟩
    show (am_arr h q).bind _ = _
    unfold am_arr
    rw [h1]
    exact if_pos ⟨rfl, h3⟩
theorem am_q_zast {q : Nat} {j x : Int32} (hi : am_ins mid pc = (25, 0, 0, 0, [])) (hx : x = 0 ∨ x = 1) : am_R d mid pc ls (.int x :: .int j :: .ref q :: st) h Q = am_paz h q j x (fun h => am_R d mid (pc + 1) ls st h Q) := by
  refine propext ((am_st hi (Nat.lt_of_lt_of_le (Nat.lt_succ_self _) (Nat.le_of_ble_eq_true rfl))).trans ⟨?_, ?_⟩)
  · rintro ⟨s, h1, h2⟩
    obtain ⟨⟨t, n, f⟩, h3, h4⟩ := Option.bind_eq_some_iff.mp (show (am_arr h q).bind _ = some s from h1)
    refine am_if h4 (fun hc h5 => ?_)
    cases h5
    have h6 := am_arr_spec h3
    obtain ⟨rfl, hc2, -⟩ := hc
    exact ⟨n, f, h6, hc2, h2⟩
  · rintro ⟨n, f, h1, h3, h4⟩
    refine ⟨(pc + 1, ls, st, am_up h q (.inl (1, n, .inl (upd f j.toNatClampNeg x)))), ?_, h4⟩
    show (am_arr h q).bind _ = _
    unfold am_arr
    rw [h1]
    exact if_pos ⟨rfl, h3, hx⟩
theorem am_q_aald {q : Nat} {j : Int32} (hi : am_ins mid pc = (26, 0, 0, 0, [])) : am_R d mid pc ls (.int j :: .ref q :: st) h Q = am_gq h q j (fun o => am_R d mid (pc + 1) ls (va_rf o :: st) h Q) := by
  refine propext ((am_st hi (Nat.lt_of_lt_of_le (Nat.lt_succ_self _) (Nat.le_of_ble_eq_true rfl))).trans ⟨?_, ?_⟩)
  · rintro ⟨s, h1, h2⟩
    obtain ⟨⟨t, n, f⟩, h3, h4⟩ := Option.bind_eq_some_iff.mp (show (am_arq h q).bind _ = some s from h1)
    refine am_if h4 (fun hc h5 => ?_)
    cases h5
    exact ⟨t, n, f, am_arq_spec h3, hc, h2⟩
  · rintro ⟨t, n, f, h1, h3, h4⟩
    refine ⟨(pc + 1, ls, va_rf (f j.toNatClampNeg) :: st, h), ?_, h4⟩
    show (am_arq h q).bind _ = _
    unfold am_arq
    rw [h1]
    exact if_pos h3
theorem am_q_aast {q : Nat} {j : Int32} {o : Option Nat} {v : Value} (hi : am_ins mid pc = (27, 0, 0, 0, [])) (hv : am_unrf v = some o) : am_R d mid pc ls (v :: .int j :: .ref q :: st) h Q = am_paq h q j o (fun h => am_R d mid (pc + 1) ls st h Q) := by
  have e : ∀ s, am_step (27, 0, 0, 0, []) pc ls (v :: .int j :: .ref q :: st) h = some s ↔ (am_arq h q).bind (fun x => if am_in j x.2.1 = true ∧ am_isc h x.1 o = true then some (pc + 1, ls, st, am_up h q (.inl (x.1, x.2.1, .inr (va_up x.2.2 j.toNatClampNeg o)))) else none) = some s := by
    intro s
    have e2 : am_pq (v :: .int j :: .ref q :: st) = some (o, .int j :: .ref q :: st) := by unfold am_pq; dsimp only; rw [hv]; rfl
    show (am_pq (v :: .int j :: .ref q :: st)).bind _ = some s ↔ _
    rw [e2]
    exact Iff.rfl
  refine propext ((am_st hi (Nat.lt_of_lt_of_le (Nat.lt_succ_self _) (Nat.le_of_ble_eq_true rfl))).trans ⟨?_, ?_⟩)
  · rintro ⟨s, h1, h2⟩
    obtain ⟨⟨t, n, f⟩, h3, h4⟩ := Option.bind_eq_some_iff.mp ((e s).mp h1)
    refine am_if h4 (fun hc h5 => ?_)
    cases h5
    exact ⟨t, n, f, am_arq_spec h3, hc.1, hc.2, h2⟩
  · rintro ⟨t, n, f, h1, h3, h4, h5⟩
    refine ⟨(pc + 1, ls, st, am_up h q (.inl (t, n, .inr (va_up f j.toNatClampNeg o)))), (e _).mpr ?_, h5⟩
    unfold am_arq
    rw [h1]
    exact if_pos ⟨h3, h4⟩
theorem am_q_alen {q : Nat} (hi : am_ins mid pc = (28, 0, 0, 0, [])) : am_R d mid pc ls (.ref q :: st) h Q = am_gl h q (fun n => am_R d mid (pc + 1) ls (.int (nI n) :: st) h Q) := by
  refine propext ((am_st hi (Nat.lt_of_lt_of_le (Nat.lt_succ_self _) (Nat.le_of_ble_eq_true rfl))).trans ⟨?_, ?_⟩)
  · rintro ⟨s, h1, h2⟩
    obtain ⟨n, h3, h4⟩ := Option.bind_eq_some_iff.mp (show (am_len h q).bind _ = some s from h1)
    cases h4
    obtain ⟨t, c, h5⟩ := am_len_spec h3
    exact ⟨t, n, c, h5, h2⟩
  · rintro ⟨t, n, c, h1, h4⟩
    refine ⟨(pc + 1, ls, .int (nI n) :: st, h), ?_, h4⟩
    show (am_len h q).bind _ = _
    unfold am_len
    rw [h1]
    rfl
theorem am_q_call {i : aI} (hi : am_ins mid pc = i) (h50 : ¬ i.1 < 50 ∧ ¬ i.1 < 60) (as rest : List Value) (hst : st = as.reverse ++ rest) (hlen : as.length = am_nar i) (hmx : am_nar i ≤ am_mx i.2.1) (hc : as.all am_c1 = true) (hr : rest.all am_c1 = true) (hl : rest.length ≤ 8) (hrc : am_rcv i h as = true) : am_R (d + 1) mid pc ls st h Q = am_R d i.2.1 0 (am_ent i.2.1 as) [] h (fun r h => am_R (d + 1) mid (pc + 3) ls (r.toList ++ rest) h Q) := by
  refine am_cl hi h50 ?_
  subst hst
  have e1 : (as.reverse ++ rest).take (am_nar i) = as.reverse := by rw [← hlen, ← List.length_reverse, List.take_left]
  have e2 : (as.reverse ++ rest).drop (am_nar i) = rest := by rw [← hlen, ← List.length_reverse, List.drop_left]
  unfold am_args
  rw [e1, e2, List.reverse_reverse]
  refine if_pos ⟨⟨?_, hmx, ?_, am_rst hr hl⟩, hrc⟩
  · rw [List.length_append, List.length_reverse]
    omega
  · rw [List.all_reverse]
    exact hc
theorem am_q_al {i n : Nat} {v : Value} (hi : am_ins mid pc = (33, i, n, 0, [])) (hl : ls[i]? = some (some v)) (hv : am_isr v = true) : am_R d mid pc ls st h Q = am_R d mid (pc + n) ls (v :: st) h Q :=
  am_go hi (Nat.lt_of_lt_of_le (Nat.lt_succ_self _) (Nat.le_of_ble_eq_true rfl)) (am_q_aload (i := (33, i, n, 0, [])) hl hv)
theorem am_q_as {i n : Nat} {v : Value} {ls' : aL} (hi : am_ins mid pc = (34, i, n, 0, [])) (hl : ls.set i (some v) = ls') (hv : am_isr v = true) : am_R d mid pc ls (v :: st) h Q = am_R d mid (pc + n) ls' st h Q :=
  am_go hi (Nat.lt_of_lt_of_le (Nat.lt_succ_self _) (Nat.le_of_ble_eq_true rfl)) (am_q_astore (i := (34, i, n, 0, [])) hl hv)
end QQ
