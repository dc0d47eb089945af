/-! am_run: the abstract machine's run; am_R: it comes to an end with Q -/
def o_new (i : aI) (pc : Nat) (ls : aL) (st : List Value) (h : aH) : Option aS := some (pc + 3, ls, .ref h.1 :: st, am_nw h (am_df i.2.1).length (.inr (i.2.1, am_df i.2.1)))
def am_step (i : aI) (pc : Nat) (ls : aL) (st : List Value) (h : aH) : Option aS := match i.1 with
  | 0 => o_const i pc ls st h
  | 1 => o_iload i pc ls st h
  | 2 => o_istore i pc ls st h
  | 3 => o_iinc i pc ls st h
  | 4 => o_bin i pc ls st h
  | 5 => o_div i pc ls st h
  | 6 => o_rem i pc ls st h
  | 7 => o_dup i pc ls st h
  | 8 => o_pop i pc ls st h
  | 9 => o_dupx1 i pc ls st h
  | 10 => o_dup2 i pc ls st h
  | 11 => o_dupx2 i pc ls st h
  | 12 => o_if i pc ls st h
  | 13 => o_icmp i pc ls st h
  | 14 => o_goto i pc ls st h
  | 15 => o_ifnull i pc ls st h
  | 16 => o_ifnonnull i pc ls st h
  | 17 => o_null i pc ls st h
  | 18 => o_get i pc ls st h
  | 19 => o_puti i pc ls st h
  | 20 => o_putz i pc ls st h
  | 21 => o_putr i pc ls st h
  | 22 => o_iald i pc ls st h
  | 23 => o_iast i pc ls st h
  | 24 => o_zald i pc ls st h
  | 25 => o_zast i pc ls st h
  | 26 => o_aald i pc ls st h
  | 27 => o_aast i pc ls st h
  | 28 => o_alen i pc ls st h
  | 29 => o_new i pc ls st h
  | 30 => o_newa i pc ls st h
  | 31 => o_anew i pc ls st h
  | 32 => o_sw i pc ls st h
  | 33 => o_aload i pc ls st h
  | 34 => o_astore i pc ls st h
  | 35 => o_oinit i pc ls st h
  | 36 => o_max i pc ls st h
  | 37 => o_min i pc ls st h
  | 38 => o_clone i pc ls st h
  | 39 => o_castI i pc ls st h
  | 40 => o_acmpeq i pc ls st h
  | 41 => o_acmpne i pc ls st h
  | 42 => o_neg i pc ls st h
  | _ => none
def am_rcv (i : aI) (h : aH) (as : List Value) : Bool := match i.1, as with
  | 61, _ => true
  | 62, .ref _ :: _ => true
  | 60, .ref a :: _ => (am_fld h (am_mc i.2.1) a).isSome
  | _, _ => false
def am_nar (i : aI) : Nat := if i.1 = 61 then i.2.2.1 else i.2.2.1 + 1
def am_args (i : aI) (st : List Value) (h : aH) : Option (List Value × List Value) :=
  if (am_nar i ≤ st.length ∧ am_nar i ≤ am_mx i.2.1 ∧ ((st.take (am_nar i)).all am_c1 = true) ∧ ((st.drop (am_nar i)).map fun v => v.category).sum ≤ 8) ∧ am_rcv i h (st.take (am_nar i)).reverse = true then some ((st.take (am_nar i)).reverse, st.drop (am_nar i)) else none
def am_ent (mid : Nat) (as : List Value) : aL := as.map some ++ List.replicate (am_mx mid - as.length) none
def am_ret (i : aI) (st : List Value) : Option (Option Value) := match i.1, st with
  | 50, [.int x] => some (some (.int x))
  | 51, [.int x] => if x = 0 ∨ x = 1 then some (some (.int x)) else none
  | 52, [v] => (am_unrf v).map (fun _ => some v)
  | 53, [] => some none
  | _, _ => none
def am_run : Nat → Nat → Nat → Nat → aL → List Value → aH → Option (Option Value × aH)
  | 0, _, _, _, _, _, _ => none
  | n + 1, d, mid, pc, ls, st, h =>
    if (am_ins mid pc).1 < 50 then (am_step (am_ins mid pc) pc ls st h).bind fun s => am_run n d mid s.1 s.2.1 s.2.2.1 s.2.2.2
    else if (am_ins mid pc).1 < 60 then (am_ret (am_ins mid pc) st).map fun r => (r, h)
    else if d = 0 then none
    else (am_args (am_ins mid pc) st h).bind fun q => (am_run n (d - 1) (am_ins mid pc).2.1 0 (am_ent (am_ins mid pc).2.1 q.1) [] h).bind fun r => am_run n d mid (pc + 3) ls (r.1.toList ++ q.2) r.2
theorem am_run_mono : ∀ (n d mid pc : Nat) (ls : aL) (st : List Value) (h : aH) (r : Option Value × aH), am_run n d mid pc ls st h = some r → am_run (n + 1) d mid pc ls st h = some r := by
  intro n
  induction n with
  | zero => intro d mid pc ls st h r e; cases e
  | succ n ih =>
    intro d mid pc ls st h r e
    rw [am_run] at e ⊢
    split at e
    · rename_i c1
      rw [if_pos c1]
      obtain ⟨s, h1, h2⟩ := Option.bind_eq_some_iff.mp e
      rw [h1, Option.bind_some]
      exact ih _ _ _ _ _ _ _ h2
    · rename_i c1
      rw [if_neg c1]
      split at e
      · rename_i c2
        rw [if_pos c2]
        exact e
      · rename_i c2
        rw [if_neg c2]
        split at e
        · cases e
        · rename_i c3
          rw [if_neg c3]
          obtain ⟨q, h1, h2⟩ := Option.bind_eq_some_iff.mp e
          obtain ⟨r1, h3, h4⟩ := Option.bind_eq_some_iff.mp h2
          rw [h1, Option.bind_some, ih _ _ _ _ _ _ _ h3, Option.bind_some]
          exact ih _ _ _ _ _ _ _ h4
theorem am_run_le {n d mid pc : Nat} {ls : aL} {st : List Value} {h : aH} {r : Option Value × aH} (k : Nat) (e : am_run n d mid pc ls st h = some r) : am_run (n + k) d mid pc ls st h = some r := by
  induction k with
  | zero => exact e
  | succ k ih => exact am_run_mono _ _ _ _ _ _ _ _ ih
def am_R (d mid pc : Nat) (ls : aL) (st : List Value) (h : aH) (Q : Option Value → aH → Prop) : Prop := ∃ (n : Nat) (r : Option Value × aH), am_run n d mid pc ls st h = some r ∧ Q r.1 r.2
theorem am_R_mono {d mid pc : Nat} {ls : aL} {st : List Value} {h : aH} {Q Q' : Option Value → aH → Prop} (k : am_R d mid pc ls st h Q) (hq : ∀ r h', Q r h' → Q' r h') : am_R d mid pc ls st h Q' := by
  obtain ⟨n, r, h1, h2⟩ := k
  exact ⟨n, r, h1, hq _ _ h2⟩
theorem am_go {d mid pc : Nat} {i : aI} (hi : am_ins mid pc = i) (h50 : i.1 < 50) {ls ls' : aL} {st st' : List Value} {h h' : aH} {pc' : Nat} {Q : Option Value → aH → Prop} (hs : am_step i pc ls st h = some (pc', ls', st', h')) : am_R d mid pc ls st h Q = am_R d mid pc' ls' st' h' Q := by
  subst hi
  refine propext ⟨?_, ?_⟩
  · rintro ⟨n, r, h1, h2⟩
    cases n with
    | zero => cases h1
    | succ n =>
      rw [am_run, if_pos h50, hs, Option.bind_some] at h1
      exact ⟨n, r, h1, h2⟩
  · rintro ⟨n, r, h1, h2⟩
    refine ⟨n + 1, r, ?_, h2⟩
    rw [am_run, if_pos h50, hs, Option.bind_some]
    exact h1
theorem am_end {d mid pc : Nat} {i : aI} (hi : am_ins mid pc = i) (h50 : ¬ i.1 < 50 ∧ i.1 < 60) {ls : aL} {st : List Value} {h : aH} {r : Option Value} {Q : Option Value → aH → Prop} (hs : am_ret i st = some r) : am_R d mid pc ls st h Q = Q r h := by
  subst hi
  refine propext ⟨?_, ?_⟩
  · rintro ⟨n, r1, h1, h2⟩
    cases n with
    | zero => cases h1
    | succ n =>
      rw [am_run, if_neg h50.1, if_pos h50.2, hs] at h1
      cases h1
      exact h2
  · intro h2
    refine ⟨1, (r, h), ?_, h2⟩
    rw [am_run, if_neg h50.1, if_pos h50.2, hs]
    rfl
theorem am_cl {d mid pc : Nat} {i : aI} (hi : am_ins mid pc = i) (h50 : ¬ i.1 < 50 ∧ ¬ i.1 < 60) {ls : aL} {st rest as : List Value} {h : aH} {Q : Option Value → aH → Prop} (hs : am_args i st h = some (as, rest)) : am_R (d + 1) mid pc ls st h Q = am_R d i.2.1 0 (am_ent i.2.1 as) [] h (fun r h' => am_R (d + 1) mid (pc + 3) ls (r.toList ++ rest) h' Q) := by
  subst hi
  refine propext ⟨?_, ?_⟩
  · rintro ⟨n, r1, h1, h2⟩
    cases n with
    | zero => cases h1
    | succ n =>
      rw [am_run, if_neg h50.1, if_neg h50.2, if_neg (Nat.succ_ne_zero d), hs, Option.bind_some] at h1
      obtain ⟨r, h3, h4⟩ := Option.bind_eq_some_iff.mp h1
      exact ⟨n, r, h3, n, r1, h4, h2⟩
  · rintro ⟨n, r, h3, k, r1, h4, h2⟩
    refine ⟨n + k + 1, r1, ?_, h2⟩
    rw [am_run, if_neg h50.1, if_neg h50.2, if_neg (Nat.succ_ne_zero d), hs, Option.bind_some]
    show (am_run (n + k) d _ _ _ _ _).bind _ = _
    rw [am_run_le k h3, Option.bind_some, Nat.add_comm n k]
    exact am_run_le n h4
