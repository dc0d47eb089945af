/-! AN ABSTRACT MACHINE (am_): frames of options, a heap that is a function from addresses to cells. It is run by am_run, a pure function; part 04 shows that what it answers, the machine of the Statement answers. -/
abbrev aE : Type := (Nat × Nat × ((Nat → Int32) ⊕ (Nat → Option Nat))) ⊕ (Nat × List Value)
abbrev aH : Type := Nat × Nat × (Nat → Option aE)
abbrev aL : Type := List (Option Value)
abbrev aI : Type := Nat × Nat × Nat × Int32 × List (Int32 × Nat)
abbrev aS : Type := Nat × aL × List Value × aH
def am_unrf : Value → Option (Option Nat)
  | .null => some none
  | .ref a => some (some a)
  | _ => none
theorem am_unrf_rf (o : Option Nat) : am_unrf (va_rf o) = some o := by cases o <;> rfl
theorem am_unrf_spec {v : Value} {o : Option Nat} (h : am_unrf v = some o) : v = va_rf o := by
  cases v <;> simp [am_unrf] at h <;> subst h <;> rfl
def am_up (h : aH) (a : Nat) (e : aE) : aH := (h.1, h.2.1, fun q => if q = a then some e else h.2.2 q)
def am_nw (h : aH) (k : Nat) (e : aE) : aH := (h.1 + 1, h.2.1 + k, fun q => if q = h.1 then some e else h.2.2 q)
def am_in (i : Int32) (n : Nat) : Bool := decide (¬ (i < 0 ∨ n ≤ i.toNatClampNeg))
theorem am_in_spec {i : Int32} {n : Nat} (h : am_in i n = true) : vp_in i n := by
  unfold am_in at h
  unfold vp_in
  exact of_decide_eq_true h
def am_bin (k : Nat) (x y : Int32) : Int32 := match k with
  | 0 => x + y
  | 1 => x - y
  | 2 => x * y
  | 3 => x &&& y
  | 4 => x ||| y
  | 5 => x ^^^ y
  | 6 => x <<< (y &&& 31)
  | _ => x >>> (y &&& 31)
def am_cnd (k : Nat) (x y : Int32) : Bool := match k with
  | 0 => decide (x = y)
  | 1 => decide (¬ x = y)
  | 2 => decide (x < y)
  | 3 => decide (y ≤ x)
  | 4 => decide (y < x)
  | _ => decide (x ≤ y)
def am_sw : List (Int32 × Nat) → Nat → Int32 → Nat
  | [], d, _ => d
  | (k, t) :: r, d, x => if x = k then t else am_sw r d x
def am_p1 : List Value → Option (Int32 × List Value)
  | .int x :: r => some (x, r)
  | _ => none
def am_p2 : List Value → Option (Int32 × Int32 × List Value)
  | .int y :: .int x :: r => some (x, y, r)
  | _ => none
def am_pr : List Value → Option (Nat × List Value)
  | .ref a :: r => some (a, r)
  | _ => none
def am_pq : List Value → Option (Option Nat × List Value)
  | v :: r => (am_unrf v).map (fun o => (o, r))
  | _ => none
def am_pv : List Value → Option (Value × List Value)
  | v :: r => some (v, r)
  | _ => none
def am_pri : List Value → Option (Nat × Int32 × List Value)
  | .int i :: .ref a :: r => some (a, i, r)
  | _ => none
theorem am_p1_spec {st : List Value} {q : Int32 × List Value} (h : am_p1 st = some q) : st = .int q.1 :: q.2 := by
  unfold am_p1 at h
  split at h
  · cases h; rfl
  · cases h
theorem am_p2_spec {st : List Value} {q : Int32 × Int32 × List Value} (h : am_p2 st = some q) : st = .int q.2.1 :: .int q.1 :: q.2.2 := by
  unfold am_p2 at h
  split at h
  · cases h; rfl
  · cases h
theorem am_pr_spec {st : List Value} {q : Nat × List Value} (h : am_pr st = some q) : st = .ref q.1 :: q.2 := by
  unfold am_pr at h
  split at h
  · cases h; rfl
  · cases h
theorem am_pq_spec {st : List Value} {q : Option Nat × List Value} (h : am_pq st = some q) : st = va_rf q.1 :: q.2 := by
  unfold am_pq at h
  split at h
  · obtain ⟨o, h1, h2⟩ := Option.map_eq_some_iff.mp h
    cases h2
    rw [am_unrf_spec h1]
  · cases h
theorem am_pv_spec {st : List Value} {q : Value × List Value} (h : am_pv st = some q) : st = q.1 :: q.2 := by
  unfold am_pv at h
  split at h
  · cases h; rfl
  · cases h
theorem am_pri_spec {st : List Value} {q : Nat × Int32 × List Value} (h : am_pri st = some q) : st = .int q.2.1 :: .ref q.1 :: q.2.2 := by
  unfold am_pri at h
  split at h
  · cases h; rfl
  · cases h
/-- the operations: i = (operation, a, b, v, list) -/
def o_const (i : aI) (pc : Nat) (ls : aL) (st : List Value) (h : aH) : Option aS := some (pc + i.2.1, ls, .int i.2.2.2.1 :: st, h)
def o_iload (i : aI) (pc : Nat) (ls : aL) (st : List Value) (h : aH) : Option aS := match ls[i.2.1]? with
  | some (some (.int x)) => some (pc + i.2.2.1, ls, .int x :: st, h)
  | _ => none
def o_aload (i : aI) (pc : Nat) (ls : aL) (st : List Value) (h : aH) : Option aS := match ls[i.2.1]? with
  | some (some v) => (am_unrf v).bind fun _ => some (pc + i.2.2.1, ls, v :: st, h)
  | _ => none
def o_istore (i : aI) (pc : Nat) (ls : aL) (st : List Value) (h : aH) : Option aS := (am_p1 st).bind fun q => some (pc + i.2.2.1, ls.set i.2.1 (some (.int q.1)), q.2, h)
def o_astore (i : aI) (pc : Nat) (ls : aL) (st : List Value) (h : aH) : Option aS := (am_pq st).bind fun q => some (pc + i.2.2.1, ls.set i.2.1 (some (va_rf q.1)), q.2, h)
def o_iinc (i : aI) (pc : Nat) (ls : aL) (st : List Value) (h : aH) : Option aS := match ls[i.2.1]? with
  | some (some (.int x)) => some (pc + 3, ls.set i.2.1 (some (.int (x + i.2.2.2.1))), st, h)
  | _ => none
def o_bin (i : aI) (pc : Nat) (ls : aL) (st : List Value) (h : aH) : Option aS := (am_p2 st).bind fun q => some (pc + 1, ls, .int (am_bin i.2.1 q.1 q.2.1) :: q.2.2, h)
def o_div (_ : aI) (pc : Nat) (ls : aL) (st : List Value) (h : aH) : Option aS := (am_p2 st).bind fun q => if q.2.1 = 0 then none else some (pc + 1, ls, .int (q.1 / q.2.1) :: q.2.2, h)
def o_rem (_ : aI) (pc : Nat) (ls : aL) (st : List Value) (h : aH) : Option aS := (am_p2 st).bind fun q => if q.2.1 = 0 then none else some (pc + 1, ls, .int (q.1 - q.1 / q.2.1 * q.2.1) :: q.2.2, h)
def o_neg (_ : aI) (pc : Nat) (ls : aL) (st : List Value) (h : aH) : Option aS := (am_p1 st).bind fun q => some (pc + 1, ls, .int (- q.1) :: q.2, h)
def am_c1 (v : Value) : Bool := v.category == 1
def o_dup (_ : aI) (pc : Nat) (ls : aL) (st : List Value) (h : aH) : Option aS := match st with
  | v :: r => if am_c1 v = true then some (pc + 1, ls, v :: v :: r, h) else none
  | _ => none
def o_pop (_ : aI) (pc : Nat) (ls : aL) (st : List Value) (h : aH) : Option aS := match st with
  | v :: r => if am_c1 v = true then some (pc + 1, ls, r, h) else none
  | _ => none
def o_dupx1 (_ : aI) (pc : Nat) (ls : aL) (st : List Value) (h : aH) : Option aS := match st with
  | v :: w :: r => if (am_c1 v && am_c1 w) = true then some (pc + 1, ls, v :: w :: v :: r, h) else none
  | _ => none
def o_dup2 (_ : aI) (pc : Nat) (ls : aL) (st : List Value) (h : aH) : Option aS := match st with
  | v :: w :: r => if (am_c1 v && am_c1 w) = true then some (pc + 1, ls, v :: w :: v :: w :: r, h) else none
  | _ => none
def o_dupx2 (_ : aI) (pc : Nat) (ls : aL) (st : List Value) (h : aH) : Option aS := match st with
  | v :: w :: u :: r => if (am_c1 v && am_c1 w && am_c1 u) = true then some (pc + 1, ls, v :: w :: u :: v :: r, h) else none
  | _ => none
def o_if (i : aI) (pc : Nat) (ls : aL) (st : List Value) (h : aH) : Option aS := (am_p1 st).bind fun q => some (if am_cnd i.2.1 q.1 0 = true then i.2.2.1 else pc + 3, ls, q.2, h)
def o_icmp (i : aI) (pc : Nat) (ls : aL) (st : List Value) (h : aH) : Option aS := (am_p2 st).bind fun q => some (if am_cnd i.2.1 q.1 q.2.1 = true then i.2.2.1 else pc + 3, ls, q.2.2, h)
def o_goto (i : aI) (_ : Nat) (ls : aL) (st : List Value) (h : aH) : Option aS := some (i.2.1, ls, st, h)
def o_ifnull (i : aI) (pc : Nat) (ls : aL) (st : List Value) (h : aH) : Option aS := (am_pq st).bind fun q => some (if q.1 = none then i.2.1 else pc + 3, ls, q.2, h)
def o_ifnonnull (i : aI) (pc : Nat) (ls : aL) (st : List Value) (h : aH) : Option aS := (am_pq st).bind fun q => some (if q.1 = none then pc + 3 else i.2.1, ls, q.2, h)
def o_null (_ : aI) (pc : Nat) (ls : aL) (st : List Value) (h : aH) : Option aS := some (pc + 1, ls, .null :: st, h)
/-- a field of an object of class a -/
def am_fld (h : aH) (ci : Nat) (a : Nat) : Option (List Value) := match h.2.2 a with
  | some (.inr (c, fs)) => if c = ci then some fs else none
  | _ => none
def o_get (i : aI) (pc : Nat) (ls : aL) (st : List Value) (h : aH) : Option aS := (am_pr st).bind fun q => (am_fld h i.2.1 q.1).bind fun fs => (fs[i.2.2.1]?).bind fun v => some (pc + 3, ls, v :: q.2, h)
def am_wr (h : aH) (ci k a : Nat) (v : Value) : Option aH := (am_fld h ci a).bind fun fs => if k < fs.length then some (am_up h a (.inr (ci, fs.set k v))) else none
def o_puti (i : aI) (pc : Nat) (ls : aL) (st : List Value) (h : aH) : Option aS := (am_p1 st).bind fun q => (am_pr q.2).bind fun q2 => (am_wr h i.2.1 i.2.2.1 q2.1 (.int q.1)).bind fun h' => some (pc + 3, ls, q2.2, h')
def o_putz (i : aI) (pc : Nat) (ls : aL) (st : List Value) (h : aH) : Option aS := (am_p1 st).bind fun q => (am_pr q.2).bind fun q2 => if q.1 = 0 ∨ q.1 = 1 then (am_wr h i.2.1 i.2.2.1 q2.1 (.int q.1)).bind fun h' => some (pc + 3, ls, q2.2, h') else none
def o_putr (i : aI) (pc : Nat) (ls : aL) (st : List Value) (h : aH) : Option aS := (am_pq st).bind fun q => (am_pr q.2).bind fun q2 => (am_wr h i.2.1 i.2.2.1 q2.1 (va_rf q.1)).bind fun h' => some (pc + 3, ls, q2.2, h')
/-- arrays of ints: tag 0 int, 1 boolean, 9 the script -/
def am_arr (h : aH) (a : Nat) : Option (Nat × Nat × (Nat → Int32)) := match h.2.2 a with
  | some (.inl (t, n, .inl f)) => some (t, n, f)
  | _ => none
def am_arq (h : aH) (a : Nat) : Option (Nat × Nat × (Nat → Option Nat)) := match h.2.2 a with
  | some (.inl (t, n, .inr f)) => some (t, n, f)
  | _ => none
def o_iald (_ : aI) (pc : Nat) (ls : aL) (st : List Value) (h : aH) : Option aS := (am_pri st).bind fun q => (am_arr h q.1).bind fun x => if (x.1 = 0 ∨ x.1 = 9) ∧ am_in q.2.1 x.2.1 = true then some (pc + 1, ls, .int (x.2.2 q.2.1.toNatClampNeg) :: q.2.2, h) else none
def o_zald (_ : aI) (pc : Nat) (ls : aL) (st : List Value) (h : aH) : Option aS := (am_pri st).bind fun q => (am_arr h q.1).bind fun x => if x.1 = 1 ∧ am_in q.2.1 x.2.1 = true then some (pc + 1, ls, .int (x.2.2 q.2.1.toNatClampNeg) :: q.2.2, h) else none
def o_iast (_ : aI) (pc : Nat) (ls : aL) (st : List Value) (h : aH) : Option aS := (am_p1 st).bind fun v => (am_pri v.2).bind fun q => (am_arr h q.1).bind fun x => if x.1 = 0 ∧ am_in q.2.1 x.2.1 = true then some (pc + 1, ls, q.2.2, am_up h q.1 (.inl (0, x.2.1, .inl (upd x.2.2 q.2.1.toNatClampNeg v.1)))) else none
def o_zast (_ : aI) (pc : Nat) (ls : aL) (st : List Value) (h : aH) : Option aS := (am_p1 st).bind fun v => (am_pri v.2).bind fun q => (am_arr h q.1).bind fun x => if x.1 = 1 ∧ am_in q.2.1 x.2.1 = true ∧ (v.1 = 0 ∨ v.1 = 1) then some (pc + 1, ls, q.2.2, am_up h q.1 (.inl (1, x.2.1, .inl (upd x.2.2 q.2.1.toNatClampNeg v.1)))) else none
def o_aald (_ : aI) (pc : Nat) (ls : aL) (st : List Value) (h : aH) : Option aS := (am_pri st).bind fun q => (am_arq h q.1).bind fun x => if am_in q.2.1 x.2.1 = true then some (pc + 1, ls, va_rf (x.2.2 q.2.1.toNatClampNeg) :: q.2.2, h) else none
/-- what is stored in an array of references of class t: nothing, or an object of that class -/
def am_isc (h : aH) (t : Nat) (o : Option Nat) : Bool := match o with
  | none => true
  | some v => (am_fld h t v).isSome
def o_aast (_ : aI) (pc : Nat) (ls : aL) (st : List Value) (h : aH) : Option aS := (am_pq st).bind fun v => (am_pri v.2).bind fun q => (am_arq h q.1).bind fun x => if am_in q.2.1 x.2.1 = true ∧ am_isc h x.1 v.1 = true then some (pc + 1, ls, q.2.2, am_up h q.1 (.inl (x.1, x.2.1, .inr (va_up x.2.2 q.2.1.toNatClampNeg v.1)))) else none
def am_len (h : aH) (a : Nat) : Option Nat := match h.2.2 a with
  | some (.inl (_, n, _)) => some n
  | _ => none
def o_alen (_ : aI) (pc : Nat) (ls : aL) (st : List Value) (h : aH) : Option aS := (am_pr st).bind fun q => (am_len h q.1).bind fun n => some (pc + 1, ls, .int (nI n) :: q.2, h)
def o_newa (i : aI) (pc : Nat) (ls : aL) (st : List Value) (h : aH) : Option aS := (am_p1 st).bind fun q => if ¬ q.1 < 0 ∧ q.1.toNatClampNeg ≤ 1000000 then some (pc + 2, ls, .ref h.1 :: q.2, am_nw h q.1.toNatClampNeg (.inl (i.2.1, q.1.toNatClampNeg, .inl (fun _ => 0)))) else none
def o_anew (i : aI) (pc : Nat) (ls : aL) (st : List Value) (h : aH) : Option aS := (am_p1 st).bind fun q => if ¬ q.1 < 0 ∧ q.1.toNatClampNeg ≤ 1000000 then some (pc + 3, ls, .ref h.1 :: q.2, am_nw h q.1.toNatClampNeg (.inl (i.2.1, q.1.toNatClampNeg, .inr (fun _ => none)))) else none
def o_sw (i : aI) (_ : Nat) (ls : aL) (st : List Value) (h : aH) : Option aS := (am_p1 st).bind fun q => some (am_sw i.2.2.2.2 i.2.1 q.1, ls, q.2, h)
def o_oinit (_ : aI) (pc : Nat) (ls : aL) (st : List Value) (h : aH) : Option aS := (am_pr st).bind fun q => if (q.2.map fun v => v.category).sum ≤ 8 then some (pc + 3, ls, q.2, h) else none
def o_max (_ : aI) (pc : Nat) (ls : aL) (st : List Value) (h : aH) : Option aS := (am_p2 st).bind fun q => if (q.2.2.map fun v => v.category).sum ≤ 8 then some (pc + 3, ls, .int (if q.1 < q.2.1 then q.2.1 else q.1) :: q.2.2, h) else none
def o_min (_ : aI) (pc : Nat) (ls : aL) (st : List Value) (h : aH) : Option aS := (am_p2 st).bind fun q => if (q.2.2.map fun v => v.category).sum ≤ 8 then some (pc + 3, ls, .int (if q.2.1 < q.1 then q.2.1 else q.1) :: q.2.2, h) else none
def o_clone (_ : aI) (pc : Nat) (ls : aL) (st : List Value) (h : aH) : Option aS := (am_pr st).bind fun q => (am_arr h q.1).bind fun x => if x.1 = 0 ∧ (q.2.map fun v => v.category).sum ≤ 8 then some (pc + 3, ls, .ref h.1 :: q.2, am_nw h x.2.1 (.inl (0, x.2.1, .inl x.2.2))) else none
def o_castI (_ : aI) (pc : Nat) (ls : aL) (st : List Value) (h : aH) : Option aS := (am_pr st).bind fun q => (am_arr h q.1).bind fun x => if x.1 = 0 then some (pc + 3, ls, .ref q.1 :: q.2, h) else none
def o_acmpeq (i : aI) (pc : Nat) (ls : aL) (st : List Value) (h : aH) : Option aS := (am_pq st).bind fun y => (am_pq y.2).bind fun x => some (if x.1 = y.1 then i.2.1 else pc + 3, ls, x.2, h)
def o_acmpne (i : aI) (pc : Nat) (ls : aL) (st : List Value) (h : aH) : Option aS := (am_pq st).bind fun y => (am_pq y.2).bind fun x => some (if x.1 = y.1 then pc + 3 else i.2.1, ls, x.2, h)
