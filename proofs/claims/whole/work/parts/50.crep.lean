/-! printed by wip/whole/crep.py: the class's cells, raw: X = its numbers, rows and addresses -/
abbrev aX : Type := Nat × (Nat → Nat) × (Nat → Nat) × (Nat → Int32) × (Nat → Nat → Nat) × (Nat → Nat → Option Nat) × (Nat → Nat → Nat) × (Nat → Nat → Int32) × (Nat → Nat) × (Nat → Nat) × (Nat → Nat → Nat) × (Nat → Nat → Nat) × (Nat → Nat → Nat) × (Nat → Nat → Nat) × (Nat → Nat → Option Nat) × (Nat → Option Nat) × (Nat → Option Nat) × (Nat → Nat) × (Nat → Option Nat) × (Nat → Option aE)
abbrev x_cnt (X : aX) : Nat := X.1
abbrev xs_cnt (X : aX) (v : Nat) : aX := (v, X.2)
abbrev x_dg (X : aX) : Nat → Nat := X.2.1
abbrev xs_dg (X : aX) (v : Nat → Nat) : aX := (X.1, v, X.2.2)
abbrev x_lt (X : aX) : Nat → Nat := X.2.2.1
abbrev xs_lt (X : aX) (v : Nat → Nat) : aX := (X.1, X.2.1, v, X.2.2.2)
abbrev x_lr (X : aX) : Nat → Int32 := X.2.2.2.1
abbrev xs_lr (X : aX) (v : Nat → Int32) : aX := (X.1, X.2.1, X.2.2.1, v, X.2.2.2.2)
abbrev x_sn (X : aX) : Nat → Nat → Nat := X.2.2.2.2.1
abbrev xs_sn (X : aX) (v : Nat → Nat → Nat) : aX := (X.1, X.2.1, X.2.2.1, X.2.2.2.1, v, X.2.2.2.2.2)
abbrev x_ow (X : aX) : Nat → Nat → Option Nat := X.2.2.2.2.2.1
abbrev xs_ow (X : aX) (v : Nat → Nat → Option Nat) : aX := (X.1, X.2.1, X.2.2.1, X.2.2.2.1, X.2.2.2.2.1, v, X.2.2.2.2.2.2)
abbrev x_hs (X : aX) : Nat → Nat → Nat := X.2.2.2.2.2.2.1
abbrev xs_hs (X : aX) (v : Nat → Nat → Nat) : aX := (X.1, X.2.1, X.2.2.1, X.2.2.2.1, X.2.2.2.2.1, X.2.2.2.2.2.1, v, X.2.2.2.2.2.2.2)
abbrev x_iv (X : aX) : Nat → Nat → Int32 := X.2.2.2.2.2.2.2.1
abbrev xs_iv (X : aX) (v : Nat → Nat → Int32) : aX := (X.1, X.2.1, X.2.2.1, X.2.2.2.1, X.2.2.2.2.1, X.2.2.2.2.2.1, X.2.2.2.2.2.2.1, v, X.2.2.2.2.2.2.2.2)
abbrev x_ck (X : aX) : Nat → Nat := X.2.2.2.2.2.2.2.2.1
abbrev xs_ck (X : aX) (v : Nat → Nat) : aX := (X.1, X.2.1, X.2.2.1, X.2.2.2.1, X.2.2.2.2.1, X.2.2.2.2.2.1, X.2.2.2.2.2.2.1, X.2.2.2.2.2.2.2.1, v, X.2.2.2.2.2.2.2.2.2)
abbrev x_kc (X : aX) : Nat → Nat := X.2.2.2.2.2.2.2.2.2.1
abbrev xs_kc (X : aX) (v : Nat → Nat) : aX := (X.1, X.2.1, X.2.2.1, X.2.2.2.1, X.2.2.2.2.1, X.2.2.2.2.2.1, X.2.2.2.2.2.2.1, X.2.2.2.2.2.2.2.1, X.2.2.2.2.2.2.2.2.1, v, X.2.2.2.2.2.2.2.2.2.2)
abbrev x_kn (X : aX) : Nat → Nat → Nat := X.2.2.2.2.2.2.2.2.2.2.1
abbrev xs_kn (X : aX) (v : Nat → Nat → Nat) : aX := (X.1, X.2.1, X.2.2.1, X.2.2.2.1, X.2.2.2.2.1, X.2.2.2.2.2.1, X.2.2.2.2.2.2.1, X.2.2.2.2.2.2.2.1, X.2.2.2.2.2.2.2.2.1, X.2.2.2.2.2.2.2.2.2.1, v, X.2.2.2.2.2.2.2.2.2.2.2)
abbrev x_hd (X : aX) : Nat → Nat → Nat := X.2.2.2.2.2.2.2.2.2.2.2.1
abbrev xs_hd (X : aX) (v : Nat → Nat → Nat) : aX := (X.1, X.2.1, X.2.2.1, X.2.2.2.1, X.2.2.2.2.1, X.2.2.2.2.2.1, X.2.2.2.2.2.2.1, X.2.2.2.2.2.2.2.1, X.2.2.2.2.2.2.2.2.1, X.2.2.2.2.2.2.2.2.2.1, X.2.2.2.2.2.2.2.2.2.2.1, v, X.2.2.2.2.2.2.2.2.2.2.2.2)
abbrev x_sg (X : aX) : Nat → Nat → Nat := X.2.2.2.2.2.2.2.2.2.2.2.2.1
abbrev xs_sg (X : aX) (v : Nat → Nat → Nat) : aX := (X.1, X.2.1, X.2.2.1, X.2.2.2.1, X.2.2.2.2.1, X.2.2.2.2.2.1, X.2.2.2.2.2.2.1, X.2.2.2.2.2.2.2.1, X.2.2.2.2.2.2.2.2.1, X.2.2.2.2.2.2.2.2.2.1, X.2.2.2.2.2.2.2.2.2.2.1, X.2.2.2.2.2.2.2.2.2.2.2.1, v, X.2.2.2.2.2.2.2.2.2.2.2.2.2)
abbrev x_tm (X : aX) : Nat → Nat → Nat := X.2.2.2.2.2.2.2.2.2.2.2.2.2.1
abbrev xs_tm (X : aX) (v : Nat → Nat → Nat) : aX := (X.1, X.2.1, X.2.2.1, X.2.2.2.1, X.2.2.2.2.1, X.2.2.2.2.2.1, X.2.2.2.2.2.2.1, X.2.2.2.2.2.2.2.1, X.2.2.2.2.2.2.2.2.1, X.2.2.2.2.2.2.2.2.2.1, X.2.2.2.2.2.2.2.2.2.2.1, X.2.2.2.2.2.2.2.2.2.2.2.1, X.2.2.2.2.2.2.2.2.2.2.2.2.1, v, X.2.2.2.2.2.2.2.2.2.2.2.2.2.2)
abbrev x_kp (X : aX) : Nat → Nat → Option Nat := X.2.2.2.2.2.2.2.2.2.2.2.2.2.2.1
abbrev xs_kp (X : aX) (v : Nat → Nat → Option Nat) : aX := (X.1, X.2.1, X.2.2.1, X.2.2.2.1, X.2.2.2.2.1, X.2.2.2.2.2.1, X.2.2.2.2.2.2.1, X.2.2.2.2.2.2.2.1, X.2.2.2.2.2.2.2.2.1, X.2.2.2.2.2.2.2.2.2.1, X.2.2.2.2.2.2.2.2.2.2.1, X.2.2.2.2.2.2.2.2.2.2.2.1, X.2.2.2.2.2.2.2.2.2.2.2.2.1, X.2.2.2.2.2.2.2.2.2.2.2.2.2.1, v, X.2.2.2.2.2.2.2.2.2.2.2.2.2.2.2)
abbrev x_lf (X : aX) : Nat → Option Nat := X.2.2.2.2.2.2.2.2.2.2.2.2.2.2.2.1
abbrev xs_lf (X : aX) (v : Nat → Option Nat) : aX := (X.1, X.2.1, X.2.2.1, X.2.2.2.1, X.2.2.2.2.1, X.2.2.2.2.2.1, X.2.2.2.2.2.2.1, X.2.2.2.2.2.2.2.1, X.2.2.2.2.2.2.2.2.1, X.2.2.2.2.2.2.2.2.2.1, X.2.2.2.2.2.2.2.2.2.2.1, X.2.2.2.2.2.2.2.2.2.2.2.1, X.2.2.2.2.2.2.2.2.2.2.2.2.1, X.2.2.2.2.2.2.2.2.2.2.2.2.2.1, X.2.2.2.2.2.2.2.2.2.2.2.2.2.2.1, v, X.2.2.2.2.2.2.2.2.2.2.2.2.2.2.2.2)
abbrev x_ll (X : aX) : Nat → Option Nat := X.2.2.2.2.2.2.2.2.2.2.2.2.2.2.2.2.1
abbrev xs_ll (X : aX) (v : Nat → Option Nat) : aX := (X.1, X.2.1, X.2.2.1, X.2.2.2.1, X.2.2.2.2.1, X.2.2.2.2.2.1, X.2.2.2.2.2.2.1, X.2.2.2.2.2.2.2.1, X.2.2.2.2.2.2.2.2.1, X.2.2.2.2.2.2.2.2.2.1, X.2.2.2.2.2.2.2.2.2.2.1, X.2.2.2.2.2.2.2.2.2.2.2.1, X.2.2.2.2.2.2.2.2.2.2.2.2.1, X.2.2.2.2.2.2.2.2.2.2.2.2.2.1, X.2.2.2.2.2.2.2.2.2.2.2.2.2.2.1, X.2.2.2.2.2.2.2.2.2.2.2.2.2.2.2.1, v, X.2.2.2.2.2.2.2.2.2.2.2.2.2.2.2.2.2)
abbrev x_lc (X : aX) : Nat → Nat := X.2.2.2.2.2.2.2.2.2.2.2.2.2.2.2.2.2.1
abbrev xs_lc (X : aX) (v : Nat → Nat) : aX := (X.1, X.2.1, X.2.2.1, X.2.2.2.1, X.2.2.2.2.1, X.2.2.2.2.2.1, X.2.2.2.2.2.2.1, X.2.2.2.2.2.2.2.1, X.2.2.2.2.2.2.2.2.1, X.2.2.2.2.2.2.2.2.2.1, X.2.2.2.2.2.2.2.2.2.2.1, X.2.2.2.2.2.2.2.2.2.2.2.1, X.2.2.2.2.2.2.2.2.2.2.2.2.1, X.2.2.2.2.2.2.2.2.2.2.2.2.2.1, X.2.2.2.2.2.2.2.2.2.2.2.2.2.2.1, X.2.2.2.2.2.2.2.2.2.2.2.2.2.2.2.1, X.2.2.2.2.2.2.2.2.2.2.2.2.2.2.2.2.1, v, X.2.2.2.2.2.2.2.2.2.2.2.2.2.2.2.2.2.2)
abbrev x_ta (X : aX) : Nat → Option Nat := X.2.2.2.2.2.2.2.2.2.2.2.2.2.2.2.2.2.2.1
abbrev xs_ta (X : aX) (v : Nat → Option Nat) : aX := (X.1, X.2.1, X.2.2.1, X.2.2.2.1, X.2.2.2.2.1, X.2.2.2.2.2.1, X.2.2.2.2.2.2.1, X.2.2.2.2.2.2.2.1, X.2.2.2.2.2.2.2.2.1, X.2.2.2.2.2.2.2.2.2.1, X.2.2.2.2.2.2.2.2.2.2.1, X.2.2.2.2.2.2.2.2.2.2.2.1, X.2.2.2.2.2.2.2.2.2.2.2.2.1, X.2.2.2.2.2.2.2.2.2.2.2.2.2.1, X.2.2.2.2.2.2.2.2.2.2.2.2.2.2.1, X.2.2.2.2.2.2.2.2.2.2.2.2.2.2.2.1, X.2.2.2.2.2.2.2.2.2.2.2.2.2.2.2.2.1, X.2.2.2.2.2.2.2.2.2.2.2.2.2.2.2.2.2.1, v, X.2.2.2.2.2.2.2.2.2.2.2.2.2.2.2.2.2.2.2)
abbrev x_Y (X : aX) : Nat → Option aE := X.2.2.2.2.2.2.2.2.2.2.2.2.2.2.2.2.2.2.2
abbrev xs_Y (X : aX) (v : Nat → Option aE) : aX := (X.1, X.2.1, X.2.2.1, X.2.2.2.1, X.2.2.2.2.1, X.2.2.2.2.2.1, X.2.2.2.2.2.2.1, X.2.2.2.2.2.2.2.1, X.2.2.2.2.2.2.2.2.1, X.2.2.2.2.2.2.2.2.2.1, X.2.2.2.2.2.2.2.2.2.2.1, X.2.2.2.2.2.2.2.2.2.2.2.1, X.2.2.2.2.2.2.2.2.2.2.2.2.1, X.2.2.2.2.2.2.2.2.2.2.2.2.2.1, X.2.2.2.2.2.2.2.2.2.2.2.2.2.2.1, X.2.2.2.2.2.2.2.2.2.2.2.2.2.2.2.1, X.2.2.2.2.2.2.2.2.2.2.2.2.2.2.2.2.1, X.2.2.2.2.2.2.2.2.2.2.2.2.2.2.2.2.2.1, X.2.2.2.2.2.2.2.2.2.2.2.2.2.2.2.2.2.2.1, v)
def lkl (l : Nat) : Prop := l < 36 ∧ lkF (l / 6) (l % 6)
def lkd (l : Nat) : Bool := decide (l < 36) && decide (lkF (l / 6) (l % 6))
def rk (l : Nat) : Nat := cntF lkd l
theorem rk_lt : ∀ l, l < 36 → lkd l = true → rk l < 18 := by decide +kernel
theorem rk_inj : ∀ a, a < 36 → ∀ b, b < 36 → lkd a = true → lkd b = true → rk a = rk b → a = b := by decide +kernel
def RC (g : Nat → Option aE) (h : aH) (c : Nat) (X : aX) : Prop :=
  (h.2.2 (c) = some (.inr (0, [.ref (c + 1), .ref (c + 38), .ref (c + 75), .ref (c + 94), .int (nI (x_cnt X))]))) ∧
  (h.2.2 (c + 1) = some (.inl (1, 6, .inr (fun i => if i < 6 then some (c + 2 + 6 * i) else none)))) ∧
  (∀ i, i < 6 → h.2.2 (c + 2 + 6 * i) = some (.inr (1, [.int (nI (i % 3)), .ref (c + 3 + 6 * i), .ref (c + 4 + 6 * i), .ref (c + 5 + 6 * i), .int (nI (x_dg X i)), .int (nI (x_lt X i)), .int (x_lr X i)]))) ∧
  (∀ i, i < 6 → h.2.2 (c + 3 + 6 * i) = some (.inl (0, 3, .inl (fun p => nI (x_sn X i p))))) ∧
  (∀ i, i < 6 → h.2.2 (c + 4 + 6 * i) = some (.inl (5, 8, .inr (x_ow X i)))) ∧
  (∀ i, i < 6 → h.2.2 (c + 5 + 6 * i) = some (.inr (6, [.ref (c + 6 + 6 * i), .ref (c + 7 + 6 * i)]))) ∧
  (∀ i, i < 6 → h.2.2 (c + 6 + 6 * i) = some (.inl (1, 8, .inl (fun k => nI (x_hs X i k))))) ∧
  (∀ i, i < 6 → h.2.2 (c + 7 + 6 * i) = some (.inl (0, 8, .inl (x_iv X i)))) ∧
  (h.2.2 (c + 38) = some (.inl (4, 6, .inr (fun i => if i < 6 then some (c + 39 + 6 * i) else none)))) ∧
  (∀ i, i < 6 → h.2.2 (c + 39 + 6 * i) = some (.inr (4, [.int (nI i), .int (nI (i / 2)), .ref (c + 40 + 6 * i), .ref (c + 41 + 6 * i), .ref (c + 42 + 6 * i), .ref (c + 43 + 6 * i), .ref (c + 44 + 6 * i), .int (nI (x_kc X i)), .int (nI (x_ck X i))]))) ∧
  (∀ i, i < 6 → h.2.2 (c + 40 + 6 * i) = some (.inl (0, 3, .inl (fun p => nI (x_kn X i p))))) ∧
  (∀ i, i < 6 → h.2.2 (c + 41 + 6 * i) = some (.inl (0, 3, .inl (fun p => nI (x_hd X i p))))) ∧
  (∀ i, i < 6 → h.2.2 (c + 42 + 6 * i) = some (.inl (0, 200, .inl (fun p => nI (x_sg X i p))))) ∧
  (∀ i, i < 6 → h.2.2 (c + 43 + 6 * i) = some (.inl (0, 200, .inl (fun p => nI (x_tm X i p))))) ∧
  (∀ i, i < 6 → h.2.2 (c + 44 + 6 * i) = some (.inl (5, 200, .inr (x_kp X i)))) ∧
  (h.2.2 (c + 75) = some (.inl (2, 36, .inr (fun l => if lkd l = true then some (c + 76 + rk l) else none)))) ∧
  (∀ l, l < 36 → lkd l = true → h.2.2 (c + 76 + rk l) = some (.inr (2, [va_rf (x_lf X l), va_rf (x_ll X l), .int (nI (x_lc X l))]))) ∧
  (h.2.2 (c + 94) = some (.inl (5, 200, .inr (x_ta X)))) ∧
  (∀ a e, x_Y X a = some e → h.2.2 a = some e ∧ c + 95 ≤ a ∧ a < h.1) ∧
  (∀ a e, g a = some e → h.2.2 a = some e ∧ a < h.1 ∧ (a < c ∨ c + 95 ≤ a) ∧ x_Y X a = none) ∧ c + 95 ≤ h.1
section RCS
variable {g : Nat → Option aE} {h : aH} {c : Nat} {X : aX}
theorem kA0 (hR : RC g h c X) : h.2.2 (c) = some (.inr (0, [.ref (c + 1), .ref (c + 38), .ref (c + 75), .ref (c + 94), .int (nI (x_cnt X))])) := hR.1
theorem kA1 (hR : RC g h c X) : h.2.2 (c + 1) = some (.inl (1, 6, .inr (fun i => if i < 6 then some (c + 2 + 6 * i) else none))) := hR.2.1
theorem kC0 (hR : RC g h c X) : ∀ i, i < 6 → h.2.2 (c + 2 + 6 * i) = some (.inr (1, [.int (nI (i % 3)), .ref (c + 3 + 6 * i), .ref (c + 4 + 6 * i), .ref (c + 5 + 6 * i), .int (nI (x_dg X i)), .int (nI (x_lt X i)), .int (x_lr X i)])) := hR.2.2.1
theorem kC1 (hR : RC g h c X) : ∀ i, i < 6 → h.2.2 (c + 3 + 6 * i) = some (.inl (0, 3, .inl (fun p => nI (x_sn X i p)))) := hR.2.2.2.1
theorem kC2 (hR : RC g h c X) : ∀ i, i < 6 → h.2.2 (c + 4 + 6 * i) = some (.inl (5, 8, .inr (x_ow X i))) := hR.2.2.2.2.1
theorem kC3 (hR : RC g h c X) : ∀ i, i < 6 → h.2.2 (c + 5 + 6 * i) = some (.inr (6, [.ref (c + 6 + 6 * i), .ref (c + 7 + 6 * i)])) := hR.2.2.2.2.2.1
theorem kC4 (hR : RC g h c X) : ∀ i, i < 6 → h.2.2 (c + 6 + 6 * i) = some (.inl (1, 8, .inl (fun k => nI (x_hs X i k)))) := hR.2.2.2.2.2.2.1
theorem kC5 (hR : RC g h c X) : ∀ i, i < 6 → h.2.2 (c + 7 + 6 * i) = some (.inl (0, 8, .inl (x_iv X i))) := hR.2.2.2.2.2.2.2.1
theorem kA2 (hR : RC g h c X) : h.2.2 (c + 38) = some (.inl (4, 6, .inr (fun i => if i < 6 then some (c + 39 + 6 * i) else none))) := hR.2.2.2.2.2.2.2.2.1
theorem kV0 (hR : RC g h c X) : ∀ i, i < 6 → h.2.2 (c + 39 + 6 * i) = some (.inr (4, [.int (nI i), .int (nI (i / 2)), .ref (c + 40 + 6 * i), .ref (c + 41 + 6 * i), .ref (c + 42 + 6 * i), .ref (c + 43 + 6 * i), .ref (c + 44 + 6 * i), .int (nI (x_kc X i)), .int (nI (x_ck X i))])) := hR.2.2.2.2.2.2.2.2.2.1
theorem kV1 (hR : RC g h c X) : ∀ i, i < 6 → h.2.2 (c + 40 + 6 * i) = some (.inl (0, 3, .inl (fun p => nI (x_kn X i p)))) := hR.2.2.2.2.2.2.2.2.2.2.1
theorem kV2 (hR : RC g h c X) : ∀ i, i < 6 → h.2.2 (c + 41 + 6 * i) = some (.inl (0, 3, .inl (fun p => nI (x_hd X i p)))) := hR.2.2.2.2.2.2.2.2.2.2.2.1
theorem kV3 (hR : RC g h c X) : ∀ i, i < 6 → h.2.2 (c + 42 + 6 * i) = some (.inl (0, 200, .inl (fun p => nI (x_sg X i p)))) := hR.2.2.2.2.2.2.2.2.2.2.2.2.1
theorem kV4 (hR : RC g h c X) : ∀ i, i < 6 → h.2.2 (c + 43 + 6 * i) = some (.inl (0, 200, .inl (fun p => nI (x_tm X i p)))) := hR.2.2.2.2.2.2.2.2.2.2.2.2.2.1
theorem kV5 (hR : RC g h c X) : ∀ i, i < 6 → h.2.2 (c + 44 + 6 * i) = some (.inl (5, 200, .inr (x_kp X i))) := hR.2.2.2.2.2.2.2.2.2.2.2.2.2.2.1
theorem kA3 (hR : RC g h c X) : h.2.2 (c + 75) = some (.inl (2, 36, .inr (fun l => if lkd l = true then some (c + 76 + rk l) else none))) := hR.2.2.2.2.2.2.2.2.2.2.2.2.2.2.2.1
theorem kL0 (hR : RC g h c X) : ∀ l, l < 36 → lkd l = true → h.2.2 (c + 76 + rk l) = some (.inr (2, [va_rf (x_lf X l), va_rf (x_ll X l), .int (nI (x_lc X l))])) := hR.2.2.2.2.2.2.2.2.2.2.2.2.2.2.2.2.1
theorem kA4 (hR : RC g h c X) : h.2.2 (c + 94) = some (.inl (5, 200, .inr (x_ta X))) := hR.2.2.2.2.2.2.2.2.2.2.2.2.2.2.2.2.2.1
theorem kY (hR : RC g h c X) {a : Nat} {e : aE} (ha : x_Y X a = some e) : h.2.2 a = some e := (hR.2.2.2.2.2.2.2.2.2.2.2.2.2.2.2.2.2.2.1 a e ha).1
theorem oA0 (hR : RC g h c X) : (am_fld h 0 (c)).isSome = true := am_fld_of (kA0 hR)
theorem gA0_0 {F : Value → Prop} (hR : RC g h c X) : am_gf h 0 (c) 0 F = F (.ref (c + 1)) := am_gf_of (kA0 hR) rfl
theorem gA0_1 {F : Value → Prop} (hR : RC g h c X) : am_gf h 0 (c) 1 F = F (.ref (c + 38)) := am_gf_of (kA0 hR) rfl
theorem gA0_2 {F : Value → Prop} (hR : RC g h c X) : am_gf h 0 (c) 2 F = F (.ref (c + 75)) := am_gf_of (kA0 hR) rfl
theorem gA0_3 {F : Value → Prop} (hR : RC g h c X) : am_gf h 0 (c) 3 F = F (.ref (c + 94)) := am_gf_of (kA0 hR) rfl
theorem gA0_4 {F : Value → Prop} (hR : RC g h c X) : am_gf h 0 (c) 4 F = F (.int (nI (x_cnt X))) := am_gf_of (kA0 hR) rfl
theorem nA1 {F : Nat → Prop} (hR : RC g h c X) : am_gl h (c + 1) F = F 6 := am_gl_of (kA1 hR)
theorem rA1 {F : Option Nat → Prop} {e : Nat} (hR : RC g h c X) (he : e < 6) : am_gq h (c + 1) (nI e) F = F (if e < 6 then some (c + 2 + 6 * e) else none) := by
  rw [am_gq_of (kA1 hR) (am_in_nI he (by decide)), nI_clamp (by omega)]
theorem oC0 {i : Nat} (hi : i < 6) (hR : RC g h c X) : (am_fld h 1 (c + 2 + 6 * i)).isSome = true := am_fld_of (kC0 hR i hi)
theorem gC0_0 {i : Nat} (hi : i < 6) {F : Value → Prop} (hR : RC g h c X) : am_gf h 1 (c + 2 + 6 * i) 0 F = F (.int (nI (i % 3))) := am_gf_of (kC0 hR i hi) rfl
theorem gC0_1 {i : Nat} (hi : i < 6) {F : Value → Prop} (hR : RC g h c X) : am_gf h 1 (c + 2 + 6 * i) 1 F = F (.ref (c + 3 + 6 * i)) := am_gf_of (kC0 hR i hi) rfl
theorem gC0_2 {i : Nat} (hi : i < 6) {F : Value → Prop} (hR : RC g h c X) : am_gf h 1 (c + 2 + 6 * i) 2 F = F (.ref (c + 4 + 6 * i)) := am_gf_of (kC0 hR i hi) rfl
theorem gC0_3 {i : Nat} (hi : i < 6) {F : Value → Prop} (hR : RC g h c X) : am_gf h 1 (c + 2 + 6 * i) 3 F = F (.ref (c + 5 + 6 * i)) := am_gf_of (kC0 hR i hi) rfl
theorem gC0_4 {i : Nat} (hi : i < 6) {F : Value → Prop} (hR : RC g h c X) : am_gf h 1 (c + 2 + 6 * i) 4 F = F (.int (nI (x_dg X i))) := am_gf_of (kC0 hR i hi) rfl
theorem gC0_5 {i : Nat} (hi : i < 6) {F : Value → Prop} (hR : RC g h c X) : am_gf h 1 (c + 2 + 6 * i) 5 F = F (.int (nI (x_lt X i))) := am_gf_of (kC0 hR i hi) rfl
theorem gC0_6 {i : Nat} (hi : i < 6) {F : Value → Prop} (hR : RC g h c X) : am_gf h 1 (c + 2 + 6 * i) 6 F = F (.int (x_lr X i)) := am_gf_of (kC0 hR i hi) rfl
theorem nC1 {i : Nat} (hi : i < 6) {F : Nat → Prop} (hR : RC g h c X) : am_gl h (c + 3 + 6 * i) F = F 3 := am_gl_of (kC1 hR i hi)
theorem rC1 {i : Nat} (hi : i < 6) {F : Int32 → Prop} {e : Nat} (hR : RC g h c X) (he : e < 3) : am_ga h (c + 3 + 6 * i) (nI e) F = F (nI (x_sn X i e)) := by
  rw [am_ga_of (kC1 hR i hi) (Or.inl rfl) (am_in_nI he (by decide)), nI_clamp (by omega)]
theorem nC2 {i : Nat} (hi : i < 6) {F : Nat → Prop} (hR : RC g h c X) : am_gl h (c + 4 + 6 * i) F = F 8 := am_gl_of (kC2 hR i hi)
theorem rC2 {i : Nat} (hi : i < 6) {F : Option Nat → Prop} {e : Nat} (hR : RC g h c X) (he : e < 8) : am_gq h (c + 4 + 6 * i) (nI e) F = F (x_ow X i e) := by
  rw [am_gq_of (kC2 hR i hi) (am_in_nI he (by decide)), nI_clamp (by omega)]
theorem oC3 {i : Nat} (hi : i < 6) (hR : RC g h c X) : (am_fld h 6 (c + 5 + 6 * i)).isSome = true := am_fld_of (kC3 hR i hi)
theorem gC3_0 {i : Nat} (hi : i < 6) {F : Value → Prop} (hR : RC g h c X) : am_gf h 6 (c + 5 + 6 * i) 0 F = F (.ref (c + 6 + 6 * i)) := am_gf_of (kC3 hR i hi) rfl
theorem gC3_1 {i : Nat} (hi : i < 6) {F : Value → Prop} (hR : RC g h c X) : am_gf h 6 (c + 5 + 6 * i) 1 F = F (.ref (c + 7 + 6 * i)) := am_gf_of (kC3 hR i hi) rfl
theorem nC4 {i : Nat} (hi : i < 6) {F : Nat → Prop} (hR : RC g h c X) : am_gl h (c + 6 + 6 * i) F = F 8 := am_gl_of (kC4 hR i hi)
theorem rC4 {i : Nat} (hi : i < 6) {F : Int32 → Prop} {e : Nat} (hR : RC g h c X) (he : e < 8) : am_gaz h (c + 6 + 6 * i) (nI e) F = F (nI (x_hs X i e)) := by
  rw [am_gaz_of (kC4 hR i hi) (am_in_nI he (by decide)), nI_clamp (by omega)]
theorem nC5 {i : Nat} (hi : i < 6) {F : Nat → Prop} (hR : RC g h c X) : am_gl h (c + 7 + 6 * i) F = F 8 := am_gl_of (kC5 hR i hi)
theorem rC5 {i : Nat} (hi : i < 6) {F : Int32 → Prop} {e : Nat} (hR : RC g h c X) (he : e < 8) : am_ga h (c + 7 + 6 * i) (nI e) F = F (x_iv X i e) := by
  rw [am_ga_of (kC5 hR i hi) (Or.inl rfl) (am_in_nI he (by decide)), nI_clamp (by omega)]
theorem nA2 {F : Nat → Prop} (hR : RC g h c X) : am_gl h (c + 38) F = F 6 := am_gl_of (kA2 hR)
theorem rA2 {F : Option Nat → Prop} {e : Nat} (hR : RC g h c X) (he : e < 6) : am_gq h (c + 38) (nI e) F = F (if e < 6 then some (c + 39 + 6 * e) else none) := by
  rw [am_gq_of (kA2 hR) (am_in_nI he (by decide)), nI_clamp (by omega)]
theorem oV0 {i : Nat} (hi : i < 6) (hR : RC g h c X) : (am_fld h 4 (c + 39 + 6 * i)).isSome = true := am_fld_of (kV0 hR i hi)
theorem gV0_0 {i : Nat} (hi : i < 6) {F : Value → Prop} (hR : RC g h c X) : am_gf h 4 (c + 39 + 6 * i) 0 F = F (.int (nI i)) := am_gf_of (kV0 hR i hi) rfl
theorem gV0_1 {i : Nat} (hi : i < 6) {F : Value → Prop} (hR : RC g h c X) : am_gf h 4 (c + 39 + 6 * i) 1 F = F (.int (nI (i / 2))) := am_gf_of (kV0 hR i hi) rfl
theorem gV0_2 {i : Nat} (hi : i < 6) {F : Value → Prop} (hR : RC g h c X) : am_gf h 4 (c + 39 + 6 * i) 2 F = F (.ref (c + 40 + 6 * i)) := am_gf_of (kV0 hR i hi) rfl
theorem gV0_3 {i : Nat} (hi : i < 6) {F : Value → Prop} (hR : RC g h c X) : am_gf h 4 (c + 39 + 6 * i) 3 F = F (.ref (c + 41 + 6 * i)) := am_gf_of (kV0 hR i hi) rfl
theorem gV0_4 {i : Nat} (hi : i < 6) {F : Value → Prop} (hR : RC g h c X) : am_gf h 4 (c + 39 + 6 * i) 4 F = F (.ref (c + 42 + 6 * i)) := am_gf_of (kV0 hR i hi) rfl
theorem gV0_5 {i : Nat} (hi : i < 6) {F : Value → Prop} (hR : RC g h c X) : am_gf h 4 (c + 39 + 6 * i) 5 F = F (.ref (c + 43 + 6 * i)) := am_gf_of (kV0 hR i hi) rfl
theorem gV0_6 {i : Nat} (hi : i < 6) {F : Value → Prop} (hR : RC g h c X) : am_gf h 4 (c + 39 + 6 * i) 6 F = F (.ref (c + 44 + 6 * i)) := am_gf_of (kV0 hR i hi) rfl
theorem gV0_7 {i : Nat} (hi : i < 6) {F : Value → Prop} (hR : RC g h c X) : am_gf h 4 (c + 39 + 6 * i) 7 F = F (.int (nI (x_kc X i))) := am_gf_of (kV0 hR i hi) rfl
theorem gV0_8 {i : Nat} (hi : i < 6) {F : Value → Prop} (hR : RC g h c X) : am_gf h 4 (c + 39 + 6 * i) 8 F = F (.int (nI (x_ck X i))) := am_gf_of (kV0 hR i hi) rfl
theorem nV1 {i : Nat} (hi : i < 6) {F : Nat → Prop} (hR : RC g h c X) : am_gl h (c + 40 + 6 * i) F = F 3 := am_gl_of (kV1 hR i hi)
theorem rV1 {i : Nat} (hi : i < 6) {F : Int32 → Prop} {e : Nat} (hR : RC g h c X) (he : e < 3) : am_ga h (c + 40 + 6 * i) (nI e) F = F (nI (x_kn X i e)) := by
  rw [am_ga_of (kV1 hR i hi) (Or.inl rfl) (am_in_nI he (by decide)), nI_clamp (by omega)]
theorem nV2 {i : Nat} (hi : i < 6) {F : Nat → Prop} (hR : RC g h c X) : am_gl h (c + 41 + 6 * i) F = F 3 := am_gl_of (kV2 hR i hi)
theorem rV2 {i : Nat} (hi : i < 6) {F : Int32 → Prop} {e : Nat} (hR : RC g h c X) (he : e < 3) : am_ga h (c + 41 + 6 * i) (nI e) F = F (nI (x_hd X i e)) := by
  rw [am_ga_of (kV2 hR i hi) (Or.inl rfl) (am_in_nI he (by decide)), nI_clamp (by omega)]
theorem nV3 {i : Nat} (hi : i < 6) {F : Nat → Prop} (hR : RC g h c X) : am_gl h (c + 42 + 6 * i) F = F 200 := am_gl_of (kV3 hR i hi)
theorem rV3 {i : Nat} (hi : i < 6) {F : Int32 → Prop} {e : Nat} (hR : RC g h c X) (he : e < 200) : am_ga h (c + 42 + 6 * i) (nI e) F = F (nI (x_sg X i e)) := by
  rw [am_ga_of (kV3 hR i hi) (Or.inl rfl) (am_in_nI he (by decide)), nI_clamp (by omega)]
theorem nV4 {i : Nat} (hi : i < 6) {F : Nat → Prop} (hR : RC g h c X) : am_gl h (c + 43 + 6 * i) F = F 200 := am_gl_of (kV4 hR i hi)
theorem rV4 {i : Nat} (hi : i < 6) {F : Int32 → Prop} {e : Nat} (hR : RC g h c X) (he : e < 200) : am_ga h (c + 43 + 6 * i) (nI e) F = F (nI (x_tm X i e)) := by
  rw [am_ga_of (kV4 hR i hi) (Or.inl rfl) (am_in_nI he (by decide)), nI_clamp (by omega)]
theorem nV5 {i : Nat} (hi : i < 6) {F : Nat → Prop} (hR : RC g h c X) : am_gl h (c + 44 + 6 * i) F = F 200 := am_gl_of (kV5 hR i hi)
theorem rV5 {i : Nat} (hi : i < 6) {F : Option Nat → Prop} {e : Nat} (hR : RC g h c X) (he : e < 200) : am_gq h (c + 44 + 6 * i) (nI e) F = F (x_kp X i e) := by
  rw [am_gq_of (kV5 hR i hi) (am_in_nI he (by decide)), nI_clamp (by omega)]
theorem nA3 {F : Nat → Prop} (hR : RC g h c X) : am_gl h (c + 75) F = F 36 := am_gl_of (kA3 hR)
theorem rA3 {F : Option Nat → Prop} {e : Nat} (hR : RC g h c X) (he : e < 36) : am_gq h (c + 75) (nI e) F = F (if lkd e = true then some (c + 76 + rk e) else none) := by
  rw [am_gq_of (kA3 hR) (am_in_nI he (by decide)), nI_clamp (by omega)]
theorem oL0 {l : Nat} (hl : l < 36) (hk : lkd l = true) (hR : RC g h c X) : (am_fld h 2 (c + 76 + rk l)).isSome = true := am_fld_of (kL0 hR l hl hk)
theorem gL0_0 {l : Nat} (hl : l < 36) (hk : lkd l = true) {F : Value → Prop} (hR : RC g h c X) : am_gf h 2 (c + 76 + rk l) 0 F = F (va_rf (x_lf X l)) := am_gf_of (kL0 hR l hl hk) rfl
theorem gL0_1 {l : Nat} (hl : l < 36) (hk : lkd l = true) {F : Value → Prop} (hR : RC g h c X) : am_gf h 2 (c + 76 + rk l) 1 F = F (va_rf (x_ll X l)) := am_gf_of (kL0 hR l hl hk) rfl
theorem gL0_2 {l : Nat} (hl : l < 36) (hk : lkd l = true) {F : Value → Prop} (hR : RC g h c X) : am_gf h 2 (c + 76 + rk l) 2 F = F (.int (nI (x_lc X l))) := am_gf_of (kL0 hR l hl hk) rfl
theorem nA4 {F : Nat → Prop} (hR : RC g h c X) : am_gl h (c + 94) F = F 200 := am_gl_of (kA4 hR)
theorem rA4 {F : Option Nat → Prop} {e : Nat} (hR : RC g h c X) (he : e < 200) : am_gq h (c + 94) (nI e) F = F (x_ta X e) := by
  rw [am_gq_of (kA4 hR) (am_in_nI he (by decide)), nI_clamp (by omega)]
theorem vu_s {β : Type} {f : Nat → β} {i : Nat} {v : β} : va_up f i v i = v := if_pos rfl
theorem vu_n {β : Type} {f : Nat → β} {i j : Nat} {v : β} (hj : ¬ j = i) : va_up f i v j = f j := if_neg hj
theorem uA0 {v : Nat} (hR : RC g h c X) : RC g (am_up h (c) (.inr (0, [.ref (c + 1), .ref (c + 38), .ref (c + 75), .ref (c + 94), .int (nI v)]))) c (xs_cnt X v) := by
  obtain ⟨r_A0, r_A1, r_C0, r_C1, r_C2, r_C3, r_C4, r_C5, r_A2, r_V0, r_V1, r_V2, r_V3, r_V4, r_V5, r_A3, r_L0, r_A4, r_Y, r_G, r_Z⟩ := hR
  refine ⟨?_, ?_, fun j hj => ?_, fun j hj => ?_, fun j hj => ?_, fun j hj => ?_, fun j hj => ?_, fun j hj => ?_, ?_, fun j hj => ?_, fun j hj => ?_, fun j hj => ?_, fun j hj => ?_, fun j hj => ?_, fun j hj => ?_, ?_, fun j hj hkj => ?_, ?_, fun a e he => ?_, fun a e he => ?_, r_Z⟩
  · exact if_pos rfl
  · exact (if_neg (show ¬ c + 1 = c by omega)).trans (r_A1)
  · exact (if_neg (show ¬ c + 2 + 6 * j = c by omega)).trans (r_C0 j hj)
  · exact (if_neg (show ¬ c + 3 + 6 * j = c by omega)).trans (r_C1 j hj)
  · exact (if_neg (show ¬ c + 4 + 6 * j = c by omega)).trans (r_C2 j hj)
  · exact (if_neg (show ¬ c + 5 + 6 * j = c by omega)).trans (r_C3 j hj)
  · exact (if_neg (show ¬ c + 6 + 6 * j = c by omega)).trans (r_C4 j hj)
  · exact (if_neg (show ¬ c + 7 + 6 * j = c by omega)).trans (r_C5 j hj)
  · exact (if_neg (show ¬ c + 38 = c by omega)).trans (r_A2)
  · exact (if_neg (show ¬ c + 39 + 6 * j = c by omega)).trans (r_V0 j hj)
  · exact (if_neg (show ¬ c + 40 + 6 * j = c by omega)).trans (r_V1 j hj)
  · exact (if_neg (show ¬ c + 41 + 6 * j = c by omega)).trans (r_V2 j hj)
  · exact (if_neg (show ¬ c + 42 + 6 * j = c by omega)).trans (r_V3 j hj)
  · exact (if_neg (show ¬ c + 43 + 6 * j = c by omega)).trans (r_V4 j hj)
  · exact (if_neg (show ¬ c + 44 + 6 * j = c by omega)).trans (r_V5 j hj)
  · exact (if_neg (show ¬ c + 75 = c by omega)).trans (r_A3)
  · have hrj := rk_lt j hj hkj
    exact (if_neg (show ¬ c + 76 + rk j = c by omega)).trans (r_L0 j hj hkj)
  · exact (if_neg (show ¬ c + 94 = c by omega)).trans (r_A4)
  · have q := r_Y a e he
    exact ⟨(if_neg (show ¬ a = c by omega)).trans q.1, q.2⟩
  · have q := r_G a e he
    exact ⟨(if_neg (show ¬ a = c by omega)).trans q.1, q.2⟩
theorem uC0_dg {i : Nat} {v : Nat} (hR : RC g h c X) (hi : i < 6) : RC g (am_up h (c + 2 + 6 * i) (.inr (1, [.int (nI (i % 3)), .ref (c + 3 + 6 * i), .ref (c + 4 + 6 * i), .ref (c + 5 + 6 * i), .int (nI v), .int (nI (x_lt X i)), .int (x_lr X i)]))) c (xs_dg X (va_up (x_dg X) i v)) := by
  obtain ⟨r_A0, r_A1, r_C0, r_C1, r_C2, r_C3, r_C4, r_C5, r_A2, r_V0, r_V1, r_V2, r_V3, r_V4, r_V5, r_A3, r_L0, r_A4, r_Y, r_G, r_Z⟩ := hR
  refine ⟨?_, ?_, fun j hj => ?_, fun j hj => ?_, fun j hj => ?_, fun j hj => ?_, fun j hj => ?_, fun j hj => ?_, ?_, fun j hj => ?_, fun j hj => ?_, fun j hj => ?_, fun j hj => ?_, fun j hj => ?_, fun j hj => ?_, ?_, fun j hj hkj => ?_, ?_, fun a e he => ?_, fun a e he => ?_, r_Z⟩
  · exact (if_neg (show ¬ c = c + 2 + 6 * i by omega)).trans (r_A0)
  · exact (if_neg (show ¬ c + 1 = c + 2 + 6 * i by omega)).trans (r_A1)
  · by_cases hji : j = i
    · subst hji
      refine (if_pos rfl).trans ?_
      simp [x_dg, xs_dg, va_up]
    · refine (if_neg (show ¬ c + 2 + 6 * j = c + 2 + 6 * i from (by omega))).trans ?_
      refine (r_C0 j hj).trans ?_
      simp [x_dg, xs_dg, va_up, hji]
  · exact (if_neg (show ¬ c + 3 + 6 * j = c + 2 + 6 * i by omega)).trans (r_C1 j hj)
  · exact (if_neg (show ¬ c + 4 + 6 * j = c + 2 + 6 * i by omega)).trans (r_C2 j hj)
  · exact (if_neg (show ¬ c + 5 + 6 * j = c + 2 + 6 * i by omega)).trans (r_C3 j hj)
  · exact (if_neg (show ¬ c + 6 + 6 * j = c + 2 + 6 * i by omega)).trans (r_C4 j hj)
  · exact (if_neg (show ¬ c + 7 + 6 * j = c + 2 + 6 * i by omega)).trans (r_C5 j hj)
  · exact (if_neg (show ¬ c + 38 = c + 2 + 6 * i by omega)).trans (r_A2)
  · exact (if_neg (show ¬ c + 39 + 6 * j = c + 2 + 6 * i by omega)).trans (r_V0 j hj)
  · exact (if_neg (show ¬ c + 40 + 6 * j = c + 2 + 6 * i by omega)).trans (r_V1 j hj)
  · exact (if_neg (show ¬ c + 41 + 6 * j = c + 2 + 6 * i by omega)).trans (r_V2 j hj)
  · exact (if_neg (show ¬ c + 42 + 6 * j = c + 2 + 6 * i by omega)).trans (r_V3 j hj)
  · exact (if_neg (show ¬ c + 43 + 6 * j = c + 2 + 6 * i by omega)).trans (r_V4 j hj)
  · exact (if_neg (show ¬ c + 44 + 6 * j = c + 2 + 6 * i by omega)).trans (r_V5 j hj)
  · exact (if_neg (show ¬ c + 75 = c + 2 + 6 * i by omega)).trans (r_A3)
  · have hrj := rk_lt j hj hkj
    exact (if_neg (show ¬ c + 76 + rk j = c + 2 + 6 * i by omega)).trans (r_L0 j hj hkj)
  · exact (if_neg (show ¬ c + 94 = c + 2 + 6 * i by omega)).trans (r_A4)
  · have q := r_Y a e he
    exact ⟨(if_neg (show ¬ a = c + 2 + 6 * i by omega)).trans q.1, q.2⟩
  · have q := r_G a e he
    exact ⟨(if_neg (show ¬ a = c + 2 + 6 * i by omega)).trans q.1, q.2⟩
theorem uC0_lt {i : Nat} {v : Nat} (hR : RC g h c X) (hi : i < 6) : RC g (am_up h (c + 2 + 6 * i) (.inr (1, [.int (nI (i % 3)), .ref (c + 3 + 6 * i), .ref (c + 4 + 6 * i), .ref (c + 5 + 6 * i), .int (nI (x_dg X i)), .int (nI v), .int (x_lr X i)]))) c (xs_lt X (va_up (x_lt X) i v)) := by
  obtain ⟨r_A0, r_A1, r_C0, r_C1, r_C2, r_C3, r_C4, r_C5, r_A2, r_V0, r_V1, r_V2, r_V3, r_V4, r_V5, r_A3, r_L0, r_A4, r_Y, r_G, r_Z⟩ := hR
  refine ⟨?_, ?_, fun j hj => ?_, fun j hj => ?_, fun j hj => ?_, fun j hj => ?_, fun j hj => ?_, fun j hj => ?_, ?_, fun j hj => ?_, fun j hj => ?_, fun j hj => ?_, fun j hj => ?_, fun j hj => ?_, fun j hj => ?_, ?_, fun j hj hkj => ?_, ?_, fun a e he => ?_, fun a e he => ?_, r_Z⟩
  · exact (if_neg (show ¬ c = c + 2 + 6 * i by omega)).trans (r_A0)
  · exact (if_neg (show ¬ c + 1 = c + 2 + 6 * i by omega)).trans (r_A1)
  · by_cases hji : j = i
    · subst hji
      refine (if_pos rfl).trans ?_
      simp [x_lt, xs_lt, va_up]
    · refine (if_neg (show ¬ c + 2 + 6 * j = c + 2 + 6 * i from (by omega))).trans ?_
      refine (r_C0 j hj).trans ?_
      simp [x_lt, xs_lt, va_up, hji]
  · exact (if_neg (show ¬ c + 3 + 6 * j = c + 2 + 6 * i by omega)).trans (r_C1 j hj)
  · exact (if_neg (show ¬ c + 4 + 6 * j = c + 2 + 6 * i by omega)).trans (r_C2 j hj)
  · exact (if_neg (show ¬ c + 5 + 6 * j = c + 2 + 6 * i by omega)).trans (r_C3 j hj)
  · exact (if_neg (show ¬ c + 6 + 6 * j = c + 2 + 6 * i by omega)).trans (r_C4 j hj)
  · exact (if_neg (show ¬ c + 7 + 6 * j = c + 2 + 6 * i by omega)).trans (r_C5 j hj)
  · exact (if_neg (show ¬ c + 38 = c + 2 + 6 * i by omega)).trans (r_A2)
  · exact (if_neg (show ¬ c + 39 + 6 * j = c + 2 + 6 * i by omega)).trans (r_V0 j hj)
  · exact (if_neg (show ¬ c + 40 + 6 * j = c + 2 + 6 * i by omega)).trans (r_V1 j hj)
  · exact (if_neg (show ¬ c + 41 + 6 * j = c + 2 + 6 * i by omega)).trans (r_V2 j hj)
  · exact (if_neg (show ¬ c + 42 + 6 * j = c + 2 + 6 * i by omega)).trans (r_V3 j hj)
  · exact (if_neg (show ¬ c + 43 + 6 * j = c + 2 + 6 * i by omega)).trans (r_V4 j hj)
  · exact (if_neg (show ¬ c + 44 + 6 * j = c + 2 + 6 * i by omega)).trans (r_V5 j hj)
  · exact (if_neg (show ¬ c + 75 = c + 2 + 6 * i by omega)).trans (r_A3)
  · have hrj := rk_lt j hj hkj
    exact (if_neg (show ¬ c + 76 + rk j = c + 2 + 6 * i by omega)).trans (r_L0 j hj hkj)
  · exact (if_neg (show ¬ c + 94 = c + 2 + 6 * i by omega)).trans (r_A4)
  · have q := r_Y a e he
    exact ⟨(if_neg (show ¬ a = c + 2 + 6 * i by omega)).trans q.1, q.2⟩
  · have q := r_G a e he
    exact ⟨(if_neg (show ¬ a = c + 2 + 6 * i by omega)).trans q.1, q.2⟩
theorem uC0_lr {i : Nat} {v : Int32} (hR : RC g h c X) (hi : i < 6) : RC g (am_up h (c + 2 + 6 * i) (.inr (1, [.int (nI (i % 3)), .ref (c + 3 + 6 * i), .ref (c + 4 + 6 * i), .ref (c + 5 + 6 * i), .int (nI (x_dg X i)), .int (nI (x_lt X i)), .int v]))) c (xs_lr X (va_up (x_lr X) i v)) := by
  obtain ⟨r_A0, r_A1, r_C0, r_C1, r_C2, r_C3, r_C4, r_C5, r_A2, r_V0, r_V1, r_V2, r_V3, r_V4, r_V5, r_A3, r_L0, r_A4, r_Y, r_G, r_Z⟩ := hR
  refine ⟨?_, ?_, fun j hj => ?_, fun j hj => ?_, fun j hj => ?_, fun j hj => ?_, fun j hj => ?_, fun j hj => ?_, ?_, fun j hj => ?_, fun j hj => ?_, fun j hj => ?_, fun j hj => ?_, fun j hj => ?_, fun j hj => ?_, ?_, fun j hj hkj => ?_, ?_, fun a e he => ?_, fun a e he => ?_, r_Z⟩
  · exact (if_neg (show ¬ c = c + 2 + 6 * i by omega)).trans (r_A0)
  · exact (if_neg (show ¬ c + 1 = c + 2 + 6 * i by omega)).trans (r_A1)
  · by_cases hji : j = i
    · subst hji
      refine (if_pos rfl).trans ?_
      simp [x_lr, xs_lr, va_up]
    · refine (if_neg (show ¬ c + 2 + 6 * j = c + 2 + 6 * i from (by omega))).trans ?_
      refine (r_C0 j hj).trans ?_
      simp [x_lr, xs_lr, va_up, hji]
  · exact (if_neg (show ¬ c + 3 + 6 * j = c + 2 + 6 * i by omega)).trans (r_C1 j hj)
  · exact (if_neg (show ¬ c + 4 + 6 * j = c + 2 + 6 * i by omega)).trans (r_C2 j hj)
  · exact (if_neg (show ¬ c + 5 + 6 * j = c + 2 + 6 * i by omega)).trans (r_C3 j hj)
  · exact (if_neg (show ¬ c + 6 + 6 * j = c + 2 + 6 * i by omega)).trans (r_C4 j hj)
  · exact (if_neg (show ¬ c + 7 + 6 * j = c + 2 + 6 * i by omega)).trans (r_C5 j hj)
  · exact (if_neg (show ¬ c + 38 = c + 2 + 6 * i by omega)).trans (r_A2)
  · exact (if_neg (show ¬ c + 39 + 6 * j = c + 2 + 6 * i by omega)).trans (r_V0 j hj)
  · exact (if_neg (show ¬ c + 40 + 6 * j = c + 2 + 6 * i by omega)).trans (r_V1 j hj)
  · exact (if_neg (show ¬ c + 41 + 6 * j = c + 2 + 6 * i by omega)).trans (r_V2 j hj)
  · exact (if_neg (show ¬ c + 42 + 6 * j = c + 2 + 6 * i by omega)).trans (r_V3 j hj)
  · exact (if_neg (show ¬ c + 43 + 6 * j = c + 2 + 6 * i by omega)).trans (r_V4 j hj)
  · exact (if_neg (show ¬ c + 44 + 6 * j = c + 2 + 6 * i by omega)).trans (r_V5 j hj)
  · exact (if_neg (show ¬ c + 75 = c + 2 + 6 * i by omega)).trans (r_A3)
  · have hrj := rk_lt j hj hkj
    exact (if_neg (show ¬ c + 76 + rk j = c + 2 + 6 * i by omega)).trans (r_L0 j hj hkj)
  · exact (if_neg (show ¬ c + 94 = c + 2 + 6 * i by omega)).trans (r_A4)
  · have q := r_Y a e he
    exact ⟨(if_neg (show ¬ a = c + 2 + 6 * i by omega)).trans q.1, q.2⟩
  · have q := r_G a e he
    exact ⟨(if_neg (show ¬ a = c + 2 + 6 * i by omega)).trans q.1, q.2⟩
theorem uV0_kc {i v : Nat} (hR : RC g h c X) (hi : i < 6) : RC g (am_up h (c + 39 + 6 * i) (.inr (4, [.int (nI i), .int (nI (i / 2)), .ref (c + 40 + 6 * i), .ref (c + 41 + 6 * i), .ref (c + 42 + 6 * i), .ref (c + 43 + 6 * i), .ref (c + 44 + 6 * i), .int (nI v), .int (nI (x_ck X i))]))) c (xs_kc X (va_up (x_kc X) i v)) := by
  obtain ⟨r_A0, r_A1, r_C0, r_C1, r_C2, r_C3, r_C4, r_C5, r_A2, r_V0, r_V1, r_V2, r_V3, r_V4, r_V5, r_A3, r_L0, r_A4, r_Y, r_G, r_Z⟩ := hR
  refine ⟨?_, ?_, fun j hj => ?_, fun j hj => ?_, fun j hj => ?_, fun j hj => ?_, fun j hj => ?_, fun j hj => ?_, ?_, fun j hj => ?_, fun j hj => ?_, fun j hj => ?_, fun j hj => ?_, fun j hj => ?_, fun j hj => ?_, ?_, fun j hj hkj => ?_, ?_, fun a e he => ?_, fun a e he => ?_, r_Z⟩
  · exact (if_neg (show ¬ c = c + 39 + 6 * i by omega)).trans (r_A0)
  · exact (if_neg (show ¬ c + 1 = c + 39 + 6 * i by omega)).trans (r_A1)
  · exact (if_neg (show ¬ c + 2 + 6 * j = c + 39 + 6 * i by omega)).trans (r_C0 j hj)
  · exact (if_neg (show ¬ c + 3 + 6 * j = c + 39 + 6 * i by omega)).trans (r_C1 j hj)
  · exact (if_neg (show ¬ c + 4 + 6 * j = c + 39 + 6 * i by omega)).trans (r_C2 j hj)
  · exact (if_neg (show ¬ c + 5 + 6 * j = c + 39 + 6 * i by omega)).trans (r_C3 j hj)
  · exact (if_neg (show ¬ c + 6 + 6 * j = c + 39 + 6 * i by omega)).trans (r_C4 j hj)
  · exact (if_neg (show ¬ c + 7 + 6 * j = c + 39 + 6 * i by omega)).trans (r_C5 j hj)
  · exact (if_neg (show ¬ c + 38 = c + 39 + 6 * i by omega)).trans (r_A2)
  · by_cases hji : j = i
    · subst hji
      refine (if_pos rfl).trans ?_
      simp [x_kc, xs_kc, va_up]
    · refine (if_neg (show ¬ c + 39 + 6 * j = c + 39 + 6 * i from (by omega))).trans ?_
      refine (r_V0 j hj).trans ?_
      simp [x_kc, xs_kc, va_up, hji]
  · exact (if_neg (show ¬ c + 40 + 6 * j = c + 39 + 6 * i by omega)).trans (r_V1 j hj)
  · exact (if_neg (show ¬ c + 41 + 6 * j = c + 39 + 6 * i by omega)).trans (r_V2 j hj)
  · exact (if_neg (show ¬ c + 42 + 6 * j = c + 39 + 6 * i by omega)).trans (r_V3 j hj)
  · exact (if_neg (show ¬ c + 43 + 6 * j = c + 39 + 6 * i by omega)).trans (r_V4 j hj)
  · exact (if_neg (show ¬ c + 44 + 6 * j = c + 39 + 6 * i by omega)).trans (r_V5 j hj)
  · exact (if_neg (show ¬ c + 75 = c + 39 + 6 * i by omega)).trans (r_A3)
  · have hrj := rk_lt j hj hkj
    exact (if_neg (show ¬ c + 76 + rk j = c + 39 + 6 * i by omega)).trans (r_L0 j hj hkj)
  · exact (if_neg (show ¬ c + 94 = c + 39 + 6 * i by omega)).trans (r_A4)
  · have q := r_Y a e he
    exact ⟨(if_neg (show ¬ a = c + 39 + 6 * i by omega)).trans q.1, q.2⟩
  · have q := r_G a e he
    exact ⟨(if_neg (show ¬ a = c + 39 + 6 * i by omega)).trans q.1, q.2⟩
theorem uV0_ck {i v : Nat} (hR : RC g h c X) (hi : i < 6) : RC g (am_up h (c + 39 + 6 * i) (.inr (4, [.int (nI i), .int (nI (i / 2)), .ref (c + 40 + 6 * i), .ref (c + 41 + 6 * i), .ref (c + 42 + 6 * i), .ref (c + 43 + 6 * i), .ref (c + 44 + 6 * i), .int (nI (x_kc X i)), .int (nI v)]))) c (xs_ck X (va_up (x_ck X) i v)) := by
  obtain ⟨r_A0, r_A1, r_C0, r_C1, r_C2, r_C3, r_C4, r_C5, r_A2, r_V0, r_V1, r_V2, r_V3, r_V4, r_V5, r_A3, r_L0, r_A4, r_Y, r_G, r_Z⟩ := hR
  refine ⟨?_, ?_, fun j hj => ?_, fun j hj => ?_, fun j hj => ?_, fun j hj => ?_, fun j hj => ?_, fun j hj => ?_, ?_, fun j hj => ?_, fun j hj => ?_, fun j hj => ?_, fun j hj => ?_, fun j hj => ?_, fun j hj => ?_, ?_, fun j hj hkj => ?_, ?_, fun a e he => ?_, fun a e he => ?_, r_Z⟩
  · exact (if_neg (show ¬ c = c + 39 + 6 * i by omega)).trans (r_A0)
  · exact (if_neg (show ¬ c + 1 = c + 39 + 6 * i by omega)).trans (r_A1)
  · exact (if_neg (show ¬ c + 2 + 6 * j = c + 39 + 6 * i by omega)).trans (r_C0 j hj)
  · exact (if_neg (show ¬ c + 3 + 6 * j = c + 39 + 6 * i by omega)).trans (r_C1 j hj)
  · exact (if_neg (show ¬ c + 4 + 6 * j = c + 39 + 6 * i by omega)).trans (r_C2 j hj)
  · exact (if_neg (show ¬ c + 5 + 6 * j = c + 39 + 6 * i by omega)).trans (r_C3 j hj)
  · exact (if_neg (show ¬ c + 6 + 6 * j = c + 39 + 6 * i by omega)).trans (r_C4 j hj)
  · exact (if_neg (show ¬ c + 7 + 6 * j = c + 39 + 6 * i by omega)).trans (r_C5 j hj)
  · exact (if_neg (show ¬ c + 38 = c + 39 + 6 * i by omega)).trans (r_A2)
  · by_cases hji : j = i
    · subst hji
      refine (if_pos rfl).trans ?_
      simp [x_ck, xs_ck, va_up]
    · refine (if_neg (show ¬ c + 39 + 6 * j = c + 39 + 6 * i from (by omega))).trans ?_
      refine (r_V0 j hj).trans ?_
      simp [x_ck, xs_ck, va_up, hji]
  · exact (if_neg (show ¬ c + 40 + 6 * j = c + 39 + 6 * i by omega)).trans (r_V1 j hj)
  · exact (if_neg (show ¬ c + 41 + 6 * j = c + 39 + 6 * i by omega)).trans (r_V2 j hj)
  · exact (if_neg (show ¬ c + 42 + 6 * j = c + 39 + 6 * i by omega)).trans (r_V3 j hj)
  · exact (if_neg (show ¬ c + 43 + 6 * j = c + 39 + 6 * i by omega)).trans (r_V4 j hj)
  · exact (if_neg (show ¬ c + 44 + 6 * j = c + 39 + 6 * i by omega)).trans (r_V5 j hj)
  · exact (if_neg (show ¬ c + 75 = c + 39 + 6 * i by omega)).trans (r_A3)
  · have hrj := rk_lt j hj hkj
    exact (if_neg (show ¬ c + 76 + rk j = c + 39 + 6 * i by omega)).trans (r_L0 j hj hkj)
  · exact (if_neg (show ¬ c + 94 = c + 39 + 6 * i by omega)).trans (r_A4)
  · have q := r_Y a e he
    exact ⟨(if_neg (show ¬ a = c + 39 + 6 * i by omega)).trans q.1, q.2⟩
  · have q := r_G a e he
    exact ⟨(if_neg (show ¬ a = c + 39 + 6 * i by omega)).trans q.1, q.2⟩
theorem uC1 {i : Nat} {f : Nat → Nat} (hR : RC g h c X) (hi : i < 6) : RC g (am_up h (c + 3 + 6 * i) (.inl (0, 3, .inl (fun p => nI (f p))))) c (xs_sn X (va_up (x_sn X) i f)) := by
  obtain ⟨r_A0, r_A1, r_C0, r_C1, r_C2, r_C3, r_C4, r_C5, r_A2, r_V0, r_V1, r_V2, r_V3, r_V4, r_V5, r_A3, r_L0, r_A4, r_Y, r_G, r_Z⟩ := hR
  refine ⟨?_, ?_, fun j hj => ?_, fun j hj => ?_, fun j hj => ?_, fun j hj => ?_, fun j hj => ?_, fun j hj => ?_, ?_, fun j hj => ?_, fun j hj => ?_, fun j hj => ?_, fun j hj => ?_, fun j hj => ?_, fun j hj => ?_, ?_, fun j hj hkj => ?_, ?_, fun a e he => ?_, fun a e he => ?_, r_Z⟩
  · exact (if_neg (show ¬ c = c + 3 + 6 * i by omega)).trans (r_A0)
  · exact (if_neg (show ¬ c + 1 = c + 3 + 6 * i by omega)).trans (r_A1)
  · exact (if_neg (show ¬ c + 2 + 6 * j = c + 3 + 6 * i by omega)).trans (r_C0 j hj)
  · by_cases hji : j = i
    · subst hji
      refine (if_pos rfl).trans ?_
      simp [x_sn, xs_sn, va_up]
    · refine (if_neg (show ¬ c + 3 + 6 * j = c + 3 + 6 * i from (by omega))).trans ?_
      refine (r_C1 j hj).trans ?_
      simp [x_sn, xs_sn, va_up, hji]
  · exact (if_neg (show ¬ c + 4 + 6 * j = c + 3 + 6 * i by omega)).trans (r_C2 j hj)
  · exact (if_neg (show ¬ c + 5 + 6 * j = c + 3 + 6 * i by omega)).trans (r_C3 j hj)
  · exact (if_neg (show ¬ c + 6 + 6 * j = c + 3 + 6 * i by omega)).trans (r_C4 j hj)
  · exact (if_neg (show ¬ c + 7 + 6 * j = c + 3 + 6 * i by omega)).trans (r_C5 j hj)
  · exact (if_neg (show ¬ c + 38 = c + 3 + 6 * i by omega)).trans (r_A2)
  · exact (if_neg (show ¬ c + 39 + 6 * j = c + 3 + 6 * i by omega)).trans (r_V0 j hj)
  · exact (if_neg (show ¬ c + 40 + 6 * j = c + 3 + 6 * i by omega)).trans (r_V1 j hj)
  · exact (if_neg (show ¬ c + 41 + 6 * j = c + 3 + 6 * i by omega)).trans (r_V2 j hj)
  · exact (if_neg (show ¬ c + 42 + 6 * j = c + 3 + 6 * i by omega)).trans (r_V3 j hj)
  · exact (if_neg (show ¬ c + 43 + 6 * j = c + 3 + 6 * i by omega)).trans (r_V4 j hj)
  · exact (if_neg (show ¬ c + 44 + 6 * j = c + 3 + 6 * i by omega)).trans (r_V5 j hj)
  · exact (if_neg (show ¬ c + 75 = c + 3 + 6 * i by omega)).trans (r_A3)
  · have hrj := rk_lt j hj hkj
    exact (if_neg (show ¬ c + 76 + rk j = c + 3 + 6 * i by omega)).trans (r_L0 j hj hkj)
  · exact (if_neg (show ¬ c + 94 = c + 3 + 6 * i by omega)).trans (r_A4)
  · have q := r_Y a e he
    exact ⟨(if_neg (show ¬ a = c + 3 + 6 * i by omega)).trans q.1, q.2⟩
  · have q := r_G a e he
    exact ⟨(if_neg (show ¬ a = c + 3 + 6 * i by omega)).trans q.1, q.2⟩
theorem uC4 {i : Nat} {f : Nat → Nat} (hR : RC g h c X) (hi : i < 6) : RC g (am_up h (c + 6 + 6 * i) (.inl (1, 8, .inl (fun p => nI (f p))))) c (xs_hs X (va_up (x_hs X) i f)) := by
  obtain ⟨r_A0, r_A1, r_C0, r_C1, r_C2, r_C3, r_C4, r_C5, r_A2, r_V0, r_V1, r_V2, r_V3, r_V4, r_V5, r_A3, r_L0, r_A4, r_Y, r_G, r_Z⟩ := hR
  refine ⟨?_, ?_, fun j hj => ?_, fun j hj => ?_, fun j hj => ?_, fun j hj => ?_, fun j hj => ?_, fun j hj => ?_, ?_, fun j hj => ?_, fun j hj => ?_, fun j hj => ?_, fun j hj => ?_, fun j hj => ?_, fun j hj => ?_, ?_, fun j hj hkj => ?_, ?_, fun a e he => ?_, fun a e he => ?_, r_Z⟩
  · exact (if_neg (show ¬ c = c + 6 + 6 * i by omega)).trans (r_A0)
  · exact (if_neg (show ¬ c + 1 = c + 6 + 6 * i by omega)).trans (r_A1)
  · exact (if_neg (show ¬ c + 2 + 6 * j = c + 6 + 6 * i by omega)).trans (r_C0 j hj)
  · exact (if_neg (show ¬ c + 3 + 6 * j = c + 6 + 6 * i by omega)).trans (r_C1 j hj)
  · exact (if_neg (show ¬ c + 4 + 6 * j = c + 6 + 6 * i by omega)).trans (r_C2 j hj)
  · exact (if_neg (show ¬ c + 5 + 6 * j = c + 6 + 6 * i by omega)).trans (r_C3 j hj)
  · by_cases hji : j = i
    · subst hji
      refine (if_pos rfl).trans ?_
      simp [x_hs, xs_hs, va_up]
    · refine (if_neg (show ¬ c + 6 + 6 * j = c + 6 + 6 * i from (by omega))).trans ?_
      refine (r_C4 j hj).trans ?_
      simp [x_hs, xs_hs, va_up, hji]
  · exact (if_neg (show ¬ c + 7 + 6 * j = c + 6 + 6 * i by omega)).trans (r_C5 j hj)
  · exact (if_neg (show ¬ c + 38 = c + 6 + 6 * i by omega)).trans (r_A2)
  · exact (if_neg (show ¬ c + 39 + 6 * j = c + 6 + 6 * i by omega)).trans (r_V0 j hj)
  · exact (if_neg (show ¬ c + 40 + 6 * j = c + 6 + 6 * i by omega)).trans (r_V1 j hj)
  · exact (if_neg (show ¬ c + 41 + 6 * j = c + 6 + 6 * i by omega)).trans (r_V2 j hj)
  · exact (if_neg (show ¬ c + 42 + 6 * j = c + 6 + 6 * i by omega)).trans (r_V3 j hj)
  · exact (if_neg (show ¬ c + 43 + 6 * j = c + 6 + 6 * i by omega)).trans (r_V4 j hj)
  · exact (if_neg (show ¬ c + 44 + 6 * j = c + 6 + 6 * i by omega)).trans (r_V5 j hj)
  · exact (if_neg (show ¬ c + 75 = c + 6 + 6 * i by omega)).trans (r_A3)
  · have hrj := rk_lt j hj hkj
    exact (if_neg (show ¬ c + 76 + rk j = c + 6 + 6 * i by omega)).trans (r_L0 j hj hkj)
  · exact (if_neg (show ¬ c + 94 = c + 6 + 6 * i by omega)).trans (r_A4)
  · have q := r_Y a e he
    exact ⟨(if_neg (show ¬ a = c + 6 + 6 * i by omega)).trans q.1, q.2⟩
  · have q := r_G a e he
    exact ⟨(if_neg (show ¬ a = c + 6 + 6 * i by omega)).trans q.1, q.2⟩
theorem uV1 {i : Nat} {f : Nat → Nat} (hR : RC g h c X) (hi : i < 6) : RC g (am_up h (c + 40 + 6 * i) (.inl (0, 3, .inl (fun p => nI (f p))))) c (xs_kn X (va_up (x_kn X) i f)) := by
  obtain ⟨r_A0, r_A1, r_C0, r_C1, r_C2, r_C3, r_C4, r_C5, r_A2, r_V0, r_V1, r_V2, r_V3, r_V4, r_V5, r_A3, r_L0, r_A4, r_Y, r_G, r_Z⟩ := hR
  refine ⟨?_, ?_, fun j hj => ?_, fun j hj => ?_, fun j hj => ?_, fun j hj => ?_, fun j hj => ?_, fun j hj => ?_, ?_, fun j hj => ?_, fun j hj => ?_, fun j hj => ?_, fun j hj => ?_, fun j hj => ?_, fun j hj => ?_, ?_, fun j hj hkj => ?_, ?_, fun a e he => ?_, fun a e he => ?_, r_Z⟩
  · exact (if_neg (show ¬ c = c + 40 + 6 * i by omega)).trans (r_A0)
  · exact (if_neg (show ¬ c + 1 = c + 40 + 6 * i by omega)).trans (r_A1)
  · exact (if_neg (show ¬ c + 2 + 6 * j = c + 40 + 6 * i by omega)).trans (r_C0 j hj)
  · exact (if_neg (show ¬ c + 3 + 6 * j = c + 40 + 6 * i by omega)).trans (r_C1 j hj)
  · exact (if_neg (show ¬ c + 4 + 6 * j = c + 40 + 6 * i by omega)).trans (r_C2 j hj)
  · exact (if_neg (show ¬ c + 5 + 6 * j = c + 40 + 6 * i by omega)).trans (r_C3 j hj)
  · exact (if_neg (show ¬ c + 6 + 6 * j = c + 40 + 6 * i by omega)).trans (r_C4 j hj)
  · exact (if_neg (show ¬ c + 7 + 6 * j = c + 40 + 6 * i by omega)).trans (r_C5 j hj)
  · exact (if_neg (show ¬ c + 38 = c + 40 + 6 * i by omega)).trans (r_A2)
  · exact (if_neg (show ¬ c + 39 + 6 * j = c + 40 + 6 * i by omega)).trans (r_V0 j hj)
  · by_cases hji : j = i
    · subst hji
      refine (if_pos rfl).trans ?_
      simp [x_kn, xs_kn, va_up]
    · refine (if_neg (show ¬ c + 40 + 6 * j = c + 40 + 6 * i from (by omega))).trans ?_
      refine (r_V1 j hj).trans ?_
      simp [x_kn, xs_kn, va_up, hji]
  · exact (if_neg (show ¬ c + 41 + 6 * j = c + 40 + 6 * i by omega)).trans (r_V2 j hj)
  · exact (if_neg (show ¬ c + 42 + 6 * j = c + 40 + 6 * i by omega)).trans (r_V3 j hj)
  · exact (if_neg (show ¬ c + 43 + 6 * j = c + 40 + 6 * i by omega)).trans (r_V4 j hj)
  · exact (if_neg (show ¬ c + 44 + 6 * j = c + 40 + 6 * i by omega)).trans (r_V5 j hj)
  · exact (if_neg (show ¬ c + 75 = c + 40 + 6 * i by omega)).trans (r_A3)
  · have hrj := rk_lt j hj hkj
    exact (if_neg (show ¬ c + 76 + rk j = c + 40 + 6 * i by omega)).trans (r_L0 j hj hkj)
  · exact (if_neg (show ¬ c + 94 = c + 40 + 6 * i by omega)).trans (r_A4)
  · have q := r_Y a e he
    exact ⟨(if_neg (show ¬ a = c + 40 + 6 * i by omega)).trans q.1, q.2⟩
  · have q := r_G a e he
    exact ⟨(if_neg (show ¬ a = c + 40 + 6 * i by omega)).trans q.1, q.2⟩
theorem uV2 {i : Nat} {f : Nat → Nat} (hR : RC g h c X) (hi : i < 6) : RC g (am_up h (c + 41 + 6 * i) (.inl (0, 3, .inl (fun p => nI (f p))))) c (xs_hd X (va_up (x_hd X) i f)) := by
  obtain ⟨r_A0, r_A1, r_C0, r_C1, r_C2, r_C3, r_C4, r_C5, r_A2, r_V0, r_V1, r_V2, r_V3, r_V4, r_V5, r_A3, r_L0, r_A4, r_Y, r_G, r_Z⟩ := hR
  refine ⟨?_, ?_, fun j hj => ?_, fun j hj => ?_, fun j hj => ?_, fun j hj => ?_, fun j hj => ?_, fun j hj => ?_, ?_, fun j hj => ?_, fun j hj => ?_, fun j hj => ?_, fun j hj => ?_, fun j hj => ?_, fun j hj => ?_, ?_, fun j hj hkj => ?_, ?_, fun a e he => ?_, fun a e he => ?_, r_Z⟩
  · exact (if_neg (show ¬ c = c + 41 + 6 * i by omega)).trans (r_A0)
  · exact (if_neg (show ¬ c + 1 = c + 41 + 6 * i by omega)).trans (r_A1)
  · exact (if_neg (show ¬ c + 2 + 6 * j = c + 41 + 6 * i by omega)).trans (r_C0 j hj)
  · exact (if_neg (show ¬ c + 3 + 6 * j = c + 41 + 6 * i by omega)).trans (r_C1 j hj)
  · exact (if_neg (show ¬ c + 4 + 6 * j = c + 41 + 6 * i by omega)).trans (r_C2 j hj)
  · exact (if_neg (show ¬ c + 5 + 6 * j = c + 41 + 6 * i by omega)).trans (r_C3 j hj)
  · exact (if_neg (show ¬ c + 6 + 6 * j = c + 41 + 6 * i by omega)).trans (r_C4 j hj)
  · exact (if_neg (show ¬ c + 7 + 6 * j = c + 41 + 6 * i by omega)).trans (r_C5 j hj)
  · exact (if_neg (show ¬ c + 38 = c + 41 + 6 * i by omega)).trans (r_A2)
  · exact (if_neg (show ¬ c + 39 + 6 * j = c + 41 + 6 * i by omega)).trans (r_V0 j hj)
  · exact (if_neg (show ¬ c + 40 + 6 * j = c + 41 + 6 * i by omega)).trans (r_V1 j hj)
  · by_cases hji : j = i
    · subst hji
      refine (if_pos rfl).trans ?_
      simp [x_hd, xs_hd, va_up]
    · refine (if_neg (show ¬ c + 41 + 6 * j = c + 41 + 6 * i from (by omega))).trans ?_
      refine (r_V2 j hj).trans ?_
      simp [x_hd, xs_hd, va_up, hji]
  · exact (if_neg (show ¬ c + 42 + 6 * j = c + 41 + 6 * i by omega)).trans (r_V3 j hj)
  · exact (if_neg (show ¬ c + 43 + 6 * j = c + 41 + 6 * i by omega)).trans (r_V4 j hj)
  · exact (if_neg (show ¬ c + 44 + 6 * j = c + 41 + 6 * i by omega)).trans (r_V5 j hj)
  · exact (if_neg (show ¬ c + 75 = c + 41 + 6 * i by omega)).trans (r_A3)
  · have hrj := rk_lt j hj hkj
    exact (if_neg (show ¬ c + 76 + rk j = c + 41 + 6 * i by omega)).trans (r_L0 j hj hkj)
  · exact (if_neg (show ¬ c + 94 = c + 41 + 6 * i by omega)).trans (r_A4)
  · have q := r_Y a e he
    exact ⟨(if_neg (show ¬ a = c + 41 + 6 * i by omega)).trans q.1, q.2⟩
  · have q := r_G a e he
    exact ⟨(if_neg (show ¬ a = c + 41 + 6 * i by omega)).trans q.1, q.2⟩
theorem uV3 {i : Nat} {f : Nat → Nat} (hR : RC g h c X) (hi : i < 6) : RC g (am_up h (c + 42 + 6 * i) (.inl (0, 200, .inl (fun p => nI (f p))))) c (xs_sg X (va_up (x_sg X) i f)) := by
  obtain ⟨r_A0, r_A1, r_C0, r_C1, r_C2, r_C3, r_C4, r_C5, r_A2, r_V0, r_V1, r_V2, r_V3, r_V4, r_V5, r_A3, r_L0, r_A4, r_Y, r_G, r_Z⟩ := hR
  refine ⟨?_, ?_, fun j hj => ?_, fun j hj => ?_, fun j hj => ?_, fun j hj => ?_, fun j hj => ?_, fun j hj => ?_, ?_, fun j hj => ?_, fun j hj => ?_, fun j hj => ?_, fun j hj => ?_, fun j hj => ?_, fun j hj => ?_, ?_, fun j hj hkj => ?_, ?_, fun a e he => ?_, fun a e he => ?_, r_Z⟩
  · exact (if_neg (show ¬ c = c + 42 + 6 * i by omega)).trans (r_A0)
  · exact (if_neg (show ¬ c + 1 = c + 42 + 6 * i by omega)).trans (r_A1)
  · exact (if_neg (show ¬ c + 2 + 6 * j = c + 42 + 6 * i by omega)).trans (r_C0 j hj)
  · exact (if_neg (show ¬ c + 3 + 6 * j = c + 42 + 6 * i by omega)).trans (r_C1 j hj)
  · exact (if_neg (show ¬ c + 4 + 6 * j = c + 42 + 6 * i by omega)).trans (r_C2 j hj)
  · exact (if_neg (show ¬ c + 5 + 6 * j = c + 42 + 6 * i by omega)).trans (r_C3 j hj)
  · exact (if_neg (show ¬ c + 6 + 6 * j = c + 42 + 6 * i by omega)).trans (r_C4 j hj)
  · exact (if_neg (show ¬ c + 7 + 6 * j = c + 42 + 6 * i by omega)).trans (r_C5 j hj)
  · exact (if_neg (show ¬ c + 38 = c + 42 + 6 * i by omega)).trans (r_A2)
  · exact (if_neg (show ¬ c + 39 + 6 * j = c + 42 + 6 * i by omega)).trans (r_V0 j hj)
  · exact (if_neg (show ¬ c + 40 + 6 * j = c + 42 + 6 * i by omega)).trans (r_V1 j hj)
  · exact (if_neg (show ¬ c + 41 + 6 * j = c + 42 + 6 * i by omega)).trans (r_V2 j hj)
  · by_cases hji : j = i
    · subst hji
      refine (if_pos rfl).trans ?_
      simp [x_sg, xs_sg, va_up]
    · refine (if_neg (show ¬ c + 42 + 6 * j = c + 42 + 6 * i from (by omega))).trans ?_
      refine (r_V3 j hj).trans ?_
      simp [x_sg, xs_sg, va_up, hji]
  · exact (if_neg (show ¬ c + 43 + 6 * j = c + 42 + 6 * i by omega)).trans (r_V4 j hj)
  · exact (if_neg (show ¬ c + 44 + 6 * j = c + 42 + 6 * i by omega)).trans (r_V5 j hj)
  · exact (if_neg (show ¬ c + 75 = c + 42 + 6 * i by omega)).trans (r_A3)
  · have hrj := rk_lt j hj hkj
    exact (if_neg (show ¬ c + 76 + rk j = c + 42 + 6 * i by omega)).trans (r_L0 j hj hkj)
  · exact (if_neg (show ¬ c + 94 = c + 42 + 6 * i by omega)).trans (r_A4)
  · have q := r_Y a e he
    exact ⟨(if_neg (show ¬ a = c + 42 + 6 * i by omega)).trans q.1, q.2⟩
  · have q := r_G a e he
    exact ⟨(if_neg (show ¬ a = c + 42 + 6 * i by omega)).trans q.1, q.2⟩
theorem uV4 {i : Nat} {f : Nat → Nat} (hR : RC g h c X) (hi : i < 6) : RC g (am_up h (c + 43 + 6 * i) (.inl (0, 200, .inl (fun p => nI (f p))))) c (xs_tm X (va_up (x_tm X) i f)) := by
  obtain ⟨r_A0, r_A1, r_C0, r_C1, r_C2, r_C3, r_C4, r_C5, r_A2, r_V0, r_V1, r_V2, r_V3, r_V4, r_V5, r_A3, r_L0, r_A4, r_Y, r_G, r_Z⟩ := hR
  refine ⟨?_, ?_, fun j hj => ?_, fun j hj => ?_, fun j hj => ?_, fun j hj => ?_, fun j hj => ?_, fun j hj => ?_, ?_, fun j hj => ?_, fun j hj => ?_, fun j hj => ?_, fun j hj => ?_, fun j hj => ?_, fun j hj => ?_, ?_, fun j hj hkj => ?_, ?_, fun a e he => ?_, fun a e he => ?_, r_Z⟩
  · exact (if_neg (show ¬ c = c + 43 + 6 * i by omega)).trans (r_A0)
  · exact (if_neg (show ¬ c + 1 = c + 43 + 6 * i by omega)).trans (r_A1)
  · exact (if_neg (show ¬ c + 2 + 6 * j = c + 43 + 6 * i by omega)).trans (r_C0 j hj)
  · exact (if_neg (show ¬ c + 3 + 6 * j = c + 43 + 6 * i by omega)).trans (r_C1 j hj)
  · exact (if_neg (show ¬ c + 4 + 6 * j = c + 43 + 6 * i by omega)).trans (r_C2 j hj)
  · exact (if_neg (show ¬ c + 5 + 6 * j = c + 43 + 6 * i by omega)).trans (r_C3 j hj)
  · exact (if_neg (show ¬ c + 6 + 6 * j = c + 43 + 6 * i by omega)).trans (r_C4 j hj)
  · exact (if_neg (show ¬ c + 7 + 6 * j = c + 43 + 6 * i by omega)).trans (r_C5 j hj)
  · exact (if_neg (show ¬ c + 38 = c + 43 + 6 * i by omega)).trans (r_A2)
  · exact (if_neg (show ¬ c + 39 + 6 * j = c + 43 + 6 * i by omega)).trans (r_V0 j hj)
  · exact (if_neg (show ¬ c + 40 + 6 * j = c + 43 + 6 * i by omega)).trans (r_V1 j hj)
  · exact (if_neg (show ¬ c + 41 + 6 * j = c + 43 + 6 * i by omega)).trans (r_V2 j hj)
  · exact (if_neg (show ¬ c + 42 + 6 * j = c + 43 + 6 * i by omega)).trans (r_V3 j hj)
  · by_cases hji : j = i
    · subst hji
      refine (if_pos rfl).trans ?_
      simp [x_tm, xs_tm, va_up]
    · refine (if_neg (show ¬ c + 43 + 6 * j = c + 43 + 6 * i from (by omega))).trans ?_
      refine (r_V4 j hj).trans ?_
      simp [x_tm, xs_tm, va_up, hji]
  · exact (if_neg (show ¬ c + 44 + 6 * j = c + 43 + 6 * i by omega)).trans (r_V5 j hj)
  · exact (if_neg (show ¬ c + 75 = c + 43 + 6 * i by omega)).trans (r_A3)
  · have hrj := rk_lt j hj hkj
    exact (if_neg (show ¬ c + 76 + rk j = c + 43 + 6 * i by omega)).trans (r_L0 j hj hkj)
  · exact (if_neg (show ¬ c + 94 = c + 43 + 6 * i by omega)).trans (r_A4)
  · have q := r_Y a e he
    exact ⟨(if_neg (show ¬ a = c + 43 + 6 * i by omega)).trans q.1, q.2⟩
  · have q := r_G a e he
    exact ⟨(if_neg (show ¬ a = c + 43 + 6 * i by omega)).trans q.1, q.2⟩
theorem uC5 {i : Nat} {f : Nat → Int32} (hR : RC g h c X) (hi : i < 6) : RC g (am_up h (c + 7 + 6 * i) (.inl (0, 8, .inl f))) c (xs_iv X (va_up (x_iv X) i f)) := by
  obtain ⟨r_A0, r_A1, r_C0, r_C1, r_C2, r_C3, r_C4, r_C5, r_A2, r_V0, r_V1, r_V2, r_V3, r_V4, r_V5, r_A3, r_L0, r_A4, r_Y, r_G, r_Z⟩ := hR
  refine ⟨?_, ?_, fun j hj => ?_, fun j hj => ?_, fun j hj => ?_, fun j hj => ?_, fun j hj => ?_, fun j hj => ?_, ?_, fun j hj => ?_, fun j hj => ?_, fun j hj => ?_, fun j hj => ?_, fun j hj => ?_, fun j hj => ?_, ?_, fun j hj hkj => ?_, ?_, fun a e he => ?_, fun a e he => ?_, r_Z⟩
  · exact (if_neg (show ¬ c = c + 7 + 6 * i by omega)).trans (r_A0)
  · exact (if_neg (show ¬ c + 1 = c + 7 + 6 * i by omega)).trans (r_A1)
  · exact (if_neg (show ¬ c + 2 + 6 * j = c + 7 + 6 * i by omega)).trans (r_C0 j hj)
  · exact (if_neg (show ¬ c + 3 + 6 * j = c + 7 + 6 * i by omega)).trans (r_C1 j hj)
  · exact (if_neg (show ¬ c + 4 + 6 * j = c + 7 + 6 * i by omega)).trans (r_C2 j hj)
  · exact (if_neg (show ¬ c + 5 + 6 * j = c + 7 + 6 * i by omega)).trans (r_C3 j hj)
  · exact (if_neg (show ¬ c + 6 + 6 * j = c + 7 + 6 * i by omega)).trans (r_C4 j hj)
  · by_cases hji : j = i
    · subst hji
      refine (if_pos rfl).trans ?_
      simp [x_iv, xs_iv, va_up]
    · refine (if_neg (show ¬ c + 7 + 6 * j = c + 7 + 6 * i from (by omega))).trans ?_
      refine (r_C5 j hj).trans ?_
      simp [x_iv, xs_iv, va_up, hji]
  · exact (if_neg (show ¬ c + 38 = c + 7 + 6 * i by omega)).trans (r_A2)
  · exact (if_neg (show ¬ c + 39 + 6 * j = c + 7 + 6 * i by omega)).trans (r_V0 j hj)
  · exact (if_neg (show ¬ c + 40 + 6 * j = c + 7 + 6 * i by omega)).trans (r_V1 j hj)
  · exact (if_neg (show ¬ c + 41 + 6 * j = c + 7 + 6 * i by omega)).trans (r_V2 j hj)
  · exact (if_neg (show ¬ c + 42 + 6 * j = c + 7 + 6 * i by omega)).trans (r_V3 j hj)
  · exact (if_neg (show ¬ c + 43 + 6 * j = c + 7 + 6 * i by omega)).trans (r_V4 j hj)
  · exact (if_neg (show ¬ c + 44 + 6 * j = c + 7 + 6 * i by omega)).trans (r_V5 j hj)
  · exact (if_neg (show ¬ c + 75 = c + 7 + 6 * i by omega)).trans (r_A3)
  · have hrj := rk_lt j hj hkj
    exact (if_neg (show ¬ c + 76 + rk j = c + 7 + 6 * i by omega)).trans (r_L0 j hj hkj)
  · exact (if_neg (show ¬ c + 94 = c + 7 + 6 * i by omega)).trans (r_A4)
  · have q := r_Y a e he
    exact ⟨(if_neg (show ¬ a = c + 7 + 6 * i by omega)).trans q.1, q.2⟩
  · have q := r_G a e he
    exact ⟨(if_neg (show ¬ a = c + 7 + 6 * i by omega)).trans q.1, q.2⟩
theorem uC2 {i : Nat} {f : Nat → Option Nat} (hR : RC g h c X) (hi : i < 6) : RC g (am_up h (c + 4 + 6 * i) (.inl (5, 8, .inr f))) c (xs_ow X (va_up (x_ow X) i f)) := by
  obtain ⟨r_A0, r_A1, r_C0, r_C1, r_C2, r_C3, r_C4, r_C5, r_A2, r_V0, r_V1, r_V2, r_V3, r_V4, r_V5, r_A3, r_L0, r_A4, r_Y, r_G, r_Z⟩ := hR
  refine ⟨?_, ?_, fun j hj => ?_, fun j hj => ?_, fun j hj => ?_, fun j hj => ?_, fun j hj => ?_, fun j hj => ?_, ?_, fun j hj => ?_, fun j hj => ?_, fun j hj => ?_, fun j hj => ?_, fun j hj => ?_, fun j hj => ?_, ?_, fun j hj hkj => ?_, ?_, fun a e he => ?_, fun a e he => ?_, r_Z⟩
  · exact (if_neg (show ¬ c = c + 4 + 6 * i by omega)).trans (r_A0)
  · exact (if_neg (show ¬ c + 1 = c + 4 + 6 * i by omega)).trans (r_A1)
  · exact (if_neg (show ¬ c + 2 + 6 * j = c + 4 + 6 * i by omega)).trans (r_C0 j hj)
  · exact (if_neg (show ¬ c + 3 + 6 * j = c + 4 + 6 * i by omega)).trans (r_C1 j hj)
  · by_cases hji : j = i
    · subst hji
      refine (if_pos rfl).trans ?_
      simp [x_ow, xs_ow, va_up]
    · refine (if_neg (show ¬ c + 4 + 6 * j = c + 4 + 6 * i from (by omega))).trans ?_
      refine (r_C2 j hj).trans ?_
      simp [x_ow, xs_ow, va_up, hji]
  · exact (if_neg (show ¬ c + 5 + 6 * j = c + 4 + 6 * i by omega)).trans (r_C3 j hj)
  · exact (if_neg (show ¬ c + 6 + 6 * j = c + 4 + 6 * i by omega)).trans (r_C4 j hj)
  · exact (if_neg (show ¬ c + 7 + 6 * j = c + 4 + 6 * i by omega)).trans (r_C5 j hj)
  · exact (if_neg (show ¬ c + 38 = c + 4 + 6 * i by omega)).trans (r_A2)
  · exact (if_neg (show ¬ c + 39 + 6 * j = c + 4 + 6 * i by omega)).trans (r_V0 j hj)
  · exact (if_neg (show ¬ c + 40 + 6 * j = c + 4 + 6 * i by omega)).trans (r_V1 j hj)
  · exact (if_neg (show ¬ c + 41 + 6 * j = c + 4 + 6 * i by omega)).trans (r_V2 j hj)
  · exact (if_neg (show ¬ c + 42 + 6 * j = c + 4 + 6 * i by omega)).trans (r_V3 j hj)
  · exact (if_neg (show ¬ c + 43 + 6 * j = c + 4 + 6 * i by omega)).trans (r_V4 j hj)
  · exact (if_neg (show ¬ c + 44 + 6 * j = c + 4 + 6 * i by omega)).trans (r_V5 j hj)
  · exact (if_neg (show ¬ c + 75 = c + 4 + 6 * i by omega)).trans (r_A3)
  · have hrj := rk_lt j hj hkj
    exact (if_neg (show ¬ c + 76 + rk j = c + 4 + 6 * i by omega)).trans (r_L0 j hj hkj)
  · exact (if_neg (show ¬ c + 94 = c + 4 + 6 * i by omega)).trans (r_A4)
  · have q := r_Y a e he
    exact ⟨(if_neg (show ¬ a = c + 4 + 6 * i by omega)).trans q.1, q.2⟩
  · have q := r_G a e he
    exact ⟨(if_neg (show ¬ a = c + 4 + 6 * i by omega)).trans q.1, q.2⟩
theorem uV5 {i : Nat} {f : Nat → Option Nat} (hR : RC g h c X) (hi : i < 6) : RC g (am_up h (c + 44 + 6 * i) (.inl (5, 200, .inr f))) c (xs_kp X (va_up (x_kp X) i f)) := by
  obtain ⟨r_A0, r_A1, r_C0, r_C1, r_C2, r_C3, r_C4, r_C5, r_A2, r_V0, r_V1, r_V2, r_V3, r_V4, r_V5, r_A3, r_L0, r_A4, r_Y, r_G, r_Z⟩ := hR
  refine ⟨?_, ?_, fun j hj => ?_, fun j hj => ?_, fun j hj => ?_, fun j hj => ?_, fun j hj => ?_, fun j hj => ?_, ?_, fun j hj => ?_, fun j hj => ?_, fun j hj => ?_, fun j hj => ?_, fun j hj => ?_, fun j hj => ?_, ?_, fun j hj hkj => ?_, ?_, fun a e he => ?_, fun a e he => ?_, r_Z⟩
  · exact (if_neg (show ¬ c = c + 44 + 6 * i by omega)).trans (r_A0)
  · exact (if_neg (show ¬ c + 1 = c + 44 + 6 * i by omega)).trans (r_A1)
  · exact (if_neg (show ¬ c + 2 + 6 * j = c + 44 + 6 * i by omega)).trans (r_C0 j hj)
  · exact (if_neg (show ¬ c + 3 + 6 * j = c + 44 + 6 * i by omega)).trans (r_C1 j hj)
  · exact (if_neg (show ¬ c + 4 + 6 * j = c + 44 + 6 * i by omega)).trans (r_C2 j hj)
  · exact (if_neg (show ¬ c + 5 + 6 * j = c + 44 + 6 * i by omega)).trans (r_C3 j hj)
  · exact (if_neg (show ¬ c + 6 + 6 * j = c + 44 + 6 * i by omega)).trans (r_C4 j hj)
  · exact (if_neg (show ¬ c + 7 + 6 * j = c + 44 + 6 * i by omega)).trans (r_C5 j hj)
  · exact (if_neg (show ¬ c + 38 = c + 44 + 6 * i by omega)).trans (r_A2)
  · exact (if_neg (show ¬ c + 39 + 6 * j = c + 44 + 6 * i by omega)).trans (r_V0 j hj)
  · exact (if_neg (show ¬ c + 40 + 6 * j = c + 44 + 6 * i by omega)).trans (r_V1 j hj)
  · exact (if_neg (show ¬ c + 41 + 6 * j = c + 44 + 6 * i by omega)).trans (r_V2 j hj)
  · exact (if_neg (show ¬ c + 42 + 6 * j = c + 44 + 6 * i by omega)).trans (r_V3 j hj)
  · exact (if_neg (show ¬ c + 43 + 6 * j = c + 44 + 6 * i by omega)).trans (r_V4 j hj)
  · by_cases hji : j = i
    · subst hji
      refine (if_pos rfl).trans ?_
      simp [x_kp, xs_kp, va_up]
    · refine (if_neg (show ¬ c + 44 + 6 * j = c + 44 + 6 * i from (by omega))).trans ?_
      refine (r_V5 j hj).trans ?_
      simp [x_kp, xs_kp, va_up, hji]
  · exact (if_neg (show ¬ c + 75 = c + 44 + 6 * i by omega)).trans (r_A3)
  · have hrj := rk_lt j hj hkj
    exact (if_neg (show ¬ c + 76 + rk j = c + 44 + 6 * i by omega)).trans (r_L0 j hj hkj)
  · exact (if_neg (show ¬ c + 94 = c + 44 + 6 * i by omega)).trans (r_A4)
  · have q := r_Y a e he
    exact ⟨(if_neg (show ¬ a = c + 44 + 6 * i by omega)).trans q.1, q.2⟩
  · have q := r_G a e he
    exact ⟨(if_neg (show ¬ a = c + 44 + 6 * i by omega)).trans q.1, q.2⟩
theorem uA4 {f : Nat → Option Nat} (hR : RC g h c X) : RC g (am_up h (c + 94) (.inl (5, 200, .inr f))) c (xs_ta X f) := by
  obtain ⟨r_A0, r_A1, r_C0, r_C1, r_C2, r_C3, r_C4, r_C5, r_A2, r_V0, r_V1, r_V2, r_V3, r_V4, r_V5, r_A3, r_L0, r_A4, r_Y, r_G, r_Z⟩ := hR
  refine ⟨?_, ?_, fun j hj => ?_, fun j hj => ?_, fun j hj => ?_, fun j hj => ?_, fun j hj => ?_, fun j hj => ?_, ?_, fun j hj => ?_, fun j hj => ?_, fun j hj => ?_, fun j hj => ?_, fun j hj => ?_, fun j hj => ?_, ?_, fun j hj hkj => ?_, ?_, fun a e he => ?_, fun a e he => ?_, r_Z⟩
  · exact (if_neg (show ¬ c = c + 94 by omega)).trans (r_A0)
  · exact (if_neg (show ¬ c + 1 = c + 94 by omega)).trans (r_A1)
  · exact (if_neg (show ¬ c + 2 + 6 * j = c + 94 by omega)).trans (r_C0 j hj)
  · exact (if_neg (show ¬ c + 3 + 6 * j = c + 94 by omega)).trans (r_C1 j hj)
  · exact (if_neg (show ¬ c + 4 + 6 * j = c + 94 by omega)).trans (r_C2 j hj)
  · exact (if_neg (show ¬ c + 5 + 6 * j = c + 94 by omega)).trans (r_C3 j hj)
  · exact (if_neg (show ¬ c + 6 + 6 * j = c + 94 by omega)).trans (r_C4 j hj)
  · exact (if_neg (show ¬ c + 7 + 6 * j = c + 94 by omega)).trans (r_C5 j hj)
  · exact (if_neg (show ¬ c + 38 = c + 94 by omega)).trans (r_A2)
  · exact (if_neg (show ¬ c + 39 + 6 * j = c + 94 by omega)).trans (r_V0 j hj)
  · exact (if_neg (show ¬ c + 40 + 6 * j = c + 94 by omega)).trans (r_V1 j hj)
  · exact (if_neg (show ¬ c + 41 + 6 * j = c + 94 by omega)).trans (r_V2 j hj)
  · exact (if_neg (show ¬ c + 42 + 6 * j = c + 94 by omega)).trans (r_V3 j hj)
  · exact (if_neg (show ¬ c + 43 + 6 * j = c + 94 by omega)).trans (r_V4 j hj)
  · exact (if_neg (show ¬ c + 44 + 6 * j = c + 94 by omega)).trans (r_V5 j hj)
  · exact (if_neg (show ¬ c + 75 = c + 94 by omega)).trans (r_A3)
  · have hrj := rk_lt j hj hkj
    exact (if_neg (show ¬ c + 76 + rk j = c + 94 by omega)).trans (r_L0 j hj hkj)
  · exact if_pos rfl
  · have q := r_Y a e he
    exact ⟨(if_neg (show ¬ a = c + 94 by omega)).trans q.1, q.2⟩
  · have q := r_G a e he
    exact ⟨(if_neg (show ¬ a = c + 94 by omega)).trans q.1, q.2⟩
theorem uL0_lf {l : Nat} {v : Option Nat} (hR : RC g h c X) (hl : l < 36) (hk : lkd l = true) : RC g (am_up h (c + 76 + rk l) (.inr (2, [va_rf v, va_rf (x_ll X l), .int (nI (x_lc X l))]))) c (xs_lf X (va_up (x_lf X) l v)) := by
  obtain ⟨r_A0, r_A1, r_C0, r_C1, r_C2, r_C3, r_C4, r_C5, r_A2, r_V0, r_V1, r_V2, r_V3, r_V4, r_V5, r_A3, r_L0, r_A4, r_Y, r_G, r_Z⟩ := hR
  have hrk := rk_lt l hl hk
  refine ⟨?_, ?_, fun j hj => ?_, fun j hj => ?_, fun j hj => ?_, fun j hj => ?_, fun j hj => ?_, fun j hj => ?_, ?_, fun j hj => ?_, fun j hj => ?_, fun j hj => ?_, fun j hj => ?_, fun j hj => ?_, fun j hj => ?_, ?_, fun j hj hkj => ?_, ?_, fun a e he => ?_, fun a e he => ?_, r_Z⟩
  · exact (if_neg (show ¬ c = c + 76 + rk l by omega)).trans (r_A0)
  · exact (if_neg (show ¬ c + 1 = c + 76 + rk l by omega)).trans (r_A1)
  · exact (if_neg (show ¬ c + 2 + 6 * j = c + 76 + rk l by omega)).trans (r_C0 j hj)
  · exact (if_neg (show ¬ c + 3 + 6 * j = c + 76 + rk l by omega)).trans (r_C1 j hj)
  · exact (if_neg (show ¬ c + 4 + 6 * j = c + 76 + rk l by omega)).trans (r_C2 j hj)
  · exact (if_neg (show ¬ c + 5 + 6 * j = c + 76 + rk l by omega)).trans (r_C3 j hj)
  · exact (if_neg (show ¬ c + 6 + 6 * j = c + 76 + rk l by omega)).trans (r_C4 j hj)
  · exact (if_neg (show ¬ c + 7 + 6 * j = c + 76 + rk l by omega)).trans (r_C5 j hj)
  · exact (if_neg (show ¬ c + 38 = c + 76 + rk l by omega)).trans (r_A2)
  · exact (if_neg (show ¬ c + 39 + 6 * j = c + 76 + rk l by omega)).trans (r_V0 j hj)
  · exact (if_neg (show ¬ c + 40 + 6 * j = c + 76 + rk l by omega)).trans (r_V1 j hj)
  · exact (if_neg (show ¬ c + 41 + 6 * j = c + 76 + rk l by omega)).trans (r_V2 j hj)
  · exact (if_neg (show ¬ c + 42 + 6 * j = c + 76 + rk l by omega)).trans (r_V3 j hj)
  · exact (if_neg (show ¬ c + 43 + 6 * j = c + 76 + rk l by omega)).trans (r_V4 j hj)
  · exact (if_neg (show ¬ c + 44 + 6 * j = c + 76 + rk l by omega)).trans (r_V5 j hj)
  · exact (if_neg (show ¬ c + 75 = c + 76 + rk l by omega)).trans (r_A3)
  · have hrj := rk_lt j hj hkj
    by_cases hji : j = l
    · subst hji
      refine (if_pos rfl).trans ?_
      simp [x_lf, xs_lf, va_up]
    · refine (if_neg (show ¬ c + 76 + rk j = c + 76 + rk l from (fun q => hji (rk_inj j hj l hl hkj hk (by omega))))).trans ?_
      refine (r_L0 j hj hkj).trans ?_
      simp [x_lf, xs_lf, va_up, hji]
  · exact (if_neg (show ¬ c + 94 = c + 76 + rk l by omega)).trans (r_A4)
  · have q := r_Y a e he
    exact ⟨(if_neg (show ¬ a = c + 76 + rk l by omega)).trans q.1, q.2⟩
  · have q := r_G a e he
    exact ⟨(if_neg (show ¬ a = c + 76 + rk l by omega)).trans q.1, q.2⟩
theorem uL0_ll {l : Nat} {v : Option Nat} (hR : RC g h c X) (hl : l < 36) (hk : lkd l = true) : RC g (am_up h (c + 76 + rk l) (.inr (2, [va_rf (x_lf X l), va_rf v, .int (nI (x_lc X l))]))) c (xs_ll X (va_up (x_ll X) l v)) := by
  obtain ⟨r_A0, r_A1, r_C0, r_C1, r_C2, r_C3, r_C4, r_C5, r_A2, r_V0, r_V1, r_V2, r_V3, r_V4, r_V5, r_A3, r_L0, r_A4, r_Y, r_G, r_Z⟩ := hR
  have hrk := rk_lt l hl hk
  refine ⟨?_, ?_, fun j hj => ?_, fun j hj => ?_, fun j hj => ?_, fun j hj => ?_, fun j hj => ?_, fun j hj => ?_, ?_, fun j hj => ?_, fun j hj => ?_, fun j hj => ?_, fun j hj => ?_, fun j hj => ?_, fun j hj => ?_, ?_, fun j hj hkj => ?_, ?_, fun a e he => ?_, fun a e he => ?_, r_Z⟩
  · exact (if_neg (show ¬ c = c + 76 + rk l by omega)).trans (r_A0)
  · exact (if_neg (show ¬ c + 1 = c + 76 + rk l by omega)).trans (r_A1)
  · exact (if_neg (show ¬ c + 2 + 6 * j = c + 76 + rk l by omega)).trans (r_C0 j hj)
  · exact (if_neg (show ¬ c + 3 + 6 * j = c + 76 + rk l by omega)).trans (r_C1 j hj)
  · exact (if_neg (show ¬ c + 4 + 6 * j = c + 76 + rk l by omega)).trans (r_C2 j hj)
  · exact (if_neg (show ¬ c + 5 + 6 * j = c + 76 + rk l by omega)).trans (r_C3 j hj)
  · exact (if_neg (show ¬ c + 6 + 6 * j = c + 76 + rk l by omega)).trans (r_C4 j hj)
  · exact (if_neg (show ¬ c + 7 + 6 * j = c + 76 + rk l by omega)).trans (r_C5 j hj)
  · exact (if_neg (show ¬ c + 38 = c + 76 + rk l by omega)).trans (r_A2)
  · exact (if_neg (show ¬ c + 39 + 6 * j = c + 76 + rk l by omega)).trans (r_V0 j hj)
  · exact (if_neg (show ¬ c + 40 + 6 * j = c + 76 + rk l by omega)).trans (r_V1 j hj)
  · exact (if_neg (show ¬ c + 41 + 6 * j = c + 76 + rk l by omega)).trans (r_V2 j hj)
  · exact (if_neg (show ¬ c + 42 + 6 * j = c + 76 + rk l by omega)).trans (r_V3 j hj)
  · exact (if_neg (show ¬ c + 43 + 6 * j = c + 76 + rk l by omega)).trans (r_V4 j hj)
  · exact (if_neg (show ¬ c + 44 + 6 * j = c + 76 + rk l by omega)).trans (r_V5 j hj)
  · exact (if_neg (show ¬ c + 75 = c + 76 + rk l by omega)).trans (r_A3)
  · have hrj := rk_lt j hj hkj
    by_cases hji : j = l
    · subst hji
      refine (if_pos rfl).trans ?_
      simp [x_ll, xs_ll, va_up]
    · refine (if_neg (show ¬ c + 76 + rk j = c + 76 + rk l from (fun q => hji (rk_inj j hj l hl hkj hk (by omega))))).trans ?_
      refine (r_L0 j hj hkj).trans ?_
      simp [x_ll, xs_ll, va_up, hji]
  · exact (if_neg (show ¬ c + 94 = c + 76 + rk l by omega)).trans (r_A4)
  · have q := r_Y a e he
    exact ⟨(if_neg (show ¬ a = c + 76 + rk l by omega)).trans q.1, q.2⟩
  · have q := r_G a e he
    exact ⟨(if_neg (show ¬ a = c + 76 + rk l by omega)).trans q.1, q.2⟩
theorem uL0_lc {l : Nat} {v : Nat} (hR : RC g h c X) (hl : l < 36) (hk : lkd l = true) : RC g (am_up h (c + 76 + rk l) (.inr (2, [va_rf (x_lf X l), va_rf (x_ll X l), .int (nI v)]))) c (xs_lc X (va_up (x_lc X) l v)) := by
  obtain ⟨r_A0, r_A1, r_C0, r_C1, r_C2, r_C3, r_C4, r_C5, r_A2, r_V0, r_V1, r_V2, r_V3, r_V4, r_V5, r_A3, r_L0, r_A4, r_Y, r_G, r_Z⟩ := hR
  have hrk := rk_lt l hl hk
  refine ⟨?_, ?_, fun j hj => ?_, fun j hj => ?_, fun j hj => ?_, fun j hj => ?_, fun j hj => ?_, fun j hj => ?_, ?_, fun j hj => ?_, fun j hj => ?_, fun j hj => ?_, fun j hj => ?_, fun j hj => ?_, fun j hj => ?_, ?_, fun j hj hkj => ?_, ?_, fun a e he => ?_, fun a e he => ?_, r_Z⟩
  · exact (if_neg (show ¬ c = c + 76 + rk l by omega)).trans (r_A0)
  · exact (if_neg (show ¬ c + 1 = c + 76 + rk l by omega)).trans (r_A1)
  · exact (if_neg (show ¬ c + 2 + 6 * j = c + 76 + rk l by omega)).trans (r_C0 j hj)
  · exact (if_neg (show ¬ c + 3 + 6 * j = c + 76 + rk l by omega)).trans (r_C1 j hj)
  · exact (if_neg (show ¬ c + 4 + 6 * j = c + 76 + rk l by omega)).trans (r_C2 j hj)
  · exact (if_neg (show ¬ c + 5 + 6 * j = c + 76 + rk l by omega)).trans (r_C3 j hj)
  · exact (if_neg (show ¬ c + 6 + 6 * j = c + 76 + rk l by omega)).trans (r_C4 j hj)
  · exact (if_neg (show ¬ c + 7 + 6 * j = c + 76 + rk l by omega)).trans (r_C5 j hj)
  · exact (if_neg (show ¬ c + 38 = c + 76 + rk l by omega)).trans (r_A2)
  · exact (if_neg (show ¬ c + 39 + 6 * j = c + 76 + rk l by omega)).trans (r_V0 j hj)
  · exact (if_neg (show ¬ c + 40 + 6 * j = c + 76 + rk l by omega)).trans (r_V1 j hj)
  · exact (if_neg (show ¬ c + 41 + 6 * j = c + 76 + rk l by omega)).trans (r_V2 j hj)
  · exact (if_neg (show ¬ c + 42 + 6 * j = c + 76 + rk l by omega)).trans (r_V3 j hj)
  · exact (if_neg (show ¬ c + 43 + 6 * j = c + 76 + rk l by omega)).trans (r_V4 j hj)
  · exact (if_neg (show ¬ c + 44 + 6 * j = c + 76 + rk l by omega)).trans (r_V5 j hj)
  · exact (if_neg (show ¬ c + 75 = c + 76 + rk l by omega)).trans (r_A3)
  · have hrj := rk_lt j hj hkj
    by_cases hji : j = l
    · subst hji
      refine (if_pos rfl).trans ?_
      simp [x_lc, xs_lc, va_up]
    · refine (if_neg (show ¬ c + 76 + rk j = c + 76 + rk l from (fun q => hji (rk_inj j hj l hl hkj hk (by omega))))).trans ?_
      refine (r_L0 j hj hkj).trans ?_
      simp [x_lc, xs_lc, va_up, hji]
  · exact (if_neg (show ¬ c + 94 = c + 76 + rk l by omega)).trans (r_A4)
  · have q := r_Y a e he
    exact ⟨(if_neg (show ¬ a = c + 76 + rk l by omega)).trans q.1, q.2⟩
  · have q := r_G a e he
    exact ⟨(if_neg (show ¬ a = c + 76 + rk l by omega)).trans q.1, q.2⟩
theorem uY {a : Nat} {e e0 : aE} (hR : RC g h c X) (ha : x_Y X a = some e0) : RC g (am_up h a e) c (xs_Y X (va_up (x_Y X) a (some e))) := by
  obtain ⟨r_A0, r_A1, r_C0, r_C1, r_C2, r_C3, r_C4, r_C5, r_A2, r_V0, r_V1, r_V2, r_V3, r_V4, r_V5, r_A3, r_L0, r_A4, r_Y, r_G, r_Z⟩ := hR
  have hq := r_Y a e0 ha
  refine ⟨?_, ?_, fun j hj => ?_, fun j hj => ?_, fun j hj => ?_, fun j hj => ?_, fun j hj => ?_, fun j hj => ?_, ?_, fun j hj => ?_, fun j hj => ?_, fun j hj => ?_, fun j hj => ?_, fun j hj => ?_, fun j hj => ?_, ?_, fun j hj hkj => ?_, ?_, fun b f hb => ?_, fun b f hb => ?_, r_Z⟩
  · exact (if_neg (show ¬ c = a by omega)).trans (r_A0)
  · exact (if_neg (show ¬ c + 1 = a by omega)).trans (r_A1)
  · exact (if_neg (show ¬ c + 2 + 6 * j = a by omega)).trans (r_C0 j hj)
  · exact (if_neg (show ¬ c + 3 + 6 * j = a by omega)).trans (r_C1 j hj)
  · exact (if_neg (show ¬ c + 4 + 6 * j = a by omega)).trans (r_C2 j hj)
  · exact (if_neg (show ¬ c + 5 + 6 * j = a by omega)).trans (r_C3 j hj)
  · exact (if_neg (show ¬ c + 6 + 6 * j = a by omega)).trans (r_C4 j hj)
  · exact (if_neg (show ¬ c + 7 + 6 * j = a by omega)).trans (r_C5 j hj)
  · exact (if_neg (show ¬ c + 38 = a by omega)).trans (r_A2)
  · exact (if_neg (show ¬ c + 39 + 6 * j = a by omega)).trans (r_V0 j hj)
  · exact (if_neg (show ¬ c + 40 + 6 * j = a by omega)).trans (r_V1 j hj)
  · exact (if_neg (show ¬ c + 41 + 6 * j = a by omega)).trans (r_V2 j hj)
  · exact (if_neg (show ¬ c + 42 + 6 * j = a by omega)).trans (r_V3 j hj)
  · exact (if_neg (show ¬ c + 43 + 6 * j = a by omega)).trans (r_V4 j hj)
  · exact (if_neg (show ¬ c + 44 + 6 * j = a by omega)).trans (r_V5 j hj)
  · exact (if_neg (show ¬ c + 75 = a by omega)).trans (r_A3)
  · have hrj := rk_lt j hj hkj
    exact (if_neg (show ¬ c + 76 + rk j = a by omega)).trans (r_L0 j hj hkj)
  · exact (if_neg (show ¬ c + 94 = a by omega)).trans (r_A4)
  · have hb : (if b = a then some e else x_Y X b) = some f := hb
    by_cases hba : b = a
    · rw [if_pos hba] at hb
      cases hb
      subst hba
      exact ⟨if_pos rfl, hq.2⟩
    · rw [if_neg hba] at hb
      have q := r_Y b f hb
      exact ⟨(if_neg hba).trans q.1, q.2⟩
  · have q := r_G b f hb
    have hba : ¬ b = a := fun z => by rw [z, ha] at q; exact absurd q.2.2.2 (fun y => by cases y)
    exact ⟨(if_neg hba).trans q.1, q.2.1, q.2.2.1, (if_neg hba).trans q.2.2.2⟩
theorem nY {k : Nat} {e : aE} (hR : RC g h c X) : RC g (am_nw h k e) c (xs_Y X (va_up (x_Y X) h.1 (some e))) := by
  obtain ⟨r_A0, r_A1, r_C0, r_C1, r_C2, r_C3, r_C4, r_C5, r_A2, r_V0, r_V1, r_V2, r_V3, r_V4, r_V5, r_A3, r_L0, r_A4, r_Y, r_G, r_Z⟩ := hR
  refine ⟨?_, ?_, fun j hj => ?_, fun j hj => ?_, fun j hj => ?_, fun j hj => ?_, fun j hj => ?_, fun j hj => ?_, ?_, fun j hj => ?_, fun j hj => ?_, fun j hj => ?_, fun j hj => ?_, fun j hj => ?_, fun j hj => ?_, ?_, fun j hj hkj => ?_, ?_, fun b f hb => ?_, fun b f hb => ?_, Nat.le_succ_of_le r_Z⟩
  · exact (if_neg (show ¬ c = h.1 by omega)).trans (r_A0)
  · exact (if_neg (show ¬ c + 1 = h.1 by omega)).trans (r_A1)
  · exact (if_neg (show ¬ c + 2 + 6 * j = h.1 by omega)).trans (r_C0 j hj)
  · exact (if_neg (show ¬ c + 3 + 6 * j = h.1 by omega)).trans (r_C1 j hj)
  · exact (if_neg (show ¬ c + 4 + 6 * j = h.1 by omega)).trans (r_C2 j hj)
  · exact (if_neg (show ¬ c + 5 + 6 * j = h.1 by omega)).trans (r_C3 j hj)
  · exact (if_neg (show ¬ c + 6 + 6 * j = h.1 by omega)).trans (r_C4 j hj)
  · exact (if_neg (show ¬ c + 7 + 6 * j = h.1 by omega)).trans (r_C5 j hj)
  · exact (if_neg (show ¬ c + 38 = h.1 by omega)).trans (r_A2)
  · exact (if_neg (show ¬ c + 39 + 6 * j = h.1 by omega)).trans (r_V0 j hj)
  · exact (if_neg (show ¬ c + 40 + 6 * j = h.1 by omega)).trans (r_V1 j hj)
  · exact (if_neg (show ¬ c + 41 + 6 * j = h.1 by omega)).trans (r_V2 j hj)
  · exact (if_neg (show ¬ c + 42 + 6 * j = h.1 by omega)).trans (r_V3 j hj)
  · exact (if_neg (show ¬ c + 43 + 6 * j = h.1 by omega)).trans (r_V4 j hj)
  · exact (if_neg (show ¬ c + 44 + 6 * j = h.1 by omega)).trans (r_V5 j hj)
  · exact (if_neg (show ¬ c + 75 = h.1 by omega)).trans (r_A3)
  · have hrj := rk_lt j hj hkj
    exact (if_neg (show ¬ c + 76 + rk j = h.1 by omega)).trans (r_L0 j hj hkj)
  · exact (if_neg (show ¬ c + 94 = h.1 by omega)).trans (r_A4)
  · have hb : (if b = h.1 then some e else x_Y X b) = some f := hb
    by_cases hba : b = h.1
    · rw [if_pos hba] at hb
      cases hb
      subst hba
      exact ⟨if_pos rfl, r_Z, Nat.lt_succ_self _⟩
    · rw [if_neg hba] at hb
      have q := r_Y b f hb
      exact ⟨(if_neg hba).trans q.1, q.2.1, Nat.lt_succ_of_lt q.2.2⟩
  · have q := r_G b f hb
    have hba : ¬ b = h.1 := by omega
    exact ⟨(if_neg hba).trans q.1, Nat.lt_succ_of_lt q.2.1, q.2.2.1, (if_neg hba).trans q.2.2.2⟩
theorem RC_none (hR : RC g h c X) : x_Y X h.1 = none := by
  cases hq : x_Y X h.1 with
  | none => rfl
  | some e => have := (hR.2.2.2.2.2.2.2.2.2.2.2.2.2.2.2.2.2.2.1 h.1 e hq).2.2; omega
end RCS
