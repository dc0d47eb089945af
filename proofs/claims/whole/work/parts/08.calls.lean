/-! growth; returns; calls; the whole run -/
theorem am_bd {α β : Type} {x : Option α} {f : α → Option β} {s : β} {P : Prop} (e : x.bind f = some s) (k : ∀ q, x = some q → f q = some s → P) : P := by
  obtain ⟨q, h1, h2⟩ := Option.bind_eq_some_iff.mp e
  exact k q h1 h2
theorem am_if {β : Type} {c : Prop} [Decidable c] {x : Option β} {s : β} {P : Prop} (e : (if c then x else none) = some s) (k : c → x = some s → P) : P := by
  by_cases h : c
  · rw [if_pos h] at e
    exact k h e
  · rw [if_neg h] at e
    cases e
theorem am_ifn {β : Type} {c : Prop} [Decidable c] {x : Option β} {s : β} {P : Prop} (e : (if c then none else x) = some s) (k : ¬ c → x = some s → P) : P := by
  by_cases h : c
  · rw [if_pos h] at e
    cases e
  · rw [if_neg h] at e
    exact k h e
def am_gr (h : aH) (s : aS) : Prop := h.1 ≤ s.2.2.2.1 ∧ h.2.1 ≤ s.2.2.2.2.1
theorem am_wr_gr {h : aH} {ci k a : Nat} {v : Value} {h' : aH} (e : am_wr h ci k a v = some h') : h'.1 = h.1 ∧ h'.2.1 = h.2.1 := by
  obtain ⟨fs, -, -, rfl⟩ := am_wr_spec e
  exact ⟨rfl, rfl⟩
theorem gw_const {i : aI} {pc : Nat} {ls : aL} {st : List Value} {h : aH} {s : aS} (hs : o_const i pc ls st h = some s) : am_gr h s := by
  unfold o_const at hs
  cases hs
  first | exact ⟨Nat.le_refl _, Nat.le_refl _⟩ | exact ⟨Nat.le_succ _, Nat.le_add_right _ _⟩
theorem gw_iload {i : aI} {pc : Nat} {ls : aL} {st : List Value} {h : aH} {s : aS} (hs : o_iload i pc ls st h = some s) : am_gr h s := by
  unfold o_iload at hs
  split at hs
  · first
    | (cases hs; first | exact ⟨Nat.le_refl _, Nat.le_refl _⟩ | exact ⟨Nat.le_succ _, Nat.le_add_right _ _⟩)
    | (refine am_if hs (fun _ hs => ?_); cases hs; first | exact ⟨Nat.le_refl _, Nat.le_refl _⟩ | exact ⟨Nat.le_succ _, Nat.le_add_right _ _⟩)
  · cases hs
theorem gw_aload {i : aI} {pc : Nat} {ls : aL} {st : List Value} {h : aH} {s : aS} (hs : o_aload i pc ls st h = some s) : am_gr h s := by
  unfold o_aload at hs
  split at hs
  · refine am_bd hs (fun _ _ hs => ?_)
    cases hs
    first | exact ⟨Nat.le_refl _, Nat.le_refl _⟩ | exact ⟨Nat.le_succ _, Nat.le_add_right _ _⟩
  · cases hs
theorem gw_istore {i : aI} {pc : Nat} {ls : aL} {st : List Value} {h : aH} {s : aS} (hs : o_istore i pc ls st h = some s) : am_gr h s := by
  unfold o_istore at hs
  repeat (first | refine am_bd hs (fun _ _ hs => ?_) | refine am_if hs (fun _ hs => ?_) | refine am_ifn hs (fun _ hs => ?_))
  cases hs
  first | exact ⟨Nat.le_refl _, Nat.le_refl _⟩ | exact ⟨Nat.le_succ _, Nat.le_add_right _ _⟩
theorem gw_astore {i : aI} {pc : Nat} {ls : aL} {st : List Value} {h : aH} {s : aS} (hs : o_astore i pc ls st h = some s) : am_gr h s := by
  unfold o_astore at hs
  repeat (first | refine am_bd hs (fun _ _ hs => ?_) | refine am_if hs (fun _ hs => ?_) | refine am_ifn hs (fun _ hs => ?_))
  cases hs
  first | exact ⟨Nat.le_refl _, Nat.le_refl _⟩ | exact ⟨Nat.le_succ _, Nat.le_add_right _ _⟩
theorem gw_iinc {i : aI} {pc : Nat} {ls : aL} {st : List Value} {h : aH} {s : aS} (hs : o_iinc i pc ls st h = some s) : am_gr h s := by
  unfold o_iinc at hs
  split at hs
  · first
    | (cases hs; first | exact ⟨Nat.le_refl _, Nat.le_refl _⟩ | exact ⟨Nat.le_succ _, Nat.le_add_right _ _⟩)
    | (refine am_if hs (fun _ hs => ?_); cases hs; first | exact ⟨Nat.le_refl _, Nat.le_refl _⟩ | exact ⟨Nat.le_succ _, Nat.le_add_right _ _⟩)
  · cases hs
theorem gw_bin {i : aI} {pc : Nat} {ls : aL} {st : List Value} {h : aH} {s : aS} (hs : o_bin i pc ls st h = some s) : am_gr h s := by
  unfold o_bin at hs
  repeat (first | refine am_bd hs (fun _ _ hs => ?_) | refine am_if hs (fun _ hs => ?_) | refine am_ifn hs (fun _ hs => ?_))
  cases hs
  first | exact ⟨Nat.le_refl _, Nat.le_refl _⟩ | exact ⟨Nat.le_succ _, Nat.le_add_right _ _⟩
theorem gw_div {i : aI} {pc : Nat} {ls : aL} {st : List Value} {h : aH} {s : aS} (hs : o_div i pc ls st h = some s) : am_gr h s := by
  unfold o_div at hs
  repeat (first | refine am_bd hs (fun _ _ hs => ?_) | refine am_if hs (fun _ hs => ?_) | refine am_ifn hs (fun _ hs => ?_))
  cases hs
  first | exact ⟨Nat.le_refl _, Nat.le_refl _⟩ | exact ⟨Nat.le_succ _, Nat.le_add_right _ _⟩
theorem gw_rem {i : aI} {pc : Nat} {ls : aL} {st : List Value} {h : aH} {s : aS} (hs : o_rem i pc ls st h = some s) : am_gr h s := by
  unfold o_rem at hs
  repeat (first | refine am_bd hs (fun _ _ hs => ?_) | refine am_if hs (fun _ hs => ?_) | refine am_ifn hs (fun _ hs => ?_))
  cases hs
  first | exact ⟨Nat.le_refl _, Nat.le_refl _⟩ | exact ⟨Nat.le_succ _, Nat.le_add_right _ _⟩
theorem gw_neg {i : aI} {pc : Nat} {ls : aL} {st : List Value} {h : aH} {s : aS} (hs : o_neg i pc ls st h = some s) : am_gr h s := by
  unfold o_neg at hs
  repeat (first | refine am_bd hs (fun _ _ hs => ?_) | refine am_if hs (fun _ hs => ?_) | refine am_ifn hs (fun _ hs => ?_))
  cases hs
  first | exact ⟨Nat.le_refl _, Nat.le_refl _⟩ | exact ⟨Nat.le_succ _, Nat.le_add_right _ _⟩
theorem gw_dup {i : aI} {pc : Nat} {ls : aL} {st : List Value} {h : aH} {s : aS} (hs : o_dup i pc ls st h = some s) : am_gr h s := by
  unfold o_dup at hs
  split at hs
  · first
    | (cases hs; first | exact ⟨Nat.le_refl _, Nat.le_refl _⟩ | exact ⟨Nat.le_succ _, Nat.le_add_right _ _⟩)
    | (refine am_if hs (fun _ hs => ?_); cases hs; first | exact ⟨Nat.le_refl _, Nat.le_refl _⟩ | exact ⟨Nat.le_succ _, Nat.le_add_right _ _⟩)
  · cases hs
theorem gw_pop {i : aI} {pc : Nat} {ls : aL} {st : List Value} {h : aH} {s : aS} (hs : o_pop i pc ls st h = some s) : am_gr h s := by
  unfold o_pop at hs
  split at hs
  · first
    | (cases hs; first | exact ⟨Nat.le_refl _, Nat.le_refl _⟩ | exact ⟨Nat.le_succ _, Nat.le_add_right _ _⟩)
    | (refine am_if hs (fun _ hs => ?_); cases hs; first | exact ⟨Nat.le_refl _, Nat.le_refl _⟩ | exact ⟨Nat.le_succ _, Nat.le_add_right _ _⟩)
  · cases hs
theorem gw_dupx1 {i : aI} {pc : Nat} {ls : aL} {st : List Value} {h : aH} {s : aS} (hs : o_dupx1 i pc ls st h = some s) : am_gr h s := by
  unfold o_dupx1 at hs
  split at hs
  · first
    | (cases hs; first | exact ⟨Nat.le_refl _, Nat.le_refl _⟩ | exact ⟨Nat.le_succ _, Nat.le_add_right _ _⟩)
    | (refine am_if hs (fun _ hs => ?_); cases hs; first | exact ⟨Nat.le_refl _, Nat.le_refl _⟩ | exact ⟨Nat.le_succ _, Nat.le_add_right _ _⟩)
  · cases hs
theorem gw_dup2 {i : aI} {pc : Nat} {ls : aL} {st : List Value} {h : aH} {s : aS} (hs : o_dup2 i pc ls st h = some s) : am_gr h s := by
  unfold o_dup2 at hs
  split at hs
  · first
    | (cases hs; first | exact ⟨Nat.le_refl _, Nat.le_refl _⟩ | exact ⟨Nat.le_succ _, Nat.le_add_right _ _⟩)
    | (refine am_if hs (fun _ hs => ?_); cases hs; first | exact ⟨Nat.le_refl _, Nat.le_refl _⟩ | exact ⟨Nat.le_succ _, Nat.le_add_right _ _⟩)
  · cases hs
theorem gw_dupx2 {i : aI} {pc : Nat} {ls : aL} {st : List Value} {h : aH} {s : aS} (hs : o_dupx2 i pc ls st h = some s) : am_gr h s := by
  unfold o_dupx2 at hs
  split at hs
  · first
    | (cases hs; first | exact ⟨Nat.le_refl _, Nat.le_refl _⟩ | exact ⟨Nat.le_succ _, Nat.le_add_right _ _⟩)
    | (refine am_if hs (fun _ hs => ?_); cases hs; first | exact ⟨Nat.le_refl _, Nat.le_refl _⟩ | exact ⟨Nat.le_succ _, Nat.le_add_right _ _⟩)
  · cases hs
theorem gw_if {i : aI} {pc : Nat} {ls : aL} {st : List Value} {h : aH} {s : aS} (hs : o_if i pc ls st h = some s) : am_gr h s := by
  unfold o_if at hs
  repeat (first | refine am_bd hs (fun _ _ hs => ?_) | refine am_if hs (fun _ hs => ?_) | refine am_ifn hs (fun _ hs => ?_))
  cases hs
  first | exact ⟨Nat.le_refl _, Nat.le_refl _⟩ | exact ⟨Nat.le_succ _, Nat.le_add_right _ _⟩
theorem gw_icmp {i : aI} {pc : Nat} {ls : aL} {st : List Value} {h : aH} {s : aS} (hs : o_icmp i pc ls st h = some s) : am_gr h s := by
  unfold o_icmp at hs
  repeat (first | refine am_bd hs (fun _ _ hs => ?_) | refine am_if hs (fun _ hs => ?_) | refine am_ifn hs (fun _ hs => ?_))
  cases hs
  first | exact ⟨Nat.le_refl _, Nat.le_refl _⟩ | exact ⟨Nat.le_succ _, Nat.le_add_right _ _⟩
theorem gw_goto {i : aI} {pc : Nat} {ls : aL} {st : List Value} {h : aH} {s : aS} (hs : o_goto i pc ls st h = some s) : am_gr h s := by
  unfold o_goto at hs
  cases hs
  first | exact ⟨Nat.le_refl _, Nat.le_refl _⟩ | exact ⟨Nat.le_succ _, Nat.le_add_right _ _⟩
theorem gw_ifnull {i : aI} {pc : Nat} {ls : aL} {st : List Value} {h : aH} {s : aS} (hs : o_ifnull i pc ls st h = some s) : am_gr h s := by
  unfold o_ifnull at hs
  repeat (first | refine am_bd hs (fun _ _ hs => ?_) | refine am_if hs (fun _ hs => ?_) | refine am_ifn hs (fun _ hs => ?_))
  cases hs
  first | exact ⟨Nat.le_refl _, Nat.le_refl _⟩ | exact ⟨Nat.le_succ _, Nat.le_add_right _ _⟩
theorem gw_ifnonnull {i : aI} {pc : Nat} {ls : aL} {st : List Value} {h : aH} {s : aS} (hs : o_ifnonnull i pc ls st h = some s) : am_gr h s := by
  unfold o_ifnonnull at hs
  repeat (first | refine am_bd hs (fun _ _ hs => ?_) | refine am_if hs (fun _ hs => ?_) | refine am_ifn hs (fun _ hs => ?_))
  cases hs
  first | exact ⟨Nat.le_refl _, Nat.le_refl _⟩ | exact ⟨Nat.le_succ _, Nat.le_add_right _ _⟩
theorem gw_null {i : aI} {pc : Nat} {ls : aL} {st : List Value} {h : aH} {s : aS} (hs : o_null i pc ls st h = some s) : am_gr h s := by
  unfold o_null at hs
  cases hs
  first | exact ⟨Nat.le_refl _, Nat.le_refl _⟩ | exact ⟨Nat.le_succ _, Nat.le_add_right _ _⟩
theorem gw_get {i : aI} {pc : Nat} {ls : aL} {st : List Value} {h : aH} {s : aS} (hs : o_get i pc ls st h = some s) : am_gr h s := by
  unfold o_get at hs
  repeat (first | refine am_bd hs (fun _ _ hs => ?_) | refine am_if hs (fun _ hs => ?_) | refine am_ifn hs (fun _ hs => ?_))
  cases hs
  first | exact ⟨Nat.le_refl _, Nat.le_refl _⟩ | exact ⟨Nat.le_succ _, Nat.le_add_right _ _⟩
theorem gw_puti {i : aI} {pc : Nat} {ls : aL} {st : List Value} {h : aH} {s : aS} (hs : o_puti i pc ls st h = some s) : am_gr h s := by
  unfold o_puti at hs
  refine am_bd hs (fun _ _ hs => ?_)
  refine am_bd hs (fun _ _ hs => ?_)
  refine am_bd hs (fun h9 e9 hs => ?_)
  cases hs
  have g := am_wr_gr e9
  exact ⟨Nat.le_of_eq g.1.symm, Nat.le_of_eq g.2.symm⟩
theorem gw_putz {i : aI} {pc : Nat} {ls : aL} {st : List Value} {h : aH} {s : aS} (hs : o_putz i pc ls st h = some s) : am_gr h s := by
  unfold o_putz at hs
  refine am_bd hs (fun _ _ hs => ?_)
  refine am_bd hs (fun _ _ hs => ?_)
  refine am_if hs (fun _ hs => ?_)
  refine am_bd hs (fun h9 e9 hs => ?_)
  cases hs
  have g := am_wr_gr e9
  exact ⟨Nat.le_of_eq g.1.symm, Nat.le_of_eq g.2.symm⟩
theorem gw_putr {i : aI} {pc : Nat} {ls : aL} {st : List Value} {h : aH} {s : aS} (hs : o_putr i pc ls st h = some s) : am_gr h s := by
  unfold o_putr at hs
  refine am_bd hs (fun _ _ hs => ?_)
  refine am_bd hs (fun _ _ hs => ?_)
  refine am_bd hs (fun h9 e9 hs => ?_)
  cases hs
  have g := am_wr_gr e9
  exact ⟨Nat.le_of_eq g.1.symm, Nat.le_of_eq g.2.symm⟩
theorem gw_iald {i : aI} {pc : Nat} {ls : aL} {st : List Value} {h : aH} {s : aS} (hs : o_iald i pc ls st h = some s) : am_gr h s := by
  unfold o_iald at hs
  repeat (first | refine am_bd hs (fun _ _ hs => ?_) | refine am_if hs (fun _ hs => ?_) | refine am_ifn hs (fun _ hs => ?_))
  cases hs
  first | exact ⟨Nat.le_refl _, Nat.le_refl _⟩ | exact ⟨Nat.le_succ _, Nat.le_add_right _ _⟩
theorem gw_zald {i : aI} {pc : Nat} {ls : aL} {st : List Value} {h : aH} {s : aS} (hs : o_zald i pc ls st h = some s) : am_gr h s := by
  unfold o_zald at hs
  repeat (first | refine am_bd hs (fun _ _ hs => ?_) | refine am_if hs (fun _ hs => ?_) | refine am_ifn hs (fun _ hs => ?_))
  cases hs
  first | exact ⟨Nat.le_refl _, Nat.le_refl _⟩ | exact ⟨Nat.le_succ _, Nat.le_add_right _ _⟩
theorem gw_iast {i : aI} {pc : Nat} {ls : aL} {st : List Value} {h : aH} {s : aS} (hs : o_iast i pc ls st h = some s) : am_gr h s := by
  unfold o_iast at hs
  repeat (first | refine am_bd hs (fun _ _ hs => ?_) | refine am_if hs (fun _ hs => ?_) | refine am_ifn hs (fun _ hs => ?_))
  cases hs
  first | exact ⟨Nat.le_refl _, Nat.le_refl _⟩ | exact ⟨Nat.le_succ _, Nat.le_add_right _ _⟩
theorem gw_zast {i : aI} {pc : Nat} {ls : aL} {st : List Value} {h : aH} {s : aS} (hs : o_zast i pc ls st h = some s) : am_gr h s := by
  unfold o_zast at hs
  repeat (first | refine am_bd hs (fun _ _ hs => ?_) | refine am_if hs (fun _ hs => ?_) | refine am_ifn hs (fun _ hs => ?_))
  cases hs
  first | exact ⟨Nat.le_refl _, Nat.le_refl _⟩ | exact ⟨Nat.le_succ _, Nat.le_add_right _ _⟩
theorem gw_aald {i : aI} {pc : Nat} {ls : aL} {st : List Value} {h : aH} {s : aS} (hs : o_aald i pc ls st h = some s) : am_gr h s := by
  unfold o_aald at hs
  repeat (first | refine am_bd hs (fun _ _ hs => ?_) | refine am_if hs (fun _ hs => ?_) | refine am_ifn hs (fun _ hs => ?_))
  cases hs
  first | exact ⟨Nat.le_refl _, Nat.le_refl _⟩ | exact ⟨Nat.le_succ _, Nat.le_add_right _ _⟩
theorem gw_aast {i : aI} {pc : Nat} {ls : aL} {st : List Value} {h : aH} {s : aS} (hs : o_aast i pc ls st h = some s) : am_gr h s := by
  unfold o_aast at hs
  repeat (first | refine am_bd hs (fun _ _ hs => ?_) | refine am_if hs (fun _ hs => ?_) | refine am_ifn hs (fun _ hs => ?_))
  cases hs
  first | exact ⟨Nat.le_refl _, Nat.le_refl _⟩ | exact ⟨Nat.le_succ _, Nat.le_add_right _ _⟩
theorem gw_alen {i : aI} {pc : Nat} {ls : aL} {st : List Value} {h : aH} {s : aS} (hs : o_alen i pc ls st h = some s) : am_gr h s := by
  unfold o_alen at hs
  repeat (first | refine am_bd hs (fun _ _ hs => ?_) | refine am_if hs (fun _ hs => ?_) | refine am_ifn hs (fun _ hs => ?_))
  cases hs
  first | exact ⟨Nat.le_refl _, Nat.le_refl _⟩ | exact ⟨Nat.le_succ _, Nat.le_add_right _ _⟩
theorem gw_new {i : aI} {pc : Nat} {ls : aL} {st : List Value} {h : aH} {s : aS} (hs : o_new i pc ls st h = some s) : am_gr h s := by
  unfold o_new at hs
  cases hs
  first | exact ⟨Nat.le_refl _, Nat.le_refl _⟩ | exact ⟨Nat.le_succ _, Nat.le_add_right _ _⟩
theorem gw_newa {i : aI} {pc : Nat} {ls : aL} {st : List Value} {h : aH} {s : aS} (hs : o_newa i pc ls st h = some s) : am_gr h s := by
  unfold o_newa at hs
  repeat (first | refine am_bd hs (fun _ _ hs => ?_) | refine am_if hs (fun _ hs => ?_) | refine am_ifn hs (fun _ hs => ?_))
  cases hs
  first | exact ⟨Nat.le_refl _, Nat.le_refl _⟩ | exact ⟨Nat.le_succ _, Nat.le_add_right _ _⟩
theorem gw_anew {i : aI} {pc : Nat} {ls : aL} {st : List Value} {h : aH} {s : aS} (hs : o_anew i pc ls st h = some s) : am_gr h s := by
  unfold o_anew at hs
  repeat (first | refine am_bd hs (fun _ _ hs => ?_) | refine am_if hs (fun _ hs => ?_) | refine am_ifn hs (fun _ hs => ?_))
  cases hs
  first | exact ⟨Nat.le_refl _, Nat.le_refl _⟩ | exact ⟨Nat.le_succ _, Nat.le_add_right _ _⟩
theorem gw_sw {i : aI} {pc : Nat} {ls : aL} {st : List Value} {h : aH} {s : aS} (hs : o_sw i pc ls st h = some s) : am_gr h s := by
  unfold o_sw at hs
  repeat (first | refine am_bd hs (fun _ _ hs => ?_) | refine am_if hs (fun _ hs => ?_) | refine am_ifn hs (fun _ hs => ?_))
  cases hs
  first | exact ⟨Nat.le_refl _, Nat.le_refl _⟩ | exact ⟨Nat.le_succ _, Nat.le_add_right _ _⟩
theorem gw_oinit {i : aI} {pc : Nat} {ls : aL} {st : List Value} {h : aH} {s : aS} (hs : o_oinit i pc ls st h = some s) : am_gr h s := by
  unfold o_oinit at hs
  repeat (first | refine am_bd hs (fun _ _ hs => ?_) | refine am_if hs (fun _ hs => ?_) | refine am_ifn hs (fun _ hs => ?_))
  cases hs
  first | exact ⟨Nat.le_refl _, Nat.le_refl _⟩ | exact ⟨Nat.le_succ _, Nat.le_add_right _ _⟩
theorem gw_max {i : aI} {pc : Nat} {ls : aL} {st : List Value} {h : aH} {s : aS} (hs : o_max i pc ls st h = some s) : am_gr h s := by
  unfold o_max at hs
  repeat (first | refine am_bd hs (fun _ _ hs => ?_) | refine am_if hs (fun _ hs => ?_) | refine am_ifn hs (fun _ hs => ?_))
  cases hs
  first | exact ⟨Nat.le_refl _, Nat.le_refl _⟩ | exact ⟨Nat.le_succ _, Nat.le_add_right _ _⟩
theorem gw_min {i : aI} {pc : Nat} {ls : aL} {st : List Value} {h : aH} {s : aS} (hs : o_min i pc ls st h = some s) : am_gr h s := by
  unfold o_min at hs
  repeat (first | refine am_bd hs (fun _ _ hs => ?_) | refine am_if hs (fun _ hs => ?_) | refine am_ifn hs (fun _ hs => ?_))
  cases hs
  first | exact ⟨Nat.le_refl _, Nat.le_refl _⟩ | exact ⟨Nat.le_succ _, Nat.le_add_right _ _⟩
theorem gw_clone {i : aI} {pc : Nat} {ls : aL} {st : List Value} {h : aH} {s : aS} (hs : o_clone i pc ls st h = some s) : am_gr h s := by
  unfold o_clone at hs
  repeat (first | refine am_bd hs (fun _ _ hs => ?_) | refine am_if hs (fun _ hs => ?_) | refine am_ifn hs (fun _ hs => ?_))
  cases hs
  first | exact ⟨Nat.le_refl _, Nat.le_refl _⟩ | exact ⟨Nat.le_succ _, Nat.le_add_right _ _⟩
theorem gw_castI {i : aI} {pc : Nat} {ls : aL} {st : List Value} {h : aH} {s : aS} (hs : o_castI i pc ls st h = some s) : am_gr h s := by
  unfold o_castI at hs
  repeat (first | refine am_bd hs (fun _ _ hs => ?_) | refine am_if hs (fun _ hs => ?_) | refine am_ifn hs (fun _ hs => ?_))
  cases hs
  first | exact ⟨Nat.le_refl _, Nat.le_refl _⟩ | exact ⟨Nat.le_succ _, Nat.le_add_right _ _⟩
theorem gw_acmpeq {i : aI} {pc : Nat} {ls : aL} {st : List Value} {h : aH} {s : aS} (hs : o_acmpeq i pc ls st h = some s) : am_gr h s := by
  unfold o_acmpeq at hs
  repeat (first | refine am_bd hs (fun _ _ hs => ?_) | refine am_if hs (fun _ hs => ?_) | refine am_ifn hs (fun _ hs => ?_))
  cases hs
  first | exact ⟨Nat.le_refl _, Nat.le_refl _⟩ | exact ⟨Nat.le_succ _, Nat.le_add_right _ _⟩
theorem gw_acmpne {i : aI} {pc : Nat} {ls : aL} {st : List Value} {h : aH} {s : aS} (hs : o_acmpne i pc ls st h = some s) : am_gr h s := by
  unfold o_acmpne at hs
  repeat (first | refine am_bd hs (fun _ _ hs => ?_) | refine am_if hs (fun _ hs => ?_) | refine am_ifn hs (fun _ hs => ?_))
  cases hs
  first | exact ⟨Nat.le_refl _, Nat.le_refl _⟩ | exact ⟨Nat.le_succ _, Nat.le_add_right _ _⟩
theorem am_step_gr {i : aI} {pc : Nat} {ls : aL} {st : List Value} {h : aH} {s : aS} (hs : am_step i pc ls st h = some s) : am_gr h s := by
  unfold am_step at hs
  split at hs
  · exact gw_const hs
  · exact gw_iload hs
  · exact gw_istore hs
  · exact gw_iinc hs
  · exact gw_bin hs
  · exact gw_div hs
  · exact gw_rem hs
  · exact gw_dup hs
  · exact gw_pop hs
  · exact gw_dupx1 hs
  · exact gw_dup2 hs
  · exact gw_dupx2 hs
  · exact gw_if hs
  · exact gw_icmp hs
  · exact gw_goto hs
  · exact gw_ifnull hs
  · exact gw_ifnonnull hs
  · exact gw_null hs
  · exact gw_get hs
  · exact gw_puti hs
  · exact gw_putz hs
  · exact gw_putr hs
  · exact gw_iald hs
  · exact gw_iast hs
  · exact gw_zald hs
  · exact gw_zast hs
  · exact gw_aald hs
  · exact gw_aast hs
  · exact gw_alen hs
  · exact gw_new hs
  · exact gw_newa hs
  · exact gw_anew hs
  · exact gw_sw hs
  · exact gw_aload hs
  · exact gw_astore hs
  · exact gw_oinit hs
  · exact gw_max hs
  · exact gw_min hs
  · exact gw_clone hs
  · exact gw_castI hs
  · exact gw_acmpeq hs
  · exact gw_acmpne hs
  · exact gw_neg hs
  · cases hs
theorem am_run_gr : ∀ (n d mid pc : Nat) (ls : aL) (st : List Value) (h : aH) (r : Option Value × aH), am_run n d mid pc ls st h = some r → h.1 ≤ r.2.1 ∧ h.2.1 ≤ r.2.2.1 := by
  intro n
  induction n with
  | zero => intro d mid pc ls st h r e; cases e
  | succ n ih =>
    intro d mid pc ls st h r e
    rw [am_run] at e
    split at e
    · obtain ⟨s, h1, h2⟩ := Option.bind_eq_some_iff.mp e
      have g1 := am_step_gr h1
      have g2 := ih _ _ _ _ _ _ _ h2
      exact ⟨Nat.le_trans g1.1 g2.1, Nat.le_trans g1.2 g2.2⟩
    · split at e
      · obtain ⟨r0, h1, h2⟩ := Option.map_eq_some_iff.mp e
        cases h2
        exact ⟨Nat.le_refl _, Nat.le_refl _⟩
      · split at e
        · cases e
        · rename_i c3
          obtain ⟨q, h1, h2⟩ := Option.bind_eq_some_iff.mp e
          obtain ⟨r1, h3, h4⟩ := Option.bind_eq_some_iff.mp h2
          have g1 := ih _ _ _ _ _ _ _ h3
          have g2 := ih _ _ _ _ _ _ _ h4
          exact ⟨Nat.le_trans g1.1 g2.1, Nat.le_trans g1.2 g2.2⟩
def am_Ret (mid pc : Nat) (r : Option Value) : Prop :=
  (∃ (x : Int32) (ty : FieldType), r = some (.int x) ∧ decode (am_cod mid) pc = .ok (.ireturn, 1) ∧ am_rty mid = some ty ∧ narrow ty (.int x) = .int x) ∨
  (∃ (o : Option Nat) (ty : FieldType), r = some (va_rf o) ∧ decode (am_cod mid) pc = .ok (.areturn, 1) ∧ am_rty mid = some ty ∧ ((∃ n, ty = .object n) ∨ ∃ t, ty = .array t)) ∨
  (r = none ∧ decode (am_cod mid) pc = .ok (.return_, 1) ∧ am_rty mid = none)
def am_SndR (mid pc : Nat) : Prop := ∀ (st : List Value) (r : Option Value), am_ret (am_ins mid pc) st = some r → st = r.toList ∧ am_Ret mid pc r
section SR
variable {mid pc : Nat}
theorem sn_iret (hi : am_ins mid pc = (50, 0, 0, 0, [])) (hd : decode (am_cod mid) pc = .ok (.ireturn, 1)) (hr : am_rty mid = some .int) : am_SndR mid pc := by
  intro st r e
  rw [hi] at e
  unfold am_ret at e
  split at e <;> first | cases e; done | skip
  all_goals first | (rename_i q; cases q; done) | skip
  cases e
  exact ⟨rfl, Or.inl ⟨_, _, rfl, hd, hr, rfl⟩⟩
theorem sn_zret (hi : am_ins mid pc = (51, 0, 0, 0, [])) (hd : decode (am_cod mid) pc = .ok (.ireturn, 1)) (hr : am_rty mid = some .boolean) : am_SndR mid pc := by
  intro st r e
  rw [hi] at e
  unfold am_ret at e
  split at e <;> first | cases e; done | skip
  all_goals first | (rename_i q; cases q; done) | skip
  refine am_if e (fun hx e => ?_)
  cases e
  exact ⟨rfl, Or.inl ⟨_, _, rfl, hd, hr, by rcases hx with q | q <;> (rw [q]; rfl)⟩⟩
theorem sn_aret {ty : FieldType} (hi : am_ins mid pc = (52, 0, 0, 0, [])) (hd : decode (am_cod mid) pc = .ok (.areturn, 1)) (hr : am_rty mid = some ty) (ht : (∃ n, ty = .object n) ∨ ∃ t, ty = .array t) : am_SndR mid pc := by
  intro st r e
  rw [hi] at e
  unfold am_ret at e
  split at e <;> first | cases e; done | skip
  all_goals first | (rename_i q; cases q; done) | skip
  obtain ⟨o, h1, h2⟩ := Option.map_eq_some_iff.mp e
  cases h2
  rw [am_unrf_spec h1]
  exact ⟨rfl, Or.inr (Or.inl ⟨o, ty, rfl, hd, hr, ht⟩)⟩
theorem sn_vret (hi : am_ins mid pc = (53, 0, 0, 0, [])) (hd : decode (am_cod mid) pc = .ok (.return_, 1)) (hr : am_rty mid = none) : am_SndR mid pc := by
  intro st r e
  rw [hi] at e
  unfold am_ret at e
  split at e <;> first | cases e; done | skip
  all_goals first | (rename_i q; cases q; done) | skip
  cases e
  exact ⟨rfl, Or.inr (Or.inr ⟨rfl, hd, hr⟩)⟩
end SR
/-- calls -/
def am_wy (mid : Nat) : List Cond := Cond.code (am_y mid) (am_cod mid) (am_mx mid) (am_rty mid) :: am_TW
def am_SndC (K : aK) (mid pc : Nat) : Prop := ∀ (p : Program) (l : Launch) (e : Env) (R : Room) (s : State) (m : MethodId) (args : Array Value) (below : List Frame) (meth : Method) (c : Code) (H : Heap) (locs : List Loc) (cells slots mc ms : Nat) (lsA : Array Slot) (st as rest : List Value) (h : aH) (rm : Room) (Pc : Array Value → State → Prop) (Qc : Array Value → State → Outcome → State → Prop) (free : Addr → Prop),
  am_args (am_ins mid pc) st h = some (as, rest) → am_Cx K mid p s m args meth c → am_W K s h H → lsA.size = am_mx mid → Met l (am_y (am_ins mid pc).2.1) (am_wy (am_ins mid pc).2.1) rm Pc Qc mc ms free → rm.cells = mc → rm.slots = ms → rm.frames + 1 ≤ R.frames → 8 + (am_mx (am_ins mid pc).2.1 + 11) + rm.locals ≤ R.locals → PreS s H Pc as → cells + mc ≤ R.cells → slots + ms ≤ R.slots →
  va_Run p l e R s m args below meth c H locs cells slots mc ms (F0 m pc lsA st) rest (Qc as.toArray) free
theorem am_args_spec {i : aI} {st as rest : List Value} {h : aH} (e : am_args i st h = some (as, rest)) : st = as.reverse ++ rest ∧ as.length = am_nar i ∧ am_nar i ≤ am_mx i.2.1 ∧ (∀ v ∈ as, v.category = 1) ∧ (rest.map fun v => v.category).sum ≤ 8 ∧ am_rcv i h as = true := by
  unfold am_args at e
  refine am_if e (fun hc e => ?_)
  cases e
  obtain ⟨⟨h1, h2, h3, h4⟩, h5⟩ := hc
  refine ⟨by rw [List.reverse_reverse, List.take_append_drop], by rw [List.length_reverse, List.length_take]; omega, h2, fun v hv => ?_, h4, h5⟩
  have := List.all_eq_true.mp h3 v (List.mem_reverse.mp hv)
  simpa [am_c1] using this
theorem am_lvroom {m : MethodId} {pc : Nat} {ls : Array Slot} {st rest : List Value} (h : (rest.map fun v => v.category).sum ≤ 8) : 2 * (F0 m pc ls st).monitorRoom + (rest.map fun v => v.category).sum ≤ 8 := by
  show 2 * 0 + _ ≤ 8
  omega
section SC
variable {K : aK} {mid pc : Nat}
theorem am_gd (mid : Nat) (hc : Cond.code (am_y mid) (am_cod mid) (am_mx mid) (am_rty mid) ∈ am_TW) : GoodIn am_TW (am_wy mid) := by
  intro w hw
  rcases List.mem_cons.mp hw with rfl | hw
  · exact ⟨hc, am_TW_good _ hc⟩
  · exact ⟨hw, am_TW_good _ hw⟩
theorem am_rcv0 {k n : Nat} {v : Int32} {L : List (Int32 × Nat)} {h : aH} {as : List Value} (e : am_rcv (60, k, n, v, L) h as = true) : ∃ a r fs, as = .ref a :: r ∧ h.2.2 a = some (.inr (am_mc k, fs)) := by
  cases as with
  | nil => exact absurd (show false = true from e) Bool.false_ne_true
  | cons v r =>
    cases v with
    | ref a =>
      obtain ⟨fs, hfs⟩ := Option.isSome_iff_exists.mp (show (am_fld h (am_mc k) a).isSome = true from e)
      exact ⟨a, r, fs, rfl, am_fld_spec hfs⟩
    | _ => exact absurd (show false = true from e) Bool.false_ne_true
theorem am_rcv2 {k n : Nat} {v : Int32} {L : List (Int32 × Nat)} {h : aH} {as : List Value} (e : am_rcv (62, k, n, v, L) h as = true) : ∃ a r, as = .ref a :: r := by
  cases as with
  | nil => exact absurd (show false = true from e) Bool.false_ne_true
  | cons v r =>
    cases v with
    | ref a => exact ⟨a, r, rfl⟩
    | _ => exact absurd (show false = true from e) Bool.false_ne_true
theorem sc_V {k n ix ci : Nat} {rr : vw_C} (hi : am_ins mid pc = (60, k, n, 0, [])) (hd : decode (am_cod mid) pc = .ok (.invokevirtual ix, 3)) (hco : Cond.code (am_y k) (am_cod k) (am_mx k) (am_rty k) ∈ am_TW) (hlk : Cond.methodLink (am_own mid) ix (am_y k) ∈ am_TW) (hin : Cond.instanceMethod (am_y k) ∈ am_TW) (hse : Cond.selects (am_y k).cls (am_y k) (am_y k) ∈ am_TW) (hini : Cond.initialized (am_y k).cls ∈ am_TW) (hci : am_mc k = ci) (hrr : vwCl[ci]? = some rr) (hrn : rr.1 = (am_y k).cls) (hd2 : (am_y k).cls ≠ "java/lang/invoke/MethodHandle" ∧ (am_y k).cls ≠ "java/lang/invoke/VarHandle" ∧ (parseMethodDescriptor (am_y k).desc).map (fun d => d.parameters.length) = some n) : am_SndC K mid pc := by
  intro p l e R s m args below meth c H locs cells slots mc ms lsA st as rest h rm Pc Qc free ea C hW hsz hM hrc hrs hfr hlo hp hce hsl
  rw [hi] at ea hM hlo
  obtain ⟨rfl, a2, a3, a4, a5, a6⟩ := am_args_spec ea
  obtain ⟨b, r, fs, rfl, hb⟩ := am_rcv0 a6
  rw [hci] at hb
  obtain ⟨w1, w2, w3, w4⟩ := am_W_at hW hb (fun q => by cases q)
  have hrv := va_recv C.2.2.2.2.2.1 hW.2.2.1 hrr w1
  rw [hrn] at hrv
  have cw : CallW R s args (am_own mid) (am_y k).cls ix (am_y k) (am_cod k) (am_mx k) (am_rty k) (am_wy k) rm mc ms n := ⟨callB_of n C.2.2.2.2.1 (am_gd k hco) rfl hrc hrs (C.2.2.2.2.1 _ hini) (C.2.2.2.2.1 _ hlk) hd2 ⟨hfr, hlo⟩, C.2.2.2.2.1 _ hin, C.2.2.2.2.1 _ hse⟩
  exact va_runV (As := r) ⟨C.1, C.2.1, C.2.2.1, C.2.2.2.1, C.2.2.2.2.1⟩ hM cw ⟨hp.1, hrv, hp.2⟩ rfl (by have h9 : (Value.ref b :: r).length = n + 1 := a2; simpa using h9) hsz (by show (Value.ref b :: r).reverse ++ rest = _; simp) (am_lvroom a5) hd ⟨hce, hsl⟩
theorem sc_S {k n ix : Nat} (hi : am_ins mid pc = (61, k, n, 0, [])) (hd : decode (am_cod mid) pc = .ok (.invokestatic ix, 3)) (hco : Cond.code (am_y k) (am_cod k) (am_mx k) (am_rty k) ∈ am_TW) (hlk : Cond.methodLink (am_own mid) ix (am_y k) ∈ am_TW) (hst : Cond.static (am_y k) ∈ am_TW) (hini : Cond.initialized (am_y k).cls ∈ am_TW) (hd2 : (am_y k).cls ≠ "java/lang/invoke/MethodHandle" ∧ (am_y k).cls ≠ "java/lang/invoke/VarHandle" ∧ (parseMethodDescriptor (am_y k).desc).map (fun d => d.parameters.length) = some n) : am_SndC K mid pc := by
  intro p l e R s m args below meth c H locs cells slots mc ms lsA st as rest h rm Pc Qc free ea C hW hsz hM hrc hrs hfr hlo hp hce hsl
  rw [hi] at ea hM hlo
  obtain ⟨rfl, a2, a3, a4, a5, a6⟩ := am_args_spec ea
  have cw : CallB R s args (am_own mid) ix (am_y k) (am_cod k) (am_mx k) (am_rty k) (am_wy k) rm mc ms n ∧ (Cond.static (am_y k)).before args s = true := ⟨callB_of n C.2.2.2.2.1 (am_gd k hco) rfl hrc hrs (C.2.2.2.2.1 _ hini) (C.2.2.2.2.1 _ hlk) hd2 ⟨hfr, hlo⟩, C.2.2.2.2.1 _ hst⟩
  exact va_runS (As := as) ⟨C.1, C.2.1, C.2.2.1, C.2.2.2.1, C.2.2.2.2.1⟩ hM cw hp rfl a2 hsz rfl (am_lvroom a5) hd ⟨hce, hsl⟩
theorem sc_I {k n ix : Nat} (hi : am_ins mid pc = (62, k, n, 0, [])) (hd : decode (am_cod mid) pc = .ok (.invokespecial ix, 3)) (hco : Cond.code (am_y k) (am_cod k) (am_mx k) none ∈ am_TW) (hrt : am_rty k = none) (hnm : (am_y k).name = "<init>") (hlk : Cond.methodLink (am_own mid) ix (am_y k) ∈ am_TW) (hin : Cond.instanceMethod (am_y k) ∈ am_TW) (hini : Cond.initialized (am_y k).cls ∈ am_TW) (hd2 : (am_y k).cls ≠ "java/lang/invoke/MethodHandle" ∧ (am_y k).cls ≠ "java/lang/invoke/VarHandle" ∧ (parseMethodDescriptor (am_y k).desc).map (fun d => d.parameters.length) = some n) : am_SndC K mid pc := by
  intro p l e R s m args below meth c H locs cells slots mc ms lsA st as rest h rm Pc Qc free ea C hW hsz hM hrc hrs hfr hlo hp hce hsl
  rw [hi] at ea hM hlo
  obtain ⟨rfl, a2, a3, a4, a5, a6⟩ := am_args_spec ea
  obtain ⟨b, r, rfl⟩ := am_rcv2 a6
  have hco2 : Cond.code (am_y k) (am_cod k) (am_mx k) (am_rty k) ∈ am_TW := by rw [hrt]; exact hco
  have cw : CallB R s args (am_own mid) ix (am_y k) (am_cod k) (am_mx k) none (am_wy k) rm mc ms n ∧ (am_y k).name = "<init>" ∧ (Cond.instanceMethod (am_y k)).before args s = true := ⟨callB_of n C.2.2.2.2.1 (am_gd k hco2) (by unfold am_wy; rw [hrt]) hrc hrs (C.2.2.2.2.1 _ hini) (C.2.2.2.2.1 _ hlk) hd2 ⟨hfr, hlo⟩, hnm, C.2.2.2.2.1 _ hin⟩
  exact va_runI (As := r) ⟨C.1, C.2.1, C.2.2.1, C.2.2.2.1, C.2.2.2.2.1⟩ hM cw hp rfl (by have h9 : (Value.ref b :: r).length = n + 1 := a2; simpa using h9) hsz (by show (Value.ref b :: r).reverse ++ rest = _; simp) (am_lvroom a5) hd ⟨hce, hsl⟩
theorem sc_VN {k n ix ci : Nat} {rr : vw_C} {host : String} (hi : am_ins mid pc = (60, k, n, 0, [])) (hd : decode (am_cod mid) pc = .ok (.invokevirtual ix, 3)) (hco : Cond.code (am_y k) (am_cod k) (am_mx k) (am_rty k) ∈ am_TW) (hlk : Cond.methodLinkNest (am_own mid) ix (am_y k) host ∈ am_NW) (hin : Cond.instanceMethod (am_y k) ∈ am_TW) (hse : Cond.selects (am_y k).cls (am_y k) (am_y k) ∈ am_TW) (hini : Cond.initialized (am_y k).cls ∈ am_TW) (hci : am_mc k = ci) (hrr : vwCl[ci]? = some rr) (hrn : rr.1 = (am_y k).cls) (hd2 : (am_y k).cls ≠ "java/lang/invoke/MethodHandle" ∧ (am_y k).cls ≠ "java/lang/invoke/VarHandle" ∧ (parseMethodDescriptor (am_y k).desc).map (fun d => d.parameters.length) = some n) : am_SndC K mid pc := by
  intro p l e R s m args below meth c H locs cells slots mc ms lsA st as rest h rm Pc Qc free ea C hW hsz hM hrc hrs hfr hlo hp hce hsl
  rw [hi] at ea hM hlo
  obtain ⟨rfl, a2, a3, a4, a5, a6⟩ := am_args_spec ea
  obtain ⟨b, r, fs, rfl, hb⟩ := am_rcv0 a6
  rw [hci] at hb
  obtain ⟨w1, w2, w3, w4⟩ := am_W_at hW hb (fun q => by cases q)
  have hrv := va_recv C.2.2.2.2.2.1 hW.2.2.1 hrr w1
  rw [hrn] at hrv
  have cw := va_cnB (R := R) (s := s) (args := args) (own := am_own mid) (host := host) (index := ix) (maxL := am_mx k) (mc := mc) (ms := ms) (y := am_y k) (bytes := am_cod k) (ret := am_rty k) (ws := am_wy k) (rm := rm) n C.2.2.2.2.1 (am_gd k hco) rfl hrc hrs (C.2.2.2.2.2.2.1 _ hlk) (C.2.2.2.2.1 _ hini) hd2 ⟨hfr, hlo⟩
  exact va_runVN (As := r) ⟨C.1, C.2.1, C.2.2.1, C.2.2.2.1, C.2.2.2.2.1⟩ hM ⟨cw, C.2.2.2.2.1 _ hin, C.2.2.2.2.1 _ hse⟩ ⟨hp.1, hrv, hp.2⟩ rfl (by have h9 : (Value.ref b :: r).length = n + 1 := a2; simpa using h9) hsz (by show (Value.ref b :: r).reverse ++ rest = _; simp) (am_lvroom a5) hd ⟨hce, hsl⟩
theorem sc_SN {k n ix : Nat} {host : String} (hi : am_ins mid pc = (61, k, n, 0, [])) (hd : decode (am_cod mid) pc = .ok (.invokestatic ix, 3)) (hco : Cond.code (am_y k) (am_cod k) (am_mx k) (am_rty k) ∈ am_TW) (hlk : Cond.methodLinkNest (am_own mid) ix (am_y k) host ∈ am_NW) (hst : Cond.static (am_y k) ∈ am_TW) (hini : Cond.initialized (am_y k).cls ∈ am_TW) (hd2 : (am_y k).cls ≠ "java/lang/invoke/MethodHandle" ∧ (am_y k).cls ≠ "java/lang/invoke/VarHandle" ∧ (parseMethodDescriptor (am_y k).desc).map (fun d => d.parameters.length) = some n) : am_SndC K mid pc := by
  intro p l e R s m args below meth c H locs cells slots mc ms lsA st as rest h rm Pc Qc free ea C hW hsz hM hrc hrs hfr hlo hp hce hsl
  rw [hi] at ea hM hlo
  obtain ⟨rfl, a2, a3, a4, a5, a6⟩ := am_args_spec ea
  have cw := va_cnB (R := R) (s := s) (args := args) (own := am_own mid) (host := host) (index := ix) (maxL := am_mx k) (mc := mc) (ms := ms) (y := am_y k) (bytes := am_cod k) (ret := am_rty k) (ws := am_wy k) (rm := rm) n C.2.2.2.2.1 (am_gd k hco) rfl hrc hrs (C.2.2.2.2.2.2.1 _ hlk) (C.2.2.2.2.1 _ hini) hd2 ⟨hfr, hlo⟩
  exact va_runSN (As := as) ⟨C.1, C.2.1, C.2.2.1, C.2.2.2.1, C.2.2.2.2.1⟩ hM ⟨cw, C.2.2.2.2.1 _ hst, trivial⟩ hp rfl a2 hsz rfl (am_lvroom a5) hd ⟨hce, hsl⟩
theorem sc_IN {k n ix : Nat} {host : String} (hi : am_ins mid pc = (62, k, n, 0, [])) (hd : decode (am_cod mid) pc = .ok (.invokespecial ix, 3)) (hco : Cond.code (am_y k) (am_cod k) (am_mx k) none ∈ am_TW) (hrt : am_rty k = none) (hnm : (am_y k).name = "<init>") (hlk : Cond.methodLinkNest (am_own mid) ix (am_y k) host ∈ am_NW) (hin : Cond.instanceMethod (am_y k) ∈ am_TW) (hini : Cond.initialized (am_y k).cls ∈ am_TW) (hd2 : (am_y k).cls ≠ "java/lang/invoke/MethodHandle" ∧ (am_y k).cls ≠ "java/lang/invoke/VarHandle" ∧ (parseMethodDescriptor (am_y k).desc).map (fun d => d.parameters.length) = some n) : am_SndC K mid pc := by
  intro p l e R s m args below meth c H locs cells slots mc ms lsA st as rest h rm Pc Qc free ea C hW hsz hM hrc hrs hfr hlo hp hce hsl
  rw [hi] at ea hM hlo
  obtain ⟨rfl, a2, a3, a4, a5, a6⟩ := am_args_spec ea
  obtain ⟨b, r, rfl⟩ := am_rcv2 a6
  have hco2 : Cond.code (am_y k) (am_cod k) (am_mx k) (am_rty k) ∈ am_TW := by rw [hrt]; exact hco
  have cw := va_cnB (R := R) (s := s) (args := args) (own := am_own mid) (host := host) (index := ix) (maxL := am_mx k) (mc := mc) (ms := ms) (y := am_y k) (bytes := am_cod k) (ret := none) (ws := am_wy k) (rm := rm) n C.2.2.2.2.1 (am_gd k hco2) (by unfold am_wy; rw [hrt]) hrc hrs (C.2.2.2.2.2.2.1 _ hlk) (C.2.2.2.2.1 _ hini) hd2 ⟨hfr, hlo⟩
  exact va_runIN (As := r) ⟨C.1, C.2.1, C.2.2.1, C.2.2.2.1, C.2.2.2.2.1⟩ hM ⟨cw, hnm, C.2.2.2.2.1 _ hin⟩ hp rfl (by have h9 : (Value.ref b :: r).length = n + 1 := a2; simpa using h9) hsz (by show (Value.ref b :: r).reverse ++ rest = _; simp) (am_lvroom a5) hd ⟨hce, hsl⟩
end SC
