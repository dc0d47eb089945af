-- ===== end of PART A; then your names; then what follows =====
/-! THE CLAIM OUT OF ONE WALK OF THE LAW'S BODY. Your part is whole_start (and what it stands on); all else here is the same for every law, but numbers. -/
def R_law : String := "CausalPlacesLaw"
def lw_P (b : Addr) (xs : List Int32) (args : Array Value) (s : State) : Prop := args = #[.ref b] ∧ s.IntsAt b xs ∧ xs.length ≤ 2048 ∧ (Jvm.Cond.and given_1 narrow_1).before args s = true
def lw_Q (_ : Array Value) (s : State) (o : Outcome) (t : State) : Prop := o = .returned (some (.int 1)) ∧ Framed s o t [] room_1.cells room_1.slots
def lw_Z (below : List Frame) (a : Array Value) (s : State) : State → Prop := fun t => ∃ o, t.status = .running ∧ Ended t below o ∧ lw_Q a s o t
/-- the law's own end, with 1 on the stack, nothing written that was there before, its room as the claim has it -/
theorem lw_ret {p : Program} {l : Launch} {e : Env} {s : State} {m : MethodId} {below : List Frame} {meth : Method} {c : Code} {b : Nat} (hx : p.tables.exec = Jvm.exec) (hb : c.code = code) (hr : meth.sig.returnType = ret) (hlocks : meth.locks = false) {pc : Nat} {H : Heap} {ls : Array Slot} (hdg : decode code pc = .ok (.ireturn, 1)) : W p l e room_1 s m #[Value.ref b] below meth c H [] room_1.cells room_1.slots (lw_Z below #[Value.ref b] s) (F0 m pc ls [.int 1]) := by
  intro T hT X
  obtain ⟨fs, hret, hrun, hended, hW, hframe⟩ := X.leave (v := some (.int 1)) (hlocks := hlocks) (fun h => by rw [hr] at h; cases h)
  have hmeth' : T.vm.method? m = some meth := X.method'
  refine ⟨T.setFrames fs, ?_, .returned (some (.int 1)), hrun, hended, rfl, ⟨_, rfl⟩, hW, hframe⟩
  jvm_step X.here [X.here.top, hx, hb, hdg, hmeth', hr, ret, narrow_b1]
  (try refine ⟨rfl, ?_⟩); (try refine ⟨rfl, ?_⟩)
  first | (intro acts; rw [hret _ acts rfl rfl rfl]) | rw [hret _ _ rfl rfl rfl]
  exact Steps.refl _
/-- what holds at the law's entry: the machine, the code, the tables' words (any of lw_tbl by 'hts w (by decide +kernel)'), the script of L ints xs at the cell b, what the Statement gives of the start (any of its parts by flat_of_before) -/
def lw_At (p : Program) (s : State) (m : MethodId) (meth : Method) (c : Code) (b L : Nat) (xs : Nat → Int32) : Prop :=
  p.tables.exec = Jvm.exec ∧ c.code = code ∧ meth.sig.returnType = ret ∧ c.maxLocals = 4 ∧ s.vm.findClass R_law = some m.cls ∧ (∀ w ∈ lw_tbl, w.before #[Value.ref b] s = true) ∧ va_X b L xs s s.heap ∧ b < s.heap.size ∧ meth.locks = false ∧ (Jvm.Cond.and given_1 narrow_1).before #[Value.ref b] s = true
/-- the heap of the abstract machine at the law's entry -/
def am_h0 (base b L : Nat) (xs : Nat → Int32) : aH := (base, 0, fun q => if q = b then some (.inl (9, L, .inl xs)) else none)
/-- THE CLAIM over the abstract machine: the law comes to its end with 1, in its room -/
def am_Law : Prop := ∀ (base b L : Nat) (xs : Nat → Int32), b < base → L ≤ 2048 → am_R 40 0 0 [some (.ref b), none, none, none] [] (am_h0 base b L xs) (fun r h' => r = some (.int 1) ∧ h'.1 ≤ base + 520000 ∧ h'.2.1 ≤ 2100000)
/-- the room that TURN prints is measured, and another at another turn (600000/7302250, 662313/7115310): nothing below this row has its numbers -/
theorem am_roomc {a : Nat} (h : a ≤ 520000) : a ≤ room_1.cells := Nat.le_trans h (Nat.le_of_ble_eq_true rfl)
theorem am_rooms {a : Nat} (h : a ≤ 2100000) : a ≤ room_1.slots := Nat.le_trans h (Nat.le_of_ble_eq_true rfl)
set_option maxHeartbeats 4000000 in
theorem am_start (hlaw : am_Law) {p : Program} {e : Env} {s : State} {m : MethodId} {below : List Frame} {meth : Method} {c : Code} (l : Launch) {b L : Nat} {xs : Nat → Int32} (hL : L ≤ 2048) (C0 : lw_At p s m meth c b L xs) : W p l e room_1 s m #[Value.ref b] below meth c s.heap [] 0 0 (lw_Z below #[Value.ref b] s) (entryFrame m ([Value.ref b] : List Value).toArray 4) := by
  obtain ⟨hx, hb, hr, hml, hown, hts0, hX, hbl, hlocks, hgv⟩ := id C0
  have hts : ∀ w ∈ am_TW, w.before #[Value.ref b] s = true := fun w hw => hts0 w (List.mem_filter.mp hw).1
  have hnw : ∀ w ∈ am_NW, va_Nw w s := fun w hw => am_NW_of w hw _ s (hts0 w (am_NW_in w hw))
  obtain ⟨c0, iS0, hKn0⟩ := u_known (C := CN0) (T := FT0) (N := 5) (n := 5) hts fin0 (hts _ w_11)
  obtain ⟨c1, iS1, hKn1⟩ := u_known (C := CN1) (T := FT1) (N := 7) (n := 7) hts fin1 (hts _ w_20)
  obtain ⟨c2, iS2, hKn2⟩ := u_known (C := CN2) (T := FT2) (N := 3) (n := 3) hts fin2 (hts _ w_120)
  obtain ⟨c3, iS3, hKn3⟩ := u_known (C := CN3) (T := FT3) (N := 5) (n := 5) hts fin3 (hts _ w_347)
  obtain ⟨c4, iS4, hKn4⟩ := u_known (C := CN4) (T := FT4) (N := 9) (n := 9) hts fin4 (hts _ w_75)
  obtain ⟨c5, iS5, hKn5⟩ := u_known (C := CN5) (T := FT5) (N := 8) (n := 8) hts fin5 (hts _ w_259)
  obtain ⟨c6, iS6, hKn6⟩ := u_known (C := CN6) (T := FT6) (N := 2) (n := 2) hts fin6 (hts _ w_28)
  obtain ⟨c7, iS7, hKn7⟩ := u_known (C := CN7) (T := FT7) (N := 24) (n := 24) hts fin7 (hts _ w_504)
  obtain ⟨dC, dI, hKc⟩ : ∃ (dC : Nat → ClassId) (dI : Nat → Nat → Nat), ∀ (k : Nat) (q : vw_C), vwCl[k]? = some q → u_Kn s q.1 q.2.1 q.2.2 (dC k) (dI k) := by
    refine ⟨fun k => if k = 0 then c0 else if k = 1 then c1 else if k = 2 then c2 else if k = 3 then c3 else if k = 4 then c4 else if k = 5 then c5 else if k = 6 then c6 else c7, fun k => if k = 0 then iS0 else if k = 1 then iS1 else if k = 2 then iS2 else if k = 3 then iS3 else if k = 4 then iS4 else if k = 5 then iS5 else if k = 6 then iS6 else iS7, ?_⟩
    intro k q hq
    match k, hq with
    | 0, hq => cases hq; exact hKn0
    | 1, hq => cases hq; exact hKn1
    | 2, hq => cases hq; exact hKn2
    | 3, hq => cases hq; exact hKn3
    | 4, hq => cases hq; exact hKn4
    | 5, hq => cases hq; exact hKn5
    | 6, hq => cases hq; exact hKn6
    | 7, hq => cases hq; exact hKn7
    | k + 8, hq => simp [vwCl] at hq
  obtain ⟨aI, kAI, compI, fI, kI1, kI2⟩ := Cond.arrayClass_spec (hts _ w_40)
  obtain ⟨aZ, kAZ, compZ, fZ, kZ1, kZ2⟩ := Cond.arrayClass_spec (hts _ w_41)
  obtain ⟨q1, a1, k1, f11, -, f13, f14, f15⟩ := Cond.arrayOver_spec (hnw _ nwAO1)
  obtain ⟨q2, a2, k2, f21, -, f23, f24, f25⟩ := Cond.arrayOver_spec (hnw _ nwAO2)
  obtain ⟨q4, a4, k4, f41, -, f43, f44, f45⟩ := Cond.arrayOver_spec (hnw _ nwAO4)
  obtain ⟨q5, a5, k5, f51, -, f53, f54, f55⟩ := Cond.arrayOver_spec (hnw _ nwAO5)
  let K : aK := ((dC, dI), (fun t => if t = 0 then aI else aZ), (fun t => if t = 1 then a1 else if t = 2 then a2 else if t = 4 then a4 else if t = 5 then a5 else 0), s.heap.size, b, L, xs)
  have hK : va_K (kG K) vwCl (am_tys K) s := by
    refine ⟨hKc, fun k q hk => ?_⟩
    match k, hk with
    | 0, hk => cases hk; exact ⟨fun n z => ⟨(fun k h => by cases h), kAI, kI1, compI, kI2⟩, fI⟩
    | 1, hk => cases hk; exact ⟨fun n z => ⟨(fun k h => by cases h), kAZ, kZ1, compZ, kZ2⟩, fZ⟩
    | 2, hk => cases hk; exact ⟨fun n z => ⟨(fun k h => by cases h), k1, f13, q1, f14⟩, k1, q1, f13, f14, f11, f15⟩
    | 3, hk => cases hk; exact ⟨fun n z => ⟨(fun k h => by cases h), k2, f23, q2, f24⟩, k2, q2, f23, f24, f21, f25⟩
    | 4, hk => cases hk; exact ⟨fun n z => ⟨(fun k h => by cases h), k4, f43, q4, f44⟩, k4, q4, f43, f44, f41, f45⟩
    | 5, hk => cases hk; exact ⟨fun n z => ⟨(fun k h => by cases h), k5, f53, q5, f54⟩, k5, q5, f53, f54, f51, f55⟩
    | k + 6, hk => simp [am_tys, am_rc] at hk
  have C : am_Cx K 0 p s m #[Value.ref b] meth c := ⟨hx, hb, hml, hown, hts, hK, hnw, hlocks, hr, fun q => absurd q (by decide), Nat.le_refl _⟩
  have hW : am_W K s (am_h0 s.heap.size b L xs) s.heap := by
    refine ⟨rfl, Nat.le_refl _, fun k q hk => ?_, hX, hbl, if_pos rfl, fun a e he => ?_⟩
    · have e0 : am_ws K (am_h0 s.heap.size b L xs) = [] := by
        show (List.range (s.heap.size - s.heap.size)).map _ = []
        rw [Nat.sub_self]
        rfl
      rw [e0] at hk
      simp at hk
    · have he : (if a = b then some (.inl (9, L, .inl xs)) else none) = some e := he
      split at he
      · rename_i hq
        cases he
        exact Or.inr ⟨hq, rfl⟩
      · cases he
  obtain ⟨n, r, hrun, hr1, hr2, hr3⟩ := hlaw s.heap.size b L xs hbl hL
  have N := am_sound K n 40 0 0 _ [] _ r hrun p l e room_1 s m #[Value.ref b] below meth c (lw_Z below #[Value.ref b] s) 0 C ⟨Nat.le_refl _, Nat.le_refl _⟩ ⟨by decide, by decide, am_roomc (by omega), am_rooms (by omega)⟩ ?_
  · rw [lg_entry_eq]
    have N2 := N s.heap [] _ hW va_S.rf (am_L_ent (vs := [Value.ref b]) (n := 4) (Nat.le_of_ble_eq_true rfl) (fun v hv => by rw [List.mem_singleton.mp hv]; rfl))
    have e1 : (am_h0 s.heap.size b L xs).1 - s.heap.size = 0 := Nat.sub_self _
    rw [e1] at N2
    exact N2
  · intro pc' ls' hRt H locs lsA hW2 hS2 hL2
    rw [hr1] at hRt ⊢
    rcases hRt with ⟨x1, ty, e1, hd, ht, hnar⟩ | ⟨o, ty, e1, hd, ht, hob⟩ | ⟨e1, hd, ht⟩
    · refine va_forget (fun q hq => hS2.2.2 q hq) ?_
      refine W.widen (k := room_1.cells) (n := room_1.slots) (am_roomc (by omega)) (am_rooms (by omega)) ?_
      exact lw_ret hx hb hr hlocks hd
    · cases o <;> cases e1
    · cases e1
