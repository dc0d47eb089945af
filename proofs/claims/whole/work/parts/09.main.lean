/-! the whole run: what am_run answers, the machine answers -/
def am_T (K : aK) (U : State) : Prop := va_K (kG K) vwCl (am_tys K) U ∧ ∀ w ∈ am_NW, va_Nw w U
theorem am_W_moved {K : aK} {u U : State} {h : aH} {H : Heap} (hvm : u.vm.Alike U.vm) (hW : am_W K u h H) : am_W K U h H := ⟨hW.1, hW.2.1, hW.2.2.1, hW.2.2.2.1.moved hvm, hW.2.2.2.2⟩
def am_Pc (K : aK) (as : List Value) (h : aH) : Array Value → State → Prop := va_Pc as (fun U => am_T K U ∧ am_W K U h U.heap)
def am_Qc (K : aK) (r : Option Value) (h' : aH) : Array Value → State → Outcome → State → Prop := fun _ st o t => o = .returned r ∧ am_W K t h' t.heap ∧ va_F (am_A K) st t
theorem am_Pc_blind {K : aK} {as : List Value} {h : aH} : FrameBlind (am_Pc K as h) := by
  intro a U g mk q
  obtain ⟨q0, ⟨q1, q2⟩, q3⟩ := q
  refine ⟨q0, ⟨va_K.moved (u := U) (U := U.calling g mk a) (Vm.Alike.refl U.vm) q1, fun w hw => am_NW_same w hw U (U.calling g mk a) rfl (q2 w hw)⟩, ?_⟩
  exact am_W_moved (u := U) (U := U.calling g mk a) (Vm.Alike.refl U.vm) q3
theorem am_Pc_pre {K : aK} {s : State} {as : List Value} {h : aH} {H : Heap} (hK : va_K (kG K) vwCl (am_tys K) s) (hN : ∀ w ∈ am_NW, va_Nw w s) (hW : am_W K s h H) : PreS s H (am_Pc K as h) as :=
  ⟨am_Pc_blind, fun U hU hWm => ⟨rfl, ⟨va_K.moved hWm.alike hK, fun w hw => am_NW_warm w hw s U hWm (hN w hw)⟩, by rw [hU]; exact am_W_moved hWm.alike hW⟩⟩
def am_Main (K : aK) (n : Nat) : Prop := ∀ (d mid pc : Nat) (ls : aL) (st : List Value) (h : aH) (r : Option Value × aH), am_run n d mid pc ls st h = some r →
  ∀ (p : Program) (l : Launch) (e : Env) (R : Room) (s : State) (m : MethodId) (args : Array Value) (below : List Frame) (meth : Method) (c : Code) (Q : State → Prop) (z0 : Nat),
  am_Cx K mid p s m args meth c → (z0 ≤ h.2.1 ∧ s.heap.size ≤ h.1) → (d + 1 ≤ R.frames ∧ 40 * (d + 1) ≤ R.locals ∧ r.2.1 - s.heap.size ≤ R.cells ∧ r.2.2.1 - z0 ≤ R.slots) →
  (∀ (pc' : Nat) (ls' : aL), am_Ret mid pc' r.1 → am_N K mid p l e R s m args below meth c Q z0 pc' ls' r.1.toList r.2) → am_N K mid p l e R s m args below meth c Q z0 pc ls st h
theorem am_met {K : aK} {n : Nat} (hM : am_Main K n) (l : Launch) {d mid : Nat} {as : List Value} {h : aH} {r : Option Value × aH} (hr : am_run n d mid 0 (am_ent mid as) [] h = some r) (hn : as.length ≤ am_mx mid) (hc : ∀ v ∈ as, v.category = 1) :
    Met l (am_y mid) (am_wy mid) { frames := d + 1, cells := r.2.1 - h.1, slots := r.2.2.1 - h.2.1, locals := 40 * (d + 1) } (am_Pc K as h) (am_Qc K r.1 r.2) (r.2.1 - h.1) (r.2.2.1 - h.2.1) (am_A K) := by
  refine Met.ofW (cc := am_cod mid) (maxL := am_mx mid) (ret := am_rty mid) (am_y_plain mid) rfl ?_
  intro p e s m args below meth c s₁ B hml hv
  obtain ⟨rfl, ⟨hK, hNw⟩, hW⟩ := hv
  have hx := B.exec
  have hb := B.bytes
  have hrt := B.returns
  have hts := atoms_spec (ws := am_wy mid) B.pre
  have hown : s.vm.findClass (am_y mid).cls = some m.cls := findClass_of_methodNamed B.named
  have hlocks := B.notSynchronized
  have hnm : meth.name = (am_y mid).name := (name_of_methodNamed B.named B.method).1
  have hsz : s.heap.size = h.1 := hW.1
  have hbs : kB K ≤ s.heap.size := by rw [hsz]; exact hW.2.1
  have C : am_Cx K mid p s m as.toArray meth c := ⟨hx, hb, hml, hown, fun w hw => hts w (List.mem_cons_of_mem _ hw), hK, hNw, hlocks, hrt, fun q => hnm.trans q, hbs⟩
  rw [lg_entry_eq]
  have N := hM d mid 0 (am_ent mid as) [] h r hr p l e { frames := d + 1, cells := r.2.1 - h.1, slots := r.2.2.1 - h.2.1, locals := 40 * (d + 1) } s m as.toArray below meth c (MQ below (am_Qc K r.1 r.2) as.toArray s (r.2.1 - h.1) (r.2.2.1 - h.2.1) (am_A K)) h.2.1 C ⟨Nat.le_refl _, Nat.le_of_eq hsz⟩ ⟨Nat.le_refl _, Nat.le_refl _, by show _ ≤ r.2.1 - h.1; rw [hsz]; exact Nat.le_refl _, Nat.le_refl _⟩ ?_
  · have N2 := N s.heap [] _ hW va_S.rf (am_L_ent hn hc)
    rw [hsz, Nat.sub_self, Nat.sub_self] at N2
    exact N2
  · intro pc' ls' hR H locs lsA hW2 hS2 hL2
    rw [hsz]
    rcases hR with ⟨x, ty, e1, hd, ht, hnar⟩ | ⟨o, ty, e1, hd, ht, hob⟩ | ⟨e1, hd, ht⟩
    · rw [e1]
      exact W.zret hx hb (hrt.trans ht) hnar (fun t ht2 hWm => ⟨rfl, by rw [ht2]; exact am_W_moved hWm.alike hW2, hS2.F ht2⟩) hS2.2.2 hd
    · rw [e1]
      exact W.aret hx hb (hrt.trans ht) hob (by cases o with | none => exact Or.inl rfl | some a => exact Or.inr ⟨a, rfl⟩) (fun t ht2 hWm => ⟨rfl, by rw [ht2]; exact am_W_moved hWm.alike hW2, hS2.F ht2⟩) hS2.2.2 hd
    · rw [e1]
      exact W.vret hx hb (hrt.trans ht) (fun t ht2 hWm => ⟨rfl, by rw [ht2]; exact am_W_moved hWm.alike hW2, hS2.F ht2⟩) hS2.2.2 hd
theorem am_main {K : aK} (h1 : ∀ mid pc, (am_ins mid pc).1 < 50 → am_Snd K mid pc) (h2 : ∀ mid pc, ¬ (am_ins mid pc).1 < 50 → (am_ins mid pc).1 < 60 → am_SndR mid pc) (h3 : ∀ mid pc, ¬ (am_ins mid pc).1 < 60 → am_SndC K mid pc) (hmx : ∀ mid, am_mx mid ≤ 20) : ∀ n, am_Main K n := by
  intro n
  induction n with
  | zero => intro d mid pc ls st h r e; cases e
  | succ n ih =>
    intro d mid pc ls st h r e p l ev R s m args below meth c Q z0 C hz hR fin
    have hgr := am_run_gr _ _ _ _ _ _ _ _ e
    rw [am_run] at e
    split at e
    · rename_i c1
      obtain ⟨⟨pc1, ls1, st1, h1'⟩, e1, e2⟩ := Option.bind_eq_some_iff.mp e
      have g1 := am_step_gr e1
      have g2 := am_run_gr _ _ _ _ _ _ _ _ e2
      have g11 : h.1 ≤ h1'.1 := g1.1
      have g12 : h.2.1 ≤ h1'.2.1 := g1.2
      have g21 : h1'.1 ≤ r.2.1 := g2.1
      have g22 : h1'.2.1 ≤ r.2.2.1 := g2.2
      exact h1 mid pc c1 p l ev R s m args below meth c Q z0 ls st h pc1 ls1 st1 h1' e1 C hz ⟨by omega, by omega, by omega, by omega⟩ (ih d mid pc1 ls1 st1 h1' r e2 p l ev R s m args below meth c Q z0 C ⟨by omega, by omega⟩ hR fin)
    · rename_i c1
      split at e
      · rename_i c2
        obtain ⟨r0, e1, e2⟩ := Option.map_eq_some_iff.mp e
        cases e2
        obtain ⟨g1, g2⟩ := h2 mid pc c1 c2 st r0 e1
        rw [g1]
        exact fin pc ls g2
      · rename_i c2
        split at e
        · cases e
        · rename_i c3
          obtain ⟨d, rfl⟩ : ∃ k, d = k + 1 := ⟨d - 1, by omega⟩
          rw [Nat.add_sub_cancel] at e
          obtain ⟨⟨as, rest⟩, e1, e2⟩ := Option.bind_eq_some_iff.mp e
          obtain ⟨r1, e3, e4⟩ := Option.bind_eq_some_iff.mp e2
          obtain ⟨a1, a2, a3, a4, a5, a6⟩ := am_args_spec e1
          have g1 := am_run_gr _ _ _ _ _ _ _ _ e3
          have g2 := am_run_gr _ _ _ _ _ _ _ _ e4
          have g11 : h.1 ≤ r1.2.1 := g1.1
          have g12 : h.2.1 ≤ r1.2.2.1 := g1.2
          have g21 : r1.2.1 ≤ r.2.1 := g2.1
          have g22 : r1.2.2.1 ≤ r.2.2.1 := g2.2
          have hm := am_met ih l e3 (by rw [a2]; exact a3) a4
          have N := ih (d + 1) mid (pc + 3) ls (r1.1.toList ++ rest) r1.2 r e4 p l ev R s m args below meth c Q z0 C ⟨by omega, by omega⟩ hR fin
          intro H locs lsA hW hS hL
          have hmc := hmx (am_ins mid pc).2.1
          have hrun := h3 mid pc c2 p l ev R s m args below meth c H locs (h.1 - s.heap.size) (h.2.1 - z0) (r1.2.1 - h.1) (r1.2.2.1 - h.2.1) lsA st as rest h _ (am_Pc K as h) (am_Qc K r1.1 r1.2) (am_A K) e1 C hW hL.1 hm rfl rfl (by show d + 1 + 1 ≤ _; omega) (by show 8 + (am_mx _ + 11) + 40 * (d + 1) ≤ _; omega) (am_Pc_pre C.2.2.2.2.2.1 C.2.2.2.2.2.2.1 hW) (by omega) (by omega)
          intro T hT X
          obtain ⟨v, st0, t, T', L, k0, X', kL, k1, k2, ⟨q1, q2, q3⟩, stp⟩ := hrun T hT X
          cases q1
          have ez1 : h.1 - s.heap.size + (r1.2.1 - h.1) = r1.2.1 - s.heap.size := by omega
          have ez2 : h.2.1 - z0 + (r1.2.2.1 - h.2.1) = r1.2.2.1 - z0 := by omega
          rw [ez1, ez2] at X'
          have hal : s.vm.Alike t.vm := by rw [← k2]; exact X'.warmed.alike
          have hW2 : am_W K s r1.2 T'.heap := by rw [k1]; exact am_W_moved hal.symm q2
          have hS2 : va_S (am_A K) s.heap T'.heap (locs ++ L) := by
            refine ⟨?_, fun q h1 h2 => ?_, fun q hq => ?_⟩
            · rw [k1]
              exact Nat.le_trans hS.1 (by rw [← k0]; exact q3.1)
            · rw [k1, q3.2 q (by rw [k0]; exact Nat.lt_of_lt_of_le h1 hS.1) h2, k0]
              exact hS.2.1 q h1 h2
            · rcases List.mem_append.mp hq with z | z
              · exact hS.2.2 q z
              · exact kL q z
          obtain ⟨t2, b1, b2⟩ := N T'.heap (locs ++ L) lsA hW2 hS2 hL T' rfl X'
          exact ⟨t2, stp t2 b1, b2⟩
