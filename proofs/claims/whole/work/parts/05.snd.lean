/-! the abstract machine's heap in the machine's heap; each operation is what the machine does -/
abbrev aK : Type := va_G × (Nat → ClassId) × (Nat → ClassId) × Nat × Nat × Nat × (Nat → Int32)
abbrev kG (K : aK) : va_G := K.1
abbrev kI (K : aK) : Nat → ClassId := K.2.1
abbrev kR (K : aK) : Nat → ClassId := K.2.2.1
abbrev kB (K : aK) : Nat := K.2.2.2.1
abbrev kS (K : aK) : Nat := K.2.2.2.2.1
abbrev kN (K : aK) : Nat := K.2.2.2.2.2.1
abbrev kX (K : aK) : Nat → Int32 := K.2.2.2.2.2.2
def am_cn (t : Nat) : String := ((vwCl[t]?).map (fun r => r.1)).getD ""
def am_tys (K : aK) : List (ClassId × FieldType) := (kI K 0, .int) :: (kI K 1, .boolean) :: am_rc.map (fun t => (kR K t, .object (am_cn t)))
def am_tr (K : aK) (e : aE) : va_E := match e with
  | .inl (t, n, .inl f) => .inl (kI K t, n, .inl f)
  | .inl (t, n, .inr g) => .inl (kR K t, n, .inr (.inr (.inr (.inr g))))
  | .inr o => .inr o
def am_ws (K : aK) (h : aH) : va_W := (List.range (h.1 - kB K)).map (fun i => (kB K + i, am_tr K ((h.2.2 (kB K + i)).getD (.inr (0, [])))))
def am_scr (K : aK) : aE := .inl (9, kN K, .inl (kX K))
def am_ok (e : aE) : Prop := match e with
  | .inl (t, _, .inl _) => t = 0 ∨ t = 1
  | .inl (t, _, .inr _) => t ∈ am_rc
  | .inr _ => True
def am_A (K : aK) : Nat → Prop := fun q => kB K ≤ q
def am_W (K : aK) (U : State) (h : aH) (H : Heap) : Prop := H.size = h.1 ∧ kB K ≤ h.1 ∧ va_P (kG K) vwCl (am_ws K h) H ∧ va_X (kS K) (kN K) (kX K) U H ∧ kS K < kB K ∧ h.2.2 (kS K) = some (am_scr K) ∧ ∀ a e, h.2.2 a = some e → (kB K ≤ a ∧ a < h.1 ∧ am_ok e) ∨ (a = kS K ∧ e = am_scr K)
theorem am_ws_at {K : aK} {h : aH} {a : Nat} {e : aE} (h1 : kB K ≤ a) (h2 : a < h.1) (he : h.2.2 a = some e) : (am_ws K h)[a - kB K]? = some (a, am_tr K e) := by
  unfold am_ws
  rw [List.getElem?_map, List.getElem?_range (by omega)]
  have e1 : kB K + (a - kB K) = a := by omega
  simp only [Option.map_some, e1, he, Option.getD_some]
theorem am_ws_set {K : aK} {h : aH} {a : Nat} (e : aE) (h1 : kB K ≤ a) (h2 : a < h.1) : (am_ws K h).set (a - kB K) (a, am_tr K e) = am_ws K (am_up h a e) := by
  apply List.ext_getElem?
  intro i
  rw [List.getElem?_set]
  unfold am_ws am_up
  dsimp only
  by_cases hi : a - kB K = i
  · subst hi
    rw [if_pos rfl, if_pos (by rw [List.length_map, List.length_range]; omega), List.getElem?_map, List.getElem?_range (by omega)]
    have e1 : kB K + (a - kB K) = a := by omega
    simp only [Option.map_some, e1, if_pos, Option.getD_some]
  · rw [if_neg hi, List.getElem?_map, List.getElem?_map]
    by_cases hl : i < h.1 - kB K
    · rw [List.getElem?_range hl]
      have e2 : ¬ kB K + i = a := by omega
      simp only [Option.map_some, e2, if_false]
    · rw [List.getElem?_eq_none (by rw [List.length_range]; omega)]
      rfl
theorem am_ws_push {K : aK} {h : aH} (k : Nat) (e : aE) (h1 : kB K ≤ h.1) : am_ws K h ++ [(h.1, am_tr K e)] = am_ws K (am_nw h k e) := by
  unfold am_ws am_nw
  dsimp only
  rw [show h.1 + 1 - kB K = (h.1 - kB K) + 1 by omega, List.range_succ, List.map_append]
  congr 1
  · apply List.map_congr_left
    intro i hi
    have h2 : i < h.1 - kB K := List.mem_range.mp hi
    have e2 : ¬ kB K + i = h.1 := by omega
    simp only [e2, if_false]
  · have e1 : kB K + (h.1 - kB K) = h.1 := by omega
    simp only [List.map_cons, List.map_nil, e1, if_pos, Option.getD_some]
theorem am_ws_D (K : aK) (h : aH) : va_D (am_A K) (am_ws K h) := by
  have key : ∀ (i : Nat) (q : Nat × va_E), (am_ws K h)[i]? = some q → q.1 = kB K + i := by
    intro i q hq
    unfold am_ws at hq
    rw [List.getElem?_map] at hq
    by_cases hl : i < h.1 - kB K
    · rw [List.getElem?_range hl] at hq
      cases hq
      rfl
    · rw [List.getElem?_eq_none (by rw [List.length_range]; omega)] at hq
      cases hq
  refine ⟨fun i j p q hi hj hpq => ?_, fun k q hk => ?_⟩
  · have h1 := key i p hi
    have h2 := key j q hj
    omega
  · have h1 := key k q hk
    show kB K ≤ q.1
    omega
/-- the locals -/
def am_L (lsA : Array Slot) (nL : Nat) (ls : aL) : Prop := lsA.size = nL ∧ lv_wf lsA ∧ ls.length = nL ∧ ∀ (i : Nat) (v : Value), ls[i]? = some (some v) → lsA[i]? = some (.val v) ∧ v.category = 1
def am_al (ls : aL) : List (Nat × Value) := (List.range ls.length).filterMap (fun i => (ls[i]?.join).map (fun v => (i, v)))
theorem am_al_mem {ls : aL} {i : Nat} {v : Value} : (i, v) ∈ am_al ls ↔ ls[i]? = some (some v) := by
  unfold am_al
  rw [List.mem_filterMap]
  constructor
  · rintro ⟨j, -, h2⟩
    obtain ⟨w, h3, h4⟩ := Option.map_eq_some_iff.mp h2
    cases h4
    cases hj : ls[i]? with
    | none => rw [hj] at h3; cases h3
    | some o => rw [hj] at h3; exact congrArg some h3
  · intro h
    refine ⟨i, List.mem_range.mpr (List.getElem?_eq_some_iff.mp h).1, ?_⟩
    rw [h]
    rfl
theorem am_L_has {lsA : Array Slot} {nL : Nat} {ls : aL} (h : am_L lsA nL ls) : lv_has lsA nL (am_al ls) := ⟨h.1, h.2.1, fun q hq => (h.2.2.2 q.1 q.2 (am_al_mem.mp hq)).1⟩
theorem am_L_store {lsA lsB : Array Slot} {nL i : Nat} {ls : aL} {v : Value} (h : am_L lsA nL ls) (hv : v.category = 1) (hb : lv_has lsB nL ((i, v) :: (am_al ls).filter (fun q => !(q.1 == i) && !(q.1 + 1 == i && q.2.category == 2)))) : am_L lsB nL (ls.set i (some v)) := by
  refine ⟨hb.1, hb.2.1, by rw [List.length_set]; exact h.2.2.1, fun j w hj => ?_⟩
  rw [List.getElem?_set] at hj
  by_cases hij : i = j
  · subst hij
    rw [if_pos rfl] at hj
    split at hj
    · cases hj
      exact ⟨hb.2.2 (i, v) List.mem_cons_self, hv⟩
    · cases hj
  · rw [if_neg hij] at hj
    have h1 := h.2.2.2 j w hj
    refine ⟨hb.2.2 (j, w) (List.mem_cons_of_mem _ (List.mem_filter.mpr ⟨am_al_mem.mpr hj, ?_⟩)), h1.2⟩
    have hji : ¬ j = i := fun q => hij q.symm
    simp [hji, h1.2]
theorem am_L_ent {vs : List Value} {n : Nat} (hn : vs.length ≤ n) (hc : ∀ v ∈ vs, v.category = 1) : am_L ((lg_sl vs ++ List.replicate (n - (lg_sl vs).length) Slot.unset).toArray) n (vs.map some ++ List.replicate (n - vs.length) none) := by
  have e : lg_sl vs = vs.map Slot.val := by
    unfold lg_sl
    clear hn
    induction vs with
    | nil => rfl
    | cons v vs ih =>
      have h1 : ¬ v.category = 2 := by rw [hc v List.mem_cons_self]; decide
      rw [List.flatMap_cons, if_neg h1, ih (fun w hw => hc w (List.mem_cons_of_mem _ hw))]
      rfl
  have h0 := lv_entry vs (n := n) (by rw [e, List.length_map]; exact hn)
  refine ⟨h0.1, h0.2.1, by simp; omega, fun i v hv => ?_⟩
  by_cases hi : i < vs.length
  · rw [List.getElem?_append_left (by rw [List.length_map]; exact hi), List.getElem?_map] at hv
    obtain ⟨w, h1, h2⟩ := Option.map_eq_some_iff.mp hv
    cases h2
    refine ⟨?_, hc v (List.mem_of_getElem? h1)⟩
    rw [e, List.getElem?_toArray, List.getElem?_append_left (by rw [List.length_map]; exact hi), List.getElem?_map, h1]
    rfl
  · rw [List.getElem?_append_right (by rw [List.length_map]; omega), List.getElem?_replicate] at hv
    split at hv <;> cases hv
/-- what a method's body knows from its entry on -/
def am_Cx (K : aK) (mid : Nat) (p : Program) (s : State) (m : MethodId) (args : Array Value) (meth : Method) (c : Code) : Prop :=
  p.tables.exec = Jvm.exec ∧ c.code = am_cod mid ∧ c.maxLocals = am_mx mid ∧ s.vm.findClass (am_own mid) = some m.cls ∧ (∀ w ∈ am_TW, w.before args s = true) ∧ va_K (kG K) vwCl (am_tys K) s ∧ (∀ w ∈ am_NW, va_Nw w s) ∧ meth.locks = false ∧ meth.sig.returnType = am_rty mid ∧ (am_nm mid = "<init>" → meth.name = "<init>") ∧ kB K ≤ s.heap.size
section AMN
variable (K : aK) (mid : Nat) (p : Program) (l : Launch) (e : Env) (R : Room) (s : State) (m : MethodId) (args : Array Value) (below : List Frame) (meth : Method) (c : Code) (Q : State → Prop) (z0 : Nat)
/-- from here the machine comes to Q -/
def am_N (pc : Nat) (ls : aL) (st : List Value) (h : aH) : Prop := ∀ (H : Heap) (locs : List Loc) (lsA : Array Slot), am_W K s h H → va_S (am_A K) s.heap H locs → am_L lsA (am_mx mid) ls →
  W p l e R s m args below meth c H locs (h.1 - s.heap.size) (h.2.1 - z0) Q (F0 m pc lsA st)
end AMN
def am_Snd (K : aK) (mid pc : Nat) : Prop := ∀ (p : Program) (l : Launch) (e : Env) (R : Room) (s : State) (m : MethodId) (args : Array Value) (below : List Frame) (meth : Method) (c : Code) (Q : State → Prop) (z0 : Nat) (ls : aL) (st : List Value) (h : aH) (pc' : Nat) (ls' : aL) (st' : List Value) (h' : aH),
  am_step (am_ins mid pc) pc ls st h = some (pc', ls', st', h') → am_Cx K mid p s m args meth c → (z0 ≤ h.2.1 ∧ s.heap.size ≤ h.1) → (1 ≤ R.frames ∧ 40 ≤ R.locals ∧ h'.1 - s.heap.size ≤ R.cells ∧ h'.2.1 - z0 ≤ R.slots) →
  am_N K mid p l e R s m args below meth c Q z0 pc' ls' st' h' → am_N K mid p l e R s m args below meth c Q z0 pc ls st h
/-- a wider look: the size of the heap is told by the count of cells -/
theorem am_Wsz {p : Program} {l : Launch} {e : Env} {R : Room} {s : State} {m : MethodId} {args : Array Value} {below : List Frame} {meth : Method} {c : Code} {H : Heap} {locs : List Loc} {cells slots : Nat} {Q : State → Prop} {g : JFrame} (k : H.size ≤ s.heap.size + cells → W p l e R s m args below meth c H locs cells slots Q g) : W p l e R s m args below meth c H locs cells slots Q g :=
  fun T hT X => k (by rw [← hT]; exact X.heapSize) T hT X
section SN
variable {K : aK} {mid pc : Nat}
theorem sn_const1 {v : Int32} {n : Int} (hi : am_ins mid pc = (0, 1, 0, v, [])) (hd : decode (am_cod mid) pc = .ok (.iconst n, 1)) (hv : Int32.ofInt n = v) : am_Snd K mid pc := by
  intro p l e R s m args below meth c Q z0 ls st h pc' ls' st' h' hs C hz hR N H locs lsA hW hS hL
  rw [hi] at hs
  cases hs
  exact lv_iconst C.1 C.2.1 hd hv (N H locs lsA hW hS hL)
theorem sn_const2 {v : Int32} {n : Int} (hi : am_ins mid pc = (0, 2, 0, v, [])) (hd : decode (am_cod mid) pc = .ok (.bipush n, 2)) (hv : (Int8.ofInt n).toInt32 = v) : am_Snd K mid pc := by
  intro p l e R s m args below meth c Q z0 ls st h pc' ls' st' h' hs C hz hR N H locs lsA hW hS hL
  rw [hi] at hs
  cases hs
  exact lv_bipush C.1 C.2.1 hd hv (N H locs lsA hW hS hL)
theorem sn_const3 {v : Int32} {n : Int} (hi : am_ins mid pc = (0, 3, 0, v, [])) (hd : decode (am_cod mid) pc = .ok (.sipush n, 3)) (hv : (Int16.ofInt n).toInt32 = v) : am_Snd K mid pc := by
  intro p l e R s m args below meth c Q z0 ls st h pc' ls' st' h' hs C hz hR N H locs lsA hW hS hL
  rw [hi] at hs
  cases hs
  exact lv_sipush C.1 C.2.1 hd hv (N H locs lsA hW hS hL)
theorem sn_ldc {v : Int32} {ix : Nat} (hi : am_ins mid pc = (0, 2, 0, v, [])) (hd : decode (am_cod mid) pc = .ok (.ldc ix, 2)) (hw : Jvm.Cond.constant (am_own mid) ix v ∈ am_TW) : am_Snd K mid pc := by
  intro p l e R s m args below meth c Q z0 ls st h pc' ls' st' h' hs C hz hR N H locs lsA hW hS hL
  rw [hi] at hs
  cases hs
  exact lv_ldc C.1 C.2.1 C.2.2.2.1 (C.2.2.2.2.1 _ hw) hd (N H locs lsA hW hS hL)
theorem sn_iload_n {k : Fin 4} {i : Nat} (hi : am_ins mid pc = (1, i, 1, 0, [])) (hd : decode (am_cod mid) pc = .ok (.iload_n k, 1)) (hk : (k : Nat) = i) : am_Snd K mid pc := by
  intro p l e R s m args below meth c Q z0 ls st h pc' ls' st' h' hs C hz hR N H locs lsA hW hS hL
  rw [hi] at hs
  have hs : o_iload (1, i, 1, 0, []) pc ls st h = _ := hs
  unfold o_iload at hs
  dsimp only at hs
  split at hs
  · rename_i x hx
    cases hs
    exact lv_iload_n C.1 C.2.1 hd hk (hL.2.2.2 _ _ hx).1 (N H locs lsA hW hS hL)
  · cases hs
theorem sn_iload {i : Nat} (hi : am_ins mid pc = (1, i, 2, 0, [])) (hd : decode (am_cod mid) pc = .ok (.iload i, 2)) : am_Snd K mid pc := by
  intro p l e R s m args below meth c Q z0 ls st h pc' ls' st' h' hs C hz hR N H locs lsA hW hS hL
  rw [hi] at hs
  have hs : o_iload (1, i, 2, 0, []) pc ls st h = _ := hs
  unfold o_iload at hs
  dsimp only at hs
  split at hs
  · rename_i x hx
    cases hs
    exact lv_iload C.1 C.2.1 hd (hL.2.2.2 _ _ hx).1 (N H locs lsA hW hS hL)
  · cases hs
theorem sn_aload_n {k : Fin 4} {i : Nat} (hi : am_ins mid pc = (33, i, 1, 0, [])) (hd : decode (am_cod mid) pc = .ok (.aload_n k, 1)) (hk : (k : Nat) = i) : am_Snd K mid pc := by
  intro p l e R s m args below meth c Q z0 ls st h pc' ls' st' h' hs C hz hR N H locs lsA hW hS hL
  rw [hi] at hs
  have hs : o_aload (33, i, 1, 0, []) pc ls st h = _ := hs
  unfold o_aload at hs
  dsimp only at hs
  split at hs
  · rename_i x hx
    obtain ⟨o, h1, h2⟩ := Option.bind_eq_some_iff.mp hs
    cases h2
    have hv := am_unrf_spec h1
    subst hv
    cases o with
    | none => exact lv_aload_nN C.1 C.2.1 hd hk (hL.2.2.2 _ _ hx).1 (N H locs lsA hW hS hL)
    | some a => exact lv_aload_n C.1 C.2.1 hd hk (hL.2.2.2 _ _ hx).1 (N H locs lsA hW hS hL)
  · cases hs
theorem sn_aload {i : Nat} (hi : am_ins mid pc = (33, i, 2, 0, [])) (hd : decode (am_cod mid) pc = .ok (.aload i, 2)) : am_Snd K mid pc := by
  intro p l e R s m args below meth c Q z0 ls st h pc' ls' st' h' hs C hz hR N H locs lsA hW hS hL
  rw [hi] at hs
  have hs : o_aload (33, i, 2, 0, []) pc ls st h = _ := hs
  unfold o_aload at hs
  dsimp only at hs
  split at hs
  · rename_i x hx
    obtain ⟨o, h1, h2⟩ := Option.bind_eq_some_iff.mp hs
    cases h2
    have hv := am_unrf_spec h1
    subst hv
    cases o with
    | none => exact lv_aloadN C.1 C.2.1 hd (hL.2.2.2 _ _ hx).1 (N H locs lsA hW hS hL)
    | some a => exact lv_aload C.1 C.2.1 hd (hL.2.2.2 _ _ hx).1 (N H locs lsA hW hS hL)
  · cases hs
theorem sn_istore_n {k : Fin 4} {i : Nat} (hi : am_ins mid pc = (2, i, 1, 0, [])) (hd : decode (am_cod mid) pc = .ok (.istore_n k, 1)) (hk : (k : Nat) = i) (hn : i < am_mx mid) : am_Snd K mid pc := by
  intro p l e R s m args below meth c Q z0 ls st h pc' ls' st' h' hs C hz hR N H locs lsA hW hS hL
  rw [hi] at hs
  obtain ⟨⟨x, r⟩, h1, h2⟩ := Option.bind_eq_some_iff.mp (show (am_p1 st).bind _ = _ from hs)
  cases h2
  obtain rfl := am_p1_spec h1
  exact lv_istore_n C.1 C.2.1 hd hk (am_L_has hL) hn rfl (fun lsB hB => N H locs lsB hW hS (am_L_store hL rfl hB))
theorem sn_istore {i : Nat} (hi : am_ins mid pc = (2, i, 2, 0, [])) (hd : decode (am_cod mid) pc = .ok (.istore i, 2)) (hn : i < am_mx mid) : am_Snd K mid pc := by
  intro p l e R s m args below meth c Q z0 ls st h pc' ls' st' h' hs C hz hR N H locs lsA hW hS hL
  rw [hi] at hs
  obtain ⟨⟨x, r⟩, h1, h2⟩ := Option.bind_eq_some_iff.mp (show (am_p1 st).bind _ = _ from hs)
  cases h2
  obtain rfl := am_p1_spec h1
  exact lv_istore C.1 C.2.1 hd (am_L_has hL) hn rfl (fun lsB hB => N H locs lsB hW hS (am_L_store hL rfl hB))
theorem sn_astore_n {k : Fin 4} {i : Nat} (hi : am_ins mid pc = (34, i, 1, 0, [])) (hd : decode (am_cod mid) pc = .ok (.astore_n k, 1)) (hk : (k : Nat) = i) (hn : i < am_mx mid) : am_Snd K mid pc := by
  intro p l e R s m args below meth c Q z0 ls st h pc' ls' st' h' hs C hz hR N H locs lsA hW hS hL
  rw [hi] at hs
  obtain ⟨⟨x, r⟩, h1, h2⟩ := Option.bind_eq_some_iff.mp (show (am_pq st).bind _ = _ from hs)
  cases h2
  obtain rfl := am_pq_spec h1
  cases x with
  | none => exact lv_astore_nN C.1 C.2.1 hd hk (am_L_has hL) hn rfl (fun lsB hB => N H locs lsB hW hS (am_L_store hL rfl hB))
  | some a => exact lv_astore_n C.1 C.2.1 hd hk (am_L_has hL) hn rfl (fun lsB hB => N H locs lsB hW hS (am_L_store hL rfl hB))
theorem sn_astore {i : Nat} (hi : am_ins mid pc = (34, i, 2, 0, [])) (hd : decode (am_cod mid) pc = .ok (.astore i, 2)) (hn : i < am_mx mid) : am_Snd K mid pc := by
  intro p l e R s m args below meth c Q z0 ls st h pc' ls' st' h' hs C hz hR N H locs lsA hW hS hL
  rw [hi] at hs
  obtain ⟨⟨x, r⟩, h1, h2⟩ := Option.bind_eq_some_iff.mp (show (am_pq st).bind _ = _ from hs)
  cases h2
  obtain rfl := am_pq_spec h1
  cases x with
  | none => exact lv_astoreN C.1 C.2.1 hd (am_L_has hL) hn rfl (fun lsB hB => N H locs lsB hW hS (am_L_store hL rfl hB))
  | some a => exact lv_astore C.1 C.2.1 hd (am_L_has hL) hn rfl (fun lsB hB => N H locs lsB hW hS (am_L_store hL rfl hB))
theorem sn_iinc {i : Nat} {v : Int32} {n : Int} (hi : am_ins mid pc = (3, i, 3, v, [])) (hd : decode (am_cod mid) pc = .ok (.iinc i n, 3)) (hv : Int32.ofInt n = v) (hn : i < am_mx mid) : am_Snd K mid pc := by
  intro p l e R s m args below meth c Q z0 ls st h pc' ls' st' h' hs C hz hR N H locs lsA hW hS hL
  rw [hi] at hs
  have hs : o_iinc (3, i, 3, v, []) pc ls st h = _ := hs
  unfold o_iinc at hs
  dsimp only at hs
  split at hs
  · rename_i x hx
    cases hs
    obtain ⟨k, hk⟩ := List.getElem?_of_mem (am_al_mem.mpr hx)
    exact lv_iinc C.1 C.2.1 hd (am_L_has hL) hk (by rw [hv]) hn rfl (fun lsB hB => N H locs lsB hW hS (am_L_store hL rfl hB))
  · cases hs
theorem sn_add (hi : am_ins mid pc = (4, 0, 0, 0, [])) (hd : decode (am_cod mid) pc = .ok (.iadd, 1)) : am_Snd K mid pc := by
  intro p l e R s m args below meth c Q z0 ls st h pc' ls' st' h' hs C hz hR N H locs lsA hW hS hL
  rw [hi] at hs
  obtain ⟨⟨x, y, r⟩, h1, h2⟩ := Option.bind_eq_some_iff.mp (show (am_p2 st).bind _ = _ from hs)
  cases h2
  obtain rfl := am_p2_spec h1
  exact lv_iadd C.1 C.2.1 hd (N H locs lsA hW hS hL)
theorem sn_sub (hi : am_ins mid pc = (4, 1, 0, 0, [])) (hd : decode (am_cod mid) pc = .ok (.isub, 1)) : am_Snd K mid pc := by
  intro p l e R s m args below meth c Q z0 ls st h pc' ls' st' h' hs C hz hR N H locs lsA hW hS hL
  rw [hi] at hs
  obtain ⟨⟨x, y, r⟩, h1, h2⟩ := Option.bind_eq_some_iff.mp (show (am_p2 st).bind _ = _ from hs)
  cases h2
  obtain rfl := am_p2_spec h1
  exact lv_isub C.1 C.2.1 hd (N H locs lsA hW hS hL)
theorem sn_mul (hi : am_ins mid pc = (4, 2, 0, 0, [])) (hd : decode (am_cod mid) pc = .ok (.imul, 1)) : am_Snd K mid pc := by
  intro p l e R s m args below meth c Q z0 ls st h pc' ls' st' h' hs C hz hR N H locs lsA hW hS hL
  rw [hi] at hs
  obtain ⟨⟨x, y, r⟩, h1, h2⟩ := Option.bind_eq_some_iff.mp (show (am_p2 st).bind _ = _ from hs)
  cases h2
  obtain rfl := am_p2_spec h1
  exact lv_imul C.1 C.2.1 hd (N H locs lsA hW hS hL)
theorem sn_and (hi : am_ins mid pc = (4, 3, 0, 0, [])) (hd : decode (am_cod mid) pc = .ok (.iand, 1)) : am_Snd K mid pc := by
  intro p l e R s m args below meth c Q z0 ls st h pc' ls' st' h' hs C hz hR N H locs lsA hW hS hL
  rw [hi] at hs
  obtain ⟨⟨x, y, r⟩, h1, h2⟩ := Option.bind_eq_some_iff.mp (show (am_p2 st).bind _ = _ from hs)
  cases h2
  obtain rfl := am_p2_spec h1
  exact lv_iand C.1 C.2.1 hd (N H locs lsA hW hS hL)
theorem sn_or (hi : am_ins mid pc = (4, 4, 0, 0, [])) (hd : decode (am_cod mid) pc = .ok (.ior, 1)) : am_Snd K mid pc := by
  intro p l e R s m args below meth c Q z0 ls st h pc' ls' st' h' hs C hz hR N H locs lsA hW hS hL
  rw [hi] at hs
  obtain ⟨⟨x, y, r⟩, h1, h2⟩ := Option.bind_eq_some_iff.mp (show (am_p2 st).bind _ = _ from hs)
  cases h2
  obtain rfl := am_p2_spec h1
  exact lv_ior C.1 C.2.1 hd (N H locs lsA hW hS hL)
theorem sn_xor (hi : am_ins mid pc = (4, 5, 0, 0, [])) (hd : decode (am_cod mid) pc = .ok (.ixor, 1)) : am_Snd K mid pc := by
  intro p l e R s m args below meth c Q z0 ls st h pc' ls' st' h' hs C hz hR N H locs lsA hW hS hL
  rw [hi] at hs
  obtain ⟨⟨x, y, r⟩, h1, h2⟩ := Option.bind_eq_some_iff.mp (show (am_p2 st).bind _ = _ from hs)
  cases h2
  obtain rfl := am_p2_spec h1
  exact lv_ixor C.1 C.2.1 hd (N H locs lsA hW hS hL)
theorem sn_shl (hi : am_ins mid pc = (4, 6, 0, 0, [])) (hd : decode (am_cod mid) pc = .ok (.ishl, 1)) : am_Snd K mid pc := by
  intro p l e R s m args below meth c Q z0 ls st h pc' ls' st' h' hs C hz hR N H locs lsA hW hS hL
  rw [hi] at hs
  obtain ⟨⟨x, y, r⟩, h1, h2⟩ := Option.bind_eq_some_iff.mp (show (am_p2 st).bind _ = _ from hs)
  cases h2
  obtain rfl := am_p2_spec h1
  exact lv_ishl C.1 C.2.1 hd (N H locs lsA hW hS hL)
theorem sn_shr (hi : am_ins mid pc = (4, 7, 0, 0, [])) (hd : decode (am_cod mid) pc = .ok (.ishr, 1)) : am_Snd K mid pc := by
  intro p l e R s m args below meth c Q z0 ls st h pc' ls' st' h' hs C hz hR N H locs lsA hW hS hL
  rw [hi] at hs
  obtain ⟨⟨x, y, r⟩, h1, h2⟩ := Option.bind_eq_some_iff.mp (show (am_p2 st).bind _ = _ from hs)
  cases h2
  obtain rfl := am_p2_spec h1
  exact lv_ishr C.1 C.2.1 hd (N H locs lsA hW hS hL)
theorem sn_div (hi : am_ins mid pc = (5, 0, 0, 0, [])) (hd : decode (am_cod mid) pc = .ok (.idiv, 1)) : am_Snd K mid pc := by
  intro p l e R s m args below meth c Q z0 ls st h pc' ls' st' h' hs C hz hR N H locs lsA hW hS hL
  rw [hi] at hs
  obtain ⟨⟨x, y, r⟩, h1, h2⟩ := Option.bind_eq_some_iff.mp (show (am_p2 st).bind _ = _ from hs)
  dsimp only at h2
  split at h2
  · cases h2
  · rename_i hne
    cases h2
    obtain rfl := am_p2_spec h1
    exact lv_idiv C.1 C.2.1 hd hne (N H locs lsA hW hS hL)
theorem sn_rem (hi : am_ins mid pc = (6, 0, 0, 0, [])) (hd : decode (am_cod mid) pc = .ok (.irem, 1)) : am_Snd K mid pc := by
  intro p l e R s m args below meth c Q z0 ls st h pc' ls' st' h' hs C hz hR N H locs lsA hW hS hL
  rw [hi] at hs
  obtain ⟨⟨x, y, r⟩, h1, h2⟩ := Option.bind_eq_some_iff.mp (show (am_p2 st).bind _ = _ from hs)
  dsimp only at h2
  split at h2
  · cases h2
  · rename_i hne
    cases h2
    obtain rfl := am_p2_spec h1
    exact lv_irem C.1 C.2.1 hd hne (N H locs lsA hW hS hL)
theorem sn_neg (hi : am_ins mid pc = (42, 0, 0, 0, [])) (hd : decode (am_cod mid) pc = .ok (.ineg, 1)) : am_Snd K mid pc := by
  intro p l e R s m args below meth c Q z0 ls st h pc' ls' st' h' hs C hz hR N H locs lsA hW hS hL
  rw [hi] at hs
  obtain ⟨⟨x, r⟩, h1, h2⟩ := Option.bind_eq_some_iff.mp (show (am_p1 st).bind _ = _ from hs)
  cases h2
  obtain rfl := am_p1_spec h1
  exact lv_ineg C.1 C.2.1 hd (N H locs lsA hW hS hL)
end SN
