section SN
variable {K : aK} {mid pc : Nat}
theorem am_tys_rc {K : aK} {t : Nat} (ht : t ∈ am_rc) : ∃ t0 : Nat, (am_tys K)[t0]? = some (kR K t, FieldType.object (am_cn t)) :=
  List.getElem?_of_mem (List.mem_cons_of_mem _ (List.mem_cons_of_mem _ (List.mem_map.mpr ⟨t, ht, rfl⟩)))
theorem am_ri {K : aK} {s : State} (h : va_K (kG K) vwCl (am_tys K) s) : va_RA s (kI K 0) .int := (h.2 0 _ rfl).2
theorem am_rz {K : aK} {s : State} (h : va_K (kG K) vwCl (am_tys K) s) : va_RA s (kI K 1) .boolean := (h.2 1 _ rfl).2
theorem am_last {α : Type} (l : List α) (x : α) : (l ++ [x])[l.length]? = some x := by simp
theorem sn_iald (hi : am_ins mid pc = (22, 0, 0, 0, [])) (hd : decode (am_cod mid) pc = .ok (.iaload, 1)) : am_Snd K mid pc := by
  intro p l e R s m args below meth c Q z0 ls st h pc' ls' st' h' hs C hz hR N H locs lsA hW hS hL
  rw [hi] at hs
  obtain ⟨⟨a, i, r⟩, h1, h2⟩ := Option.bind_eq_some_iff.mp (show (am_pri st).bind _ = _ from hs)
  obtain ⟨⟨t, n, f⟩, h3, h4⟩ := Option.bind_eq_some_iff.mp h2
  dsimp only at h4
  split at h4
  case isFalse => cases h4
  rename_i hc
  cases h4
  have h99 := am_pri_spec h1
  dsimp only at h99
  subst h99
  have hf := am_arr_spec h3
  dsimp only at hf
  have hin := am_in_spec hc.2
  rcases hc.1 with rfl | rfl
  · obtain ⟨w1, w2, w3, w4⟩ := am_W_at hW hf (fun q => by cases q)
    exact va_iald C.1 C.2.1 C.2.2.2.2.2.1 hW.2.2.1 (a - kB K) 0 w1 rfl hin hd (N H locs lsA hW hS hL)
  · rcases hW.2.2.2.2.2.2 a _ hf with ⟨-, -, q⟩ | ⟨q1, q2⟩
    · rcases q with q | q <;> cases q
    · subst q1
      cases q2
      obtain ⟨scr, g1, g2, g3, g4, g5⟩ := hW.2.2.2.1
      exact W.iald (v := .int (kX K i.toNatClampNeg)) C.1 C.2.1 g1 g2 g3 (by rw [g4]; exact hin) (g5 _ (Nat.not_le.mp fun q => hin (Or.inr q))) rfl rfl hd (N H locs lsA hW hS hL)
theorem sn_zald (hi : am_ins mid pc = (24, 0, 0, 0, [])) (hd : decode (am_cod mid) pc = .ok (.baload, 1)) : am_Snd K mid pc := by
  intro p l e R s m args below meth c Q z0 ls st h pc' ls' st' h' hs C hz hR N H locs lsA hW hS hL
  rw [hi] at hs
  obtain ⟨⟨a, i, r⟩, h1, h2⟩ := Option.bind_eq_some_iff.mp (show (am_pri st).bind _ = _ from hs)
  obtain ⟨⟨t, n, f⟩, h3, h4⟩ := Option.bind_eq_some_iff.mp h2
  dsimp only at h4
  split at h4
  case isFalse => cases h4
  rename_i hc
  cases h4
  have h99 := am_pri_spec h1
  dsimp only at h99
  subst h99
  have hf := am_arr_spec h3
  dsimp only at hf
  have hin := am_in_spec hc.2
  obtain rfl := hc.1
  obtain ⟨w1, w2, w3, w4⟩ := am_W_at hW hf (fun q => by cases q)
  exact va_zald C.1 C.2.1 C.2.2.2.2.2.1 hW.2.2.1 (a - kB K) 1 w1 rfl hin hd (N H locs lsA hW hS hL)
theorem sn_iast (hi : am_ins mid pc = (23, 0, 0, 0, [])) (hd : decode (am_cod mid) pc = .ok (.iastore, 1)) : am_Snd K mid pc := by
  intro p l e R s m args below meth c Q z0 ls st h pc' ls' st' h' hs C hz hR N H locs lsA hW hS hL
  rw [hi] at hs
  obtain ⟨⟨x, r1⟩, h1, h2⟩ := Option.bind_eq_some_iff.mp (show (am_p1 st).bind _ = _ from hs)
  obtain ⟨⟨a, i, r⟩, h3, h4⟩ := Option.bind_eq_some_iff.mp h2
  obtain ⟨⟨t, n, f⟩, h5, h6⟩ := Option.bind_eq_some_iff.mp h4
  dsimp only at h6
  split at h6
  case isFalse => cases h6
  rename_i hc
  cases h6
  have h99 := am_p1_spec h1
  dsimp only at h99
  subst h99
  have h7 := am_pri_spec h3
  dsimp only at h7
  subst h7
  have hf := am_arr_spec h5
  dsimp only at hf
  have hin := am_in_spec hc.2
  obtain rfl := hc.1
  obtain ⟨w1, w2, w3, w4⟩ := am_W_at hW hf (fun q => by cases q)
  refine va_iast C.1 C.2.1 C.2.2.2.2.2.1 hW.2.2.1 (am_ws_D K h) hS (a - kB K) 0 w1 rfl hin hd (fun H1 locs1 hP1 hD1 hS1 => ?_)
  refine am_Wsz (fun hz1 => ?_)
  have hb := C.2.2.2.2.2.2.2.2.2.2
  exact N H1 locs1 lsA (am_W_up (e := .inl (0, n, .inl _)) hW w2 w3 (Or.inl rfl) hP1 hS1 ⟨hb, hz.2⟩ (by omega) (am_X_kept hW hb hS hS1)) hS1 hL
theorem sn_zast (hi : am_ins mid pc = (25, 0, 0, 0, [])) (hd : decode (am_cod mid) pc = .ok (.bastore, 1)) : am_Snd K mid pc := by
  intro p l e R s m args below meth c Q z0 ls st h pc' ls' st' h' hs C hz hR N H locs lsA hW hS hL
  rw [hi] at hs
  obtain ⟨⟨x, r1⟩, h1, h2⟩ := Option.bind_eq_some_iff.mp (show (am_p1 st).bind _ = _ from hs)
  obtain ⟨⟨a, i, r⟩, h3, h4⟩ := Option.bind_eq_some_iff.mp h2
  obtain ⟨⟨t, n, f⟩, h5, h6⟩ := Option.bind_eq_some_iff.mp h4
  dsimp only at h6
  split at h6
  case isFalse => cases h6
  rename_i hc
  cases h6
  have h99 := am_p1_spec h1
  dsimp only at h99
  subst h99
  have h7 := am_pri_spec h3
  dsimp only at h7
  subst h7
  have hf := am_arr_spec h5
  dsimp only at hf
  have hin := am_in_spec hc.2.1
  obtain rfl := hc.1
  have hx : vp_nar .boolean x = x := by rcases hc.2.2 with q | q <;> (subst q; rfl)
  obtain ⟨w1, w2, w3, w4⟩ := am_W_at hW hf (fun q => by cases q)
  refine va_zast C.1 C.2.1 C.2.2.2.2.2.1 hW.2.2.1 (am_ws_D K h) hS (a - kB K) 1 w1 rfl hin hd (fun H1 locs1 hP1 hD1 hS1 => ?_)
  rw [hx] at hP1
  refine am_Wsz (fun hz1 => ?_)
  have hb := C.2.2.2.2.2.2.2.2.2.2
  exact N H1 locs1 lsA (am_W_up (e := .inl (1, n, .inl _)) hW w2 w3 (Or.inr rfl) hP1 hS1 ⟨hb, hz.2⟩ (by omega) (am_X_kept hW hb hS hS1)) hS1 hL
theorem sn_aald (hi : am_ins mid pc = (26, 0, 0, 0, [])) (hd : decode (am_cod mid) pc = .ok (.aaload, 1)) : am_Snd K mid pc := by
  intro p l e R s m args below meth c Q z0 ls st h pc' ls' st' h' hs C hz hR N H locs lsA hW hS hL
  rw [hi] at hs
  obtain ⟨⟨a, i, r⟩, h1, h2⟩ := Option.bind_eq_some_iff.mp (show (am_pri st).bind _ = _ from hs)
  obtain ⟨⟨t, n, f⟩, h3, h4⟩ := Option.bind_eq_some_iff.mp h2
  dsimp only at h4
  split at h4
  case isFalse => cases h4
  rename_i hc
  cases h4
  have h99 := am_pri_spec h1
  dsimp only at h99
  subst h99
  have hf := am_arq_spec h3
  dsimp only at hf
  have hin := am_in_spec hc
  obtain ⟨w1, w2, w3, w4⟩ := am_W_at hW hf (fun q => by cases q)
  obtain ⟨t0, ht0⟩ := am_tys_rc (K := K) (show t ∈ am_rc from w4)
  exact va_aldq C.1 C.2.1 C.2.2.2.2.2.1 hW.2.2.1 (a - kB K) t0 w1 ht0 hin hd (N H locs lsA hW hS hL)
theorem sn_aast (hi : am_ins mid pc = (27, 0, 0, 0, [])) (hd : decode (am_cod mid) pc = .ok (.aastore, 1)) : am_Snd K mid pc := by
  intro p l e R s m args below meth c Q z0 ls st h pc' ls' st' h' hs C hz hR N H locs lsA hW hS hL
  rw [hi] at hs
  obtain ⟨⟨x, r1⟩, h1, h2⟩ := Option.bind_eq_some_iff.mp (show (am_pq st).bind _ = _ from hs)
  obtain ⟨⟨a, i, r⟩, h3, h4⟩ := Option.bind_eq_some_iff.mp h2
  obtain ⟨⟨t, n, f⟩, h5, h6⟩ := Option.bind_eq_some_iff.mp h4
  dsimp only at h6
  split at h6
  case isFalse => cases h6
  rename_i hc
  cases h6
  have h99 := am_pq_spec h1
  dsimp only at h99
  subst h99
  have h7 := am_pri_spec h3
  dsimp only at h7
  subst h7
  have hf := am_arq_spec h5
  dsimp only at hf
  have hin := am_in_spec hc.1
  obtain ⟨w1, w2, w3, w4⟩ := am_W_at hW hf (fun q => by cases q)
  obtain ⟨t0, ht0⟩ := am_tys_rc (K := K) (show t ∈ am_rc from w4)
  have hb := C.2.2.2.2.2.2.2.2.2.2
  cases x with
  | none =>
    refine va_astqN C.1 C.2.1 C.2.2.2.2.2.1 hW.2.2.1 (am_ws_D K h) hS (a - kB K) t0 w1 ht0 hin hd (fun H1 locs1 hP1 hD1 hS1 => ?_)
    refine am_Wsz (fun hz1 => ?_)
    exact N H1 locs1 lsA (am_W_up (e := .inl (t, n, .inr _)) hW w2 w3 w4 hP1 hS1 ⟨hb, hz.2⟩ (by omega) (am_X_kept hW hb hS hS1)) hS1 hL
  | some v =>
    obtain ⟨fs, hfs⟩ := Option.isSome_iff_exists.mp (show (am_fld h t v).isSome = true from hc.2)
    obtain ⟨y1, y2, y3, y4⟩ := am_W_at hW (am_fld_spec hfs) (fun q => by cases q)
    obtain ⟨rr, hr1, -⟩ := hW.2.2.1 _ _ y1
    have hcn : am_cn t = rr.1 := by unfold am_cn; rw [show vwCl[t]? = some rr from hr1]; rfl
    rw [hcn] at ht0
    refine va_astq C.1 C.2.1 C.2.2.2.2.2.1 hW.2.2.1 (am_ws_D K h) hS (a - kB K) t0 (v - kB K) t w1 ht0 y1 hr1 hin hd (fun H1 locs1 hP1 hD1 hS1 => ?_)
    refine am_Wsz (fun hz1 => ?_)
    exact N H1 locs1 lsA (am_W_up (e := .inl (t, n, .inr _)) hW w2 w3 w4 hP1 hS1 ⟨hb, hz.2⟩ (by omega) (am_X_kept hW hb hS hS1)) hS1 hL
theorem sn_alen (hi : am_ins mid pc = (28, 0, 0, 0, [])) (hd : decode (am_cod mid) pc = .ok (.arraylength, 1)) : am_Snd K mid pc := by
  intro p l e R s m args below meth c Q z0 ls st h pc' ls' st' h' hs C hz hR N H locs lsA hW hS hL
  rw [hi] at hs
  obtain ⟨⟨a, r⟩, h1, h2⟩ := Option.bind_eq_some_iff.mp (show (am_pr st).bind _ = _ from hs)
  obtain ⟨n, h3, h4⟩ := Option.bind_eq_some_iff.mp h2
  cases h4
  have h99 := am_pr_spec h1
  dsimp only at h99
  subst h99
  obtain ⟨t, cc, hf⟩ := am_len_spec h3
  rcases hW.2.2.2.2.2.2 a _ hf with ⟨w2, w3, w4⟩ | ⟨q1, q2⟩
  · have w1 := am_ws_at w2 w3 hf
    cases cc with
    | inl f =>
      rcases w4 with rfl | rfl
      · exact va_alen C.1 C.2.1 C.2.2.2.2.2.1 hW.2.2.1 (a - kB K) 0 w1 rfl rfl hd (N H locs lsA hW hS hL)
      · exact va_alen C.1 C.2.1 C.2.2.2.2.2.1 hW.2.2.1 (a - kB K) 1 w1 rfl rfl hd (N H locs lsA hW hS hL)
    | inr f =>
      obtain ⟨t0, ht0⟩ := am_tys_rc (K := K) (show t ∈ am_rc from w4)
      exact va_alen C.1 C.2.1 C.2.2.2.2.2.1 hW.2.2.1 (a - kB K) t0 w1 ht0 rfl hd (N H locs lsA hW hS hL)
  · subst q1
    cases q2
    obtain ⟨scr, g1, g2, g3, g4, g5⟩ := hW.2.2.2.1
    exact W.alen (n := Int32.ofNat (kN K)) C.1 C.2.1 g1 g2 (by rw [g4] <;> rfl) rfl rfl hd (N H locs lsA hW hS hL)
theorem sn_new {ci ix : Nat} {C0 : String} {T : u_T} {Nf : Nat} {tyf : Nat → FieldType} (hi : am_ins mid pc = (29, ci, 0, 0, [])) (hd : decode (am_cod mid) pc = .ok (.new ix, 3)) (hc : vwCl[ci]? = some (C0, T, Nf)) (hin : ∀ w ∈ u_ws C0 T Nf, w ∈ am_TW) (htys : ∀ k, k < Nf → parseFieldDescriptor (T k).2.2.1 = some (tyf k)) (hcl : Cond.classLink (am_own mid) ix C0 ∈ am_TW) (hins : Cond.instantiable C0 Nf ∈ am_TW) (hini : Cond.initialized C0 ∈ am_TW) (hlen : (am_df ci).length = Nf) (hfs : ∀ j, j < Nf → defaultValue (tyf j) = vp_V (am_df ci) j) : am_Snd K mid pc := by
  intro p l e R s m args below meth c Q z0 ls st h pc' ls' st' h' hs C hz hR N H locs lsA hW hS hL
  rw [hi] at hs
  cases hs
  have r1 : h.1 + 1 - s.heap.size ≤ R.cells := hR.2.2.1
  have r2 : h.2.1 + (am_df ci).length - z0 ≤ R.slots := hR.2.2.2
  rw [hlen] at r2
  refine va_new (ci := ci) C.1 C.2.1 C.2.2.2.2.1 hin tyf htys C.2.2.2.1 (C.2.2.2.2.1 _ hcl) (C.2.2.2.2.1 _ hins) (C.2.2.2.2.1 _ hini) C.2.2.2.2.2.1 hW.2.2.1 (am_ws_D K h) hS (am_hA C.2.2.2.2.2.2.2.2.2.2) hc hfs (by omega) (by omega) hd (fun q H1 hP1 hD1 hS1 => ?_)
  refine am_Wsz (fun hz1 => ?_)
  have hb := C.2.2.2.2.2.2.2.2.2.2
  obtain ⟨rfl, hW1⟩ := am_W_nw (k := (am_df ci).length) (e := (.inr (ci, am_df ci))) hW trivial hP1 hD1 (by omega) (am_X_kept hW hb hS hS1)
  have e1 : h.1 - s.heap.size + 1 = h.1 + 1 - s.heap.size := by omega
  have e2 : h.2.1 - z0 + Nf = h.2.1 + Nf - z0 := by omega
  rw [e1, e2, ← hlen]
  exact N H1 locs lsA hW1 hS1 hL
theorem sn_newI (hi : am_ins mid pc = (30, 0, 0, 0, [])) (hd : decode (am_cod mid) pc = .ok (.newarray .int, 2)) (harr : Cond.arrayClass .int ∈ am_TW) : am_Snd K mid pc := by
  intro p l e R s m args below meth c Q z0 ls st h pc' ls' st' h' hs C hz hR N H locs lsA hW hS hL
  rw [hi] at hs
  obtain ⟨⟨x, r⟩, h1, h2⟩ := Option.bind_eq_some_iff.mp (show (am_p1 st).bind _ = _ from hs)
  dsimp only at h2
  split at h2
  case isFalse => cases h2
  rename_i hc
  cases h2
  have h99 := am_p1_spec h1
  dsimp only at h99
  subst h99
  have r1 : h.1 + 1 - s.heap.size ≤ R.cells := hR.2.2.1
  have r2 : h.2.1 + x.toNatClampNeg - z0 ≤ R.slots := hR.2.2.2
  refine va_newa (a0 := (x.toNatClampNeg, .inl (fun _ => 0))) C.1 C.2.1 (atype := .int) (C.2.2.2.2.1 _ harr) rfl C.2.2.2.2.2.1 hW.2.2.1 (am_ws_D K h) hS (am_hA C.2.2.2.2.2.2.2.2.2.2) (fun _ => rfl) hc.1 rfl (by have := hc.2; show x.toNatClampNeg * 4 ≤ 536870912; omega) (by omega) (by omega) hd (fun q cA H1 hK1 hP1 hD1 hS1 => ?_)
  have g1 : va_RA s cA .int := (hK1.2 _ _ (am_last _ _)).2
  have g2 : va_RA s (kI K 0) .int := am_ri C.2.2.2.2.2.1
  obtain rfl : kI K 0 = cA := Option.some.inj ((show s.vm.findClass _ = some _ from g2).symm.trans g1)
  refine am_Wsz (fun hz1 => ?_)
  have hb := C.2.2.2.2.2.2.2.2.2.2
  obtain ⟨rfl, hW1⟩ := am_W_nw (k := x.toNatClampNeg) (e := (.inl (0, x.toNatClampNeg, .inl (fun _ => 0)))) hW (Or.inl rfl) hP1 hD1 (by omega) (am_X_kept hW hb hS hS1)
  have e1 : h.1 - s.heap.size + 1 = h.1 + 1 - s.heap.size := by omega
  have e2 : h.2.1 - z0 + x.toNatClampNeg = h.2.1 + x.toNatClampNeg - z0 := by omega
  rw [e1, e2]
  exact N H1 locs lsA hW1 hS1 hL
theorem sn_newZ (hi : am_ins mid pc = (30, 1, 0, 0, [])) (hd : decode (am_cod mid) pc = .ok (.newarray .boolean, 2)) (harr : Cond.arrayClass .boolean ∈ am_TW) : am_Snd K mid pc := by
  intro p l e R s m args below meth c Q z0 ls st h pc' ls' st' h' hs C hz hR N H locs lsA hW hS hL
  rw [hi] at hs
  obtain ⟨⟨x, r⟩, h1, h2⟩ := Option.bind_eq_some_iff.mp (show (am_p1 st).bind _ = _ from hs)
  dsimp only at h2
  split at h2
  case isFalse => cases h2
  rename_i hc
  cases h2
  have h99 := am_p1_spec h1
  dsimp only at h99
  subst h99
  have r1 : h.1 + 1 - s.heap.size ≤ R.cells := hR.2.2.1
  have r2 : h.2.1 + x.toNatClampNeg - z0 ≤ R.slots := hR.2.2.2
  refine va_newa (a0 := (x.toNatClampNeg, .inl (fun _ => 0))) C.1 C.2.1 (atype := .boolean) (C.2.2.2.2.1 _ harr) rfl C.2.2.2.2.2.1 hW.2.2.1 (am_ws_D K h) hS (am_hA C.2.2.2.2.2.2.2.2.2.2) (fun _ => rfl) hc.1 rfl (by have := hc.2; show x.toNatClampNeg * 1 ≤ 536870912; omega) (by omega) (by omega) hd (fun q cA H1 hK1 hP1 hD1 hS1 => ?_)
  have g1 : va_RA s cA .boolean := (hK1.2 _ _ (am_last _ _)).2
  have g2 : va_RA s (kI K 1) .boolean := am_rz C.2.2.2.2.2.1
  obtain rfl : kI K 1 = cA := Option.some.inj ((show s.vm.findClass _ = some _ from g2).symm.trans g1)
  refine am_Wsz (fun hz1 => ?_)
  have hb := C.2.2.2.2.2.2.2.2.2.2
  obtain ⟨rfl, hW1⟩ := am_W_nw (k := x.toNatClampNeg) (e := (.inl (1, x.toNatClampNeg, .inl (fun _ => 0)))) hW (Or.inr rfl) hP1 hD1 (by omega) (am_X_kept hW hb hS hS1)
  have e1 : h.1 - s.heap.size + 1 = h.1 + 1 - s.heap.size := by omega
  have e2 : h.2.1 - z0 + x.toNatClampNeg = h.2.1 + x.toNatClampNeg - z0 := by omega
  rw [e1, e2]
  exact N H1 locs lsA hW1 hS1 hL
theorem sn_anew {t ix : Nat} {C0 : String} (hi : am_ins mid pc = (31, t, 0, 0, [])) (hd : decode (am_cod mid) pc = .ok (.anewarray ix, 3)) (hcl : Cond.classLink (am_own mid) ix C0 ∈ am_TW) (hao : Cond.arrayOver (.object C0) ∈ am_NW) (hcn : am_cn t = C0) (htr : t ∈ am_rc) : am_Snd K mid pc := by
  intro p l e R s m args below meth c Q z0 ls st h pc' ls' st' h' hs C hz hR N H locs lsA hW hS hL
  rw [hi] at hs
  obtain ⟨⟨x, r⟩, h1, h2⟩ := Option.bind_eq_some_iff.mp (show (am_p1 st).bind _ = _ from hs)
  dsimp only at h2
  split at h2
  case isFalse => cases h2
  rename_i hc
  cases h2
  have h99 := am_p1_spec h1
  dsimp only at h99
  subst h99
  have r1 : h.1 + 1 - s.heap.size ≤ R.cells := hR.2.2.1
  have r2 : h.2.1 + x.toNatClampNeg - z0 ≤ R.slots := hR.2.2.2
  have hlast := hc.2
  refine va_newq C.1 C.2.1 C.2.2.2.1 (C.2.2.2.2.1 _ hcl) (show va_AO C0 s from C.2.2.2.2.2.2.1 _ hao) C.2.2.2.2.2.1 hW.2.2.1 (am_ws_D K h) hS (am_hA C.2.2.2.2.2.2.2.2.2.2) hc.1 rfl (by omega) (by omega) (by omega) hd (fun q cA H1 hK1 hP1 hD1 hS1 => ?_)
  obtain ⟨-, -, -, -, -, g1⟩ := (show va_RA s cA (.object C0) from (hK1.2 _ _ (am_last _ _)).2)
  obtain ⟨t0, ht0⟩ := am_tys_rc (K := K) htr
  obtain ⟨-, -, -, -, -, g2⟩ := (show va_RA s (kR K t) (.object (am_cn t)) from (C.2.2.2.2.2.1.2 _ _ ht0).2)
  rw [hcn] at g2
  obtain rfl : kR K t = cA := Option.some.inj (g2.symm.trans g1)
  refine am_Wsz (fun hz1 => ?_)
  have hb := C.2.2.2.2.2.2.2.2.2.2
  obtain ⟨rfl, hW1⟩ := am_W_nw (k := x.toNatClampNeg) (e := (.inl (t, x.toNatClampNeg, .inr (fun _ => none)))) hW htr hP1 hD1 (by omega) (am_X_kept hW hb hS hS1)
  have e1 : h.1 - s.heap.size + 1 = h.1 + 1 - s.heap.size := by omega
  have e2 : h.2.1 - z0 + x.toNatClampNeg = h.2.1 + x.toNatClampNeg - z0 := by omega
  rw [e1, e2]
  exact N H1 locs lsA hW1 hS1 hL
theorem sn_oinit {ix : Nat} (hi : am_ins mid pc = (35, 0, 0, 0, [])) (hd : decode (am_cod mid) pc = .ok (.invokespecial ix, 3)) (hlk : Cond.methodLink (am_own mid) ix objectInit ∈ am_TW) (hin : Cond.instanceMethod objectInit ∈ am_TW) (hco : Cond.code objectInit ⟨#[0xb1]⟩ 1 none ∈ am_TW) : am_Snd K mid pc := by
  intro p l e R s m args below meth c Q z0 ls st h pc' ls' st' h' hs C hz hR N H locs lsA hW hS hL
  rw [hi] at hs
  obtain ⟨⟨a, r⟩, h1, h2⟩ := Option.bind_eq_some_iff.mp (show (am_pr st).bind _ = _ from hs)
  dsimp only at h2
  split at h2
  case isFalse => cases h2
  rename_i hc
  cases h2
  have h99 := am_pr_spec h1
  dsimp only at h99
  subst h99
  refine W.objInit C.1 C.2.1 C.2.2.2.1 (C.2.2.2.2.1 _ hlk) (C.2.2.2.2.1 _ hin) (C.2.2.2.2.1 _ hco) rfl (by rw [C.2.2.1]; exact hL.1) rfl hd hR.1 (by have := hR.2.1; show 2 * 0 + _ + 12 ≤ _; omega) ?_
  exact (N H locs lsA hW hS hL)
theorem sn_max {ix : Nat} (hi : am_ins mid pc = (36, 0, 0, 0, [])) (hd : decode (am_cod mid) pc = .ok (.invokestatic ix, 3)) (hlk : Cond.methodLink (am_own mid) ix Lib.Math.max.name ∈ am_TW) (hst : Cond.static Lib.Math.max.name ∈ am_TW) (hini : Cond.initialized "java/lang/Math" ∈ am_TW) (hco : Cond.code Lib.Math.max.name Lib.Math.max.code 2 (some .int) ∈ am_TW) : am_Snd K mid pc := by
  intro p l e R s m args below meth c Q z0 ls st h pc' ls' st' h' hs C hz hR N H locs lsA hW hS hL
  rw [hi] at hs
  obtain ⟨⟨x, y, r⟩, h1, h2⟩ := Option.bind_eq_some_iff.mp (show (am_p2 st).bind _ = _ from hs)
  dsimp only at h2
  split at h2
  case isFalse => cases h2
  rename_i hc
  cases h2
  have h99 := am_p2_spec h1
  dsimp only at h99
  subst h99
  exact va_mmax C.1 C.2.1 (by rw [C.2.2.1]; exact hL.1.symm) C.2.2.2.1 (C.2.2.2.2.1 _ hlk) (C.2.2.2.2.1 _ hst) (C.2.2.2.2.1 _ hini) (C.2.2.2.2.1 _ hco) hR.1 (by have := hR.2.1; omega) hR.2.2.1 hR.2.2.2 hd (N H locs lsA hW hS hL)
theorem sn_min {ix : Nat} (hi : am_ins mid pc = (37, 0, 0, 0, [])) (hd : decode (am_cod mid) pc = .ok (.invokestatic ix, 3)) (hlk : Cond.methodLink (am_own mid) ix Lib.Math.min.name ∈ am_TW) (hst : Cond.static Lib.Math.min.name ∈ am_TW) (hini : Cond.initialized "java/lang/Math" ∈ am_TW) (hco : Cond.code Lib.Math.min.name Lib.Math.min.code 2 (some .int) ∈ am_TW) : am_Snd K mid pc := by
  intro p l e R s m args below meth c Q z0 ls st h pc' ls' st' h' hs C hz hR N H locs lsA hW hS hL
  rw [hi] at hs
  obtain ⟨⟨x, y, r⟩, h1, h2⟩ := Option.bind_eq_some_iff.mp (show (am_p2 st).bind _ = _ from hs)
  dsimp only at h2
  split at h2
  case isFalse => cases h2
  rename_i hc
  cases h2
  have h99 := am_p2_spec h1
  dsimp only at h99
  subst h99
  exact va_mmin C.1 C.2.1 (by rw [C.2.2.1]; exact hL.1.symm) C.2.2.2.1 (C.2.2.2.2.1 _ hlk) (C.2.2.2.2.1 _ hst) (C.2.2.2.2.1 _ hini) (C.2.2.2.2.1 _ hco) hR.1 (by have := hR.2.1; omega) hR.2.2.1 hR.2.2.2 hd (N H locs lsA hW hS hL)
theorem sn_clone {ix : Nat} (hi : am_ins mid pc = (38, 0, 0, 0, [])) (hd : decode (am_cod mid) pc = .ok (.invokevirtual ix, 3)) (hlk : Cond.methodLink (am_own mid) ix ⟨"[I", "clone", "()Ljava/lang/Object;"⟩ ∈ am_TW) (hsa : Cond.sameMethod "[I" "java/lang/Object" "clone" "()Ljava/lang/Object;" ∈ am_TW) (hna : Cond.native ⟨"java/lang/Object", "clone", "()Ljava/lang/Object;"⟩ ∈ am_TW) (hins : Cond.instanceMethod ⟨"java/lang/Object", "clone", "()Ljava/lang/Object;"⟩ ∈ am_TW) (hse : Cond.selects "[I" ⟨"[I", "clone", "()Ljava/lang/Object;"⟩ ⟨"java/lang/Object", "clone", "()Ljava/lang/Object;"⟩ ∈ am_TW) (hca : Cond.castable "[I" "java/lang/Cloneable" ∈ am_NW) : am_Snd K mid pc := by
  intro p l e R s m args below meth c Q z0 ls st h pc' ls' st' h' hs C hz hR N H locs lsA hW hS hL
  rw [hi] at hs
  obtain ⟨⟨a, r⟩, h1, h2⟩ := Option.bind_eq_some_iff.mp (show (am_pr st).bind _ = _ from hs)
  obtain ⟨⟨t, n, f⟩, h3, h4⟩ := Option.bind_eq_some_iff.mp h2
  dsimp only at h4
  split at h4
  case isFalse => cases h4
  rename_i hc
  cases h4
  have h99 := am_pr_spec h1
  dsimp only at h99
  subst h99
  have hf := am_arr_spec h3
  dsimp only at hf
  obtain rfl := hc.1
  obtain ⟨w1, w2, w3, w4⟩ := am_W_at hW hf (fun q => by cases q)
  have r1 : h.1 + 1 - s.heap.size ≤ R.cells := hR.2.2.1
  have r2 : h.2.1 + n - z0 ≤ R.slots := hR.2.2.2
  refine va_clone C.1 C.2.1 (by rw [C.2.2.1]; exact hL.1.symm) C.2.2.2.1 (C.2.2.2.2.1 _ hlk) (C.2.2.2.2.1 _ hsa) (C.2.2.2.2.1 _ hna) (C.2.2.2.2.1 _ hins) (C.2.2.2.2.1 _ hse) (C.2.2.2.2.2.2.1 _ hca) C.2.2.2.2.2.1 hW.2.2.1 (am_ws_D K h) hS (am_hA C.2.2.2.2.2.2.2.2.2.2) (a - kB K) 0 w1 rfl (va_nm_int (am_ri C.2.2.2.2.2.1)) (va_fit (fun i _ => rfl)) hR.1 (by have := hR.2.1; have := hc.2; omega) (by omega) (by show _ + n ≤ _; omega) hd (fun q H1 hK1 hP1 hD1 hS1 => ?_)
  refine am_Wsz (fun hz1 => ?_)
  have hb := C.2.2.2.2.2.2.2.2.2.2
  obtain ⟨rfl, hW1⟩ := am_W_nw (k := n) (e := (.inl (0, n, .inl f))) hW (Or.inl rfl) hP1 hD1 (by omega) (am_X_kept hW hb hS hS1)
  have e1 : h.1 - s.heap.size + 1 = h.1 + 1 - s.heap.size := by omega
  have e2 : h.2.1 - z0 + n = h.2.1 + n - z0 := by omega
  rw [e1, e2]
  exact N H1 locs lsA hW1 hS1 hL
theorem sn_castI {ix : Nat} (hi : am_ins mid pc = (39, 0, 0, 0, [])) (hd : decode (am_cod mid) pc = .ok (.checkcast ix, 3)) (hcl : Cond.classLink (am_own mid) ix "[I" ∈ am_TW) : am_Snd K mid pc := by
  intro p l e R s m args below meth c Q z0 ls st h pc' ls' st' h' hs C hz hR N H locs lsA hW hS hL
  rw [hi] at hs
  obtain ⟨⟨a, r⟩, h1, h2⟩ := Option.bind_eq_some_iff.mp (show (am_pr st).bind _ = _ from hs)
  obtain ⟨⟨t, n, f⟩, h3, h4⟩ := Option.bind_eq_some_iff.mp h2
  dsimp only at h4
  split at h4
  case isFalse => cases h4
  rename_i hc
  cases h4
  have h99 := am_pr_spec h1
  dsimp only at h99
  subst h99
  have hf := am_arr_spec h3
  dsimp only at hf hc
  subst hc
  obtain ⟨w1, w2, w3, w4⟩ := am_W_at hW hf (fun q => by cases q)
  exact va_castA C.1 C.2.1 C.2.2.2.1 (C.2.2.2.2.1 _ hcl) hW.2.2.1 (a - kB K) w1 (va_nm_int (am_ri C.2.2.2.2.2.1)) hd (N H locs lsA hW hS hL)
def am_zip : Int → List Nat → List (Int32 × Nat)
  | _, [] => []
  | lo, t :: r => (Int32.ofInt lo, t) :: am_zip (lo + 1) r
theorem am_zip_sw (d : Nat) (x : Int32) : ∀ (ts : List Nat) (lo : Int), -1000000 ≤ lo → lo + ts.length ≤ 1000000 → ((x.toInt < lo ∨ lo + ts.length ≤ x.toInt) → am_sw (am_zip lo ts) d x = d) ∧ (lo ≤ x.toInt → ∀ t, ts[(x.toInt - lo).toNat]? = some t → am_sw (am_zip lo ts) d x = t)
  | [], lo, _, _ => ⟨fun _ => rfl, fun _ t h => by simp at h⟩
  | t :: r, lo, h1, h2 => by
    have h3 : (lo + 1) + (r.length : Int) ≤ 1000000 := by rw [List.length_cons] at h2; omega
    obtain ⟨g1, g2⟩ := am_zip_sw d x r (lo + 1) (by omega) h3
    have hlo : (Int32.ofInt lo).toInt = lo := by
      rw [Int32.toInt_ofInt_of_le (by simp only [List.length_cons] at h2; omega) (by simp only [List.length_cons] at h2; omega)]
    have key : x = Int32.ofInt lo ↔ x.toInt = lo := ⟨fun q => by rw [q, hlo], fun q => Int32.toInt_inj.mp (by rw [hlo]; exact q)⟩
    constructor
    · intro h
      rw [List.length_cons] at h
      rw [am_zip, am_sw, if_neg (fun q => by have := key.mp q; omega)]
      exact g1 (by omega)
    · intro h t' ht
      by_cases hx : x.toInt = lo
      · rw [am_zip, am_sw, if_pos (key.mpr hx)]
        rw [hx] at ht
        simpa using ht
      · rw [am_zip, am_sw, if_neg (fun q => hx (key.mp q))]
        refine g2 (by omega) t' ?_
        have e : (x.toInt - lo).toNat = (x.toInt - (lo + 1)).toNat + 1 := by omega
        rw [e, List.getElem?_cons_succ] at ht
        exact ht
theorem sn_tsw {d : Nat} {lo hi0 df : Int} {ts : List Nat} {L : List (Int32 × Nat)} {len : Nat} {offs : Array Int} (hi : am_ins mid pc = (32, d, 0, 0, L)) (hd : decode (am_cod mid) pc = .ok (.tableswitch df lo hi0 offs, len)) (hL0 : L = am_zip lo ts) (hlo : -1000000 ≤ lo ∧ lo + ts.length ≤ 1000000 ∧ hi0 + 1 = lo + ts.length) (hdf : (pc : Int) + df = (d : Int)) (hof : offs.toList = ts.map (fun (t : Nat) => (t : Int) - (pc : Int))) : am_Snd K mid pc := by
  intro p l e R s m args below meth c Q z0 ls st h pc' ls' st' h' hs C hz hR N H locs lsA hW hS hL
  rw [hi] at hs
  subst hL0
  obtain ⟨⟨x, r⟩, h1, h2⟩ := Option.bind_eq_some_iff.mp (show (am_p1 st).bind _ = _ from hs)
  cases h2
  have h99 := am_p1_spec h1
  dsimp only at h99
  subst h99
  obtain ⟨g1, g2⟩ := am_zip_sw d x ts lo hlo.1 hlo.2.1
  have N := (N H locs lsA hW hS hL)
  dsimp only at N
  by_cases ho : x.toInt < lo ∨ hi0 < x.toInt
  · refine lv_tableOut C.1 C.2.1 hd ho hdf ?_
    rw [g1 (by omega)] at N
    exact N
  · have ho1 : lo ≤ x.toInt := by omega
    have hix : (x.toInt - lo).toNat < ts.length := by omega
    have hg := g2 ho1 _ (List.getElem?_eq_getElem hix)
    rw [hg] at N
    refine lv_tableIn (off := ((ts[(x.toInt - lo).toNat] : Nat) : Int) - (pc : Int)) C.1 C.2.1 hd (by omega) (by omega) ?_ (by omega) N
    rw [← Array.getElem?_toList, hof, List.getElem?_map, List.getElem?_eq_getElem hix]
    rfl
theorem am_lsw_off (d : Nat) (x : Int32) (pc : Nat) (df : Int) (hdf : (pc : Int) + df = (d : Int)) : ∀ (L : List (Int32 × Nat)), (pc : Int) + Op.lookupswitch.offset (L.map (fun q => (q.1.toInt, ((q.2 : Nat) : Int) - (pc : Int)))) df x.toInt = ((am_sw L d x : Nat) : Int)
  | [] => by rw [am_sw]; exact hdf
  | (k, t) :: r => by
    rw [List.map_cons, am_sw]
    by_cases hx : x = k
    · subst hx
      rw [if_pos rfl, Op.lookupswitch.offset_cons, if_pos rfl]
      dsimp only
      omega
    · rw [if_neg hx, lv_osw hx rfl]
      exact am_lsw_off d x pc df hdf r
theorem sn_lsw {d : Nat} {df : Int} {L : List (Int32 × Nat)} {len : Nat} {ps : Array (Int × Int)} (hi : am_ins mid pc = (32, d, 0, 0, L)) (hd : decode (am_cod mid) pc = .ok (.lookupswitch df ps, len)) (hp : (ps.toList.zip (ps.toList.drop 1)).all (fun (a, next) => a.1 < next.1) = true) (hdf : (pc : Int) + df = (d : Int)) (hof : ps.toList = L.map (fun q => (q.1.toInt, ((q.2 : Nat) : Int) - (pc : Int)))) : am_Snd K mid pc := by
  intro p l e R s m args below meth c Q z0 ls st h pc' ls' st' h' hs C hz hR N H locs lsA hW hS hL
  rw [hi] at hs
  obtain ⟨⟨x, r⟩, h1, h2⟩ := Option.bind_eq_some_iff.mp (show (am_p1 st).bind _ = _ from hs)
  cases h2
  have h99 := am_p1_spec h1
  dsimp only at h99
  subst h99
  exact lv_lookup C.1 C.2.1 hd hp rfl (by rw [hof]; exact am_lsw_off d x pc df hdf L) (N H locs lsA hW hS hL)
end SN
