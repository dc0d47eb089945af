section SN
variable {K : aK} {mid pc : Nat}
theorem sn_dup (hi : am_ins mid pc = (7, 0, 0, 0, [])) (hd : decode (am_cod mid) pc = .ok (.dup, 1)) : am_Snd K mid pc := by
  intro p l e R s m args below meth c Q z0 ls st h pc' ls' st' h' hs C hz hR N H locs lsA hW hS hL
  rw [hi] at hs
  have hs : o_dup (7, 0, 0, 0, []) pc ls st h = _ := hs
  unfold o_dup at hs
  split at hs
  · split at hs
    · rename_i hc
      cases hs
      simp only [am_c1, Bool.and_eq_true, beq_iff_eq] at hc
      exact lv_dup C.1 C.2.1 hd hc (N H locs lsA hW hS hL)
    · cases hs
  · cases hs
theorem sn_pop (hi : am_ins mid pc = (8, 0, 0, 0, [])) (hd : decode (am_cod mid) pc = .ok (.pop, 1)) : am_Snd K mid pc := by
  intro p l e R s m args below meth c Q z0 ls st h pc' ls' st' h' hs C hz hR N H locs lsA hW hS hL
  rw [hi] at hs
  have hs : o_pop (8, 0, 0, 0, []) pc ls st h = _ := hs
  unfold o_pop at hs
  split at hs
  · split at hs
    · rename_i hc
      cases hs
      simp only [am_c1, Bool.and_eq_true, beq_iff_eq] at hc
      exact lv_pop C.1 C.2.1 hd hc (N H locs lsA hW hS hL)
    · cases hs
  · cases hs
theorem sn_dupx1 (hi : am_ins mid pc = (9, 0, 0, 0, [])) (hd : decode (am_cod mid) pc = .ok (.dup_x1, 1)) : am_Snd K mid pc := by
  intro p l e R s m args below meth c Q z0 ls st h pc' ls' st' h' hs C hz hR N H locs lsA hW hS hL
  rw [hi] at hs
  have hs : o_dupx1 (9, 0, 0, 0, []) pc ls st h = _ := hs
  unfold o_dupx1 at hs
  split at hs
  · split at hs
    · rename_i hc
      cases hs
      simp only [am_c1, Bool.and_eq_true, beq_iff_eq] at hc
      exact lv_dup_x1 C.1 C.2.1 hd hc.1 hc.2 (N H locs lsA hW hS hL)
    · cases hs
  · cases hs
theorem sn_dup2 (hi : am_ins mid pc = (10, 0, 0, 0, [])) (hd : decode (am_cod mid) pc = .ok (.dup2, 1)) : am_Snd K mid pc := by
  intro p l e R s m args below meth c Q z0 ls st h pc' ls' st' h' hs C hz hR N H locs lsA hW hS hL
  rw [hi] at hs
  have hs : o_dup2 (10, 0, 0, 0, []) pc ls st h = _ := hs
  unfold o_dup2 at hs
  split at hs
  · split at hs
    · rename_i hc
      cases hs
      simp only [am_c1, Bool.and_eq_true, beq_iff_eq] at hc
      exact lv_dup2_11 C.1 C.2.1 hd hc.1 hc.2 (N H locs lsA hW hS hL)
    · cases hs
  · cases hs
theorem sn_dupx2 (hi : am_ins mid pc = (11, 0, 0, 0, [])) (hd : decode (am_cod mid) pc = .ok (.dup_x2, 1)) : am_Snd K mid pc := by
  intro p l e R s m args below meth c Q z0 ls st h pc' ls' st' h' hs C hz hR N H locs lsA hW hS hL
  rw [hi] at hs
  have hs : o_dupx2 (11, 0, 0, 0, []) pc ls st h = _ := hs
  unfold o_dupx2 at hs
  split at hs
  · split at hs
    · rename_i hc
      cases hs
      simp only [am_c1, Bool.and_eq_true, beq_iff_eq] at hc
      exact lv_dup_x2 C.1 C.2.1 hd hc.1.1 hc.1.2 hc.2 (N H locs lsA hW hS hL)
    · cases hs
  · cases hs
theorem sn_if_eq {tgt : Nat} {off : Int} (hi : am_ins mid pc = (12, 0, tgt, 0, [])) (hd : decode (am_cod mid) pc = .ok (.ifCond .eq off, 3)) (ht : (pc : Int) + off = (tgt : Int)) : am_Snd K mid pc := by
  intro p l e R s m args below meth c Q z0 ls st h pc' ls' st' h' hs C hz hR N H locs lsA hW hS hL
  rw [hi] at hs
  obtain ⟨⟨x, r⟩, h1, h2⟩ := Option.bind_eq_some_iff.mp (show (am_p1 st).bind _ = _ from hs)
  cases h2
  obtain rfl := am_p1_spec h1
  refine lv_if_eq C.1 C.2.1 hd ht (fun hc => ?_) (fun hc => ?_)
  · have N := N H locs lsA hW hS hL
    have hc2 : am_cnd 0 x 0 = true := decide_eq_true hc
    dsimp only at N
    rw [hc2, if_pos rfl] at N
    exact N
  · have N := N H locs lsA hW hS hL
    have hc2 : am_cnd 0 x 0 = false := decide_eq_false hc
    dsimp only at N
    rw [hc2, if_neg Bool.false_ne_true] at N
    exact N
theorem sn_icmp_eq {tgt : Nat} {off : Int} (hi : am_ins mid pc = (13, 0, tgt, 0, [])) (hd : decode (am_cod mid) pc = .ok (.if_icmp .eq off, 3)) (ht : (pc : Int) + off = (tgt : Int)) : am_Snd K mid pc := by
  intro p l e R s m args below meth c Q z0 ls st h pc' ls' st' h' hs C hz hR N H locs lsA hW hS hL
  rw [hi] at hs
  obtain ⟨⟨x, y, r⟩, h1, h2⟩ := Option.bind_eq_some_iff.mp (show (am_p2 st).bind _ = _ from hs)
  cases h2
  obtain rfl := am_p2_spec h1
  refine lv_icmp_eq C.1 C.2.1 hd ht (fun hc => ?_) (fun hc => ?_)
  · have N := N H locs lsA hW hS hL
    have hc2 : am_cnd 0 x y = true := decide_eq_true hc
    dsimp only at N
    rw [hc2, if_pos rfl] at N
    exact N
  · have N := N H locs lsA hW hS hL
    have hc2 : am_cnd 0 x y = false := decide_eq_false hc
    dsimp only at N
    rw [hc2, if_neg Bool.false_ne_true] at N
    exact N
theorem sn_if_ne {tgt : Nat} {off : Int} (hi : am_ins mid pc = (12, 1, tgt, 0, [])) (hd : decode (am_cod mid) pc = .ok (.ifCond .ne off, 3)) (ht : (pc : Int) + off = (tgt : Int)) : am_Snd K mid pc := by
  intro p l e R s m args below meth c Q z0 ls st h pc' ls' st' h' hs C hz hR N H locs lsA hW hS hL
  rw [hi] at hs
  obtain ⟨⟨x, r⟩, h1, h2⟩ := Option.bind_eq_some_iff.mp (show (am_p1 st).bind _ = _ from hs)
  cases h2
  obtain rfl := am_p1_spec h1
  refine lv_if_ne C.1 C.2.1 hd ht (fun hc => ?_) (fun hc => ?_)
  · have N := N H locs lsA hW hS hL
    have hc2 : am_cnd 1 x 0 = true := decide_eq_true hc
    dsimp only at N
    rw [hc2, if_pos rfl] at N
    exact N
  · have N := N H locs lsA hW hS hL
    have hc2 : am_cnd 1 x 0 = false := decide_eq_false (fun q => q hc)
    dsimp only at N
    rw [hc2, if_neg Bool.false_ne_true] at N
    exact N
theorem sn_icmp_ne {tgt : Nat} {off : Int} (hi : am_ins mid pc = (13, 1, tgt, 0, [])) (hd : decode (am_cod mid) pc = .ok (.if_icmp .ne off, 3)) (ht : (pc : Int) + off = (tgt : Int)) : am_Snd K mid pc := by
  intro p l e R s m args below meth c Q z0 ls st h pc' ls' st' h' hs C hz hR N H locs lsA hW hS hL
  rw [hi] at hs
  obtain ⟨⟨x, y, r⟩, h1, h2⟩ := Option.bind_eq_some_iff.mp (show (am_p2 st).bind _ = _ from hs)
  cases h2
  obtain rfl := am_p2_spec h1
  refine lv_icmp_ne C.1 C.2.1 hd ht (fun hc => ?_) (fun hc => ?_)
  · have N := N H locs lsA hW hS hL
    have hc2 : am_cnd 1 x y = true := decide_eq_true hc
    dsimp only at N
    rw [hc2, if_pos rfl] at N
    exact N
  · have N := N H locs lsA hW hS hL
    have hc2 : am_cnd 1 x y = false := decide_eq_false (fun q => q hc)
    dsimp only at N
    rw [hc2, if_neg Bool.false_ne_true] at N
    exact N
theorem sn_if_lt {tgt : Nat} {off : Int} (hi : am_ins mid pc = (12, 2, tgt, 0, [])) (hd : decode (am_cod mid) pc = .ok (.ifCond .lt off, 3)) (ht : (pc : Int) + off = (tgt : Int)) : am_Snd K mid pc := by
  intro p l e R s m args below meth c Q z0 ls st h pc' ls' st' h' hs C hz hR N H locs lsA hW hS hL
  rw [hi] at hs
  obtain ⟨⟨x, r⟩, h1, h2⟩ := Option.bind_eq_some_iff.mp (show (am_p1 st).bind _ = _ from hs)
  cases h2
  obtain rfl := am_p1_spec h1
  refine lv_if_lt C.1 C.2.1 hd ht (fun hc => ?_) (fun hc => ?_)
  · have N := N H locs lsA hW hS hL
    have hc2 : am_cnd 2 x 0 = true := decide_eq_true hc
    dsimp only at N
    rw [hc2, if_pos rfl] at N
    exact N
  · have N := N H locs lsA hW hS hL
    have hc2 : am_cnd 2 x 0 = false := decide_eq_false hc
    dsimp only at N
    rw [hc2, if_neg Bool.false_ne_true] at N
    exact N
theorem sn_icmp_lt {tgt : Nat} {off : Int} (hi : am_ins mid pc = (13, 2, tgt, 0, [])) (hd : decode (am_cod mid) pc = .ok (.if_icmp .lt off, 3)) (ht : (pc : Int) + off = (tgt : Int)) : am_Snd K mid pc := by
  intro p l e R s m args below meth c Q z0 ls st h pc' ls' st' h' hs C hz hR N H locs lsA hW hS hL
  rw [hi] at hs
  obtain ⟨⟨x, y, r⟩, h1, h2⟩ := Option.bind_eq_some_iff.mp (show (am_p2 st).bind _ = _ from hs)
  cases h2
  obtain rfl := am_p2_spec h1
  refine lv_icmp_lt C.1 C.2.1 hd ht (fun hc => ?_) (fun hc => ?_)
  · have N := N H locs lsA hW hS hL
    have hc2 : am_cnd 2 x y = true := decide_eq_true hc
    dsimp only at N
    rw [hc2, if_pos rfl] at N
    exact N
  · have N := N H locs lsA hW hS hL
    have hc2 : am_cnd 2 x y = false := decide_eq_false hc
    dsimp only at N
    rw [hc2, if_neg Bool.false_ne_true] at N
    exact N
theorem sn_if_ge {tgt : Nat} {off : Int} (hi : am_ins mid pc = (12, 3, tgt, 0, [])) (hd : decode (am_cod mid) pc = .ok (.ifCond .ge off, 3)) (ht : (pc : Int) + off = (tgt : Int)) : am_Snd K mid pc := by
  intro p l e R s m args below meth c Q z0 ls st h pc' ls' st' h' hs C hz hR N H locs lsA hW hS hL
  rw [hi] at hs
  obtain ⟨⟨x, r⟩, h1, h2⟩ := Option.bind_eq_some_iff.mp (show (am_p1 st).bind _ = _ from hs)
  cases h2
  obtain rfl := am_p1_spec h1
  refine lv_if_ge C.1 C.2.1 hd ht (fun hc => ?_) (fun hc => ?_)
  · have N := N H locs lsA hW hS hL
    have hc2 : am_cnd 3 x 0 = true := decide_eq_true hc
    dsimp only at N
    rw [hc2, if_pos rfl] at N
    exact N
  · have N := N H locs lsA hW hS hL
    have hc2 : am_cnd 3 x 0 = false := decide_eq_false hc
    dsimp only at N
    rw [hc2, if_neg Bool.false_ne_true] at N
    exact N
theorem sn_icmp_ge {tgt : Nat} {off : Int} (hi : am_ins mid pc = (13, 3, tgt, 0, [])) (hd : decode (am_cod mid) pc = .ok (.if_icmp .ge off, 3)) (ht : (pc : Int) + off = (tgt : Int)) : am_Snd K mid pc := by
  intro p l e R s m args below meth c Q z0 ls st h pc' ls' st' h' hs C hz hR N H locs lsA hW hS hL
  rw [hi] at hs
  obtain ⟨⟨x, y, r⟩, h1, h2⟩ := Option.bind_eq_some_iff.mp (show (am_p2 st).bind _ = _ from hs)
  cases h2
  obtain rfl := am_p2_spec h1
  refine lv_icmp_ge C.1 C.2.1 hd ht (fun hc => ?_) (fun hc => ?_)
  · have N := N H locs lsA hW hS hL
    have hc2 : am_cnd 3 x y = true := decide_eq_true hc
    dsimp only at N
    rw [hc2, if_pos rfl] at N
    exact N
  · have N := N H locs lsA hW hS hL
    have hc2 : am_cnd 3 x y = false := decide_eq_false hc
    dsimp only at N
    rw [hc2, if_neg Bool.false_ne_true] at N
    exact N
theorem sn_if_gt {tgt : Nat} {off : Int} (hi : am_ins mid pc = (12, 4, tgt, 0, [])) (hd : decode (am_cod mid) pc = .ok (.ifCond .gt off, 3)) (ht : (pc : Int) + off = (tgt : Int)) : am_Snd K mid pc := by
  intro p l e R s m args below meth c Q z0 ls st h pc' ls' st' h' hs C hz hR N H locs lsA hW hS hL
  rw [hi] at hs
  obtain ⟨⟨x, r⟩, h1, h2⟩ := Option.bind_eq_some_iff.mp (show (am_p1 st).bind _ = _ from hs)
  cases h2
  obtain rfl := am_p1_spec h1
  refine lv_if_gt C.1 C.2.1 hd ht (fun hc => ?_) (fun hc => ?_)
  · have N := N H locs lsA hW hS hL
    have hc2 : am_cnd 4 x 0 = true := decide_eq_true hc
    dsimp only at N
    rw [hc2, if_pos rfl] at N
    exact N
  · have N := N H locs lsA hW hS hL
    have hc2 : am_cnd 4 x 0 = false := decide_eq_false hc
    dsimp only at N
    rw [hc2, if_neg Bool.false_ne_true] at N
    exact N
theorem sn_icmp_gt {tgt : Nat} {off : Int} (hi : am_ins mid pc = (13, 4, tgt, 0, [])) (hd : decode (am_cod mid) pc = .ok (.if_icmp .gt off, 3)) (ht : (pc : Int) + off = (tgt : Int)) : am_Snd K mid pc := by
  intro p l e R s m args below meth c Q z0 ls st h pc' ls' st' h' hs C hz hR N H locs lsA hW hS hL
  rw [hi] at hs
  obtain ⟨⟨x, y, r⟩, h1, h2⟩ := Option.bind_eq_some_iff.mp (show (am_p2 st).bind _ = _ from hs)
  cases h2
  obtain rfl := am_p2_spec h1
  refine lv_icmp_gt C.1 C.2.1 hd ht (fun hc => ?_) (fun hc => ?_)
  · have N := N H locs lsA hW hS hL
    have hc2 : am_cnd 4 x y = true := decide_eq_true hc
    dsimp only at N
    rw [hc2, if_pos rfl] at N
    exact N
  · have N := N H locs lsA hW hS hL
    have hc2 : am_cnd 4 x y = false := decide_eq_false hc
    dsimp only at N
    rw [hc2, if_neg Bool.false_ne_true] at N
    exact N
theorem sn_if_le {tgt : Nat} {off : Int} (hi : am_ins mid pc = (12, 5, tgt, 0, [])) (hd : decode (am_cod mid) pc = .ok (.ifCond .le off, 3)) (ht : (pc : Int) + off = (tgt : Int)) : am_Snd K mid pc := by
  intro p l e R s m args below meth c Q z0 ls st h pc' ls' st' h' hs C hz hR N H locs lsA hW hS hL
  rw [hi] at hs
  obtain ⟨⟨x, r⟩, h1, h2⟩ := Option.bind_eq_some_iff.mp (show (am_p1 st).bind _ = _ from hs)
  cases h2
  obtain rfl := am_p1_spec h1
  refine lv_if_le C.1 C.2.1 hd ht (fun hc => ?_) (fun hc => ?_)
  · have N := N H locs lsA hW hS hL
    have hc2 : am_cnd 5 x 0 = true := decide_eq_true hc
    dsimp only at N
    rw [hc2, if_pos rfl] at N
    exact N
  · have N := N H locs lsA hW hS hL
    have hc2 : am_cnd 5 x 0 = false := decide_eq_false hc
    dsimp only at N
    rw [hc2, if_neg Bool.false_ne_true] at N
    exact N
theorem sn_icmp_le {tgt : Nat} {off : Int} (hi : am_ins mid pc = (13, 5, tgt, 0, [])) (hd : decode (am_cod mid) pc = .ok (.if_icmp .le off, 3)) (ht : (pc : Int) + off = (tgt : Int)) : am_Snd K mid pc := by
  intro p l e R s m args below meth c Q z0 ls st h pc' ls' st' h' hs C hz hR N H locs lsA hW hS hL
  rw [hi] at hs
  obtain ⟨⟨x, y, r⟩, h1, h2⟩ := Option.bind_eq_some_iff.mp (show (am_p2 st).bind _ = _ from hs)
  cases h2
  obtain rfl := am_p2_spec h1
  refine lv_icmp_le C.1 C.2.1 hd ht (fun hc => ?_) (fun hc => ?_)
  · have N := N H locs lsA hW hS hL
    have hc2 : am_cnd 5 x y = true := decide_eq_true hc
    dsimp only at N
    rw [hc2, if_pos rfl] at N
    exact N
  · have N := N H locs lsA hW hS hL
    have hc2 : am_cnd 5 x y = false := decide_eq_false hc
    dsimp only at N
    rw [hc2, if_neg Bool.false_ne_true] at N
    exact N
theorem sn_goto {tgt : Nat} {off : Int} (hi : am_ins mid pc = (14, tgt, 0, 0, [])) (hd : decode (am_cod mid) pc = .ok (.goto off, 3)) (ht : (pc : Int) + off = (tgt : Int)) : am_Snd K mid pc := by
  intro p l e R s m args below meth c Q z0 ls st h pc' ls' st' h' hs C hz hR N H locs lsA hW hS hL
  rw [hi] at hs
  cases hs
  exact lv_goto C.1 C.2.1 hd ht (N H locs lsA hW hS hL)
theorem sn_ifnull {tgt : Nat} {off : Int} (hi : am_ins mid pc = (15, tgt, 0, 0, [])) (hd : decode (am_cod mid) pc = .ok (.ifnull off, 3)) (ht : (pc : Int) + off = (tgt : Int)) : am_Snd K mid pc := by
  intro p l e R s m args below meth c Q z0 ls st h pc' ls' st' h' hs C hz hR N H locs lsA hW hS hL
  rw [hi] at hs
  obtain ⟨⟨x, r⟩, h1, h2⟩ := Option.bind_eq_some_iff.mp (show (am_pq st).bind _ = _ from hs)
  cases h2
  obtain rfl := am_pq_spec h1
  cases x with
  | none => exact lv_ifnullN C.1 C.2.1 hd ht (N H locs lsA hW hS hL)
  | some a => exact lv_ifnull C.1 C.2.1 hd (N H locs lsA hW hS hL)
theorem sn_ifnonnull {tgt : Nat} {off : Int} (hi : am_ins mid pc = (16, tgt, 0, 0, [])) (hd : decode (am_cod mid) pc = .ok (.ifnonnull off, 3)) (ht : (pc : Int) + off = (tgt : Int)) : am_Snd K mid pc := by
  intro p l e R s m args below meth c Q z0 ls st h pc' ls' st' h' hs C hz hR N H locs lsA hW hS hL
  rw [hi] at hs
  obtain ⟨⟨x, r⟩, h1, h2⟩ := Option.bind_eq_some_iff.mp (show (am_pq st).bind _ = _ from hs)
  cases h2
  obtain rfl := am_pq_spec h1
  cases x with
  | none => exact lv_ifnonnullN C.1 C.2.1 hd (N H locs lsA hW hS hL)
  | some a => exact lv_ifnonnull C.1 C.2.1 hd ht (N H locs lsA hW hS hL)
theorem sn_null (hi : am_ins mid pc = (17, 0, 0, 0, [])) (hd : decode (am_cod mid) pc = .ok (.aconst_null, 1)) : am_Snd K mid pc := by
  intro p l e R s m args below meth c Q z0 ls st h pc' ls' st' h' hs C hz hR N H locs lsA hW hS hL
  rw [hi] at hs
  cases hs
  exact lv_null C.1 C.2.1 hd (N H locs lsA hW hS hL)
theorem sn_acmpeq {tgt : Nat} {off : Int} (hi : am_ins mid pc = (40, tgt, 0, 0, [])) (hd : decode (am_cod mid) pc = .ok (.if_acmp .eq off, 3)) (ht : (pc : Int) + off = (tgt : Int)) : am_Snd K mid pc := by
  intro p l e R s m args below meth c Q z0 ls st h pc' ls' st' h' hs C hz hR N H locs lsA hW hS hL
  rw [hi] at hs
  obtain ⟨⟨y, r1⟩, h1, h2⟩ := Option.bind_eq_some_iff.mp (show (am_pq st).bind _ = _ from hs)
  obtain ⟨⟨x, r⟩, h3, h4⟩ := Option.bind_eq_some_iff.mp h2
  cases h4
  obtain rfl := am_pq_spec h1
  have h5 := am_pq_spec h3
  dsimp only at h5
  subst h5
  refine lv_acmp_eq C.1 C.2.1 hd ht (fun hc => ?_) (fun hc => ?_)
  · have N := N H locs lsA hW hS hL
    dsimp only at N
    rw [if_pos hc] at N
    exact N
  · have N := N H locs lsA hW hS hL
    dsimp only at N
    rw [if_neg hc] at N
    exact N
theorem sn_acmpne {tgt : Nat} {off : Int} (hi : am_ins mid pc = (41, tgt, 0, 0, [])) (hd : decode (am_cod mid) pc = .ok (.if_acmp .ne off, 3)) (ht : (pc : Int) + off = (tgt : Int)) : am_Snd K mid pc := by
  intro p l e R s m args below meth c Q z0 ls st h pc' ls' st' h' hs C hz hR N H locs lsA hW hS hL
  rw [hi] at hs
  obtain ⟨⟨y, r1⟩, h1, h2⟩ := Option.bind_eq_some_iff.mp (show (am_pq st).bind _ = _ from hs)
  obtain ⟨⟨x, r⟩, h3, h4⟩ := Option.bind_eq_some_iff.mp h2
  cases h4
  obtain rfl := am_pq_spec h1
  have h5 := am_pq_spec h3
  dsimp only at h5
  subst h5
  refine lv_acmp_ne C.1 C.2.1 hd ht (fun hc => ?_) (fun hc => ?_)
  · have N := N H locs lsA hW hS hL
    dsimp only at N
    rw [if_neg hc] at N
    exact N
  · have N := N H locs lsA hW hS hL
    dsimp only at N
    rw [if_pos hc] at N
    exact N
theorem am_fld_spec {h : aH} {ci a : Nat} {fs : List Value} (e : am_fld h ci a = some fs) : h.2.2 a = some (.inr (ci, fs)) := by
  unfold am_fld at e
  split at e
  · rename_i c fs2 hx
    split at e
    · rename_i hc
      subst hc
      cases e
      exact hx
    · cases e
  · cases e
theorem am_arr_spec {h : aH} {a : Nat} {x : Nat × Nat × (Nat → Int32)} (e : am_arr h a = some x) : h.2.2 a = some (.inl (x.1, x.2.1, .inl x.2.2)) := by
  unfold am_arr at e
  split at e
  · rename_i hx
    cases e
    exact hx
  · cases e
theorem am_arq_spec {h : aH} {a : Nat} {x : Nat × Nat × (Nat → Option Nat)} (e : am_arq h a = some x) : h.2.2 a = some (.inl (x.1, x.2.1, .inr x.2.2)) := by
  unfold am_arq at e
  split at e
  · rename_i hx
    cases e
    exact hx
  · cases e
theorem am_len_spec {h : aH} {a n : Nat} (e : am_len h a = some n) : ∃ t c, h.2.2 a = some (.inl (t, n, c)) := by
  unfold am_len at e
  split at e
  · rename_i t n2 c hx
    cases e
    exact ⟨t, c, hx⟩
  · cases e
/-- a cell that isn't the script stands in the world -/
theorem am_W_at {K : aK} {U : State} {h : aH} {H : Heap} (hW : am_W K U h H) {a : Nat} {e : aE} (he : h.2.2 a = some e) (hn : ¬ e = am_scr K) : (am_ws K h)[a - kB K]? = some (a, am_tr K e) ∧ kB K ≤ a ∧ a < h.1 ∧ am_ok e := by
  rcases hW.2.2.2.2.2.2 a e he with ⟨h1, h2, h3⟩ | ⟨-, h2⟩
  · exact ⟨am_ws_at h1 h2 he, h1, h2, h3⟩
  · exact absurd h2 hn
theorem am_W_up {K : aK} {U : State} {h : aH} {H H1 : Heap} {locs1 : List Loc} {H0 : Heap} (hW : am_W K U h H) {a : Nat} {e : aE} (h1 : kB K ≤ a) (h2 : a < h.1) (ho : am_ok e) (hP : va_P (kG K) vwCl ((am_ws K h).set (a - kB K) (a, am_tr K e)) H1) (hS : va_S (am_A K) H0 H1 locs1) (h0 : kB K ≤ H0.size ∧ H0.size ≤ h.1) (hz : H1.size ≤ h.1) (hX : va_X (kS K) (kN K) (kX K) U H1) : am_W K U (am_up h a e) H1 := by
  rw [am_ws_set e h1 h2] at hP
  refine ⟨?_, hW.2.1, hP, hX, hW.2.2.2.2.1, ?_, fun q x hx => ?_⟩
  · have h3 : (am_ws K (am_up h a e))[a - kB K]? = some (a, am_tr K e) := am_ws_at h1 h2 (by show (if a = a then some e else _) = _; rw [if_pos rfl])
    have h4 : (am_ws K (am_up h a e))[h.1 - 1 - kB K]? = some (h.1 - 1, am_tr K (((am_up h a e).2.2 (h.1 - 1)).getD (.inr (0, [])))) := by
      unfold am_ws
      rw [List.getElem?_map, List.getElem?_range (by show _ < h.1 - _; omega)]
      have e1 : kB K + (h.1 - 1 - kB K) = h.1 - 1 := by omega
      simp only [Option.map_some, e1]
    have h5 := (hP _ _ h4).lt
    dsimp only at h5
    show H1.size = h.1
    omega
  · show (if kS K = a then some e else h.2.2 (kS K)) = _
    rw [if_neg (by have := hW.2.2.2.2.1; omega)]
    exact hW.2.2.2.2.2.1
  · have hx : (if q = a then some e else h.2.2 q) = some x := hx
    split at hx
    · rename_i hq
      cases hx
      subst hq
      exact Or.inl ⟨h1, h2, ho⟩
    · exact hW.2.2.2.2.2.2 q x hx
theorem am_W_nw {K : aK} {U : State} {h : aH} {H1 : Heap} {H : Heap} (hW : am_W K U h H) {k : Nat} {e : aE} {q : Nat} (ho : am_ok e) (hP : va_P (kG K) vwCl (am_ws K h ++ [(q, am_tr K e)]) H1) (hD : va_D (am_A K) (am_ws K h ++ [(q, am_tr K e)])) (hz : H1.size ≤ h.1 + 1) (hX : va_X (kS K) (kN K) (kX K) U H1) : q = h.1 ∧ am_W K U (am_nw h k e) H1 := by
  have hl : (am_ws K h).length = h.1 - kB K := by unfold am_ws; rw [List.length_map, List.length_range]
  have hq1 : (am_ws K h ++ [(q, am_tr K e)])[h.1 - kB K]? = some (q, am_tr K e) := by rw [List.getElem?_append_right (by omega), hl, Nat.sub_self]; rfl
  have hq2 : kB K ≤ q := hD.2 _ _ hq1
  have hq3 : q < H1.size := (hP _ _ hq1).lt
  have hq : q = h.1 := by
    by_cases hlt : q < h.1
    · have h4 : (am_ws K h ++ [(q, am_tr K e)])[q - kB K]? = some (q, am_tr K ((h.2.2 q).getD (.inr (0, [])))) := by
        rw [List.getElem?_append_left (by omega)]
        unfold am_ws
        rw [List.getElem?_map, List.getElem?_range (by omega)]
        have e1 : kB K + (q - kB K) = q := by omega
        simp only [Option.map_some, e1]
      have := hD.1 _ _ _ _ hq1 h4 rfl
      omega
    · omega
  subst hq
  rw [am_ws_push k e hW.2.1] at hP
  refine ⟨rfl, ?_, ?_, hP, hX, hW.2.2.2.2.1, ?_, fun a x hx => ?_⟩
  · show H1.size = h.1 + 1
    omega
  · show kB K ≤ h.1 + 1
    have := hW.2.1
    omega
  · show (if kS K = h.1 then some e else h.2.2 (kS K)) = _
    rw [if_neg (by have h5 := hW.2.2.2.2.1; have h6 := hW.2.1; omega)]
    exact hW.2.2.2.2.2.1
  · have hx : (if a = h.1 then some e else h.2.2 a) = some x := hx
    split at hx
    · rename_i hq
      cases hx
      subst hq
      exact Or.inl ⟨hW.2.1, Nat.lt_succ_self _, ho⟩
    · rcases hW.2.2.2.2.2.2 a x hx with ⟨g1, g2, g3⟩ | g
      · exact Or.inl ⟨g1, Nat.lt_succ_of_lt g2, g3⟩
      · exact Or.inr g
theorem am_X_kept {K : aK} {U s : State} {h : aH} {H H1 : Heap} {locs locs1 : List Loc} (hW : am_W K U h H) (hs : kB K ≤ s.heap.size) (hS : va_S (am_A K) s.heap H locs) (hS1 : va_S (am_A K) s.heap H1 locs1) : va_X (kS K) (kN K) (kX K) U H1 := by
  have h5 := hW.2.2.2.2.1
  have h6 : ¬ am_A K (kS K) := fun q => by have : kB K ≤ kS K := q; omega
  exact hW.2.2.2.1.kept (by rw [hS1.2.1 _ (by omega) h6, hS.2.1 _ (by omega) h6])
theorem am_hA {K : aK} {s : State} (hs : kB K ≤ s.heap.size) : ∀ q, s.heap.size ≤ q → am_A K q := fun q hq => Nat.le_trans hs hq
theorem sn_get {ci k ix : Nat} {C0 : String} {T : u_T} {Nf : Nat} {rf : String} (hi : am_ins mid pc = (18, ci, k, 0, [])) (hd : decode (am_cod mid) pc = .ok (.getfield ix, 3)) (hc : vwCl[ci]? = some (C0, T, Nf)) (hk : k < Nf) (hin : ∀ w ∈ u_ws C0 T Nf, w ∈ am_TW) (hlk : Cond.fieldLink (am_own mid) ix rf (T k).2.1 (T k).2.2.1 ∈ am_TW) (hrf : (T k).1 = rf) : am_Snd K mid pc := by
  intro p l e R s m args below meth c Q z0 ls st h pc' ls' st' h' hs C hz hR N H locs lsA hW hS hL
  rw [hi] at hs
  obtain ⟨⟨a, r⟩, h1, h2⟩ := Option.bind_eq_some_iff.mp (show (am_pr st).bind _ = _ from hs)
  obtain ⟨fs, h3, h4⟩ := Option.bind_eq_some_iff.mp h2
  obtain ⟨v, h5, h6⟩ := Option.bind_eq_some_iff.mp h4
  cases h6
  obtain rfl := am_pr_spec h1
  have hf := am_fld_spec h3
  obtain ⟨w1, w2, w3, w4⟩ := am_W_at hW hf (fun q => by cases q)
  exact va_get (ci := ci) C.1 C.2.1 C.2.2.2.2.1 hin C.2.2.2.1 C.2.2.2.2.2.1 hW.2.2.1 (a - kB K) w1 hc k hk (C.2.2.2.2.1 _ hlk) (fun x hx => by rw [← hrf]; exact hx) h5 hd (N H locs lsA hW hS hL)
theorem sn_getN {ci k ix : Nat} {C0 : String} {T : u_T} {Nf : Nat} {rf host : String} (hi : am_ins mid pc = (18, ci, k, 0, [])) (hd : decode (am_cod mid) pc = .ok (.getfield ix, 3)) (hc : vwCl[ci]? = some (C0, T, Nf)) (hk : k < Nf) (hin : ∀ w ∈ u_ws C0 T Nf, w ∈ am_TW) (hlk : Cond.fieldLinkNest (am_own mid) ix rf (T k).2.1 (T k).2.2.1 host ∈ am_NW) (hrf : (T k).1 = rf) : am_Snd K mid pc := by
  intro p l e R s m args below meth c Q z0 ls st h pc' ls' st' h' hs C hz hR N H locs lsA hW hS hL
  rw [hi] at hs
  obtain ⟨⟨a, r⟩, h1, h2⟩ := Option.bind_eq_some_iff.mp (show (am_pr st).bind _ = _ from hs)
  obtain ⟨fs, h3, h4⟩ := Option.bind_eq_some_iff.mp h2
  obtain ⟨v, h5, h6⟩ := Option.bind_eq_some_iff.mp h4
  cases h6
  obtain rfl := am_pr_spec h1
  have hf := am_fld_spec h3
  obtain ⟨w1, w2, w3, w4⟩ := am_W_at hW hf (fun q => by cases q)
  exact va_getN (ci := ci) C.1 C.2.1 C.2.2.2.2.1 hin C.2.2.2.1 C.2.2.2.2.2.1 hW.2.2.1 (a - kB K) w1 hc k hk (va_Nw.use rfl (C.2.2.2.2.2.2.1 _ hlk)) (fun x hx => by rw [← hrf]; exact hx) h5 hd (N H locs lsA hW hS hL)
theorem am_wr_spec {h : aH} {ci k a : Nat} {v : Value} {h' : aH} (e : am_wr h ci k a v = some h') : ∃ fs : List Value, h.2.2 a = some (.inr (ci, fs)) ∧ k < fs.length ∧ h' = am_up h a (.inr (ci, fs.set k v)) := by
  obtain ⟨fs, h1, h2⟩ := Option.bind_eq_some_iff.mp (show (am_fld h ci a).bind _ = _ from e)
  split at h2
  · rename_i hk
    cases h2
    exact ⟨fs, am_fld_spec h1, hk, rfl⟩
  · cases h2
theorem sn_puti {ci k ix : Nat} {C0 : String} {T : u_T} {Nf : Nat} {rf : String} {ty : FieldType} {tyf : Nat → FieldType} (hi : am_ins mid pc = (19, ci, k, 0, [])) (hd : decode (am_cod mid) pc = .ok (.putfield ix, 3)) (hc : vwCl[ci]? = some (C0, T, Nf)) (hk : k < Nf) (hin : ∀ w ∈ u_ws C0 T Nf, w ∈ am_TW) (htys : ∀ k, k < Nf → parseFieldDescriptor (T k).2.2.1 = some (tyf k)) (hnm : ∀ a, a < Nf → ∀ b, b < Nf → a ≠ b → (T a).2.1 ≠ (T b).2.1) (hlk : Cond.fieldLink (am_own mid) ix rf (T k).2.1 (T k).2.2.1 ∈ am_TW) (hrf : (T k).1 = rf) (hfin : (T k).2.2.2 = false) (hty : parseFieldDescriptor (T k).2.2.1 = some .int) : am_Snd K mid pc := by
  intro p l e R s m args below meth c Q z0 ls st h pc' ls' st' h' hs C hz hR N H locs lsA hW hS hL
  rw [hi] at hs
  obtain ⟨⟨x, r1⟩, h1, h2⟩ := Option.bind_eq_some_iff.mp (show (am_p1 st).bind _ = _ from hs)
  obtain ⟨⟨a, r⟩, h3, h4⟩ := Option.bind_eq_some_iff.mp h2
  obtain ⟨h9, h5, h6⟩ := Option.bind_eq_some_iff.mp h4
  cases h6
  obtain rfl := am_p1_spec h1
  have h7 := am_pr_spec h3
  dsimp only at h7
  subst h7
  obtain ⟨fs, f1, f2, rfl⟩ := am_wr_spec h5
  obtain ⟨w1, w2, w3, w4⟩ := am_W_at hW f1 (fun q => by cases q)
  refine va_put (ci := ci) (ty := .int) C.1 C.2.1 C.2.2.2.2.1 hin tyf htys hnm C.2.2.2.1 C.2.2.2.2.2.1 hW.2.2.1 (am_ws_D K h) hS (a - kB K) w1 hc k hk (C.2.2.2.2.1 _ hlk) (fun x hx => by rw [← hrf]; exact hx) hfin hty rfl rfl f2 hd (fun H1 locs1 hP1 hD1 hS1 => ?_)
  refine am_Wsz (fun hz1 => ?_)
  have hb := C.2.2.2.2.2.2.2.2.2.2
  exact N H1 locs1 lsA (am_W_up (e := .inr (ci, _)) hW w2 w3 trivial hP1 hS1 ⟨hb, hz.2⟩ (by omega) (am_X_kept hW hb hS hS1)) hS1 hL
theorem sn_putiF {ci k ix : Nat} {C0 : String} {T : u_T} {Nf : Nat} {rf : String} {ty : FieldType} {tyf : Nat → FieldType} (hi : am_ins mid pc = (19, ci, k, 0, [])) (hd : decode (am_cod mid) pc = .ok (.putfield ix, 3)) (hc : vwCl[ci]? = some (C0, T, Nf)) (hk : k < Nf) (hin : ∀ w ∈ u_ws C0 T Nf, w ∈ am_TW) (htys : ∀ k, k < Nf → parseFieldDescriptor (T k).2.2.1 = some (tyf k)) (hnm : ∀ a, a < Nf → ∀ b, b < Nf → a ≠ b → (T a).2.1 ≠ (T b).2.1) (hlk : Cond.fieldLink (am_own mid) ix rf (T k).2.1 (T k).2.2.1 ∈ am_TW) (hrf : (T k).1 = rf) (hfin : (T k).2.2.2 = true) (hini : am_nm mid = "<init>") (hdecl : (T k).1 = am_own mid) (hty : parseFieldDescriptor (T k).2.2.1 = some .int) : am_Snd K mid pc := by
  intro p l e R s m args below meth c Q z0 ls st h pc' ls' st' h' hs C hz hR N H locs lsA hW hS hL
  rw [hi] at hs
  obtain ⟨⟨x, r1⟩, h1, h2⟩ := Option.bind_eq_some_iff.mp (show (am_p1 st).bind _ = _ from hs)
  obtain ⟨⟨a, r⟩, h3, h4⟩ := Option.bind_eq_some_iff.mp h2
  obtain ⟨h9, h5, h6⟩ := Option.bind_eq_some_iff.mp h4
  cases h6
  obtain rfl := am_p1_spec h1
  have h7 := am_pr_spec h3
  dsimp only at h7
  subst h7
  obtain ⟨fs, f1, f2, rfl⟩ := am_wr_spec h5
  obtain ⟨w1, w2, w3, w4⟩ := am_W_at hW f1 (fun q => by cases q)
  refine va_putF (ci := ci) (ty := .int) C.1 C.2.1 C.2.2.2.2.1 hin tyf htys hnm C.2.2.2.1 C.2.2.2.2.2.1 hW.2.2.1 (am_ws_D K h) hS (a - kB K) w1 hc k hk (C.2.2.2.2.1 _ hlk) (fun x hx => by rw [← hrf]; exact hx) hfin (C.2.2.2.2.2.2.2.2.2.1 hini) hdecl hty rfl rfl f2 hd (fun H1 locs1 hP1 hD1 hS1 => ?_)
  refine am_Wsz (fun hz1 => ?_)
  have hb := C.2.2.2.2.2.2.2.2.2.2
  exact N H1 locs1 lsA (am_W_up (e := .inr (ci, _)) hW w2 w3 trivial hP1 hS1 ⟨hb, hz.2⟩ (by omega) (am_X_kept hW hb hS hS1)) hS1 hL
theorem sn_putz {ci k ix : Nat} {C0 : String} {T : u_T} {Nf : Nat} {rf : String} {ty : FieldType} {tyf : Nat → FieldType} (hi : am_ins mid pc = (20, ci, k, 0, [])) (hd : decode (am_cod mid) pc = .ok (.putfield ix, 3)) (hc : vwCl[ci]? = some (C0, T, Nf)) (hk : k < Nf) (hin : ∀ w ∈ u_ws C0 T Nf, w ∈ am_TW) (htys : ∀ k, k < Nf → parseFieldDescriptor (T k).2.2.1 = some (tyf k)) (hnm : ∀ a, a < Nf → ∀ b, b < Nf → a ≠ b → (T a).2.1 ≠ (T b).2.1) (hlk : Cond.fieldLink (am_own mid) ix rf (T k).2.1 (T k).2.2.1 ∈ am_TW) (hrf : (T k).1 = rf) (hfin : (T k).2.2.2 = false) (hty : parseFieldDescriptor (T k).2.2.1 = some .boolean) : am_Snd K mid pc := by
  intro p l e R s m args below meth c Q z0 ls st h pc' ls' st' h' hs C hz hR N H locs lsA hW hS hL
  rw [hi] at hs
  obtain ⟨⟨x, r1⟩, h1, h2⟩ := Option.bind_eq_some_iff.mp (show (am_p1 st).bind _ = _ from hs)
  obtain ⟨⟨a, r⟩, h3, h4⟩ := Option.bind_eq_some_iff.mp h2
  split at h4
  case isFalse => cases h4
  rename_i hx01
  obtain ⟨h9, h5, h6⟩ := Option.bind_eq_some_iff.mp h4
  cases h6
  obtain rfl := am_p1_spec h1
  have h7 := am_pr_spec h3
  dsimp only at h7
  subst h7
  obtain ⟨fs, f1, f2, rfl⟩ := am_wr_spec h5
  obtain ⟨w1, w2, w3, w4⟩ := am_W_at hW f1 (fun q => by cases q)
  refine va_put (ci := ci) (ty := .boolean) C.1 C.2.1 C.2.2.2.2.1 hin tyf htys hnm C.2.2.2.1 C.2.2.2.2.2.1 hW.2.2.1 (am_ws_D K h) hS (a - kB K) w1 hc k hk (C.2.2.2.2.1 _ hlk) (fun x hx => by rw [← hrf]; exact hx) hfin hty (by rcases hx01 with q | q <;> (dsimp only at q ⊢; rw [q]; decide)) (by rcases hx01 with q | q <;> (dsimp only at q ⊢; rw [q]; decide)) f2 hd (fun H1 locs1 hP1 hD1 hS1 => ?_)
  refine am_Wsz (fun hz1 => ?_)
  have hb := C.2.2.2.2.2.2.2.2.2.2
  exact N H1 locs1 lsA (am_W_up (e := .inr (ci, _)) hW w2 w3 trivial hP1 hS1 ⟨hb, hz.2⟩ (by omega) (am_X_kept hW hb hS hS1)) hS1 hL
theorem sn_putzF {ci k ix : Nat} {C0 : String} {T : u_T} {Nf : Nat} {rf : String} {ty : FieldType} {tyf : Nat → FieldType} (hi : am_ins mid pc = (20, ci, k, 0, [])) (hd : decode (am_cod mid) pc = .ok (.putfield ix, 3)) (hc : vwCl[ci]? = some (C0, T, Nf)) (hk : k < Nf) (hin : ∀ w ∈ u_ws C0 T Nf, w ∈ am_TW) (htys : ∀ k, k < Nf → parseFieldDescriptor (T k).2.2.1 = some (tyf k)) (hnm : ∀ a, a < Nf → ∀ b, b < Nf → a ≠ b → (T a).2.1 ≠ (T b).2.1) (hlk : Cond.fieldLink (am_own mid) ix rf (T k).2.1 (T k).2.2.1 ∈ am_TW) (hrf : (T k).1 = rf) (hfin : (T k).2.2.2 = true) (hini : am_nm mid = "<init>") (hdecl : (T k).1 = am_own mid) (hty : parseFieldDescriptor (T k).2.2.1 = some .boolean) : am_Snd K mid pc := by
  intro p l e R s m args below meth c Q z0 ls st h pc' ls' st' h' hs C hz hR N H locs lsA hW hS hL
  rw [hi] at hs
  obtain ⟨⟨x, r1⟩, h1, h2⟩ := Option.bind_eq_some_iff.mp (show (am_p1 st).bind _ = _ from hs)
  obtain ⟨⟨a, r⟩, h3, h4⟩ := Option.bind_eq_some_iff.mp h2
  split at h4
  case isFalse => cases h4
  rename_i hx01
  obtain ⟨h9, h5, h6⟩ := Option.bind_eq_some_iff.mp h4
  cases h6
  obtain rfl := am_p1_spec h1
  have h7 := am_pr_spec h3
  dsimp only at h7
  subst h7
  obtain ⟨fs, f1, f2, rfl⟩ := am_wr_spec h5
  obtain ⟨w1, w2, w3, w4⟩ := am_W_at hW f1 (fun q => by cases q)
  refine va_putF (ci := ci) (ty := .boolean) C.1 C.2.1 C.2.2.2.2.1 hin tyf htys hnm C.2.2.2.1 C.2.2.2.2.2.1 hW.2.2.1 (am_ws_D K h) hS (a - kB K) w1 hc k hk (C.2.2.2.2.1 _ hlk) (fun x hx => by rw [← hrf]; exact hx) hfin (C.2.2.2.2.2.2.2.2.2.1 hini) hdecl hty (by rcases hx01 with q | q <;> (dsimp only at q ⊢; rw [q]; decide)) (by rcases hx01 with q | q <;> (dsimp only at q ⊢; rw [q]; decide)) f2 hd (fun H1 locs1 hP1 hD1 hS1 => ?_)
  refine am_Wsz (fun hz1 => ?_)
  have hb := C.2.2.2.2.2.2.2.2.2.2
  exact N H1 locs1 lsA (am_W_up (e := .inr (ci, _)) hW w2 w3 trivial hP1 hS1 ⟨hb, hz.2⟩ (by omega) (am_X_kept hW hb hS hS1)) hS1 hL
theorem sn_putr {ci k ix : Nat} {C0 : String} {T : u_T} {Nf : Nat} {rf : String} {ty : FieldType} {tyf : Nat → FieldType} (hi : am_ins mid pc = (21, ci, k, 0, [])) (hd : decode (am_cod mid) pc = .ok (.putfield ix, 3)) (hc : vwCl[ci]? = some (C0, T, Nf)) (hk : k < Nf) (hin : ∀ w ∈ u_ws C0 T Nf, w ∈ am_TW) (htys : ∀ k, k < Nf → parseFieldDescriptor (T k).2.2.1 = some (tyf k)) (hnm : ∀ a, a < Nf → ∀ b, b < Nf → a ≠ b → (T a).2.1 ≠ (T b).2.1) (hlk : Cond.fieldLink (am_own mid) ix rf (T k).2.1 (T k).2.2.1 ∈ am_TW) (hrf : (T k).1 = rf) (hfin : (T k).2.2.2 = false) (hty : parseFieldDescriptor (T k).2.2.1 = some ty) (htr : ty.isReference = true) : am_Snd K mid pc := by
  intro p l e R s m args below meth c Q z0 ls st h pc' ls' st' h' hs C hz hR N H locs lsA hW hS hL
  rw [hi] at hs
  obtain ⟨⟨x, r1⟩, h1, h2⟩ := Option.bind_eq_some_iff.mp (show (am_pq st).bind _ = _ from hs)
  obtain ⟨⟨a, r⟩, h3, h4⟩ := Option.bind_eq_some_iff.mp h2
  obtain ⟨h9, h5, h6⟩ := Option.bind_eq_some_iff.mp h4
  cases h6
  obtain rfl := am_pq_spec h1
  have h7 := am_pr_spec h3
  dsimp only at h7
  subst h7
  obtain ⟨fs, f1, f2, rfl⟩ := am_wr_spec h5
  obtain ⟨w1, w2, w3, w4⟩ := am_W_at hW f1 (fun q => by cases q)
  refine va_put (ci := ci) (ty := ty) C.1 C.2.1 C.2.2.2.2.1 hin tyf htys hnm C.2.2.2.1 C.2.2.2.2.2.1 hW.2.2.1 (am_ws_D K h) hS (a - kB K) w1 hc k hk (C.2.2.2.2.1 _ hlk) (fun x hx => by rw [← hrf]; exact hx) hfin hty (by cases ty <;> cases x <;> first | rfl | cases htr) (by cases ty <;> cases x <;> first | rfl | cases htr) f2 hd (fun H1 locs1 hP1 hD1 hS1 => ?_)
  refine am_Wsz (fun hz1 => ?_)
  have hb := C.2.2.2.2.2.2.2.2.2.2
  exact N H1 locs1 lsA (am_W_up (e := .inr (ci, _)) hW w2 w3 trivial hP1 hS1 ⟨hb, hz.2⟩ (by omega) (am_X_kept hW hb hS hS1)) hS1 hL
theorem sn_putrF {ci k ix : Nat} {C0 : String} {T : u_T} {Nf : Nat} {rf : String} {ty : FieldType} {tyf : Nat → FieldType} (hi : am_ins mid pc = (21, ci, k, 0, [])) (hd : decode (am_cod mid) pc = .ok (.putfield ix, 3)) (hc : vwCl[ci]? = some (C0, T, Nf)) (hk : k < Nf) (hin : ∀ w ∈ u_ws C0 T Nf, w ∈ am_TW) (htys : ∀ k, k < Nf → parseFieldDescriptor (T k).2.2.1 = some (tyf k)) (hnm : ∀ a, a < Nf → ∀ b, b < Nf → a ≠ b → (T a).2.1 ≠ (T b).2.1) (hlk : Cond.fieldLink (am_own mid) ix rf (T k).2.1 (T k).2.2.1 ∈ am_TW) (hrf : (T k).1 = rf) (hfin : (T k).2.2.2 = true) (hini : am_nm mid = "<init>") (hdecl : (T k).1 = am_own mid) (hty : parseFieldDescriptor (T k).2.2.1 = some ty) (htr : ty.isReference = true) : am_Snd K mid pc := by
  intro p l e R s m args below meth c Q z0 ls st h pc' ls' st' h' hs C hz hR N H locs lsA hW hS hL
  rw [hi] at hs
  obtain ⟨⟨x, r1⟩, h1, h2⟩ := Option.bind_eq_some_iff.mp (show (am_pq st).bind _ = _ from hs)
  obtain ⟨⟨a, r⟩, h3, h4⟩ := Option.bind_eq_some_iff.mp h2
  obtain ⟨h9, h5, h6⟩ := Option.bind_eq_some_iff.mp h4
  cases h6
  obtain rfl := am_pq_spec h1
  have h7 := am_pr_spec h3
  dsimp only at h7
  subst h7
  obtain ⟨fs, f1, f2, rfl⟩ := am_wr_spec h5
  obtain ⟨w1, w2, w3, w4⟩ := am_W_at hW f1 (fun q => by cases q)
  refine va_putF (ci := ci) (ty := ty) C.1 C.2.1 C.2.2.2.2.1 hin tyf htys hnm C.2.2.2.1 C.2.2.2.2.2.1 hW.2.2.1 (am_ws_D K h) hS (a - kB K) w1 hc k hk (C.2.2.2.2.1 _ hlk) (fun x hx => by rw [← hrf]; exact hx) hfin (C.2.2.2.2.2.2.2.2.2.1 hini) hdecl hty (by cases ty <;> cases x <;> first | rfl | cases htr) (by cases ty <;> cases x <;> first | rfl | cases htr) f2 hd (fun H1 locs1 hP1 hD1 hS1 => ?_)
  refine am_Wsz (fun hz1 => ?_)
  have hb := C.2.2.2.2.2.2.2.2.2.2
  exact N H1 locs1 lsA (am_W_up (e := .inr (ci, _)) hW w2 w3 trivial hP1 hS1 ⟨hb, hz.2⟩ (by omega) (am_X_kept hW hb hS hS1)) hS1 hL
end SN
