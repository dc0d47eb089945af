theorem i90_0 : am_ins 90 0 = (33, 0, 1, 0, []) := by decide +kernel
theorem d90_0 : decode (am_cod 90) 0 = .ok (.aload_n 0, 1) := by decide +kernel
theorem s90_0 (K : aK) : am_Snd K 90 0 := sn_aload_n i90_0 d90_0 rfl
theorem i90_1 : am_ins 90 1 = (18, 7, 11, 0, []) := by decide +kernel
theorem d90_1 : decode (am_cod 90) 1 = .ok (.getfield 41, 3) := by decide +kernel
theorem s90_1 (K : aK) : am_Snd K 90 1 := sn_get (C0 := CN7) (T := FT7) (Nf := 24) i90_1 d90_1 rfl (by decide +kernel) fin7 w_520 rfl
theorem i90_4 : am_ins 90 4 = (0, 3, 0, 200, []) := by decide +kernel
theorem d90_4 : decode (am_cod 90) 4 = .ok (.sipush 200, 3) := by decide +kernel
theorem s90_4 (K : aK) : am_Snd K 90 4 := sn_const3 i90_4 d90_4 (by decide +kernel)
theorem i90_7 : am_ins 90 7 = (1, 1, 1, 0, []) := by decide +kernel
theorem d90_7 : decode (am_cod 90) 7 = .ok (.iload_n 1, 1) := by decide +kernel
theorem s90_7 (K : aK) : am_Snd K 90 7 := sn_iload_n i90_7 d90_7 rfl
theorem i90_8 : am_ins 90 8 = (4, 2, 0, 0, []) := by decide +kernel
theorem d90_8 : decode (am_cod 90) 8 = .ok (.imul, 1) := by decide +kernel
theorem s90_8 (K : aK) : am_Snd K 90 8 := sn_mul i90_8 d90_8 
theorem i90_9 : am_ins 90 9 = (1, 2, 1, 0, []) := by decide +kernel
theorem d90_9 : decode (am_cod 90) 9 = .ok (.iload_n 2, 1) := by decide +kernel
theorem s90_9 (K : aK) : am_Snd K 90 9 := sn_iload_n i90_9 d90_9 rfl
theorem i90_10 : am_ins 90 10 = (4, 0, 0, 0, []) := by decide +kernel
theorem d90_10 : decode (am_cod 90) 10 = .ok (.iadd, 1) := by decide +kernel
theorem s90_10 (K : aK) : am_Snd K 90 10 := sn_add i90_10 d90_10 
theorem i90_11 : am_ins 90 11 = (0, 1, 0, 2, []) := by decide +kernel
theorem d90_11 : decode (am_cod 90) 11 = .ok (.iconst 2, 1) := by decide +kernel
theorem s90_11 (K : aK) : am_Snd K 90 11 := sn_const1 i90_11 d90_11 rfl
theorem i90_12 : am_ins 90 12 = (23, 0, 0, 0, []) := by decide +kernel
theorem d90_12 : decode (am_cod 90) 12 = .ok (.iastore, 1) := by decide +kernel
theorem s90_12 (K : aK) : am_Snd K 90 12 := sn_iast i90_12 d90_12 
theorem i90_13 : am_ins 90 13 = (33, 0, 1, 0, []) := by decide +kernel
theorem d90_13 : decode (am_cod 90) 13 = .ok (.aload_n 0, 1) := by decide +kernel
theorem s90_13 (K : aK) : am_Snd K 90 13 := sn_aload_n i90_13 d90_13 rfl
theorem i90_14 : am_ins 90 14 = (18, 7, 12, 0, []) := by decide +kernel
theorem d90_14 : decode (am_cod 90) 14 = .ok (.getfield 44, 3) := by decide +kernel
theorem s90_14 (K : aK) : am_Snd K 90 14 := sn_get (C0 := CN7) (T := FT7) (Nf := 24) i90_14 d90_14 rfl (by decide +kernel) fin7 w_521 rfl
theorem i90_17 : am_ins 90 17 = (0, 3, 0, 200, []) := by decide +kernel
theorem d90_17 : decode (am_cod 90) 17 = .ok (.sipush 200, 3) := by decide +kernel
theorem s90_17 (K : aK) : am_Snd K 90 17 := sn_const3 i90_17 d90_17 (by decide +kernel)
theorem i90_20 : am_ins 90 20 = (1, 1, 1, 0, []) := by decide +kernel
theorem d90_20 : decode (am_cod 90) 20 = .ok (.iload_n 1, 1) := by decide +kernel
theorem s90_20 (K : aK) : am_Snd K 90 20 := sn_iload_n i90_20 d90_20 rfl
theorem i90_21 : am_ins 90 21 = (4, 2, 0, 0, []) := by decide +kernel
theorem d90_21 : decode (am_cod 90) 21 = .ok (.imul, 1) := by decide +kernel
theorem s90_21 (K : aK) : am_Snd K 90 21 := sn_mul i90_21 d90_21 
theorem i90_22 : am_ins 90 22 = (1, 2, 1, 0, []) := by decide +kernel
theorem d90_22 : decode (am_cod 90) 22 = .ok (.iload_n 2, 1) := by decide +kernel
theorem s90_22 (K : aK) : am_Snd K 90 22 := sn_iload_n i90_22 d90_22 rfl
theorem i90_23 : am_ins 90 23 = (4, 0, 0, 0, []) := by decide +kernel
theorem d90_23 : decode (am_cod 90) 23 = .ok (.iadd, 1) := by decide +kernel
theorem s90_23 (K : aK) : am_Snd K 90 23 := sn_add i90_23 d90_23 
theorem i90_24 : am_ins 90 24 = (1, 3, 1, 0, []) := by decide +kernel
theorem d90_24 : decode (am_cod 90) 24 = .ok (.iload_n 3, 1) := by decide +kernel
theorem s90_24 (K : aK) : am_Snd K 90 24 := sn_iload_n i90_24 d90_24 rfl
theorem i90_25 : am_ins 90 25 = (23, 0, 0, 0, []) := by decide +kernel
theorem d90_25 : decode (am_cod 90) 25 = .ok (.iastore, 1) := by decide +kernel
theorem s90_25 (K : aK) : am_Snd K 90 25 := sn_iast i90_25 d90_25 
theorem i90_26 : am_ins 90 26 = (33, 0, 1, 0, []) := by decide +kernel
theorem d90_26 : decode (am_cod 90) 26 = .ok (.aload_n 0, 1) := by decide +kernel
theorem s90_26 (K : aK) : am_Snd K 90 26 := sn_aload_n i90_26 d90_26 rfl
theorem i90_27 : am_ins 90 27 = (18, 7, 10, 0, []) := by decide +kernel
theorem d90_27 : decode (am_cod 90) 27 = .ok (.getfield 38, 3) := by decide +kernel
theorem s90_27 (K : aK) : am_Snd K 90 27 := sn_get (C0 := CN7) (T := FT7) (Nf := 24) i90_27 d90_27 rfl (by decide +kernel) fin7 w_519 rfl
theorem i90_30 : am_ins 90 30 = (1, 1, 1, 0, []) := by decide +kernel
theorem d90_30 : decode (am_cod 90) 30 = .ok (.iload_n 1, 1) := by decide +kernel
theorem s90_30 (K : aK) : am_Snd K 90 30 := sn_iload_n i90_30 d90_30 rfl
theorem i90_31 : am_ins 90 31 = (33, 0, 1, 0, []) := by decide +kernel
theorem d90_31 : decode (am_cod 90) 31 = .ok (.aload_n 0, 1) := by decide +kernel
theorem s90_31 (K : aK) : am_Snd K 90 31 := sn_aload_n i90_31 d90_31 rfl
theorem i90_32 : am_ins 90 32 = (18, 7, 10, 0, []) := by decide +kernel
theorem d90_32 : decode (am_cod 90) 32 = .ok (.getfield 38, 3) := by decide +kernel
theorem s90_32 (K : aK) : am_Snd K 90 32 := sn_get (C0 := CN7) (T := FT7) (Nf := 24) i90_32 d90_32 rfl (by decide +kernel) fin7 w_519 rfl
theorem i90_35 : am_ins 90 35 = (1, 1, 1, 0, []) := by decide +kernel
theorem d90_35 : decode (am_cod 90) 35 = .ok (.iload_n 1, 1) := by decide +kernel
theorem s90_35 (K : aK) : am_Snd K 90 35 := sn_iload_n i90_35 d90_35 rfl
theorem i90_36 : am_ins 90 36 = (22, 0, 0, 0, []) := by decide +kernel
theorem d90_36 : decode (am_cod 90) 36 = .ok (.iaload, 1) := by decide +kernel
theorem s90_36 (K : aK) : am_Snd K 90 36 := sn_iald i90_36 d90_36 
theorem i90_37 : am_ins 90 37 = (1, 3, 1, 0, []) := by decide +kernel
theorem d90_37 : decode (am_cod 90) 37 = .ok (.iload_n 3, 1) := by decide +kernel
theorem s90_37 (K : aK) : am_Snd K 90 37 := sn_iload_n i90_37 d90_37 rfl
theorem i90_38 : am_ins 90 38 = (36, 0, 0, 0, []) := by decide +kernel
theorem d90_38 : decode (am_cod 90) 38 = .ok (.invokestatic 117, 3) := by decide +kernel
theorem s90_38 (K : aK) : am_Snd K 90 38 := sn_max i90_38 d90_38 w_594 w_184 w_7 w_185
theorem i90_41 : am_ins 90 41 = (23, 0, 0, 0, []) := by decide +kernel
theorem d90_41 : decode (am_cod 90) 41 = .ok (.iastore, 1) := by decide +kernel
theorem s90_41 (K : aK) : am_Snd K 90 41 := sn_iast i90_41 d90_41 
theorem i90_42 : am_ins 90 42 = (33, 0, 1, 0, []) := by decide +kernel
theorem d90_42 : decode (am_cod 90) 42 = .ok (.aload_n 0, 1) := by decide +kernel
theorem s90_42 (K : aK) : am_Snd K 90 42 := sn_aload_n i90_42 d90_42 rfl
theorem i90_43 : am_ins 90 43 = (1, 1, 1, 0, []) := by decide +kernel
theorem d90_43 : decode (am_cod 90) 43 = .ok (.iload_n 1, 1) := by decide +kernel
theorem s90_43 (K : aK) : am_Snd K 90 43 := sn_iload_n i90_43 d90_43 rfl
theorem i90_44 : am_ins 90 44 = (60, 92, 1, 0, []) := by decide +kernel
theorem d90_44 : decode (am_cod 90) 44 = .ok (.invokevirtual 128, 3) := by decide +kernel
theorem s90_44 (K : aK) : am_SndC K 90 44 := sc_V i90_44 d90_44 co92 w_665 w_667 ws_25 w_6 rfl (rr := (CN7, FT7, 24)) rfl rfl hd92
theorem i90_47 : am_ins 90 47 = (53, 0, 0, 0, []) := by decide +kernel
theorem d90_47 : decode (am_cod 90) 47 = .ok (.return_, 1) := by decide +kernel
theorem s90_47 : am_SndR 90 47 := sn_vret i90_47 d90_47 rfl
theorem al90_0 (K : aK) : ∀ q ∈ [0, 1, 4, 7, 8, 9, 10, 11, 12, 13, 14, 17, 20, 21, 22, 23, 24, 25, 26, 27, 30, 31, 32, 35, 36, 37, 38, 41, 42, 43], am_All K 90 q := List.forall_mem_cons.mpr ⟨am_alS i90_0 (s90_0 K), List.forall_mem_cons.mpr ⟨am_alS i90_1 (s90_1 K), List.forall_mem_cons.mpr ⟨am_alS i90_4 (s90_4 K), List.forall_mem_cons.mpr ⟨am_alS i90_7 (s90_7 K), List.forall_mem_cons.mpr ⟨am_alS i90_8 (s90_8 K), List.forall_mem_cons.mpr ⟨am_alS i90_9 (s90_9 K), List.forall_mem_cons.mpr ⟨am_alS i90_10 (s90_10 K), List.forall_mem_cons.mpr ⟨am_alS i90_11 (s90_11 K), List.forall_mem_cons.mpr ⟨am_alS i90_12 (s90_12 K), List.forall_mem_cons.mpr ⟨am_alS i90_13 (s90_13 K), List.forall_mem_cons.mpr ⟨am_alS i90_14 (s90_14 K), List.forall_mem_cons.mpr ⟨am_alS i90_17 (s90_17 K), List.forall_mem_cons.mpr ⟨am_alS i90_20 (s90_20 K), List.forall_mem_cons.mpr ⟨am_alS i90_21 (s90_21 K), List.forall_mem_cons.mpr ⟨am_alS i90_22 (s90_22 K), List.forall_mem_cons.mpr ⟨am_alS i90_23 (s90_23 K), List.forall_mem_cons.mpr ⟨am_alS i90_24 (s90_24 K), List.forall_mem_cons.mpr ⟨am_alS i90_25 (s90_25 K), List.forall_mem_cons.mpr ⟨am_alS i90_26 (s90_26 K), List.forall_mem_cons.mpr ⟨am_alS i90_27 (s90_27 K), List.forall_mem_cons.mpr ⟨am_alS i90_30 (s90_30 K), List.forall_mem_cons.mpr ⟨am_alS i90_31 (s90_31 K), List.forall_mem_cons.mpr ⟨am_alS i90_32 (s90_32 K), List.forall_mem_cons.mpr ⟨am_alS i90_35 (s90_35 K), List.forall_mem_cons.mpr ⟨am_alS i90_36 (s90_36 K), List.forall_mem_cons.mpr ⟨am_alS i90_37 (s90_37 K), List.forall_mem_cons.mpr ⟨am_alS i90_38 (s90_38 K), List.forall_mem_cons.mpr ⟨am_alS i90_41 (s90_41 K), List.forall_mem_cons.mpr ⟨am_alS i90_42 (s90_42 K), List.forall_mem_cons.mpr ⟨am_alS i90_43 (s90_43 K), fun _ h => absurd h List.not_mem_nil⟩⟩⟩⟩⟩⟩⟩⟩⟩⟩⟩⟩⟩⟩⟩⟩⟩⟩⟩⟩⟩⟩⟩⟩⟩⟩⟩⟩⟩⟩
theorem al90_1 (K : aK) : ∀ q ∈ [44, 47], am_All K 90 q := List.forall_mem_cons.mpr ⟨am_alC i90_44 (s90_44 K), List.forall_mem_cons.mpr ⟨am_alR i90_47 s90_47, fun _ h => absurd h List.not_mem_nil⟩⟩
set_option maxRecDepth 100000 in
theorem al90 (K : aK) : ∀ q ∈ (am_t90).map (fun z => z.1), am_All K 90 q := by
  have e : (am_t90).map (fun z => z.1) = [0, 1, 4, 7, 8, 9, 10, 11, 12, 13, 14, 17, 20, 21, 22, 23, 24, 25, 26, 27, 30, 31, 32, 35, 36, 37, 38, 41, 42, 43] ++ ([44, 47]) := rfl
  rw [e]
  exact List.forall_mem_append.mpr ⟨al90_0 K, al90_1 K⟩
theorem i91_0 : am_ins 91 0 = (0, 1, 0, (-1), []) := by decide +kernel
theorem d91_0 : decode (am_cod 91) 0 = .ok (.iconst (-1), 1) := by decide +kernel
theorem s91_0 (K : aK) : am_Snd K 91 0 := sn_const1 i91_0 d91_0 rfl
theorem i91_1 : am_ins 91 1 = (2, 3, 1, 0, []) := by decide +kernel
theorem d91_1 : decode (am_cod 91) 1 = .ok (.istore_n 3, 1) := by decide +kernel
theorem s91_1 (K : aK) : am_Snd K 91 1 := sn_istore_n i91_1 d91_1 rfl (by decide +kernel)
theorem i91_2 : am_ins 91 2 = (0, 1, 0, 0, []) := by decide +kernel
theorem d91_2 : decode (am_cod 91) 2 = .ok (.iconst 0, 1) := by decide +kernel
theorem s91_2 (K : aK) : am_Snd K 91 2 := sn_const1 i91_2 d91_2 rfl
theorem i91_3 : am_ins 91 3 = (2, 4, 2, 0, []) := by decide +kernel
theorem d91_3 : decode (am_cod 91) 3 = .ok (.istore 4, 2) := by decide +kernel
theorem s91_3 (K : aK) : am_Snd K 91 3 := sn_istore i91_3 d91_3 (by decide +kernel)
theorem i91_5 : am_ins 91 5 = (1, 4, 2, 0, []) := by decide +kernel
theorem d91_5 : decode (am_cod 91) 5 = .ok (.iload 4, 2) := by decide +kernel
theorem s91_5 (K : aK) : am_Snd K 91 5 := sn_iload i91_5 d91_5 
theorem i91_7 : am_ins 91 7 = (33, 0, 1, 0, []) := by decide +kernel
theorem d91_7 : decode (am_cod 91) 7 = .ok (.aload_n 0, 1) := by decide +kernel
theorem s91_7 (K : aK) : am_Snd K 91 7 := sn_aload_n i91_7 d91_7 rfl
theorem i91_8 : am_ins 91 8 = (18, 7, 0, 0, []) := by decide +kernel
theorem d91_8 : decode (am_cod 91) 8 = .ok (.getfield 132, 3) := by decide +kernel
theorem s91_8 (K : aK) : am_Snd K 91 8 := sn_get (C0 := CN7) (T := FT7) (Nf := 24) i91_8 d91_8 rfl (by decide +kernel) fin7 w_509 rfl
theorem i91_11 : am_ins 91 11 = (13, 3, 73, 0, []) := by decide +kernel
theorem d91_11 : decode (am_cod 91) 11 = .ok (.if_icmp .ge 62, 3) := by decide +kernel
theorem s91_11 (K : aK) : am_Snd K 91 11 := sn_icmp_ge i91_11 d91_11 rfl
theorem i91_14 : am_ins 91 14 = (33, 0, 1, 0, []) := by decide +kernel
theorem d91_14 : decode (am_cod 91) 14 = .ok (.aload_n 0, 1) := by decide +kernel
theorem s91_14 (K : aK) : am_Snd K 91 14 := sn_aload_n i91_14 d91_14 rfl
theorem i91_15 : am_ins 91 15 = (18, 7, 11, 0, []) := by decide +kernel
theorem d91_15 : decode (am_cod 91) 15 = .ok (.getfield 41, 3) := by decide +kernel
theorem s91_15 (K : aK) : am_Snd K 91 15 := sn_get (C0 := CN7) (T := FT7) (Nf := 24) i91_15 d91_15 rfl (by decide +kernel) fin7 w_520 rfl
theorem i91_18 : am_ins 91 18 = (0, 3, 0, 200, []) := by decide +kernel
theorem d91_18 : decode (am_cod 91) 18 = .ok (.sipush 200, 3) := by decide +kernel
theorem s91_18 (K : aK) : am_Snd K 91 18 := sn_const3 i91_18 d91_18 (by decide +kernel)
theorem i91_21 : am_ins 91 21 = (1, 1, 1, 0, []) := by decide +kernel
theorem d91_21 : decode (am_cod 91) 21 = .ok (.iload_n 1, 1) := by decide +kernel
theorem s91_21 (K : aK) : am_Snd K 91 21 := sn_iload_n i91_21 d91_21 rfl
theorem i91_22 : am_ins 91 22 = (4, 2, 0, 0, []) := by decide +kernel
theorem d91_22 : decode (am_cod 91) 22 = .ok (.imul, 1) := by decide +kernel
theorem s91_22 (K : aK) : am_Snd K 91 22 := sn_mul i91_22 d91_22 
theorem i91_23 : am_ins 91 23 = (1, 4, 2, 0, []) := by decide +kernel
theorem d91_23 : decode (am_cod 91) 23 = .ok (.iload 4, 2) := by decide +kernel
theorem s91_23 (K : aK) : am_Snd K 91 23 := sn_iload i91_23 d91_23 
theorem i91_25 : am_ins 91 25 = (4, 0, 0, 0, []) := by decide +kernel
theorem d91_25 : decode (am_cod 91) 25 = .ok (.iadd, 1) := by decide +kernel
theorem s91_25 (K : aK) : am_Snd K 91 25 := sn_add i91_25 d91_25 
theorem i91_26 : am_ins 91 26 = (22, 0, 0, 0, []) := by decide +kernel
theorem d91_26 : decode (am_cod 91) 26 = .ok (.iaload, 1) := by decide +kernel
theorem s91_26 (K : aK) : am_Snd K 91 26 := sn_iald i91_26 d91_26 
theorem i91_27 : am_ins 91 27 = (1, 2, 1, 0, []) := by decide +kernel
theorem d91_27 : decode (am_cod 91) 27 = .ok (.iload_n 2, 1) := by decide +kernel
theorem s91_27 (K : aK) : am_Snd K 91 27 := sn_iload_n i91_27 d91_27 rfl
theorem i91_28 : am_ins 91 28 = (13, 1, 67, 0, []) := by decide +kernel
theorem d91_28 : decode (am_cod 91) 28 = .ok (.if_icmp .ne 39, 3) := by decide +kernel
theorem s91_28 (K : aK) : am_Snd K 91 28 := sn_icmp_ne i91_28 d91_28 rfl
theorem i91_31 : am_ins 91 31 = (1, 3, 1, 0, []) := by decide +kernel
theorem d91_31 : decode (am_cod 91) 31 = .ok (.iload_n 3, 1) := by decide +kernel
theorem s91_31 (K : aK) : am_Snd K 91 31 := sn_iload_n i91_31 d91_31 rfl
theorem i91_32 : am_ins 91 32 = (0, 1, 0, (-1), []) := by decide +kernel
theorem d91_32 : decode (am_cod 91) 32 = .ok (.iconst (-1), 1) := by decide +kernel
theorem s91_32 (K : aK) : am_Snd K 91 32 := sn_const1 i91_32 d91_32 rfl
theorem i91_33 : am_ins 91 33 = (13, 0, 64, 0, []) := by decide +kernel
theorem d91_33 : decode (am_cod 91) 33 = .ok (.if_icmp .eq 31, 3) := by decide +kernel
theorem s91_33 (K : aK) : am_Snd K 91 33 := sn_icmp_eq i91_33 d91_33 rfl
theorem i91_36 : am_ins 91 36 = (33, 0, 1, 0, []) := by decide +kernel
theorem d91_36 : decode (am_cod 91) 36 = .ok (.aload_n 0, 1) := by decide +kernel
theorem s91_36 (K : aK) : am_Snd K 91 36 := sn_aload_n i91_36 d91_36 rfl
theorem i91_37 : am_ins 91 37 = (18, 7, 12, 0, []) := by decide +kernel
theorem d91_37 : decode (am_cod 91) 37 = .ok (.getfield 44, 3) := by decide +kernel
theorem s91_37 (K : aK) : am_Snd K 91 37 := sn_get (C0 := CN7) (T := FT7) (Nf := 24) i91_37 d91_37 rfl (by decide +kernel) fin7 w_521 rfl
theorem i91_40 : am_ins 91 40 = (0, 3, 0, 200, []) := by decide +kernel
theorem d91_40 : decode (am_cod 91) 40 = .ok (.sipush 200, 3) := by decide +kernel
theorem s91_40 (K : aK) : am_Snd K 91 40 := sn_const3 i91_40 d91_40 (by decide +kernel)
theorem i91_43 : am_ins 91 43 = (1, 1, 1, 0, []) := by decide +kernel
theorem d91_43 : decode (am_cod 91) 43 = .ok (.iload_n 1, 1) := by decide +kernel
theorem s91_43 (K : aK) : am_Snd K 91 43 := sn_iload_n i91_43 d91_43 rfl
theorem i91_44 : am_ins 91 44 = (4, 2, 0, 0, []) := by decide +kernel
theorem d91_44 : decode (am_cod 91) 44 = .ok (.imul, 1) := by decide +kernel
theorem s91_44 (K : aK) : am_Snd K 91 44 := sn_mul i91_44 d91_44 
theorem i91_45 : am_ins 91 45 = (1, 4, 2, 0, []) := by decide +kernel
theorem d91_45 : decode (am_cod 91) 45 = .ok (.iload 4, 2) := by decide +kernel
theorem s91_45 (K : aK) : am_Snd K 91 45 := sn_iload i91_45 d91_45 
theorem i91_47 : am_ins 91 47 = (4, 0, 0, 0, []) := by decide +kernel
theorem d91_47 : decode (am_cod 91) 47 = .ok (.iadd, 1) := by decide +kernel
theorem s91_47 (K : aK) : am_Snd K 91 47 := sn_add i91_47 d91_47 
theorem i91_48 : am_ins 91 48 = (22, 0, 0, 0, []) := by decide +kernel
theorem d91_48 : decode (am_cod 91) 48 = .ok (.iaload, 1) := by decide +kernel
theorem s91_48 (K : aK) : am_Snd K 91 48 := sn_iald i91_48 d91_48 
theorem i91_49 : am_ins 91 49 = (33, 0, 1, 0, []) := by decide +kernel
theorem d91_49 : decode (am_cod 91) 49 = .ok (.aload_n 0, 1) := by decide +kernel
theorem s91_49 (K : aK) : am_Snd K 91 49 := sn_aload_n i91_49 d91_49 rfl
theorem i91_50 : am_ins 91 50 = (18, 7, 12, 0, []) := by decide +kernel
theorem d91_50 : decode (am_cod 91) 50 = .ok (.getfield 44, 3) := by decide +kernel
theorem s91_50 (K : aK) : am_Snd K 91 50 := sn_get (C0 := CN7) (T := FT7) (Nf := 24) i91_50 d91_50 rfl (by decide +kernel) fin7 w_521 rfl
theorem i91_53 : am_ins 91 53 = (0, 3, 0, 200, []) := by decide +kernel
theorem d91_53 : decode (am_cod 91) 53 = .ok (.sipush 200, 3) := by decide +kernel
theorem s91_53 (K : aK) : am_Snd K 91 53 := sn_const3 i91_53 d91_53 (by decide +kernel)
theorem i91_56 : am_ins 91 56 = (1, 1, 1, 0, []) := by decide +kernel
theorem d91_56 : decode (am_cod 91) 56 = .ok (.iload_n 1, 1) := by decide +kernel
theorem s91_56 (K : aK) : am_Snd K 91 56 := sn_iload_n i91_56 d91_56 rfl
theorem i91_57 : am_ins 91 57 = (4, 2, 0, 0, []) := by decide +kernel
theorem d91_57 : decode (am_cod 91) 57 = .ok (.imul, 1) := by decide +kernel
theorem s91_57 (K : aK) : am_Snd K 91 57 := sn_mul i91_57 d91_57 
theorem i91_58 : am_ins 91 58 = (1, 3, 1, 0, []) := by decide +kernel
theorem d91_58 : decode (am_cod 91) 58 = .ok (.iload_n 3, 1) := by decide +kernel
theorem s91_58 (K : aK) : am_Snd K 91 58 := sn_iload_n i91_58 d91_58 rfl
theorem i91_59 : am_ins 91 59 = (4, 0, 0, 0, []) := by decide +kernel
theorem d91_59 : decode (am_cod 91) 59 = .ok (.iadd, 1) := by decide +kernel
theorem s91_59 (K : aK) : am_Snd K 91 59 := sn_add i91_59 d91_59 
theorem i91_60 : am_ins 91 60 = (22, 0, 0, 0, []) := by decide +kernel
theorem d91_60 : decode (am_cod 91) 60 = .ok (.iaload, 1) := by decide +kernel
theorem s91_60 (K : aK) : am_Snd K 91 60 := sn_iald i91_60 d91_60 
theorem i91_61 : am_ins 91 61 = (13, 3, 67, 0, []) := by decide +kernel
theorem d91_61 : decode (am_cod 91) 61 = .ok (.if_icmp .ge 6, 3) := by decide +kernel
theorem s91_61 (K : aK) : am_Snd K 91 61 := sn_icmp_ge i91_61 d91_61 rfl
theorem i91_64 : am_ins 91 64 = (1, 4, 2, 0, []) := by decide +kernel
theorem d91_64 : decode (am_cod 91) 64 = .ok (.iload 4, 2) := by decide +kernel
theorem s91_64 (K : aK) : am_Snd K 91 64 := sn_iload i91_64 d91_64 
theorem i91_66 : am_ins 91 66 = (2, 3, 1, 0, []) := by decide +kernel
theorem d91_66 : decode (am_cod 91) 66 = .ok (.istore_n 3, 1) := by decide +kernel
theorem s91_66 (K : aK) : am_Snd K 91 66 := sn_istore_n i91_66 d91_66 rfl (by decide +kernel)
theorem i91_67 : am_ins 91 67 = (3, 4, 3, 1, []) := by decide +kernel
theorem d91_67 : decode (am_cod 91) 67 = .ok (.iinc 4 1, 3) := by decide +kernel
theorem s91_67 (K : aK) : am_Snd K 91 67 := sn_iinc i91_67 d91_67 rfl (by decide +kernel)
theorem i91_70 : am_ins 91 70 = (14, 5, 0, 0, []) := by decide +kernel
theorem d91_70 : decode (am_cod 91) 70 = .ok (.goto (-65), 3) := by decide +kernel
theorem s91_70 (K : aK) : am_Snd K 91 70 := sn_goto i91_70 d91_70 rfl
theorem i91_73 : am_ins 91 73 = (1, 3, 1, 0, []) := by decide +kernel
theorem d91_73 : decode (am_cod 91) 73 = .ok (.iload_n 3, 1) := by decide +kernel
theorem s91_73 (K : aK) : am_Snd K 91 73 := sn_iload_n i91_73 d91_73 rfl
theorem i91_74 : am_ins 91 74 = (50, 0, 0, 0, []) := by decide +kernel
theorem d91_74 : decode (am_cod 91) 74 = .ok (.ireturn, 1) := by decide +kernel
theorem s91_74 : am_SndR 91 74 := sn_iret i91_74 d91_74 rfl
theorem al91_0 (K : aK) : ∀ q ∈ [0, 1, 2, 3, 5, 7, 8, 11, 14, 15, 18, 21, 22, 23, 25, 26, 27, 28, 31, 32, 33, 36, 37, 40, 43, 44, 45, 47, 48, 49], am_All K 91 q := List.forall_mem_cons.mpr ⟨am_alS i91_0 (s91_0 K), List.forall_mem_cons.mpr ⟨am_alS i91_1 (s91_1 K), List.forall_mem_cons.mpr ⟨am_alS i91_2 (s91_2 K), List.forall_mem_cons.mpr ⟨am_alS i91_3 (s91_3 K), List.forall_mem_cons.mpr ⟨am_alS i91_5 (s91_5 K), List.forall_mem_cons.mpr ⟨am_alS i91_7 (s91_7 K), List.forall_mem_cons.mpr ⟨am_alS i91_8 (s91_8 K), List.forall_mem_cons.mpr ⟨am_alS i91_11 (s91_11 K), List.forall_mem_cons.mpr ⟨am_alS i91_14 (s91_14 K), List.forall_mem_cons.mpr ⟨am_alS i91_15 (s91_15 K), List.forall_mem_cons.mpr ⟨am_alS i91_18 (s91_18 K), List.forall_mem_cons.mpr ⟨am_alS i91_21 (s91_21 K), List.forall_mem_cons.mpr ⟨am_alS i91_22 (s91_22 K), List.forall_mem_cons.mpr ⟨am_alS i91_23 (s91_23 K), List.forall_mem_cons.mpr ⟨am_alS i91_25 (s91_25 K), List.forall_mem_cons.mpr ⟨am_alS i91_26 (s91_26 K), List.forall_mem_cons.mpr ⟨am_alS i91_27 (s91_27 K), List.forall_mem_cons.mpr ⟨am_alS i91_28 (s91_28 K), List.forall_mem_cons.mpr ⟨am_alS i91_31 (s91_31 K), List.forall_mem_cons.mpr ⟨am_alS i91_32 (s91_32 K), List.forall_mem_cons.mpr ⟨am_alS i91_33 (s91_33 K), List.forall_mem_cons.mpr ⟨am_alS i91_36 (s91_36 K), List.forall_mem_cons.mpr ⟨am_alS i91_37 (s91_37 K), List.forall_mem_cons.mpr ⟨am_alS i91_40 (s91_40 K), List.forall_mem_cons.mpr ⟨am_alS i91_43 (s91_43 K), List.forall_mem_cons.mpr ⟨am_alS i91_44 (s91_44 K), List.forall_mem_cons.mpr ⟨am_alS i91_45 (s91_45 K), List.forall_mem_cons.mpr ⟨am_alS i91_47 (s91_47 K), List.forall_mem_cons.mpr ⟨am_alS i91_48 (s91_48 K), List.forall_mem_cons.mpr ⟨am_alS i91_49 (s91_49 K), fun _ h => absurd h List.not_mem_nil⟩⟩⟩⟩⟩⟩⟩⟩⟩⟩⟩⟩⟩⟩⟩⟩⟩⟩⟩⟩⟩⟩⟩⟩⟩⟩⟩⟩⟩⟩
theorem al91_1 (K : aK) : ∀ q ∈ [50, 53, 56, 57, 58, 59, 60, 61, 64, 66, 67, 70, 73, 74], am_All K 91 q := List.forall_mem_cons.mpr ⟨am_alS i91_50 (s91_50 K), List.forall_mem_cons.mpr ⟨am_alS i91_53 (s91_53 K), List.forall_mem_cons.mpr ⟨am_alS i91_56 (s91_56 K), List.forall_mem_cons.mpr ⟨am_alS i91_57 (s91_57 K), List.forall_mem_cons.mpr ⟨am_alS i91_58 (s91_58 K), List.forall_mem_cons.mpr ⟨am_alS i91_59 (s91_59 K), List.forall_mem_cons.mpr ⟨am_alS i91_60 (s91_60 K), List.forall_mem_cons.mpr ⟨am_alS i91_61 (s91_61 K), List.forall_mem_cons.mpr ⟨am_alS i91_64 (s91_64 K), List.forall_mem_cons.mpr ⟨am_alS i91_66 (s91_66 K), List.forall_mem_cons.mpr ⟨am_alS i91_67 (s91_67 K), List.forall_mem_cons.mpr ⟨am_alS i91_70 (s91_70 K), List.forall_mem_cons.mpr ⟨am_alS i91_73 (s91_73 K), List.forall_mem_cons.mpr ⟨am_alR i91_74 s91_74, fun _ h => absurd h List.not_mem_nil⟩⟩⟩⟩⟩⟩⟩⟩⟩⟩⟩⟩⟩⟩
set_option maxRecDepth 100000 in
theorem al91 (K : aK) : ∀ q ∈ (am_t91).map (fun z => z.1), am_All K 91 q := by
  have e : (am_t91).map (fun z => z.1) = [0, 1, 2, 3, 5, 7, 8, 11, 14, 15, 18, 21, 22, 23, 25, 26, 27, 28, 31, 32, 33, 36, 37, 40, 43, 44, 45, 47, 48, 49] ++ ([50, 53, 56, 57, 58, 59, 60, 61, 64, 66, 67, 70, 73, 74]) := rfl
  rw [e]
  exact List.forall_mem_append.mpr ⟨al91_0 K, al91_1 K⟩
theorem i92_0 : am_ins 92 0 = (33, 0, 1, 0, []) := by decide +kernel
theorem d92_0 : decode (am_cod 92) 0 = .ok (.aload_n 0, 1) := by decide +kernel
theorem s92_0 (K : aK) : am_Snd K 92 0 := sn_aload_n i92_0 d92_0 rfl
theorem i92_1 : am_ins 92 1 = (1, 1, 1, 0, []) := by decide +kernel
theorem d92_1 : decode (am_cod 92) 1 = .ok (.iload_n 1, 1) := by decide +kernel
theorem s92_1 (K : aK) : am_Snd K 92 1 := sn_iload_n i92_1 d92_1 rfl
theorem i92_2 : am_ins 92 2 = (0, 1, 0, 1, []) := by decide +kernel
theorem d92_2 : decode (am_cod 92) 2 = .ok (.iconst 1, 1) := by decide +kernel
theorem s92_2 (K : aK) : am_Snd K 92 2 := sn_const1 i92_2 d92_2 rfl
theorem i92_3 : am_ins 92 3 = (60, 91, 2, 0, []) := by decide +kernel
theorem d92_3 : decode (am_cod 92) 3 = .ok (.invokevirtual 135, 3) := by decide +kernel
theorem s92_3 (K : aK) : am_SndC K 92 3 := sc_V i92_3 d92_3 co91 w_669 w_671 ws_26 w_6 rfl (rr := (CN7, FT7, 24)) rfl rfl hd91
theorem i92_6 : am_ins 92 6 = (2, 2, 1, 0, []) := by decide +kernel
theorem d92_6 : decode (am_cod 92) 6 = .ok (.istore_n 2, 1) := by decide +kernel
theorem s92_6 (K : aK) : am_Snd K 92 6 := sn_istore_n i92_6 d92_6 rfl (by decide +kernel)
theorem i92_7 : am_ins 92 7 = (33, 0, 1, 0, []) := by decide +kernel
theorem d92_7 : decode (am_cod 92) 7 = .ok (.aload_n 0, 1) := by decide +kernel
theorem s92_7 (K : aK) : am_Snd K 92 7 := sn_aload_n i92_7 d92_7 rfl
theorem i92_8 : am_ins 92 8 = (1, 1, 1, 0, []) := by decide +kernel
theorem d92_8 : decode (am_cod 92) 8 = .ok (.iload_n 1, 1) := by decide +kernel
theorem s92_8 (K : aK) : am_Snd K 92 8 := sn_iload_n i92_8 d92_8 rfl
theorem i92_9 : am_ins 92 9 = (0, 1, 0, 2, []) := by decide +kernel
theorem d92_9 : decode (am_cod 92) 9 = .ok (.iconst 2, 1) := by decide +kernel
theorem s92_9 (K : aK) : am_Snd K 92 9 := sn_const1 i92_9 d92_9 rfl
theorem i92_10 : am_ins 92 10 = (60, 91, 2, 0, []) := by decide +kernel
theorem d92_10 : decode (am_cod 92) 10 = .ok (.invokevirtual 135, 3) := by decide +kernel
theorem s92_10 (K : aK) : am_SndC K 92 10 := sc_V i92_10 d92_10 co91 w_669 w_671 ws_26 w_6 rfl (rr := (CN7, FT7, 24)) rfl rfl hd91
theorem i92_13 : am_ins 92 13 = (2, 3, 1, 0, []) := by decide +kernel
theorem d92_13 : decode (am_cod 92) 13 = .ok (.istore_n 3, 1) := by decide +kernel
theorem s92_13 (K : aK) : am_Snd K 92 13 := sn_istore_n i92_13 d92_13 rfl (by decide +kernel)
theorem i92_14 : am_ins 92 14 = (1, 3, 1, 0, []) := by decide +kernel
theorem d92_14 : decode (am_cod 92) 14 = .ok (.iload_n 3, 1) := by decide +kernel
theorem s92_14 (K : aK) : am_Snd K 92 14 := sn_iload_n i92_14 d92_14 rfl
theorem i92_15 : am_ins 92 15 = (0, 1, 0, (-1), []) := by decide +kernel
theorem d92_15 : decode (am_cod 92) 15 = .ok (.iconst (-1), 1) := by decide +kernel
theorem s92_15 (K : aK) : am_Snd K 92 15 := sn_const1 i92_15 d92_15 rfl
theorem i92_16 : am_ins 92 16 = (13, 0, 116, 0, []) := by decide +kernel
theorem d92_16 : decode (am_cod 92) 16 = .ok (.if_icmp .eq 100, 3) := by decide +kernel
theorem s92_16 (K : aK) : am_Snd K 92 16 := sn_icmp_eq i92_16 d92_16 rfl
theorem i92_19 : am_ins 92 19 = (1, 2, 1, 0, []) := by decide +kernel
theorem d92_19 : decode (am_cod 92) 19 = .ok (.iload_n 2, 1) := by decide +kernel
theorem s92_19 (K : aK) : am_Snd K 92 19 := sn_iload_n i92_19 d92_19 rfl
theorem i92_20 : am_ins 92 20 = (0, 1, 0, (-1), []) := by decide +kernel
theorem d92_20 : decode (am_cod 92) 20 = .ok (.iconst (-1), 1) := by decide +kernel
theorem s92_20 (K : aK) : am_Snd K 92 20 := sn_const1 i92_20 d92_20 rfl
theorem i92_21 : am_ins 92 21 = (13, 0, 51, 0, []) := by decide +kernel
theorem d92_21 : decode (am_cod 92) 21 = .ok (.if_icmp .eq 30, 3) := by decide +kernel
theorem s92_21 (K : aK) : am_Snd K 92 21 := sn_icmp_eq i92_21 d92_21 rfl
theorem i92_24 : am_ins 92 24 = (33, 0, 1, 0, []) := by decide +kernel
theorem d92_24 : decode (am_cod 92) 24 = .ok (.aload_n 0, 1) := by decide +kernel
theorem s92_24 (K : aK) : am_Snd K 92 24 := sn_aload_n i92_24 d92_24 rfl
theorem i92_25 : am_ins 92 25 = (18, 7, 12, 0, []) := by decide +kernel
theorem d92_25 : decode (am_cod 92) 25 = .ok (.getfield 44, 3) := by decide +kernel
theorem s92_25 (K : aK) : am_Snd K 92 25 := sn_get (C0 := CN7) (T := FT7) (Nf := 24) i92_25 d92_25 rfl (by decide +kernel) fin7 w_521 rfl
theorem i92_28 : am_ins 92 28 = (0, 3, 0, 200, []) := by decide +kernel
theorem d92_28 : decode (am_cod 92) 28 = .ok (.sipush 200, 3) := by decide +kernel
theorem s92_28 (K : aK) : am_Snd K 92 28 := sn_const3 i92_28 d92_28 (by decide +kernel)
theorem i92_31 : am_ins 92 31 = (1, 1, 1, 0, []) := by decide +kernel
theorem d92_31 : decode (am_cod 92) 31 = .ok (.iload_n 1, 1) := by decide +kernel
theorem s92_31 (K : aK) : am_Snd K 92 31 := sn_iload_n i92_31 d92_31 rfl
theorem i92_32 : am_ins 92 32 = (4, 2, 0, 0, []) := by decide +kernel
theorem d92_32 : decode (am_cod 92) 32 = .ok (.imul, 1) := by decide +kernel
theorem s92_32 (K : aK) : am_Snd K 92 32 := sn_mul i92_32 d92_32 
theorem i92_33 : am_ins 92 33 = (1, 3, 1, 0, []) := by decide +kernel
theorem d92_33 : decode (am_cod 92) 33 = .ok (.iload_n 3, 1) := by decide +kernel
theorem s92_33 (K : aK) : am_Snd K 92 33 := sn_iload_n i92_33 d92_33 rfl
theorem i92_34 : am_ins 92 34 = (4, 0, 0, 0, []) := by decide +kernel
theorem d92_34 : decode (am_cod 92) 34 = .ok (.iadd, 1) := by decide +kernel
theorem s92_34 (K : aK) : am_Snd K 92 34 := sn_add i92_34 d92_34 
theorem i92_35 : am_ins 92 35 = (22, 0, 0, 0, []) := by decide +kernel
theorem d92_35 : decode (am_cod 92) 35 = .ok (.iaload, 1) := by decide +kernel
theorem s92_35 (K : aK) : am_Snd K 92 35 := sn_iald i92_35 d92_35 
theorem i92_36 : am_ins 92 36 = (33, 0, 1, 0, []) := by decide +kernel
theorem d92_36 : decode (am_cod 92) 36 = .ok (.aload_n 0, 1) := by decide +kernel
theorem s92_36 (K : aK) : am_Snd K 92 36 := sn_aload_n i92_36 d92_36 rfl
theorem i92_37 : am_ins 92 37 = (18, 7, 12, 0, []) := by decide +kernel
theorem d92_37 : decode (am_cod 92) 37 = .ok (.getfield 44, 3) := by decide +kernel
theorem s92_37 (K : aK) : am_Snd K 92 37 := sn_get (C0 := CN7) (T := FT7) (Nf := 24) i92_37 d92_37 rfl (by decide +kernel) fin7 w_521 rfl
theorem i92_40 : am_ins 92 40 = (0, 3, 0, 200, []) := by decide +kernel
theorem d92_40 : decode (am_cod 92) 40 = .ok (.sipush 200, 3) := by decide +kernel
theorem s92_40 (K : aK) : am_Snd K 92 40 := sn_const3 i92_40 d92_40 (by decide +kernel)
theorem i92_43 : am_ins 92 43 = (1, 1, 1, 0, []) := by decide +kernel
theorem d92_43 : decode (am_cod 92) 43 = .ok (.iload_n 1, 1) := by decide +kernel
theorem s92_43 (K : aK) : am_Snd K 92 43 := sn_iload_n i92_43 d92_43 rfl
theorem i92_44 : am_ins 92 44 = (4, 2, 0, 0, []) := by decide +kernel
theorem d92_44 : decode (am_cod 92) 44 = .ok (.imul, 1) := by decide +kernel
theorem s92_44 (K : aK) : am_Snd K 92 44 := sn_mul i92_44 d92_44 
theorem i92_45 : am_ins 92 45 = (1, 2, 1, 0, []) := by decide +kernel
theorem d92_45 : decode (am_cod 92) 45 = .ok (.iload_n 2, 1) := by decide +kernel
theorem s92_45 (K : aK) : am_Snd K 92 45 := sn_iload_n i92_45 d92_45 rfl
theorem i92_46 : am_ins 92 46 = (4, 0, 0, 0, []) := by decide +kernel
theorem d92_46 : decode (am_cod 92) 46 = .ok (.iadd, 1) := by decide +kernel
theorem s92_46 (K : aK) : am_Snd K 92 46 := sn_add i92_46 d92_46 
theorem i92_47 : am_ins 92 47 = (22, 0, 0, 0, []) := by decide +kernel
theorem d92_47 : decode (am_cod 92) 47 = .ok (.iaload, 1) := by decide +kernel
theorem s92_47 (K : aK) : am_Snd K 92 47 := sn_iald i92_47 d92_47 
theorem i92_48 : am_ins 92 48 = (13, 3, 116, 0, []) := by decide +kernel
theorem d92_48 : decode (am_cod 92) 48 = .ok (.if_icmp .ge 68, 3) := by decide +kernel
theorem s92_48 (K : aK) : am_Snd K 92 48 := sn_icmp_ge i92_48 d92_48 rfl
theorem i92_51 : am_ins 92 51 = (33, 0, 1, 0, []) := by decide +kernel
theorem d92_51 : decode (am_cod 92) 51 = .ok (.aload_n 0, 1) := by decide +kernel
theorem s92_51 (K : aK) : am_Snd K 92 51 := sn_aload_n i92_51 d92_51 rfl
theorem i92_52 : am_ins 92 52 = (18, 7, 11, 0, []) := by decide +kernel
theorem d92_52 : decode (am_cod 92) 52 = .ok (.getfield 41, 3) := by decide +kernel
theorem s92_52 (K : aK) : am_Snd K 92 52 := sn_get (C0 := CN7) (T := FT7) (Nf := 24) i92_52 d92_52 rfl (by decide +kernel) fin7 w_520 rfl
theorem i92_55 : am_ins 92 55 = (0, 3, 0, 200, []) := by decide +kernel
theorem d92_55 : decode (am_cod 92) 55 = .ok (.sipush 200, 3) := by decide +kernel
theorem s92_55 (K : aK) : am_Snd K 92 55 := sn_const3 i92_55 d92_55 (by decide +kernel)
theorem i92_58 : am_ins 92 58 = (1, 1, 1, 0, []) := by decide +kernel
theorem d92_58 : decode (am_cod 92) 58 = .ok (.iload_n 1, 1) := by decide +kernel
theorem s92_58 (K : aK) : am_Snd K 92 58 := sn_iload_n i92_58 d92_58 rfl
theorem i92_59 : am_ins 92 59 = (4, 2, 0, 0, []) := by decide +kernel
theorem d92_59 : decode (am_cod 92) 59 = .ok (.imul, 1) := by decide +kernel
theorem s92_59 (K : aK) : am_Snd K 92 59 := sn_mul i92_59 d92_59 
theorem i92_60 : am_ins 92 60 = (1, 3, 1, 0, []) := by decide +kernel
theorem d92_60 : decode (am_cod 92) 60 = .ok (.iload_n 3, 1) := by decide +kernel
theorem s92_60 (K : aK) : am_Snd K 92 60 := sn_iload_n i92_60 d92_60 rfl
theorem i92_61 : am_ins 92 61 = (4, 0, 0, 0, []) := by decide +kernel
theorem d92_61 : decode (am_cod 92) 61 = .ok (.iadd, 1) := by decide +kernel
theorem s92_61 (K : aK) : am_Snd K 92 61 := sn_add i92_61 d92_61 
theorem i92_62 : am_ins 92 62 = (0, 1, 0, 3, []) := by decide +kernel
theorem d92_62 : decode (am_cod 92) 62 = .ok (.iconst 3, 1) := by decide +kernel
theorem s92_62 (K : aK) : am_Snd K 92 62 := sn_const1 i92_62 d92_62 rfl
theorem i92_63 : am_ins 92 63 = (23, 0, 0, 0, []) := by decide +kernel
theorem d92_63 : decode (am_cod 92) 63 = .ok (.iastore, 1) := by decide +kernel
theorem s92_63 (K : aK) : am_Snd K 92 63 := sn_iast i92_63 d92_63 
theorem i92_64 : am_ins 92 64 = (0, 1, 0, 0, []) := by decide +kernel
theorem d92_64 : decode (am_cod 92) 64 = .ok (.iconst 0, 1) := by decide +kernel
theorem s92_64 (K : aK) : am_Snd K 92 64 := sn_const1 i92_64 d92_64 rfl
theorem i92_65 : am_ins 92 65 = (2, 4, 2, 0, []) := by decide +kernel
theorem d92_65 : decode (am_cod 92) 65 = .ok (.istore 4, 2) := by decide +kernel
theorem s92_65 (K : aK) : am_Snd K 92 65 := sn_istore i92_65 d92_65 (by decide +kernel)
theorem i92_67 : am_ins 92 67 = (1, 4, 2, 0, []) := by decide +kernel
theorem d92_67 : decode (am_cod 92) 67 = .ok (.iload 4, 2) := by decide +kernel
theorem s92_67 (K : aK) : am_Snd K 92 67 := sn_iload i92_67 d92_67 
theorem i92_69 : am_ins 92 69 = (0, 1, 0, 3, []) := by decide +kernel
theorem d92_69 : decode (am_cod 92) 69 = .ok (.iconst 3, 1) := by decide +kernel
theorem s92_69 (K : aK) : am_Snd K 92 69 := sn_const1 i92_69 d92_69 rfl
theorem i92_70 : am_ins 92 70 = (13, 3, 106, 0, []) := by decide +kernel
theorem d92_70 : decode (am_cod 92) 70 = .ok (.if_icmp .ge 36, 3) := by decide +kernel
theorem s92_70 (K : aK) : am_Snd K 92 70 := sn_icmp_ge i92_70 d92_70 rfl
theorem i92_73 : am_ins 92 73 = (1, 4, 2, 0, []) := by decide +kernel
theorem d92_73 : decode (am_cod 92) 73 = .ok (.iload 4, 2) := by decide +kernel
theorem s92_73 (K : aK) : am_Snd K 92 73 := sn_iload i92_73 d92_73 
theorem i92_75 : am_ins 92 75 = (1, 1, 1, 0, []) := by decide +kernel
theorem d92_75 : decode (am_cod 92) 75 = .ok (.iload_n 1, 1) := by decide +kernel
theorem s92_75 (K : aK) : am_Snd K 92 75 := sn_iload_n i92_75 d92_75 rfl
theorem i92_76 : am_ins 92 76 = (61, 75, 1, 0, []) := by decide +kernel
theorem d92_76 : decode (am_cod 92) 76 = .ok (.invokestatic 81, 3) := by decide +kernel
theorem s92_76 (K : aK) : am_SndC K 92 76 := sc_S i92_76 d92_76 co75 w_673 w_674 w_6 hd75
theorem i92_79 : am_ins 92 79 = (13, 0, 100, 0, []) := by decide +kernel
theorem d92_79 : decode (am_cod 92) 79 = .ok (.if_icmp .eq 21, 3) := by decide +kernel
theorem s92_79 (K : aK) : am_Snd K 92 79 := sn_icmp_eq i92_79 d92_79 rfl
theorem i92_82 : am_ins 92 82 = (33, 0, 1, 0, []) := by decide +kernel
theorem d92_82 : decode (am_cod 92) 82 = .ok (.aload_n 0, 1) := by decide +kernel
theorem s92_82 (K : aK) : am_Snd K 92 82 := sn_aload_n i92_82 d92_82 rfl
theorem i92_83 : am_ins 92 83 = (1, 1, 1, 0, []) := by decide +kernel
theorem d92_83 : decode (am_cod 92) 83 = .ok (.iload_n 1, 1) := by decide +kernel
theorem s92_83 (K : aK) : am_Snd K 92 83 := sn_iload_n i92_83 d92_83 rfl
theorem i92_84 : am_ins 92 84 = (0, 1, 0, 2, []) := by decide +kernel
theorem d92_84 : decode (am_cod 92) 84 = .ok (.iconst 2, 1) := by decide +kernel
theorem s92_84 (K : aK) : am_Snd K 92 84 := sn_const1 i92_84 d92_84 rfl
theorem i92_85 : am_ins 92 85 = (1, 4, 2, 0, []) := by decide +kernel
theorem d92_85 : decode (am_cod 92) 85 = .ok (.iload 4, 2) := by decide +kernel
theorem s92_85 (K : aK) : am_Snd K 92 85 := sn_iload i92_85 d92_85 
theorem i92_87 : am_ins 92 87 = (4, 2, 0, 0, []) := by decide +kernel
theorem d92_87 : decode (am_cod 92) 87 = .ok (.imul, 1) := by decide +kernel
theorem s92_87 (K : aK) : am_Snd K 92 87 := sn_mul i92_87 d92_87 
theorem i92_88 : am_ins 92 88 = (1, 1, 1, 0, []) := by decide +kernel
theorem d92_88 : decode (am_cod 92) 88 = .ok (.iload_n 1, 1) := by decide +kernel
theorem s92_88 (K : aK) : am_Snd K 92 88 := sn_iload_n i92_88 d92_88 rfl
theorem i92_89 : am_ins 92 89 = (0, 1, 0, 2, []) := by decide +kernel
theorem d92_89 : decode (am_cod 92) 89 = .ok (.iconst 2, 1) := by decide +kernel
theorem s92_89 (K : aK) : am_Snd K 92 89 := sn_const1 i92_89 d92_89 rfl
theorem i92_90 : am_ins 92 90 = (6, 0, 0, 0, []) := by decide +kernel
theorem d92_90 : decode (am_cod 92) 90 = .ok (.irem, 1) := by decide +kernel
theorem s92_90 (K : aK) : am_Snd K 92 90 := sn_rem i92_90 d92_90 
theorem i92_91 : am_ins 92 91 = (4, 0, 0, 0, []) := by decide +kernel
theorem d92_91 : decode (am_cod 92) 91 = .ok (.iadd, 1) := by decide +kernel
theorem s92_91 (K : aK) : am_Snd K 92 91 := sn_add i92_91 d92_91 
theorem i92_92 : am_ins 92 92 = (0, 1, 0, 4, []) := by decide +kernel
theorem d92_92 : decode (am_cod 92) 92 = .ok (.iconst 4, 1) := by decide +kernel
theorem s92_92 (K : aK) : am_Snd K 92 92 := sn_const1 i92_92 d92_92 rfl
theorem i92_93 : am_ins 92 93 = (1, 3, 1, 0, []) := by decide +kernel
theorem d92_93 : decode (am_cod 92) 93 = .ok (.iload_n 3, 1) := by decide +kernel
theorem s92_93 (K : aK) : am_Snd K 92 93 := sn_iload_n i92_93 d92_93 rfl
theorem i92_94 : am_ins 92 94 = (0, 1, 0, 0, []) := by decide +kernel
theorem d92_94 : decode (am_cod 92) 94 = .ok (.iconst 0, 1) := by decide +kernel
theorem s92_94 (K : aK) : am_Snd K 92 94 := sn_const1 i92_94 d92_94 rfl
theorem i92_95 : am_ins 92 95 = (0, 1, 0, 0, []) := by decide +kernel
theorem d92_95 : decode (am_cod 92) 95 = .ok (.iconst 0, 1) := by decide +kernel
theorem s92_95 (K : aK) : am_Snd K 92 95 := sn_const1 i92_95 d92_95 rfl
theorem i92_96 : am_ins 92 96 = (0, 1, 0, 0, []) := by decide +kernel
theorem d92_96 : decode (am_cod 92) 96 = .ok (.iconst 0, 1) := by decide +kernel
theorem s92_96 (K : aK) : am_Snd K 92 96 := sn_const1 i92_96 d92_96 rfl
theorem i92_97 : am_ins 92 97 = (60, 85, 7, 0, []) := by decide +kernel
theorem d92_97 : decode (am_cod 92) 97 = .ok (.invokevirtual 122, 3) := by decide +kernel
theorem s92_97 (K : aK) : am_SndC K 92 97 := sc_V i92_97 d92_97 co85 w_645 w_647 ws_20 w_6 rfl (rr := (CN7, FT7, 24)) rfl rfl hd85
theorem i92_100 : am_ins 92 100 = (3, 4, 3, 1, []) := by decide +kernel
theorem d92_100 : decode (am_cod 92) 100 = .ok (.iinc 4 1, 3) := by decide +kernel
theorem s92_100 (K : aK) : am_Snd K 92 100 := sn_iinc i92_100 d92_100 rfl (by decide +kernel)
theorem i92_103 : am_ins 92 103 = (14, 67, 0, 0, []) := by decide +kernel
theorem d92_103 : decode (am_cod 92) 103 = .ok (.goto (-36), 3) := by decide +kernel
theorem s92_103 (K : aK) : am_Snd K 92 103 := sn_goto i92_103 d92_103 rfl
theorem i92_106 : am_ins 92 106 = (33, 0, 1, 0, []) := by decide +kernel
theorem d92_106 : decode (am_cod 92) 106 = .ok (.aload_n 0, 1) := by decide +kernel
theorem s92_106 (K : aK) : am_Snd K 92 106 := sn_aload_n i92_106 d92_106 rfl
theorem i92_107 : am_ins 92 107 = (1, 1, 1, 0, []) := by decide +kernel
theorem d92_107 : decode (am_cod 92) 107 = .ok (.iload_n 1, 1) := by decide +kernel
theorem s92_107 (K : aK) : am_Snd K 92 107 := sn_iload_n i92_107 d92_107 rfl
theorem i92_108 : am_ins 92 108 = (0, 1, 0, 2, []) := by decide +kernel
theorem d92_108 : decode (am_cod 92) 108 = .ok (.iconst 2, 1) := by decide +kernel
theorem s92_108 (K : aK) : am_Snd K 92 108 := sn_const1 i92_108 d92_108 rfl
theorem i92_109 : am_ins 92 109 = (60, 91, 2, 0, []) := by decide +kernel
theorem d92_109 : decode (am_cod 92) 109 = .ok (.invokevirtual 135, 3) := by decide +kernel
theorem s92_109 (K : aK) : am_SndC K 92 109 := sc_V i92_109 d92_109 co91 w_669 w_671 ws_26 w_6 rfl (rr := (CN7, FT7, 24)) rfl rfl hd91
theorem i92_112 : am_ins 92 112 = (2, 3, 1, 0, []) := by decide +kernel
theorem d92_112 : decode (am_cod 92) 112 = .ok (.istore_n 3, 1) := by decide +kernel
theorem s92_112 (K : aK) : am_Snd K 92 112 := sn_istore_n i92_112 d92_112 rfl (by decide +kernel)
theorem i92_113 : am_ins 92 113 = (14, 14, 0, 0, []) := by decide +kernel
theorem d92_113 : decode (am_cod 92) 113 = .ok (.goto (-99), 3) := by decide +kernel
theorem s92_113 (K : aK) : am_Snd K 92 113 := sn_goto i92_113 d92_113 rfl
theorem i92_116 : am_ins 92 116 = (53, 0, 0, 0, []) := by decide +kernel
theorem d92_116 : decode (am_cod 92) 116 = .ok (.return_, 1) := by decide +kernel
theorem s92_116 : am_SndR 92 116 := sn_vret i92_116 d92_116 rfl
theorem al92_0 (K : aK) : ∀ q ∈ [0, 1, 2, 3, 6, 7, 8, 9, 10, 13, 14, 15, 16, 19, 20, 21, 24, 25, 28, 31, 32, 33, 34, 35, 36, 37, 40, 43, 44, 45], am_All K 92 q := List.forall_mem_cons.mpr ⟨am_alS i92_0 (s92_0 K), List.forall_mem_cons.mpr ⟨am_alS i92_1 (s92_1 K), List.forall_mem_cons.mpr ⟨am_alS i92_2 (s92_2 K), List.forall_mem_cons.mpr ⟨am_alC i92_3 (s92_3 K), List.forall_mem_cons.mpr ⟨am_alS i92_6 (s92_6 K), List.forall_mem_cons.mpr ⟨am_alS i92_7 (s92_7 K), List.forall_mem_cons.mpr ⟨am_alS i92_8 (s92_8 K), List.forall_mem_cons.mpr ⟨am_alS i92_9 (s92_9 K), List.forall_mem_cons.mpr ⟨am_alC i92_10 (s92_10 K), List.forall_mem_cons.mpr ⟨am_alS i92_13 (s92_13 K), List.forall_mem_cons.mpr ⟨am_alS i92_14 (s92_14 K), List.forall_mem_cons.mpr ⟨am_alS i92_15 (s92_15 K), List.forall_mem_cons.mpr ⟨am_alS i92_16 (s92_16 K), List.forall_mem_cons.mpr ⟨am_alS i92_19 (s92_19 K), List.forall_mem_cons.mpr ⟨am_alS i92_20 (s92_20 K), List.forall_mem_cons.mpr ⟨am_alS i92_21 (s92_21 K), List.forall_mem_cons.mpr ⟨am_alS i92_24 (s92_24 K), List.forall_mem_cons.mpr ⟨am_alS i92_25 (s92_25 K), List.forall_mem_cons.mpr ⟨am_alS i92_28 (s92_28 K), List.forall_mem_cons.mpr ⟨am_alS i92_31 (s92_31 K), List.forall_mem_cons.mpr ⟨am_alS i92_32 (s92_32 K), List.forall_mem_cons.mpr ⟨am_alS i92_33 (s92_33 K), List.forall_mem_cons.mpr ⟨am_alS i92_34 (s92_34 K), List.forall_mem_cons.mpr ⟨am_alS i92_35 (s92_35 K), List.forall_mem_cons.mpr ⟨am_alS i92_36 (s92_36 K), List.forall_mem_cons.mpr ⟨am_alS i92_37 (s92_37 K), List.forall_mem_cons.mpr ⟨am_alS i92_40 (s92_40 K), List.forall_mem_cons.mpr ⟨am_alS i92_43 (s92_43 K), List.forall_mem_cons.mpr ⟨am_alS i92_44 (s92_44 K), List.forall_mem_cons.mpr ⟨am_alS i92_45 (s92_45 K), fun _ h => absurd h List.not_mem_nil⟩⟩⟩⟩⟩⟩⟩⟩⟩⟩⟩⟩⟩⟩⟩⟩⟩⟩⟩⟩⟩⟩⟩⟩⟩⟩⟩⟩⟩⟩
theorem al92_1 (K : aK) : ∀ q ∈ [46, 47, 48, 51, 52, 55, 58, 59, 60, 61, 62, 63, 64, 65, 67, 69, 70, 73, 75, 76, 79, 82, 83, 84, 85, 87, 88, 89, 90, 91], am_All K 92 q := List.forall_mem_cons.mpr ⟨am_alS i92_46 (s92_46 K), List.forall_mem_cons.mpr ⟨am_alS i92_47 (s92_47 K), List.forall_mem_cons.mpr ⟨am_alS i92_48 (s92_48 K), List.forall_mem_cons.mpr ⟨am_alS i92_51 (s92_51 K), List.forall_mem_cons.mpr ⟨am_alS i92_52 (s92_52 K), List.forall_mem_cons.mpr ⟨am_alS i92_55 (s92_55 K), List.forall_mem_cons.mpr ⟨am_alS i92_58 (s92_58 K), List.forall_mem_cons.mpr ⟨am_alS i92_59 (s92_59 K), List.forall_mem_cons.mpr ⟨am_alS i92_60 (s92_60 K), List.forall_mem_cons.mpr ⟨am_alS i92_61 (s92_61 K), List.forall_mem_cons.mpr ⟨am_alS i92_62 (s92_62 K), List.forall_mem_cons.mpr ⟨am_alS i92_63 (s92_63 K), List.forall_mem_cons.mpr ⟨am_alS i92_64 (s92_64 K), List.forall_mem_cons.mpr ⟨am_alS i92_65 (s92_65 K), List.forall_mem_cons.mpr ⟨am_alS i92_67 (s92_67 K), List.forall_mem_cons.mpr ⟨am_alS i92_69 (s92_69 K), List.forall_mem_cons.mpr ⟨am_alS i92_70 (s92_70 K), List.forall_mem_cons.mpr ⟨am_alS i92_73 (s92_73 K), List.forall_mem_cons.mpr ⟨am_alS i92_75 (s92_75 K), List.forall_mem_cons.mpr ⟨am_alC i92_76 (s92_76 K), List.forall_mem_cons.mpr ⟨am_alS i92_79 (s92_79 K), List.forall_mem_cons.mpr ⟨am_alS i92_82 (s92_82 K), List.forall_mem_cons.mpr ⟨am_alS i92_83 (s92_83 K), List.forall_mem_cons.mpr ⟨am_alS i92_84 (s92_84 K), List.forall_mem_cons.mpr ⟨am_alS i92_85 (s92_85 K), List.forall_mem_cons.mpr ⟨am_alS i92_87 (s92_87 K), List.forall_mem_cons.mpr ⟨am_alS i92_88 (s92_88 K), List.forall_mem_cons.mpr ⟨am_alS i92_89 (s92_89 K), List.forall_mem_cons.mpr ⟨am_alS i92_90 (s92_90 K), List.forall_mem_cons.mpr ⟨am_alS i92_91 (s92_91 K), fun _ h => absurd h List.not_mem_nil⟩⟩⟩⟩⟩⟩⟩⟩⟩⟩⟩⟩⟩⟩⟩⟩⟩⟩⟩⟩⟩⟩⟩⟩⟩⟩⟩⟩⟩⟩
theorem al92_2 (K : aK) : ∀ q ∈ [92, 93, 94, 95, 96, 97, 100, 103, 106, 107, 108, 109, 112, 113, 116], am_All K 92 q := List.forall_mem_cons.mpr ⟨am_alS i92_92 (s92_92 K), List.forall_mem_cons.mpr ⟨am_alS i92_93 (s92_93 K), List.forall_mem_cons.mpr ⟨am_alS i92_94 (s92_94 K), List.forall_mem_cons.mpr ⟨am_alS i92_95 (s92_95 K), List.forall_mem_cons.mpr ⟨am_alS i92_96 (s92_96 K), List.forall_mem_cons.mpr ⟨am_alC i92_97 (s92_97 K), List.forall_mem_cons.mpr ⟨am_alS i92_100 (s92_100 K), List.forall_mem_cons.mpr ⟨am_alS i92_103 (s92_103 K), List.forall_mem_cons.mpr ⟨am_alS i92_106 (s92_106 K), List.forall_mem_cons.mpr ⟨am_alS i92_107 (s92_107 K), List.forall_mem_cons.mpr ⟨am_alS i92_108 (s92_108 K), List.forall_mem_cons.mpr ⟨am_alC i92_109 (s92_109 K), List.forall_mem_cons.mpr ⟨am_alS i92_112 (s92_112 K), List.forall_mem_cons.mpr ⟨am_alS i92_113 (s92_113 K), List.forall_mem_cons.mpr ⟨am_alR i92_116 s92_116, fun _ h => absurd h List.not_mem_nil⟩⟩⟩⟩⟩⟩⟩⟩⟩⟩⟩⟩⟩⟩⟩
set_option maxRecDepth 100000 in
theorem al92 (K : aK) : ∀ q ∈ (am_t92).map (fun z => z.1), am_All K 92 q := by
  have e : (am_t92).map (fun z => z.1) = [0, 1, 2, 3, 6, 7, 8, 9, 10, 13, 14, 15, 16, 19, 20, 21, 24, 25, 28, 31, 32, 33, 34, 35, 36, 37, 40, 43, 44, 45] ++ ([46, 47, 48, 51, 52, 55, 58, 59, 60, 61, 62, 63, 64, 65, 67, 69, 70, 73, 75, 76, 79, 82, 83, 84, 85, 87, 88, 89, 90, 91] ++ ([92, 93, 94, 95, 96, 97, 100, 103, 106, 107, 108, 109, 112, 113, 116])) := rfl
  rw [e]
  exact List.forall_mem_append.mpr ⟨al92_0 K, List.forall_mem_append.mpr ⟨al92_1 K, al92_2 K⟩⟩
theorem i93_0 : am_ins 93 0 = (33, 0, 1, 0, []) := by decide +kernel
theorem d93_0 : decode (am_cod 93) 0 = .ok (.aload_n 0, 1) := by decide +kernel
theorem s93_0 (K : aK) : am_Snd K 93 0 := sn_aload_n i93_0 d93_0 rfl
theorem i93_1 : am_ins 93 1 = (18, 7, 13, 0, []) := by decide +kernel
theorem d93_1 : decode (am_cod 93) 1 = .ok (.getfield 47, 3) := by decide +kernel
theorem s93_1 (K : aK) : am_Snd K 93 1 := sn_get (C0 := CN7) (T := FT7) (Nf := 24) i93_1 d93_1 rfl (by decide +kernel) fin7 w_522 rfl
theorem i93_4 : am_ins 93 4 = (0, 1, 0, 3, []) := by decide +kernel
theorem d93_4 : decode (am_cod 93) 4 = .ok (.iconst 3, 1) := by decide +kernel
theorem s93_4 (K : aK) : am_Snd K 93 4 := sn_const1 i93_4 d93_4 rfl
theorem i93_5 : am_ins 93 5 = (1, 1, 1, 0, []) := by decide +kernel
theorem d93_5 : decode (am_cod 93) 5 = .ok (.iload_n 1, 1) := by decide +kernel
theorem s93_5 (K : aK) : am_Snd K 93 5 := sn_iload_n i93_5 d93_5 rfl
theorem i93_6 : am_ins 93 6 = (4, 2, 0, 0, []) := by decide +kernel
theorem d93_6 : decode (am_cod 93) 6 = .ok (.imul, 1) := by decide +kernel
theorem s93_6 (K : aK) : am_Snd K 93 6 := sn_mul i93_6 d93_6 
theorem i93_7 : am_ins 93 7 = (1, 2, 1, 0, []) := by decide +kernel
theorem d93_7 : decode (am_cod 93) 7 = .ok (.iload_n 2, 1) := by decide +kernel
theorem s93_7 (K : aK) : am_Snd K 93 7 := sn_iload_n i93_7 d93_7 rfl
theorem i93_8 : am_ins 93 8 = (4, 0, 0, 0, []) := by decide +kernel
theorem d93_8 : decode (am_cod 93) 8 = .ok (.iadd, 1) := by decide +kernel
theorem s93_8 (K : aK) : am_Snd K 93 8 := sn_add i93_8 d93_8 
theorem i93_9 : am_ins 93 9 = (22, 0, 0, 0, []) := by decide +kernel
theorem d93_9 : decode (am_cod 93) 9 = .ok (.iaload, 1) := by decide +kernel
theorem s93_9 (K : aK) : am_Snd K 93 9 := sn_iald i93_9 d93_9 
theorem i93_10 : am_ins 93 10 = (33, 0, 1, 0, []) := by decide +kernel
theorem d93_10 : decode (am_cod 93) 10 = .ok (.aload_n 0, 1) := by decide +kernel
theorem s93_10 (K : aK) : am_Snd K 93 10 := sn_aload_n i93_10 d93_10 rfl
theorem i93_11 : am_ins 93 11 = (18, 7, 14, 0, []) := by decide +kernel
theorem d93_11 : decode (am_cod 93) 11 = .ok (.getfield 50, 3) := by decide +kernel
theorem s93_11 (K : aK) : am_Snd K 93 11 := sn_get (C0 := CN7) (T := FT7) (Nf := 24) i93_11 d93_11 rfl (by decide +kernel) fin7 w_523 rfl
theorem i93_14 : am_ins 93 14 = (0, 1, 0, 3, []) := by decide +kernel
theorem d93_14 : decode (am_cod 93) 14 = .ok (.iconst 3, 1) := by decide +kernel
theorem s93_14 (K : aK) : am_Snd K 93 14 := sn_const1 i93_14 d93_14 rfl
theorem i93_15 : am_ins 93 15 = (1, 1, 1, 0, []) := by decide +kernel
theorem d93_15 : decode (am_cod 93) 15 = .ok (.iload_n 1, 1) := by decide +kernel
theorem s93_15 (K : aK) : am_Snd K 93 15 := sn_iload_n i93_15 d93_15 rfl
theorem i93_16 : am_ins 93 16 = (4, 2, 0, 0, []) := by decide +kernel
theorem d93_16 : decode (am_cod 93) 16 = .ok (.imul, 1) := by decide +kernel
theorem s93_16 (K : aK) : am_Snd K 93 16 := sn_mul i93_16 d93_16 
theorem i93_17 : am_ins 93 17 = (1, 2, 1, 0, []) := by decide +kernel
theorem d93_17 : decode (am_cod 93) 17 = .ok (.iload_n 2, 1) := by decide +kernel
theorem s93_17 (K : aK) : am_Snd K 93 17 := sn_iload_n i93_17 d93_17 rfl
theorem i93_18 : am_ins 93 18 = (4, 0, 0, 0, []) := by decide +kernel
theorem d93_18 : decode (am_cod 93) 18 = .ok (.iadd, 1) := by decide +kernel
theorem s93_18 (K : aK) : am_Snd K 93 18 := sn_add i93_18 d93_18 
theorem i93_19 : am_ins 93 19 = (22, 0, 0, 0, []) := by decide +kernel
theorem d93_19 : decode (am_cod 93) 19 = .ok (.iaload, 1) := by decide +kernel
theorem s93_19 (K : aK) : am_Snd K 93 19 := sn_iald i93_19 d93_19 
theorem i93_20 : am_ins 93 20 = (37, 0, 0, 0, []) := by decide +kernel
theorem d93_20 : decode (am_cod 93) 20 = .ok (.invokestatic 138, 3) := by decide +kernel
theorem s93_20 (K : aK) : am_Snd K 93 20 := sn_min i93_20 d93_20 w_593 w_181 w_7 w_182
theorem i93_23 : am_ins 93 23 = (50, 0, 0, 0, []) := by decide +kernel
theorem d93_23 : decode (am_cod 93) 23 = .ok (.ireturn, 1) := by decide +kernel
theorem s93_23 : am_SndR 93 23 := sn_iret i93_23 d93_23 rfl
theorem al93_0 (K : aK) : ∀ q ∈ [0, 1, 4, 5, 6, 7, 8, 9, 10, 11, 14, 15, 16, 17, 18, 19, 20, 23], am_All K 93 q := List.forall_mem_cons.mpr ⟨am_alS i93_0 (s93_0 K), List.forall_mem_cons.mpr ⟨am_alS i93_1 (s93_1 K), List.forall_mem_cons.mpr ⟨am_alS i93_4 (s93_4 K), List.forall_mem_cons.mpr ⟨am_alS i93_5 (s93_5 K), List.forall_mem_cons.mpr ⟨am_alS i93_6 (s93_6 K), List.forall_mem_cons.mpr ⟨am_alS i93_7 (s93_7 K), List.forall_mem_cons.mpr ⟨am_alS i93_8 (s93_8 K), List.forall_mem_cons.mpr ⟨am_alS i93_9 (s93_9 K), List.forall_mem_cons.mpr ⟨am_alS i93_10 (s93_10 K), List.forall_mem_cons.mpr ⟨am_alS i93_11 (s93_11 K), List.forall_mem_cons.mpr ⟨am_alS i93_14 (s93_14 K), List.forall_mem_cons.mpr ⟨am_alS i93_15 (s93_15 K), List.forall_mem_cons.mpr ⟨am_alS i93_16 (s93_16 K), List.forall_mem_cons.mpr ⟨am_alS i93_17 (s93_17 K), List.forall_mem_cons.mpr ⟨am_alS i93_18 (s93_18 K), List.forall_mem_cons.mpr ⟨am_alS i93_19 (s93_19 K), List.forall_mem_cons.mpr ⟨am_alS i93_20 (s93_20 K), List.forall_mem_cons.mpr ⟨am_alR i93_23 s93_23, fun _ h => absurd h List.not_mem_nil⟩⟩⟩⟩⟩⟩⟩⟩⟩⟩⟩⟩⟩⟩⟩⟩⟩⟩
set_option maxRecDepth 100000 in
theorem al93 (K : aK) : ∀ q ∈ (am_t93).map (fun z => z.1), am_All K 93 q := by
  have e : (am_t93).map (fun z => z.1) = [0, 1, 4, 5, 6, 7, 8, 9, 10, 11, 14, 15, 16, 17, 18, 19, 20, 23] := rfl
  rw [e]
  exact al93_0 K
theorem i94_0 : am_ins 94 0 = (1, 1, 1, 0, []) := by decide +kernel
theorem d94_0 : decode (am_cod 94) 0 = .ok (.iload_n 1, 1) := by decide +kernel
theorem s94_0 (K : aK) : am_Snd K 94 0 := sn_iload_n i94_0 d94_0 rfl
theorem i94_1 : am_ins 94 1 = (61, 72, 1, 0, []) := by decide +kernel
theorem d94_1 : decode (am_cod 94) 1 = .ok (.invokestatic 141, 3) := by decide +kernel
theorem s94_1 (K : aK) : am_SndC K 94 1 := sc_S i94_1 d94_1 co72 w_586 w_587 w_6 hd72
theorem i94_4 : am_ins 94 4 = (12, 1, 9, 0, []) := by decide +kernel
theorem d94_4 : decode (am_cod 94) 4 = .ok (.ifCond .ne 5, 3) := by decide +kernel
theorem s94_4 (K : aK) : am_Snd K 94 4 := sn_if_ne i94_4 d94_4 rfl
theorem i94_7 : am_ins 94 7 = (0, 1, 0, (-1), []) := by decide +kernel
theorem d94_7 : decode (am_cod 94) 7 = .ok (.iconst (-1), 1) := by decide +kernel
theorem s94_7 (K : aK) : am_Snd K 94 7 := sn_const1 i94_7 d94_7 rfl
theorem i94_8 : am_ins 94 8 = (50, 0, 0, 0, []) := by decide +kernel
theorem d94_8 : decode (am_cod 94) 8 = .ok (.ireturn, 1) := by decide +kernel
theorem s94_8 : am_SndR 94 8 := sn_iret i94_8 d94_8 rfl
theorem i94_9 : am_ins 94 9 = (33, 0, 1, 0, []) := by decide +kernel
theorem d94_9 : decode (am_cod 94) 9 = .ok (.aload_n 0, 1) := by decide +kernel
theorem s94_9 (K : aK) : am_Snd K 94 9 := sn_aload_n i94_9 d94_9 rfl
theorem i94_10 : am_ins 94 10 = (18, 7, 15, 0, []) := by decide +kernel
theorem d94_10 : decode (am_cod 94) 10 = .ok (.getfield 53, 3) := by decide +kernel
theorem s94_10 (K : aK) : am_Snd K 94 10 := sn_get (C0 := CN7) (T := FT7) (Nf := 24) i94_10 d94_10 rfl (by decide +kernel) fin7 w_524 rfl
theorem i94_13 : am_ins 94 13 = (1, 1, 1, 0, []) := by decide +kernel
theorem d94_13 : decode (am_cod 94) 13 = .ok (.iload_n 1, 1) := by decide +kernel
theorem s94_13 (K : aK) : am_Snd K 94 13 := sn_iload_n i94_13 d94_13 rfl
theorem i94_14 : am_ins 94 14 = (22, 0, 0, 0, []) := by decide +kernel
theorem d94_14 : decode (am_cod 94) 14 = .ok (.iaload, 1) := by decide +kernel
theorem s94_14 (K : aK) : am_Snd K 94 14 := sn_iald i94_14 d94_14 
theorem i94_15 : am_ins 94 15 = (12, 0, 20, 0, []) := by decide +kernel
theorem d94_15 : decode (am_cod 94) 15 = .ok (.ifCond .eq 5, 3) := by decide +kernel
theorem s94_15 (K : aK) : am_Snd K 94 15 := sn_if_eq i94_15 d94_15 rfl
theorem i94_18 : am_ins 94 18 = (0, 1, 0, 0, []) := by decide +kernel
theorem d94_18 : decode (am_cod 94) 18 = .ok (.iconst 0, 1) := by decide +kernel
theorem s94_18 (K : aK) : am_Snd K 94 18 := sn_const1 i94_18 d94_18 rfl
theorem i94_19 : am_ins 94 19 = (50, 0, 0, 0, []) := by decide +kernel
theorem d94_19 : decode (am_cod 94) 19 = .ok (.ireturn, 1) := by decide +kernel
theorem s94_19 : am_SndR 94 19 := sn_iret i94_19 d94_19 rfl
theorem i94_20 : am_ins 94 20 = (33, 0, 1, 0, []) := by decide +kernel
theorem d94_20 : decode (am_cod 94) 20 = .ok (.aload_n 0, 1) := by decide +kernel
theorem s94_20 (K : aK) : am_Snd K 94 20 := sn_aload_n i94_20 d94_20 rfl
theorem i94_21 : am_ins 94 21 = (18, 7, 15, 0, []) := by decide +kernel
theorem d94_21 : decode (am_cod 94) 21 = .ok (.getfield 53, 3) := by decide +kernel
theorem s94_21 (K : aK) : am_Snd K 94 21 := sn_get (C0 := CN7) (T := FT7) (Nf := 24) i94_21 d94_21 rfl (by decide +kernel) fin7 w_524 rfl
theorem i94_24 : am_ins 94 24 = (1, 1, 1, 0, []) := by decide +kernel
theorem d94_24 : decode (am_cod 94) 24 = .ok (.iload_n 1, 1) := by decide +kernel
theorem s94_24 (K : aK) : am_Snd K 94 24 := sn_iload_n i94_24 d94_24 rfl
theorem i94_25 : am_ins 94 25 = (0, 1, 0, 1, []) := by decide +kernel
theorem d94_25 : decode (am_cod 94) 25 = .ok (.iconst 1, 1) := by decide +kernel
theorem s94_25 (K : aK) : am_Snd K 94 25 := sn_const1 i94_25 d94_25 rfl
theorem i94_26 : am_ins 94 26 = (23, 0, 0, 0, []) := by decide +kernel
theorem d94_26 : decode (am_cod 94) 26 = .ok (.iastore, 1) := by decide +kernel
theorem s94_26 (K : aK) : am_Snd K 94 26 := sn_iast i94_26 d94_26 
theorem i94_27 : am_ins 94 27 = (33, 0, 1, 0, []) := by decide +kernel
theorem d94_27 : decode (am_cod 94) 27 = .ok (.aload_n 0, 1) := by decide +kernel
theorem s94_27 (K : aK) : am_Snd K 94 27 := sn_aload_n i94_27 d94_27 rfl
theorem i94_28 : am_ins 94 28 = (18, 7, 19, 0, []) := by decide +kernel
theorem d94_28 : decode (am_cod 94) 28 = .ok (.getfield 65, 3) := by decide +kernel
theorem s94_28 (K : aK) : am_Snd K 94 28 := sn_get (C0 := CN7) (T := FT7) (Nf := 24) i94_28 d94_28 rfl (by decide +kernel) fin7 w_528 rfl
theorem i94_31 : am_ins 94 31 = (1, 1, 1, 0, []) := by decide +kernel
theorem d94_31 : decode (am_cod 94) 31 = .ok (.iload_n 1, 1) := by decide +kernel
theorem s94_31 (K : aK) : am_Snd K 94 31 := sn_iload_n i94_31 d94_31 rfl
theorem i94_32 : am_ins 94 32 = (0, 1, 0, 0, []) := by decide +kernel
theorem d94_32 : decode (am_cod 94) 32 = .ok (.iconst 0, 1) := by decide +kernel
theorem s94_32 (K : aK) : am_Snd K 94 32 := sn_const1 i94_32 d94_32 rfl
theorem i94_33 : am_ins 94 33 = (23, 0, 0, 0, []) := by decide +kernel
theorem d94_33 : decode (am_cod 94) 33 = .ok (.iastore, 1) := by decide +kernel
theorem s94_33 (K : aK) : am_Snd K 94 33 := sn_iast i94_33 d94_33 
theorem i94_34 : am_ins 94 34 = (0, 1, 0, 0, []) := by decide +kernel
theorem d94_34 : decode (am_cod 94) 34 = .ok (.iconst 0, 1) := by decide +kernel
theorem s94_34 (K : aK) : am_Snd K 94 34 := sn_const1 i94_34 d94_34 rfl
theorem i94_35 : am_ins 94 35 = (2, 2, 1, 0, []) := by decide +kernel
theorem d94_35 : decode (am_cod 94) 35 = .ok (.istore_n 2, 1) := by decide +kernel
theorem s94_35 (K : aK) : am_Snd K 94 35 := sn_istore_n i94_35 d94_35 rfl (by decide +kernel)
theorem i94_36 : am_ins 94 36 = (1, 2, 1, 0, []) := by decide +kernel
theorem d94_36 : decode (am_cod 94) 36 = .ok (.iload_n 2, 1) := by decide +kernel
theorem s94_36 (K : aK) : am_Snd K 94 36 := sn_iload_n i94_36 d94_36 rfl
theorem i94_37 : am_ins 94 37 = (0, 1, 0, 3, []) := by decide +kernel
theorem d94_37 : decode (am_cod 94) 37 = .ok (.iconst 3, 1) := by decide +kernel
theorem s94_37 (K : aK) : am_Snd K 94 37 := sn_const1 i94_37 d94_37 rfl
theorem i94_38 : am_ins 94 38 = (13, 3, 78, 0, []) := by decide +kernel
theorem d94_38 : decode (am_cod 94) 38 = .ok (.if_icmp .ge 40, 3) := by decide +kernel
theorem s94_38 (K : aK) : am_Snd K 94 38 := sn_icmp_ge i94_38 d94_38 rfl
theorem i94_41 : am_ins 94 41 = (0, 1, 0, 3, []) := by decide +kernel
theorem d94_41 : decode (am_cod 94) 41 = .ok (.iconst 3, 1) := by decide +kernel
theorem s94_41 (K : aK) : am_Snd K 94 41 := sn_const1 i94_41 d94_41 rfl
theorem i94_42 : am_ins 94 42 = (1, 1, 1, 0, []) := by decide +kernel
theorem d94_42 : decode (am_cod 94) 42 = .ok (.iload_n 1, 1) := by decide +kernel
theorem s94_42 (K : aK) : am_Snd K 94 42 := sn_iload_n i94_42 d94_42 rfl
theorem i94_43 : am_ins 94 43 = (4, 2, 0, 0, []) := by decide +kernel
theorem d94_43 : decode (am_cod 94) 43 = .ok (.imul, 1) := by decide +kernel
theorem s94_43 (K : aK) : am_Snd K 94 43 := sn_mul i94_43 d94_43 
theorem i94_44 : am_ins 94 44 = (1, 2, 1, 0, []) := by decide +kernel
theorem d94_44 : decode (am_cod 94) 44 = .ok (.iload_n 2, 1) := by decide +kernel
theorem s94_44 (K : aK) : am_Snd K 94 44 := sn_iload_n i94_44 d94_44 rfl
theorem i94_45 : am_ins 94 45 = (4, 0, 0, 0, []) := by decide +kernel
theorem d94_45 : decode (am_cod 94) 45 = .ok (.iadd, 1) := by decide +kernel
theorem s94_45 (K : aK) : am_Snd K 94 45 := sn_add i94_45 d94_45 
theorem i94_46 : am_ins 94 46 = (2, 3, 1, 0, []) := by decide +kernel
theorem d94_46 : decode (am_cod 94) 46 = .ok (.istore_n 3, 1) := by decide +kernel
theorem s94_46 (K : aK) : am_Snd K 94 46 := sn_istore_n i94_46 d94_46 rfl (by decide +kernel)
theorem i94_47 : am_ins 94 47 = (33, 0, 1, 0, []) := by decide +kernel
theorem d94_47 : decode (am_cod 94) 47 = .ok (.aload_n 0, 1) := by decide +kernel
theorem s94_47 (K : aK) : am_Snd K 94 47 := sn_aload_n i94_47 d94_47 rfl
theorem i94_48 : am_ins 94 48 = (18, 7, 17, 0, []) := by decide +kernel
theorem d94_48 : decode (am_cod 94) 48 = .ok (.getfield 59, 3) := by decide +kernel
theorem s94_48 (K : aK) : am_Snd K 94 48 := sn_get (C0 := CN7) (T := FT7) (Nf := 24) i94_48 d94_48 rfl (by decide +kernel) fin7 w_526 rfl
theorem i94_51 : am_ins 94 51 = (1, 3, 1, 0, []) := by decide +kernel
theorem d94_51 : decode (am_cod 94) 51 = .ok (.iload_n 3, 1) := by decide +kernel
theorem s94_51 (K : aK) : am_Snd K 94 51 := sn_iload_n i94_51 d94_51 rfl
theorem i94_52 : am_ins 94 52 = (33, 0, 1, 0, []) := by decide +kernel
theorem d94_52 : decode (am_cod 94) 52 = .ok (.aload_n 0, 1) := by decide +kernel
theorem s94_52 (K : aK) : am_Snd K 94 52 := sn_aload_n i94_52 d94_52 rfl
theorem i94_53 : am_ins 94 53 = (18, 7, 17, 0, []) := by decide +kernel
theorem d94_53 : decode (am_cod 94) 53 = .ok (.getfield 59, 3) := by decide +kernel
theorem s94_53 (K : aK) : am_Snd K 94 53 := sn_get (C0 := CN7) (T := FT7) (Nf := 24) i94_53 d94_53 rfl (by decide +kernel) fin7 w_526 rfl
theorem i94_56 : am_ins 94 56 = (1, 3, 1, 0, []) := by decide +kernel
theorem d94_56 : decode (am_cod 94) 56 = .ok (.iload_n 3, 1) := by decide +kernel
theorem s94_56 (K : aK) : am_Snd K 94 56 := sn_iload_n i94_56 d94_56 rfl
theorem i94_57 : am_ins 94 57 = (22, 0, 0, 0, []) := by decide +kernel
theorem d94_57 : decode (am_cod 94) 57 = .ok (.iaload, 1) := by decide +kernel
theorem s94_57 (K : aK) : am_Snd K 94 57 := sn_iald i94_57 d94_57 
theorem i94_58 : am_ins 94 58 = (33, 0, 1, 0, []) := by decide +kernel
theorem d94_58 : decode (am_cod 94) 58 = .ok (.aload_n 0, 1) := by decide +kernel
theorem s94_58 (K : aK) : am_Snd K 94 58 := sn_aload_n i94_58 d94_58 rfl
theorem i94_59 : am_ins 94 59 = (0, 1, 0, 2, []) := by decide +kernel
theorem d94_59 : decode (am_cod 94) 59 = .ok (.iconst 2, 1) := by decide +kernel
theorem s94_59 (K : aK) : am_Snd K 94 59 := sn_const1 i94_59 d94_59 rfl
theorem i94_60 : am_ins 94 60 = (1, 1, 1, 0, []) := by decide +kernel
theorem d94_60 : decode (am_cod 94) 60 = .ok (.iload_n 1, 1) := by decide +kernel
theorem s94_60 (K : aK) : am_Snd K 94 60 := sn_iload_n i94_60 d94_60 rfl
theorem i94_61 : am_ins 94 61 = (0, 1, 0, 3, []) := by decide +kernel
theorem d94_61 : decode (am_cod 94) 61 = .ok (.iconst 3, 1) := by decide +kernel
theorem s94_61 (K : aK) : am_Snd K 94 61 := sn_const1 i94_61 d94_61 rfl
theorem i94_62 : am_ins 94 62 = (6, 0, 0, 0, []) := by decide +kernel
theorem d94_62 : decode (am_cod 94) 62 = .ok (.irem, 1) := by decide +kernel
theorem s94_62 (K : aK) : am_Snd K 94 62 := sn_rem i94_62 d94_62 
theorem i94_63 : am_ins 94 63 = (4, 2, 0, 0, []) := by decide +kernel
theorem d94_63 : decode (am_cod 94) 63 = .ok (.imul, 1) := by decide +kernel
theorem s94_63 (K : aK) : am_Snd K 94 63 := sn_mul i94_63 d94_63 
theorem i94_64 : am_ins 94 64 = (1, 2, 1, 0, []) := by decide +kernel
theorem d94_64 : decode (am_cod 94) 64 = .ok (.iload_n 2, 1) := by decide +kernel
theorem s94_64 (K : aK) : am_Snd K 94 64 := sn_iload_n i94_64 d94_64 rfl
theorem i94_65 : am_ins 94 65 = (60, 93, 2, 0, []) := by decide +kernel
theorem d94_65 : decode (am_cod 94) 65 = .ok (.invokevirtual 144, 3) := by decide +kernel
theorem s94_65 (K : aK) : am_SndC K 94 65 := sc_V i94_65 d94_65 co93 w_589 w_591 ws_12 w_6 rfl (rr := (CN7, FT7, 24)) rfl rfl hd93
theorem i94_68 : am_ins 94 68 = (36, 0, 0, 0, []) := by decide +kernel
theorem d94_68 : decode (am_cod 94) 68 = .ok (.invokestatic 117, 3) := by decide +kernel
theorem s94_68 (K : aK) : am_Snd K 94 68 := sn_max i94_68 d94_68 w_594 w_184 w_7 w_185
theorem i94_71 : am_ins 94 71 = (23, 0, 0, 0, []) := by decide +kernel
theorem d94_71 : decode (am_cod 94) 71 = .ok (.iastore, 1) := by decide +kernel
theorem s94_71 (K : aK) : am_Snd K 94 71 := sn_iast i94_71 d94_71 
theorem i94_72 : am_ins 94 72 = (3, 2, 3, 1, []) := by decide +kernel
theorem d94_72 : decode (am_cod 94) 72 = .ok (.iinc 2 1, 3) := by decide +kernel
theorem s94_72 (K : aK) : am_Snd K 94 72 := sn_iinc i94_72 d94_72 rfl (by decide +kernel)
theorem i94_75 : am_ins 94 75 = (14, 36, 0, 0, []) := by decide +kernel
theorem d94_75 : decode (am_cod 94) 75 = .ok (.goto (-39), 3) := by decide +kernel
theorem s94_75 (K : aK) : am_Snd K 94 75 := sn_goto i94_75 d94_75 rfl
theorem i94_78 : am_ins 94 78 = (0, 1, 0, 0, []) := by decide +kernel
theorem d94_78 : decode (am_cod 94) 78 = .ok (.iconst 0, 1) := by decide +kernel
theorem s94_78 (K : aK) : am_Snd K 94 78 := sn_const1 i94_78 d94_78 rfl
theorem i94_79 : am_ins 94 79 = (2, 2, 1, 0, []) := by decide +kernel
theorem d94_79 : decode (am_cod 94) 79 = .ok (.istore_n 2, 1) := by decide +kernel
theorem s94_79 (K : aK) : am_Snd K 94 79 := sn_istore_n i94_79 d94_79 rfl (by decide +kernel)
theorem i94_80 : am_ins 94 80 = (1, 2, 1, 0, []) := by decide +kernel
theorem d94_80 : decode (am_cod 94) 80 = .ok (.iload_n 2, 1) := by decide +kernel
theorem s94_80 (K : aK) : am_Snd K 94 80 := sn_iload_n i94_80 d94_80 rfl
theorem i94_81 : am_ins 94 81 = (0, 2, 0, 8, []) := by decide +kernel
theorem d94_81 : decode (am_cod 94) 81 = .ok (.bipush 8, 2) := by decide +kernel
theorem s94_81 (K : aK) : am_Snd K 94 81 := sn_const2 i94_81 d94_81 (by decide +kernel)
theorem i94_83 : am_ins 94 83 = (13, 3, 130, 0, []) := by decide +kernel
theorem d94_83 : decode (am_cod 94) 83 = .ok (.if_icmp .ge 47, 3) := by decide +kernel
theorem s94_83 (K : aK) : am_Snd K 94 83 := sn_icmp_ge i94_83 d94_83 rfl
theorem i94_86 : am_ins 94 86 = (0, 2, 0, 8, []) := by decide +kernel
theorem d94_86 : decode (am_cod 94) 86 = .ok (.bipush 8, 2) := by decide +kernel
theorem s94_86 (K : aK) : am_Snd K 94 86 := sn_const2 i94_86 d94_86 (by decide +kernel)
theorem i94_88 : am_ins 94 88 = (1, 1, 1, 0, []) := by decide +kernel
theorem d94_88 : decode (am_cod 94) 88 = .ok (.iload_n 1, 1) := by decide +kernel
theorem s94_88 (K : aK) : am_Snd K 94 88 := sn_iload_n i94_88 d94_88 rfl
theorem i94_89 : am_ins 94 89 = (4, 2, 0, 0, []) := by decide +kernel
theorem d94_89 : decode (am_cod 94) 89 = .ok (.imul, 1) := by decide +kernel
theorem s94_89 (K : aK) : am_Snd K 94 89 := sn_mul i94_89 d94_89 
theorem i94_90 : am_ins 94 90 = (1, 2, 1, 0, []) := by decide +kernel
theorem d94_90 : decode (am_cod 94) 90 = .ok (.iload_n 2, 1) := by decide +kernel
theorem s94_90 (K : aK) : am_Snd K 94 90 := sn_iload_n i94_90 d94_90 rfl
theorem i94_91 : am_ins 94 91 = (4, 0, 0, 0, []) := by decide +kernel
theorem d94_91 : decode (am_cod 94) 91 = .ok (.iadd, 1) := by decide +kernel
theorem s94_91 (K : aK) : am_Snd K 94 91 := sn_add i94_91 d94_91 
theorem i94_92 : am_ins 94 92 = (2, 3, 1, 0, []) := by decide +kernel
theorem d94_92 : decode (am_cod 94) 92 = .ok (.istore_n 3, 1) := by decide +kernel
theorem s94_92 (K : aK) : am_Snd K 94 92 := sn_istore_n i94_92 d94_92 rfl (by decide +kernel)
theorem i94_93 : am_ins 94 93 = (33, 0, 1, 0, []) := by decide +kernel
theorem d94_93 : decode (am_cod 94) 93 = .ok (.aload_n 0, 1) := by decide +kernel
theorem s94_93 (K : aK) : am_Snd K 94 93 := sn_aload_n i94_93 d94_93 rfl
theorem i94_94 : am_ins 94 94 = (18, 7, 18, 0, []) := by decide +kernel
theorem d94_94 : decode (am_cod 94) 94 = .ok (.getfield 62, 3) := by decide +kernel
theorem s94_94 (K : aK) : am_Snd K 94 94 := sn_get (C0 := CN7) (T := FT7) (Nf := 24) i94_94 d94_94 rfl (by decide +kernel) fin7 w_527 rfl
theorem i94_97 : am_ins 94 97 = (1, 3, 1, 0, []) := by decide +kernel
theorem d94_97 : decode (am_cod 94) 97 = .ok (.iload_n 3, 1) := by decide +kernel
theorem s94_97 (K : aK) : am_Snd K 94 97 := sn_iload_n i94_97 d94_97 rfl
theorem i94_98 : am_ins 94 98 = (22, 0, 0, 0, []) := by decide +kernel
theorem d94_98 : decode (am_cod 94) 98 = .ok (.iaload, 1) := by decide +kernel
theorem s94_98 (K : aK) : am_Snd K 94 98 := sn_iald i94_98 d94_98 
theorem i94_99 : am_ins 94 99 = (0, 1, 0, (-1), []) := by decide +kernel
theorem d94_99 : decode (am_cod 94) 99 = .ok (.iconst (-1), 1) := by decide +kernel
theorem s94_99 (K : aK) : am_Snd K 94 99 := sn_const1 i94_99 d94_99 rfl
theorem i94_100 : am_ins 94 100 = (13, 0, 124, 0, []) := by decide +kernel
theorem d94_100 : decode (am_cod 94) 100 = .ok (.if_icmp .eq 24, 3) := by decide +kernel
theorem s94_100 (K : aK) : am_Snd K 94 100 := sn_icmp_eq i94_100 d94_100 rfl
theorem i94_103 : am_ins 94 103 = (33, 0, 1, 0, []) := by decide +kernel
theorem d94_103 : decode (am_cod 94) 103 = .ok (.aload_n 0, 1) := by decide +kernel
theorem s94_103 (K : aK) : am_Snd K 94 103 := sn_aload_n i94_103 d94_103 rfl
theorem i94_104 : am_ins 94 104 = (33, 0, 1, 0, []) := by decide +kernel
theorem d94_104 : decode (am_cod 94) 104 = .ok (.aload_n 0, 1) := by decide +kernel
theorem s94_104 (K : aK) : am_Snd K 94 104 := sn_aload_n i94_104 d94_104 rfl
theorem i94_105 : am_ins 94 105 = (18, 7, 18, 0, []) := by decide +kernel
theorem d94_105 : decode (am_cod 94) 105 = .ok (.getfield 62, 3) := by decide +kernel
theorem s94_105 (K : aK) : am_Snd K 94 105 := sn_get (C0 := CN7) (T := FT7) (Nf := 24) i94_105 d94_105 rfl (by decide +kernel) fin7 w_527 rfl
theorem i94_108 : am_ins 94 108 = (1, 3, 1, 0, []) := by decide +kernel
theorem d94_108 : decode (am_cod 94) 108 = .ok (.iload_n 3, 1) := by decide +kernel
theorem s94_108 (K : aK) : am_Snd K 94 108 := sn_iload_n i94_108 d94_108 rfl
theorem i94_109 : am_ins 94 109 = (22, 0, 0, 0, []) := by decide +kernel
theorem d94_109 : decode (am_cod 94) 109 = .ok (.iaload, 1) := by decide +kernel
theorem s94_109 (K : aK) : am_Snd K 94 109 := sn_iald i94_109 d94_109 
theorem i94_110 : am_ins 94 110 = (1, 1, 1, 0, []) := by decide +kernel
theorem d94_110 : decode (am_cod 94) 110 = .ok (.iload_n 1, 1) := by decide +kernel
theorem s94_110 (K : aK) : am_Snd K 94 110 := sn_iload_n i94_110 d94_110 rfl
theorem i94_111 : am_ins 94 111 = (60, 81, 2, 0, []) := by decide +kernel
theorem d94_111 : decode (am_cod 94) 111 = .ok (.invokevirtual 147, 3) := by decide +kernel
theorem s94_111 (K : aK) : am_SndC K 94 111 := sc_V i94_111 d94_111 co81 w_595 w_597 ws_13 w_6 rfl (rr := (CN7, FT7, 24)) rfl rfl hd81
theorem i94_114 : am_ins 94 114 = (12, 0, 124, 0, []) := by decide +kernel
theorem d94_114 : decode (am_cod 94) 114 = .ok (.ifCond .eq 10, 3) := by decide +kernel
theorem s94_114 (K : aK) : am_Snd K 94 114 := sn_if_eq i94_114 d94_114 rfl
theorem i94_117 : am_ins 94 117 = (33, 0, 1, 0, []) := by decide +kernel
theorem d94_117 : decode (am_cod 94) 117 = .ok (.aload_n 0, 1) := by decide +kernel
theorem s94_117 (K : aK) : am_Snd K 94 117 := sn_aload_n i94_117 d94_117 rfl
theorem i94_118 : am_ins 94 118 = (18, 7, 18, 0, []) := by decide +kernel
theorem d94_118 : decode (am_cod 94) 118 = .ok (.getfield 62, 3) := by decide +kernel
theorem s94_118 (K : aK) : am_Snd K 94 118 := sn_get (C0 := CN7) (T := FT7) (Nf := 24) i94_118 d94_118 rfl (by decide +kernel) fin7 w_527 rfl
theorem i94_121 : am_ins 94 121 = (1, 3, 1, 0, []) := by decide +kernel
theorem d94_121 : decode (am_cod 94) 121 = .ok (.iload_n 3, 1) := by decide +kernel
theorem s94_121 (K : aK) : am_Snd K 94 121 := sn_iload_n i94_121 d94_121 rfl
theorem i94_122 : am_ins 94 122 = (0, 1, 0, (-1), []) := by decide +kernel
theorem d94_122 : decode (am_cod 94) 122 = .ok (.iconst (-1), 1) := by decide +kernel
theorem s94_122 (K : aK) : am_Snd K 94 122 := sn_const1 i94_122 d94_122 rfl
theorem i94_123 : am_ins 94 123 = (23, 0, 0, 0, []) := by decide +kernel
theorem d94_123 : decode (am_cod 94) 123 = .ok (.iastore, 1) := by decide +kernel
theorem s94_123 (K : aK) : am_Snd K 94 123 := sn_iast i94_123 d94_123 
theorem i94_124 : am_ins 94 124 = (3, 2, 3, 1, []) := by decide +kernel
theorem d94_124 : decode (am_cod 94) 124 = .ok (.iinc 2 1, 3) := by decide +kernel
theorem s94_124 (K : aK) : am_Snd K 94 124 := sn_iinc i94_124 d94_124 rfl (by decide +kernel)
theorem i94_127 : am_ins 94 127 = (14, 80, 0, 0, []) := by decide +kernel
theorem d94_127 : decode (am_cod 94) 127 = .ok (.goto (-47), 3) := by decide +kernel
theorem s94_127 (K : aK) : am_Snd K 94 127 := sn_goto i94_127 d94_127 rfl
theorem i94_130 : am_ins 94 130 = (0, 1, 0, 1, []) := by decide +kernel
theorem d94_130 : decode (am_cod 94) 130 = .ok (.iconst 1, 1) := by decide +kernel
theorem s94_130 (K : aK) : am_Snd K 94 130 := sn_const1 i94_130 d94_130 rfl
theorem i94_131 : am_ins 94 131 = (50, 0, 0, 0, []) := by decide +kernel
theorem d94_131 : decode (am_cod 94) 131 = .ok (.ireturn, 1) := by decide +kernel
theorem s94_131 : am_SndR 94 131 := sn_iret i94_131 d94_131 rfl
theorem al94_0 (K : aK) : ∀ q ∈ [0, 1, 4, 7, 8, 9, 10, 13, 14, 15, 18, 19, 20, 21, 24, 25, 26, 27, 28, 31, 32, 33, 34, 35, 36, 37, 38, 41, 42, 43], am_All K 94 q := List.forall_mem_cons.mpr ⟨am_alS i94_0 (s94_0 K), List.forall_mem_cons.mpr ⟨am_alC i94_1 (s94_1 K), List.forall_mem_cons.mpr ⟨am_alS i94_4 (s94_4 K), List.forall_mem_cons.mpr ⟨am_alS i94_7 (s94_7 K), List.forall_mem_cons.mpr ⟨am_alR i94_8 s94_8, List.forall_mem_cons.mpr ⟨am_alS i94_9 (s94_9 K), List.forall_mem_cons.mpr ⟨am_alS i94_10 (s94_10 K), List.forall_mem_cons.mpr ⟨am_alS i94_13 (s94_13 K), List.forall_mem_cons.mpr ⟨am_alS i94_14 (s94_14 K), List.forall_mem_cons.mpr ⟨am_alS i94_15 (s94_15 K), List.forall_mem_cons.mpr ⟨am_alS i94_18 (s94_18 K), List.forall_mem_cons.mpr ⟨am_alR i94_19 s94_19, List.forall_mem_cons.mpr ⟨am_alS i94_20 (s94_20 K), List.forall_mem_cons.mpr ⟨am_alS i94_21 (s94_21 K), List.forall_mem_cons.mpr ⟨am_alS i94_24 (s94_24 K), List.forall_mem_cons.mpr ⟨am_alS i94_25 (s94_25 K), List.forall_mem_cons.mpr ⟨am_alS i94_26 (s94_26 K), List.forall_mem_cons.mpr ⟨am_alS i94_27 (s94_27 K), List.forall_mem_cons.mpr ⟨am_alS i94_28 (s94_28 K), List.forall_mem_cons.mpr ⟨am_alS i94_31 (s94_31 K), List.forall_mem_cons.mpr ⟨am_alS i94_32 (s94_32 K), List.forall_mem_cons.mpr ⟨am_alS i94_33 (s94_33 K), List.forall_mem_cons.mpr ⟨am_alS i94_34 (s94_34 K), List.forall_mem_cons.mpr ⟨am_alS i94_35 (s94_35 K), List.forall_mem_cons.mpr ⟨am_alS i94_36 (s94_36 K), List.forall_mem_cons.mpr ⟨am_alS i94_37 (s94_37 K), List.forall_mem_cons.mpr ⟨am_alS i94_38 (s94_38 K), List.forall_mem_cons.mpr ⟨am_alS i94_41 (s94_41 K), List.forall_mem_cons.mpr ⟨am_alS i94_42 (s94_42 K), List.forall_mem_cons.mpr ⟨am_alS i94_43 (s94_43 K), fun _ h => absurd h List.not_mem_nil⟩⟩⟩⟩⟩⟩⟩⟩⟩⟩⟩⟩⟩⟩⟩⟩⟩⟩⟩⟩⟩⟩⟩⟩⟩⟩⟩⟩⟩⟩
theorem al94_1 (K : aK) : ∀ q ∈ [44, 45, 46, 47, 48, 51, 52, 53, 56, 57, 58, 59, 60, 61, 62, 63, 64, 65, 68, 71, 72, 75, 78, 79, 80, 81, 83, 86, 88, 89], am_All K 94 q := List.forall_mem_cons.mpr ⟨am_alS i94_44 (s94_44 K), List.forall_mem_cons.mpr ⟨am_alS i94_45 (s94_45 K), List.forall_mem_cons.mpr ⟨am_alS i94_46 (s94_46 K), List.forall_mem_cons.mpr ⟨am_alS i94_47 (s94_47 K), List.forall_mem_cons.mpr ⟨am_alS i94_48 (s94_48 K), List.forall_mem_cons.mpr ⟨am_alS i94_51 (s94_51 K), List.forall_mem_cons.mpr ⟨am_alS i94_52 (s94_52 K), List.forall_mem_cons.mpr ⟨am_alS i94_53 (s94_53 K), List.forall_mem_cons.mpr ⟨am_alS i94_56 (s94_56 K), List.forall_mem_cons.mpr ⟨am_alS i94_57 (s94_57 K), List.forall_mem_cons.mpr ⟨am_alS i94_58 (s94_58 K), List.forall_mem_cons.mpr ⟨am_alS i94_59 (s94_59 K), List.forall_mem_cons.mpr ⟨am_alS i94_60 (s94_60 K), List.forall_mem_cons.mpr ⟨am_alS i94_61 (s94_61 K), List.forall_mem_cons.mpr ⟨am_alS i94_62 (s94_62 K), List.forall_mem_cons.mpr ⟨am_alS i94_63 (s94_63 K), List.forall_mem_cons.mpr ⟨am_alS i94_64 (s94_64 K), List.forall_mem_cons.mpr ⟨am_alC i94_65 (s94_65 K), List.forall_mem_cons.mpr ⟨am_alS i94_68 (s94_68 K), List.forall_mem_cons.mpr ⟨am_alS i94_71 (s94_71 K), List.forall_mem_cons.mpr ⟨am_alS i94_72 (s94_72 K), List.forall_mem_cons.mpr ⟨am_alS i94_75 (s94_75 K), List.forall_mem_cons.mpr ⟨am_alS i94_78 (s94_78 K), List.forall_mem_cons.mpr ⟨am_alS i94_79 (s94_79 K), List.forall_mem_cons.mpr ⟨am_alS i94_80 (s94_80 K), List.forall_mem_cons.mpr ⟨am_alS i94_81 (s94_81 K), List.forall_mem_cons.mpr ⟨am_alS i94_83 (s94_83 K), List.forall_mem_cons.mpr ⟨am_alS i94_86 (s94_86 K), List.forall_mem_cons.mpr ⟨am_alS i94_88 (s94_88 K), List.forall_mem_cons.mpr ⟨am_alS i94_89 (s94_89 K), fun _ h => absurd h List.not_mem_nil⟩⟩⟩⟩⟩⟩⟩⟩⟩⟩⟩⟩⟩⟩⟩⟩⟩⟩⟩⟩⟩⟩⟩⟩⟩⟩⟩⟩⟩⟩
theorem al94_2 (K : aK) : ∀ q ∈ [90, 91, 92, 93, 94, 97, 98, 99, 100, 103, 104, 105, 108, 109, 110, 111, 114, 117, 118, 121, 122, 123, 124, 127, 130, 131], am_All K 94 q := List.forall_mem_cons.mpr ⟨am_alS i94_90 (s94_90 K), List.forall_mem_cons.mpr ⟨am_alS i94_91 (s94_91 K), List.forall_mem_cons.mpr ⟨am_alS i94_92 (s94_92 K), List.forall_mem_cons.mpr ⟨am_alS i94_93 (s94_93 K), List.forall_mem_cons.mpr ⟨am_alS i94_94 (s94_94 K), List.forall_mem_cons.mpr ⟨am_alS i94_97 (s94_97 K), List.forall_mem_cons.mpr ⟨am_alS i94_98 (s94_98 K), List.forall_mem_cons.mpr ⟨am_alS i94_99 (s94_99 K), List.forall_mem_cons.mpr ⟨am_alS i94_100 (s94_100 K), List.forall_mem_cons.mpr ⟨am_alS i94_103 (s94_103 K), List.forall_mem_cons.mpr ⟨am_alS i94_104 (s94_104 K), List.forall_mem_cons.mpr ⟨am_alS i94_105 (s94_105 K), List.forall_mem_cons.mpr ⟨am_alS i94_108 (s94_108 K), List.forall_mem_cons.mpr ⟨am_alS i94_109 (s94_109 K), List.forall_mem_cons.mpr ⟨am_alS i94_110 (s94_110 K), List.forall_mem_cons.mpr ⟨am_alC i94_111 (s94_111 K), List.forall_mem_cons.mpr ⟨am_alS i94_114 (s94_114 K), List.forall_mem_cons.mpr ⟨am_alS i94_117 (s94_117 K), List.forall_mem_cons.mpr ⟨am_alS i94_118 (s94_118 K), List.forall_mem_cons.mpr ⟨am_alS i94_121 (s94_121 K), List.forall_mem_cons.mpr ⟨am_alS i94_122 (s94_122 K), List.forall_mem_cons.mpr ⟨am_alS i94_123 (s94_123 K), List.forall_mem_cons.mpr ⟨am_alS i94_124 (s94_124 K), List.forall_mem_cons.mpr ⟨am_alS i94_127 (s94_127 K), List.forall_mem_cons.mpr ⟨am_alS i94_130 (s94_130 K), List.forall_mem_cons.mpr ⟨am_alR i94_131 s94_131, fun _ h => absurd h List.not_mem_nil⟩⟩⟩⟩⟩⟩⟩⟩⟩⟩⟩⟩⟩⟩⟩⟩⟩⟩⟩⟩⟩⟩⟩⟩⟩⟩
set_option maxRecDepth 100000 in
theorem al94 (K : aK) : ∀ q ∈ (am_t94).map (fun z => z.1), am_All K 94 q := by
  have e : (am_t94).map (fun z => z.1) = [0, 1, 4, 7, 8, 9, 10, 13, 14, 15, 18, 19, 20, 21, 24, 25, 26, 27, 28, 31, 32, 33, 34, 35, 36, 37, 38, 41, 42, 43] ++ ([44, 45, 46, 47, 48, 51, 52, 53, 56, 57, 58, 59, 60, 61, 62, 63, 64, 65, 68, 71, 72, 75, 78, 79, 80, 81, 83, 86, 88, 89] ++ ([90, 91, 92, 93, 94, 97, 98, 99, 100, 103, 104, 105, 108, 109, 110, 111, 114, 117, 118, 121, 122, 123, 124, 127, 130, 131])) := rfl
  rw [e]
  exact List.forall_mem_append.mpr ⟨al94_0 K, List.forall_mem_append.mpr ⟨al94_1 K, al94_2 K⟩⟩
theorem i95_0 : am_ins 95 0 = (1, 1, 1, 0, []) := by decide +kernel
theorem d95_0 : decode (am_cod 95) 0 = .ok (.iload_n 1, 1) := by decide +kernel
theorem s95_0 (K : aK) : am_Snd K 95 0 := sn_iload_n i95_0 d95_0 rfl
theorem i95_1 : am_ins 95 1 = (61, 72, 1, 0, []) := by decide +kernel
theorem d95_1 : decode (am_cod 95) 1 = .ok (.invokestatic 141, 3) := by decide +kernel
theorem s95_1 (K : aK) : am_SndC K 95 1 := sc_S i95_1 d95_1 co72 w_586 w_587 w_6 hd72
theorem i95_4 : am_ins 95 4 = (12, 0, 24, 0, []) := by decide +kernel
theorem d95_4 : decode (am_cod 95) 4 = .ok (.ifCond .eq 20, 3) := by decide +kernel
theorem s95_4 (K : aK) : am_Snd K 95 4 := sn_if_eq i95_4 d95_4 rfl
theorem i95_7 : am_ins 95 7 = (1, 2, 1, 0, []) := by decide +kernel
theorem d95_7 : decode (am_cod 95) 7 = .ok (.iload_n 2, 1) := by decide +kernel
theorem s95_7 (K : aK) : am_Snd K 95 7 := sn_iload_n i95_7 d95_7 rfl
theorem i95_8 : am_ins 95 8 = (61, 74, 1, 0, []) := by decide +kernel
theorem d95_8 : decode (am_cod 95) 8 = .ok (.invokestatic 150, 3) := by decide +kernel
theorem s95_8 (K : aK) : am_SndC K 95 8 := sc_S i95_8 d95_8 co74 w_611 w_612 w_6 hd74
theorem i95_11 : am_ins 95 11 = (12, 0, 24, 0, []) := by decide +kernel
theorem d95_11 : decode (am_cod 95) 11 = .ok (.ifCond .eq 13, 3) := by decide +kernel
theorem s95_11 (K : aK) : am_Snd K 95 11 := sn_if_eq i95_11 d95_11 rfl
theorem i95_14 : am_ins 95 14 = (33, 0, 1, 0, []) := by decide +kernel
theorem d95_14 : decode (am_cod 95) 14 = .ok (.aload_n 0, 1) := by decide +kernel
theorem s95_14 (K : aK) : am_Snd K 95 14 := sn_aload_n i95_14 d95_14 rfl
theorem i95_15 : am_ins 95 15 = (18, 7, 15, 0, []) := by decide +kernel
theorem d95_15 : decode (am_cod 95) 15 = .ok (.getfield 53, 3) := by decide +kernel
theorem s95_15 (K : aK) : am_Snd K 95 15 := sn_get (C0 := CN7) (T := FT7) (Nf := 24) i95_15 d95_15 rfl (by decide +kernel) fin7 w_524 rfl
theorem i95_18 : am_ins 95 18 = (1, 1, 1, 0, []) := by decide +kernel
theorem d95_18 : decode (am_cod 95) 18 = .ok (.iload_n 1, 1) := by decide +kernel
theorem s95_18 (K : aK) : am_Snd K 95 18 := sn_iload_n i95_18 d95_18 rfl
theorem i95_19 : am_ins 95 19 = (22, 0, 0, 0, []) := by decide +kernel
theorem d95_19 : decode (am_cod 95) 19 = .ok (.iaload, 1) := by decide +kernel
theorem s95_19 (K : aK) : am_Snd K 95 19 := sn_iald i95_19 d95_19 
theorem i95_20 : am_ins 95 20 = (0, 1, 0, 1, []) := by decide +kernel
theorem d95_20 : decode (am_cod 95) 20 = .ok (.iconst 1, 1) := by decide +kernel
theorem s95_20 (K : aK) : am_Snd K 95 20 := sn_const1 i95_20 d95_20 rfl
theorem i95_21 : am_ins 95 21 = (13, 0, 26, 0, []) := by decide +kernel
theorem d95_21 : decode (am_cod 95) 21 = .ok (.if_icmp .eq 5, 3) := by decide +kernel
theorem s95_21 (K : aK) : am_Snd K 95 21 := sn_icmp_eq i95_21 d95_21 rfl
theorem i95_24 : am_ins 95 24 = (0, 1, 0, (-1), []) := by decide +kernel
theorem d95_24 : decode (am_cod 95) 24 = .ok (.iconst (-1), 1) := by decide +kernel
theorem s95_24 (K : aK) : am_Snd K 95 24 := sn_const1 i95_24 d95_24 rfl
theorem i95_25 : am_ins 95 25 = (50, 0, 0, 0, []) := by decide +kernel
theorem d95_25 : decode (am_cod 95) 25 = .ok (.ireturn, 1) := by decide +kernel
theorem s95_25 : am_SndR 95 25 := sn_iret i95_25 d95_25 rfl
theorem i95_26 : am_ins 95 26 = (33, 0, 1, 0, []) := by decide +kernel
theorem d95_26 : decode (am_cod 95) 26 = .ok (.aload_n 0, 1) := by decide +kernel
theorem s95_26 (K : aK) : am_Snd K 95 26 := sn_aload_n i95_26 d95_26 rfl
theorem i95_27 : am_ins 95 27 = (18, 7, 19, 0, []) := by decide +kernel
theorem d95_27 : decode (am_cod 95) 27 = .ok (.getfield 65, 3) := by decide +kernel
theorem s95_27 (K : aK) : am_Snd K 95 27 := sn_get (C0 := CN7) (T := FT7) (Nf := 24) i95_27 d95_27 rfl (by decide +kernel) fin7 w_528 rfl
theorem i95_30 : am_ins 95 30 = (1, 1, 1, 0, []) := by decide +kernel
theorem d95_30 : decode (am_cod 95) 30 = .ok (.iload_n 1, 1) := by decide +kernel
theorem s95_30 (K : aK) : am_Snd K 95 30 := sn_iload_n i95_30 d95_30 rfl
theorem i95_31 : am_ins 95 31 = (22, 0, 0, 0, []) := by decide +kernel
theorem d95_31 : decode (am_cod 95) 31 = .ok (.iaload, 1) := by decide +kernel
theorem s95_31 (K : aK) : am_Snd K 95 31 := sn_iald i95_31 d95_31 
theorem i95_32 : am_ins 95 32 = (1, 2, 1, 0, []) := by decide +kernel
theorem d95_32 : decode (am_cod 95) 32 = .ok (.iload_n 2, 1) := by decide +kernel
theorem s95_32 (K : aK) : am_Snd K 95 32 := sn_iload_n i95_32 d95_32 rfl
theorem i95_33 : am_ins 95 33 = (4, 7, 0, 0, []) := by decide +kernel
theorem d95_33 : decode (am_cod 95) 33 = .ok (.ishr, 1) := by decide +kernel
theorem s95_33 (K : aK) : am_Snd K 95 33 := sn_shr i95_33 d95_33 
theorem i95_34 : am_ins 95 34 = (0, 1, 0, 1, []) := by decide +kernel
theorem d95_34 : decode (am_cod 95) 34 = .ok (.iconst 1, 1) := by decide +kernel
theorem s95_34 (K : aK) : am_Snd K 95 34 := sn_const1 i95_34 d95_34 rfl
theorem i95_35 : am_ins 95 35 = (4, 3, 0, 0, []) := by decide +kernel
theorem d95_35 : decode (am_cod 95) 35 = .ok (.iand, 1) := by decide +kernel
theorem s95_35 (K : aK) : am_Snd K 95 35 := sn_and i95_35 d95_35 
theorem i95_36 : am_ins 95 36 = (0, 1, 0, 1, []) := by decide +kernel
theorem d95_36 : decode (am_cod 95) 36 = .ok (.iconst 1, 1) := by decide +kernel
theorem s95_36 (K : aK) : am_Snd K 95 36 := sn_const1 i95_36 d95_36 rfl
theorem i95_37 : am_ins 95 37 = (13, 1, 60, 0, []) := by decide +kernel
theorem d95_37 : decode (am_cod 95) 37 = .ok (.if_icmp .ne 23, 3) := by decide +kernel
theorem s95_37 (K : aK) : am_Snd K 95 37 := sn_icmp_ne i95_37 d95_37 rfl
theorem i95_40 : am_ins 95 40 = (33, 0, 1, 0, []) := by decide +kernel
theorem d95_40 : decode (am_cod 95) 40 = .ok (.aload_n 0, 1) := by decide +kernel
theorem s95_40 (K : aK) : am_Snd K 95 40 := sn_aload_n i95_40 d95_40 rfl
theorem i95_41 : am_ins 95 41 = (18, 7, 21, 0, []) := by decide +kernel
theorem d95_41 : decode (am_cod 95) 41 = .ok (.getfield 71, 3) := by decide +kernel
theorem s95_41 (K : aK) : am_Snd K 95 41 := sn_get (C0 := CN7) (T := FT7) (Nf := 24) i95_41 d95_41 rfl (by decide +kernel) fin7 w_530 rfl
theorem i95_44 : am_ins 95 44 = (1, 1, 1, 0, []) := by decide +kernel
theorem d95_44 : decode (am_cod 95) 44 = .ok (.iload_n 1, 1) := by decide +kernel
theorem s95_44 (K : aK) : am_Snd K 95 44 := sn_iload_n i95_44 d95_44 rfl
theorem i95_45 : am_ins 95 45 = (33, 0, 1, 0, []) := by decide +kernel
theorem d95_45 : decode (am_cod 95) 45 = .ok (.aload_n 0, 1) := by decide +kernel
theorem s95_45 (K : aK) : am_Snd K 95 45 := sn_aload_n i95_45 d95_45 rfl
theorem i95_46 : am_ins 95 46 = (18, 7, 20, 0, []) := by decide +kernel
theorem d95_46 : decode (am_cod 95) 46 = .ok (.getfield 68, 3) := by decide +kernel
theorem s95_46 (K : aK) : am_Snd K 95 46 := sn_get (C0 := CN7) (T := FT7) (Nf := 24) i95_46 d95_46 rfl (by decide +kernel) fin7 w_529 rfl
theorem i95_49 : am_ins 95 49 = (0, 2, 0, 8, []) := by decide +kernel
theorem d95_49 : decode (am_cod 95) 49 = .ok (.bipush 8, 2) := by decide +kernel
theorem s95_49 (K : aK) : am_Snd K 95 49 := sn_const2 i95_49 d95_49 (by decide +kernel)
theorem i95_51 : am_ins 95 51 = (1, 1, 1, 0, []) := by decide +kernel
theorem d95_51 : decode (am_cod 95) 51 = .ok (.iload_n 1, 1) := by decide +kernel
theorem s95_51 (K : aK) : am_Snd K 95 51 := sn_iload_n i95_51 d95_51 rfl
theorem i95_52 : am_ins 95 52 = (4, 2, 0, 0, []) := by decide +kernel
theorem d95_52 : decode (am_cod 95) 52 = .ok (.imul, 1) := by decide +kernel
theorem s95_52 (K : aK) : am_Snd K 95 52 := sn_mul i95_52 d95_52 
theorem i95_53 : am_ins 95 53 = (1, 2, 1, 0, []) := by decide +kernel
theorem d95_53 : decode (am_cod 95) 53 = .ok (.iload_n 2, 1) := by decide +kernel
theorem s95_53 (K : aK) : am_Snd K 95 53 := sn_iload_n i95_53 d95_53 rfl
theorem i95_54 : am_ins 95 54 = (4, 0, 0, 0, []) := by decide +kernel
theorem d95_54 : decode (am_cod 95) 54 = .ok (.iadd, 1) := by decide +kernel
theorem s95_54 (K : aK) : am_Snd K 95 54 := sn_add i95_54 d95_54 
theorem i95_55 : am_ins 95 55 = (22, 0, 0, 0, []) := by decide +kernel
theorem d95_55 : decode (am_cod 95) 55 = .ok (.iaload, 1) := by decide +kernel
theorem s95_55 (K : aK) : am_Snd K 95 55 := sn_iald i95_55 d95_55 
theorem i95_56 : am_ins 95 56 = (23, 0, 0, 0, []) := by decide +kernel
theorem d95_56 : decode (am_cod 95) 56 = .ok (.iastore, 1) := by decide +kernel
theorem s95_56 (K : aK) : am_Snd K 95 56 := sn_iast i95_56 d95_56 
theorem i95_57 : am_ins 95 57 = (0, 2, 0, (-2), []) := by decide +kernel
theorem d95_57 : decode (am_cod 95) 57 = .ok (.bipush (-2), 2) := by decide +kernel
theorem s95_57 (K : aK) : am_Snd K 95 57 := sn_const2 i95_57 d95_57 (by decide +kernel)
theorem i95_59 : am_ins 95 59 = (50, 0, 0, 0, []) := by decide +kernel
theorem d95_59 : decode (am_cod 95) 59 = .ok (.ireturn, 1) := by decide +kernel
theorem s95_59 : am_SndR 95 59 := sn_iret i95_59 d95_59 rfl
theorem i95_60 : am_ins 95 60 = (0, 1, 0, 2, []) := by decide +kernel
theorem d95_60 : decode (am_cod 95) 60 = .ok (.iconst 2, 1) := by decide +kernel
theorem s95_60 (K : aK) : am_Snd K 95 60 := sn_const1 i95_60 d95_60 rfl
theorem i95_61 : am_ins 95 61 = (1, 1, 1, 0, []) := by decide +kernel
theorem d95_61 : decode (am_cod 95) 61 = .ok (.iload_n 1, 1) := by decide +kernel
theorem s95_61 (K : aK) : am_Snd K 95 61 := sn_iload_n i95_61 d95_61 rfl
theorem i95_62 : am_ins 95 62 = (0, 1, 0, 3, []) := by decide +kernel
theorem d95_62 : decode (am_cod 95) 62 = .ok (.iconst 3, 1) := by decide +kernel
theorem s95_62 (K : aK) : am_Snd K 95 62 := sn_const1 i95_62 d95_62 rfl
theorem i95_63 : am_ins 95 63 = (6, 0, 0, 0, []) := by decide +kernel
theorem d95_63 : decode (am_cod 95) 63 = .ok (.irem, 1) := by decide +kernel
theorem s95_63 (K : aK) : am_Snd K 95 63 := sn_rem i95_63 d95_63 
theorem i95_64 : am_ins 95 64 = (4, 2, 0, 0, []) := by decide +kernel
theorem d95_64 : decode (am_cod 95) 64 = .ok (.imul, 1) := by decide +kernel
theorem s95_64 (K : aK) : am_Snd K 95 64 := sn_mul i95_64 d95_64 
theorem i95_65 : am_ins 95 65 = (1, 2, 1, 0, []) := by decide +kernel
theorem d95_65 : decode (am_cod 95) 65 = .ok (.iload_n 2, 1) := by decide +kernel
theorem s95_65 (K : aK) : am_Snd K 95 65 := sn_iload_n i95_65 d95_65 rfl
theorem i95_66 : am_ins 95 66 = (0, 1, 0, 2, []) := by decide +kernel
theorem d95_66 : decode (am_cod 95) 66 = .ok (.iconst 2, 1) := by decide +kernel
theorem s95_66 (K : aK) : am_Snd K 95 66 := sn_const1 i95_66 d95_66 rfl
theorem i95_67 : am_ins 95 67 = (6, 0, 0, 0, []) := by decide +kernel
theorem d95_67 : decode (am_cod 95) 67 = .ok (.irem, 1) := by decide +kernel
theorem s95_67 (K : aK) : am_Snd K 95 67 := sn_rem i95_67 d95_67 
theorem i95_68 : am_ins 95 68 = (4, 0, 0, 0, []) := by decide +kernel
theorem d95_68 : decode (am_cod 95) 68 = .ok (.iadd, 1) := by decide +kernel
theorem s95_68 (K : aK) : am_Snd K 95 68 := sn_add i95_68 d95_68 
theorem i95_69 : am_ins 95 69 = (2, 3, 1, 0, []) := by decide +kernel
theorem d95_69 : decode (am_cod 95) 69 = .ok (.istore_n 3, 1) := by decide +kernel
theorem s95_69 (K : aK) : am_Snd K 95 69 := sn_istore_n i95_69 d95_69 rfl (by decide +kernel)
theorem i95_70 : am_ins 95 70 = (33, 0, 1, 0, []) := by decide +kernel
theorem d95_70 : decode (am_cod 95) 70 = .ok (.aload_n 0, 1) := by decide +kernel
theorem s95_70 (K : aK) : am_Snd K 95 70 := sn_aload_n i95_70 d95_70 rfl
theorem i95_71 : am_ins 95 71 = (18, 7, 18, 0, []) := by decide +kernel
theorem d95_71 : decode (am_cod 95) 71 = .ok (.getfield 62, 3) := by decide +kernel
theorem s95_71 (K : aK) : am_Snd K 95 71 := sn_get (C0 := CN7) (T := FT7) (Nf := 24) i95_71 d95_71 rfl (by decide +kernel) fin7 w_527 rfl
theorem i95_74 : am_ins 95 74 = (0, 2, 0, 8, []) := by decide +kernel
theorem d95_74 : decode (am_cod 95) 74 = .ok (.bipush 8, 2) := by decide +kernel
theorem s95_74 (K : aK) : am_Snd K 95 74 := sn_const2 i95_74 d95_74 (by decide +kernel)
theorem i95_76 : am_ins 95 76 = (1, 1, 1, 0, []) := by decide +kernel
theorem d95_76 : decode (am_cod 95) 76 = .ok (.iload_n 1, 1) := by decide +kernel
theorem s95_76 (K : aK) : am_Snd K 95 76 := sn_iload_n i95_76 d95_76 rfl
theorem i95_77 : am_ins 95 77 = (4, 2, 0, 0, []) := by decide +kernel
theorem d95_77 : decode (am_cod 95) 77 = .ok (.imul, 1) := by decide +kernel
theorem s95_77 (K : aK) : am_Snd K 95 77 := sn_mul i95_77 d95_77 
theorem i95_78 : am_ins 95 78 = (1, 2, 1, 0, []) := by decide +kernel
theorem d95_78 : decode (am_cod 95) 78 = .ok (.iload_n 2, 1) := by decide +kernel
theorem s95_78 (K : aK) : am_Snd K 95 78 := sn_iload_n i95_78 d95_78 rfl
theorem i95_79 : am_ins 95 79 = (4, 0, 0, 0, []) := by decide +kernel
theorem d95_79 : decode (am_cod 95) 79 = .ok (.iadd, 1) := by decide +kernel
theorem s95_79 (K : aK) : am_Snd K 95 79 := sn_add i95_79 d95_79 
theorem i95_80 : am_ins 95 80 = (22, 0, 0, 0, []) := by decide +kernel
theorem d95_80 : decode (am_cod 95) 80 = .ok (.iaload, 1) := by decide +kernel
theorem s95_80 (K : aK) : am_Snd K 95 80 := sn_iald i95_80 d95_80 
theorem i95_81 : am_ins 95 81 = (2, 4, 2, 0, []) := by decide +kernel
theorem d95_81 : decode (am_cod 95) 81 = .ok (.istore 4, 2) := by decide +kernel
theorem s95_81 (K : aK) : am_Snd K 95 81 := sn_istore i95_81 d95_81 (by decide +kernel)
theorem i95_83 : am_ins 95 83 = (0, 1, 0, 0, []) := by decide +kernel
theorem d95_83 : decode (am_cod 95) 83 = .ok (.iconst 0, 1) := by decide +kernel
theorem s95_83 (K : aK) : am_Snd K 95 83 := sn_const1 i95_83 d95_83 rfl
theorem i95_84 : am_ins 95 84 = (2, 5, 2, 0, []) := by decide +kernel
theorem d95_84 : decode (am_cod 95) 84 = .ok (.istore 5, 2) := by decide +kernel
theorem s95_84 (K : aK) : am_Snd K 95 84 := sn_istore i95_84 d95_84 (by decide +kernel)
theorem i95_86 : am_ins 95 86 = (1, 5, 2, 0, []) := by decide +kernel
theorem d95_86 : decode (am_cod 95) 86 = .ok (.iload 5, 2) := by decide +kernel
theorem s95_86 (K : aK) : am_Snd K 95 86 := sn_iload i95_86 d95_86 
theorem i95_88 : am_ins 95 88 = (33, 0, 1, 0, []) := by decide +kernel
theorem d95_88 : decode (am_cod 95) 88 = .ok (.aload_n 0, 1) := by decide +kernel
theorem s95_88 (K : aK) : am_Snd K 95 88 := sn_aload_n i95_88 d95_88 rfl
theorem i95_89 : am_ins 95 89 = (18, 7, 0, 0, []) := by decide +kernel
theorem d95_89 : decode (am_cod 95) 89 = .ok (.getfield 132, 3) := by decide +kernel
theorem s95_89 (K : aK) : am_Snd K 95 89 := sn_get (C0 := CN7) (T := FT7) (Nf := 24) i95_89 d95_89 rfl (by decide +kernel) fin7 w_509 rfl
theorem i95_92 : am_ins 95 92 = (13, 3, 143, 0, []) := by decide +kernel
theorem d95_92 : decode (am_cod 95) 92 = .ok (.if_icmp .ge 51, 3) := by decide +kernel
theorem s95_92 (K : aK) : am_Snd K 95 92 := sn_icmp_ge i95_92 d95_92 rfl
theorem i95_95 : am_ins 95 95 = (33, 0, 1, 0, []) := by decide +kernel
theorem d95_95 : decode (am_cod 95) 95 = .ok (.aload_n 0, 1) := by decide +kernel
theorem s95_95 (K : aK) : am_Snd K 95 95 := sn_aload_n i95_95 d95_95 rfl
theorem i95_96 : am_ins 95 96 = (1, 3, 1, 0, []) := by decide +kernel
theorem d95_96 : decode (am_cod 95) 96 = .ok (.iload_n 3, 1) := by decide +kernel
theorem s95_96 (K : aK) : am_Snd K 95 96 := sn_iload_n i95_96 d95_96 rfl
theorem i95_97 : am_ins 95 97 = (1, 5, 2, 0, []) := by decide +kernel
theorem d95_97 : decode (am_cod 95) 97 = .ok (.iload 5, 2) := by decide +kernel
theorem s95_97 (K : aK) : am_Snd K 95 97 := sn_iload i95_97 d95_97 
theorem i95_99 : am_ins 95 99 = (1, 2, 1, 0, []) := by decide +kernel
theorem d95_99 : decode (am_cod 95) 99 = .ok (.iload_n 2, 1) := by decide +kernel
theorem s95_99 (K : aK) : am_Snd K 95 99 := sn_iload_n i95_99 d95_99 rfl
theorem i95_100 : am_ins 95 100 = (60, 83, 3, 0, []) := by decide +kernel
theorem d95_100 : decode (am_cod 95) 100 = .ok (.invokevirtual 153, 3) := by decide +kernel
theorem s95_100 (K : aK) : am_SndC K 95 100 := sc_V i95_100 d95_100 co83 w_614 w_616 ws_16 w_6 rfl (rr := (CN7, FT7, 24)) rfl rfl hd83
theorem i95_103 : am_ins 95 103 = (12, 0, 137, 0, []) := by decide +kernel
theorem d95_103 : decode (am_cod 95) 103 = .ok (.ifCond .eq 34, 3) := by decide +kernel
theorem s95_103 (K : aK) : am_Snd K 95 103 := sn_if_eq i95_103 d95_103 rfl
theorem i95_106 : am_ins 95 106 = (33, 0, 1, 0, []) := by decide +kernel
theorem d95_106 : decode (am_cod 95) 106 = .ok (.aload_n 0, 1) := by decide +kernel
theorem s95_106 (K : aK) : am_Snd K 95 106 := sn_aload_n i95_106 d95_106 rfl
theorem i95_107 : am_ins 95 107 = (1, 5, 2, 0, []) := by decide +kernel
theorem d95_107 : decode (am_cod 95) 107 = .ok (.iload 5, 2) := by decide +kernel
theorem s95_107 (K : aK) : am_Snd K 95 107 := sn_iload i95_107 d95_107 
theorem i95_109 : am_ins 95 109 = (1, 1, 1, 0, []) := by decide +kernel
theorem d95_109 : decode (am_cod 95) 109 = .ok (.iload_n 1, 1) := by decide +kernel
theorem s95_109 (K : aK) : am_Snd K 95 109 := sn_iload_n i95_109 d95_109 rfl
theorem i95_110 : am_ins 95 110 = (60, 81, 2, 0, []) := by decide +kernel
theorem d95_110 : decode (am_cod 95) 110 = .ok (.invokevirtual 147, 3) := by decide +kernel
theorem s95_110 (K : aK) : am_SndC K 95 110 := sc_V i95_110 d95_110 co81 w_595 w_597 ws_13 w_6 rfl (rr := (CN7, FT7, 24)) rfl rfl hd81
theorem i95_113 : am_ins 95 113 = (12, 0, 137, 0, []) := by decide +kernel
theorem d95_113 : decode (am_cod 95) 113 = .ok (.ifCond .eq 24, 3) := by decide +kernel
theorem s95_113 (K : aK) : am_Snd K 95 113 := sn_if_eq i95_113 d95_113 rfl
theorem i95_116 : am_ins 95 116 = (1, 4, 2, 0, []) := by decide +kernel
theorem d95_116 : decode (am_cod 95) 116 = .ok (.iload 4, 2) := by decide +kernel
theorem s95_116 (K : aK) : am_Snd K 95 116 := sn_iload i95_116 d95_116 
theorem i95_118 : am_ins 95 118 = (0, 1, 0, (-1), []) := by decide +kernel
theorem d95_118 : decode (am_cod 95) 118 = .ok (.iconst (-1), 1) := by decide +kernel
theorem s95_118 (K : aK) : am_Snd K 95 118 := sn_const1 i95_118 d95_118 rfl
theorem i95_119 : am_ins 95 119 = (13, 0, 133, 0, []) := by decide +kernel
theorem d95_119 : decode (am_cod 95) 119 = .ok (.if_icmp .eq 14, 3) := by decide +kernel
theorem s95_119 (K : aK) : am_Snd K 95 119 := sn_icmp_eq i95_119 d95_119 rfl
theorem i95_122 : am_ins 95 122 = (33, 0, 1, 0, []) := by decide +kernel
theorem d95_122 : decode (am_cod 95) 122 = .ok (.aload_n 0, 1) := by decide +kernel
theorem s95_122 (K : aK) : am_Snd K 95 122 := sn_aload_n i95_122 d95_122 rfl
theorem i95_123 : am_ins 95 123 = (1, 5, 2, 0, []) := by decide +kernel
theorem d95_123 : decode (am_cod 95) 123 = .ok (.iload 5, 2) := by decide +kernel
theorem s95_123 (K : aK) : am_Snd K 95 123 := sn_iload i95_123 d95_123 
theorem i95_125 : am_ins 95 125 = (1, 4, 2, 0, []) := by decide +kernel
theorem d95_125 : decode (am_cod 95) 125 = .ok (.iload 4, 2) := by decide +kernel
theorem s95_125 (K : aK) : am_Snd K 95 125 := sn_iload i95_125 d95_125 
theorem i95_127 : am_ins 95 127 = (60, 82, 2, 0, []) := by decide +kernel
theorem d95_127 : decode (am_cod 95) 127 = .ok (.invokevirtual 157, 3) := by decide +kernel
theorem s95_127 (K : aK) : am_SndC K 95 127 := sc_V i95_127 d95_127 co82 w_622 w_624 ws_18 w_6 rfl (rr := (CN7, FT7, 24)) rfl rfl hd82
theorem i95_130 : am_ins 95 130 = (12, 0, 137, 0, []) := by decide +kernel
theorem d95_130 : decode (am_cod 95) 130 = .ok (.ifCond .eq 7, 3) := by decide +kernel
theorem s95_130 (K : aK) : am_Snd K 95 130 := sn_if_eq i95_130 d95_130 rfl
theorem i95_133 : am_ins 95 133 = (1, 5, 2, 0, []) := by decide +kernel
theorem d95_133 : decode (am_cod 95) 133 = .ok (.iload 5, 2) := by decide +kernel
theorem s95_133 (K : aK) : am_Snd K 95 133 := sn_iload i95_133 d95_133 
theorem i95_135 : am_ins 95 135 = (2, 4, 2, 0, []) := by decide +kernel
theorem d95_135 : decode (am_cod 95) 135 = .ok (.istore 4, 2) := by decide +kernel
theorem s95_135 (K : aK) : am_Snd K 95 135 := sn_istore i95_135 d95_135 (by decide +kernel)
theorem i95_137 : am_ins 95 137 = (3, 5, 3, 1, []) := by decide +kernel
theorem d95_137 : decode (am_cod 95) 137 = .ok (.iinc 5 1, 3) := by decide +kernel
theorem s95_137 (K : aK) : am_Snd K 95 137 := sn_iinc i95_137 d95_137 rfl (by decide +kernel)
theorem i95_140 : am_ins 95 140 = (14, 86, 0, 0, []) := by decide +kernel
theorem d95_140 : decode (am_cod 95) 140 = .ok (.goto (-54), 3) := by decide +kernel
theorem s95_140 (K : aK) : am_Snd K 95 140 := sn_goto i95_140 d95_140 rfl
theorem i95_143 : am_ins 95 143 = (33, 0, 1, 0, []) := by decide +kernel
theorem d95_143 : decode (am_cod 95) 143 = .ok (.aload_n 0, 1) := by decide +kernel
theorem s95_143 (K : aK) : am_Snd K 95 143 := sn_aload_n i95_143 d95_143 rfl
theorem i95_144 : am_ins 95 144 = (18, 7, 21, 0, []) := by decide +kernel
theorem d95_144 : decode (am_cod 95) 144 = .ok (.getfield 71, 3) := by decide +kernel
theorem s95_144 (K : aK) : am_Snd K 95 144 := sn_get (C0 := CN7) (T := FT7) (Nf := 24) i95_144 d95_144 rfl (by decide +kernel) fin7 w_530 rfl
theorem i95_147 : am_ins 95 147 = (1, 1, 1, 0, []) := by decide +kernel
theorem d95_147 : decode (am_cod 95) 147 = .ok (.iload_n 1, 1) := by decide +kernel
theorem s95_147 (K : aK) : am_Snd K 95 147 := sn_iload_n i95_147 d95_147 rfl
theorem i95_148 : am_ins 95 148 = (1, 4, 2, 0, []) := by decide +kernel
theorem d95_148 : decode (am_cod 95) 148 = .ok (.iload 4, 2) := by decide +kernel
theorem s95_148 (K : aK) : am_Snd K 95 148 := sn_iload i95_148 d95_148 
theorem i95_150 : am_ins 95 150 = (0, 1, 0, (-1), []) := by decide +kernel
theorem d95_150 : decode (am_cod 95) 150 = .ok (.iconst (-1), 1) := by decide +kernel
theorem s95_150 (K : aK) : am_Snd K 95 150 := sn_const1 i95_150 d95_150 rfl
theorem i95_151 : am_ins 95 151 = (13, 1, 158, 0, []) := by decide +kernel
theorem d95_151 : decode (am_cod 95) 151 = .ok (.if_icmp .ne 7, 3) := by decide +kernel
theorem s95_151 (K : aK) : am_Snd K 95 151 := sn_icmp_ne i95_151 d95_151 rfl
theorem i95_154 : am_ins 95 154 = (0, 1, 0, 0, []) := by decide +kernel
theorem d95_154 : decode (am_cod 95) 154 = .ok (.iconst 0, 1) := by decide +kernel
theorem s95_154 (K : aK) : am_Snd K 95 154 := sn_const1 i95_154 d95_154 rfl
theorem i95_155 : am_ins 95 155 = (14, 170, 0, 0, []) := by decide +kernel
theorem d95_155 : decode (am_cod 95) 155 = .ok (.goto 15, 3) := by decide +kernel
theorem s95_155 (K : aK) : am_Snd K 95 155 := sn_goto i95_155 d95_155 rfl
theorem i95_158 : am_ins 95 158 = (33, 0, 1, 0, []) := by decide +kernel
theorem d95_158 : decode (am_cod 95) 158 = .ok (.aload_n 0, 1) := by decide +kernel
theorem s95_158 (K : aK) : am_Snd K 95 158 := sn_aload_n i95_158 d95_158 rfl
theorem i95_159 : am_ins 95 159 = (18, 7, 5, 0, []) := by decide +kernel
theorem d95_159 : decode (am_cod 95) 159 = .ok (.getfield 22, 3) := by decide +kernel
theorem s95_159 (K : aK) : am_Snd K 95 159 := sn_get (C0 := CN7) (T := FT7) (Nf := 24) i95_159 d95_159 rfl (by decide +kernel) fin7 w_514 rfl
theorem i95_162 : am_ins 95 162 = (0, 2, 0, 8, []) := by decide +kernel
theorem d95_162 : decode (am_cod 95) 162 = .ok (.bipush 8, 2) := by decide +kernel
theorem s95_162 (K : aK) : am_Snd K 95 162 := sn_const2 i95_162 d95_162 (by decide +kernel)
theorem i95_164 : am_ins 95 164 = (1, 4, 2, 0, []) := by decide +kernel
theorem d95_164 : decode (am_cod 95) 164 = .ok (.iload 4, 2) := by decide +kernel
theorem s95_164 (K : aK) : am_Snd K 95 164 := sn_iload i95_164 d95_164 
theorem i95_166 : am_ins 95 166 = (4, 2, 0, 0, []) := by decide +kernel
theorem d95_166 : decode (am_cod 95) 166 = .ok (.imul, 1) := by decide +kernel
theorem s95_166 (K : aK) : am_Snd K 95 166 := sn_mul i95_166 d95_166 
theorem i95_167 : am_ins 95 167 = (1, 2, 1, 0, []) := by decide +kernel
theorem d95_167 : decode (am_cod 95) 167 = .ok (.iload_n 2, 1) := by decide +kernel
theorem s95_167 (K : aK) : am_Snd K 95 167 := sn_iload_n i95_167 d95_167 rfl
theorem i95_168 : am_ins 95 168 = (4, 0, 0, 0, []) := by decide +kernel
theorem d95_168 : decode (am_cod 95) 168 = .ok (.iadd, 1) := by decide +kernel
theorem s95_168 (K : aK) : am_Snd K 95 168 := sn_add i95_168 d95_168 
theorem i95_169 : am_ins 95 169 = (22, 0, 0, 0, []) := by decide +kernel
theorem d95_169 : decode (am_cod 95) 169 = .ok (.iaload, 1) := by decide +kernel
theorem s95_169 (K : aK) : am_Snd K 95 169 := sn_iald i95_169 d95_169 
theorem i95_170 : am_ins 95 170 = (23, 0, 0, 0, []) := by decide +kernel
theorem d95_170 : decode (am_cod 95) 170 = .ok (.iastore, 1) := by decide +kernel
theorem s95_170 (K : aK) : am_Snd K 95 170 := sn_iast i95_170 d95_170 
theorem i95_171 : am_ins 95 171 = (1, 4, 2, 0, []) := by decide +kernel
theorem d95_171 : decode (am_cod 95) 171 = .ok (.iload 4, 2) := by decide +kernel
theorem s95_171 (K : aK) : am_Snd K 95 171 := sn_iload i95_171 d95_171 
theorem i95_173 : am_ins 95 173 = (0, 1, 0, (-1), []) := by decide +kernel
theorem d95_173 : decode (am_cod 95) 173 = .ok (.iconst (-1), 1) := by decide +kernel
theorem s95_173 (K : aK) : am_Snd K 95 173 := sn_const1 i95_173 d95_173 rfl
theorem i95_174 : am_ins 95 174 = (13, 1, 182, 0, []) := by decide +kernel
theorem d95_174 : decode (am_cod 95) 174 = .ok (.if_icmp .ne 8, 3) := by decide +kernel
theorem s95_174 (K : aK) : am_Snd K 95 174 := sn_icmp_ne i95_174 d95_174 rfl
theorem i95_177 : am_ins 95 177 = (0, 2, 0, (-3), []) := by decide +kernel
theorem d95_177 : decode (am_cod 95) 177 = .ok (.bipush (-3), 2) := by decide +kernel
theorem s95_177 (K : aK) : am_Snd K 95 177 := sn_const2 i95_177 d95_177 (by decide +kernel)
theorem i95_179 : am_ins 95 179 = (14, 184, 0, 0, []) := by decide +kernel
theorem d95_179 : decode (am_cod 95) 179 = .ok (.goto 5, 3) := by decide +kernel
theorem s95_179 (K : aK) : am_Snd K 95 179 := sn_goto i95_179 d95_179 rfl
theorem i95_182 : am_ins 95 182 = (1, 4, 2, 0, []) := by decide +kernel
theorem d95_182 : decode (am_cod 95) 182 = .ok (.iload 4, 2) := by decide +kernel
theorem s95_182 (K : aK) : am_Snd K 95 182 := sn_iload i95_182 d95_182 
theorem i95_184 : am_ins 95 184 = (50, 0, 0, 0, []) := by decide +kernel
theorem d95_184 : decode (am_cod 95) 184 = .ok (.ireturn, 1) := by decide +kernel
theorem s95_184 : am_SndR 95 184 := sn_iret i95_184 d95_184 rfl
theorem al95_0 (K : aK) : ∀ q ∈ [0, 1, 4, 7, 8, 11, 14, 15, 18, 19, 20, 21, 24, 25, 26, 27, 30, 31, 32, 33, 34, 35, 36, 37, 40, 41, 44, 45, 46, 49], am_All K 95 q := List.forall_mem_cons.mpr ⟨am_alS i95_0 (s95_0 K), List.forall_mem_cons.mpr ⟨am_alC i95_1 (s95_1 K), List.forall_mem_cons.mpr ⟨am_alS i95_4 (s95_4 K), List.forall_mem_cons.mpr ⟨am_alS i95_7 (s95_7 K), List.forall_mem_cons.mpr ⟨am_alC i95_8 (s95_8 K), List.forall_mem_cons.mpr ⟨am_alS i95_11 (s95_11 K), List.forall_mem_cons.mpr ⟨am_alS i95_14 (s95_14 K), List.forall_mem_cons.mpr ⟨am_alS i95_15 (s95_15 K), List.forall_mem_cons.mpr ⟨am_alS i95_18 (s95_18 K), List.forall_mem_cons.mpr ⟨am_alS i95_19 (s95_19 K), List.forall_mem_cons.mpr ⟨am_alS i95_20 (s95_20 K), List.forall_mem_cons.mpr ⟨am_alS i95_21 (s95_21 K), List.forall_mem_cons.mpr ⟨am_alS i95_24 (s95_24 K), List.forall_mem_cons.mpr ⟨am_alR i95_25 s95_25, List.forall_mem_cons.mpr ⟨am_alS i95_26 (s95_26 K), List.forall_mem_cons.mpr ⟨am_alS i95_27 (s95_27 K), List.forall_mem_cons.mpr ⟨am_alS i95_30 (s95_30 K), List.forall_mem_cons.mpr ⟨am_alS i95_31 (s95_31 K), List.forall_mem_cons.mpr ⟨am_alS i95_32 (s95_32 K), List.forall_mem_cons.mpr ⟨am_alS i95_33 (s95_33 K), List.forall_mem_cons.mpr ⟨am_alS i95_34 (s95_34 K), List.forall_mem_cons.mpr ⟨am_alS i95_35 (s95_35 K), List.forall_mem_cons.mpr ⟨am_alS i95_36 (s95_36 K), List.forall_mem_cons.mpr ⟨am_alS i95_37 (s95_37 K), List.forall_mem_cons.mpr ⟨am_alS i95_40 (s95_40 K), List.forall_mem_cons.mpr ⟨am_alS i95_41 (s95_41 K), List.forall_mem_cons.mpr ⟨am_alS i95_44 (s95_44 K), List.forall_mem_cons.mpr ⟨am_alS i95_45 (s95_45 K), List.forall_mem_cons.mpr ⟨am_alS i95_46 (s95_46 K), List.forall_mem_cons.mpr ⟨am_alS i95_49 (s95_49 K), fun _ h => absurd h List.not_mem_nil⟩⟩⟩⟩⟩⟩⟩⟩⟩⟩⟩⟩⟩⟩⟩⟩⟩⟩⟩⟩⟩⟩⟩⟩⟩⟩⟩⟩⟩⟩
theorem al95_1 (K : aK) : ∀ q ∈ [51, 52, 53, 54, 55, 56, 57, 59, 60, 61, 62, 63, 64, 65, 66, 67, 68, 69, 70, 71, 74, 76, 77, 78, 79, 80, 81, 83, 84, 86], am_All K 95 q := List.forall_mem_cons.mpr ⟨am_alS i95_51 (s95_51 K), List.forall_mem_cons.mpr ⟨am_alS i95_52 (s95_52 K), List.forall_mem_cons.mpr ⟨am_alS i95_53 (s95_53 K), List.forall_mem_cons.mpr ⟨am_alS i95_54 (s95_54 K), List.forall_mem_cons.mpr ⟨am_alS i95_55 (s95_55 K), List.forall_mem_cons.mpr ⟨am_alS i95_56 (s95_56 K), List.forall_mem_cons.mpr ⟨am_alS i95_57 (s95_57 K), List.forall_mem_cons.mpr ⟨am_alR i95_59 s95_59, List.forall_mem_cons.mpr ⟨am_alS i95_60 (s95_60 K), List.forall_mem_cons.mpr ⟨am_alS i95_61 (s95_61 K), List.forall_mem_cons.mpr ⟨am_alS i95_62 (s95_62 K), List.forall_mem_cons.mpr ⟨am_alS i95_63 (s95_63 K), List.forall_mem_cons.mpr ⟨am_alS i95_64 (s95_64 K), List.forall_mem_cons.mpr ⟨am_alS i95_65 (s95_65 K), List.forall_mem_cons.mpr ⟨am_alS i95_66 (s95_66 K), List.forall_mem_cons.mpr ⟨am_alS i95_67 (s95_67 K), List.forall_mem_cons.mpr ⟨am_alS i95_68 (s95_68 K), List.forall_mem_cons.mpr ⟨am_alS i95_69 (s95_69 K), List.forall_mem_cons.mpr ⟨am_alS i95_70 (s95_70 K), List.forall_mem_cons.mpr ⟨am_alS i95_71 (s95_71 K), List.forall_mem_cons.mpr ⟨am_alS i95_74 (s95_74 K), List.forall_mem_cons.mpr ⟨am_alS i95_76 (s95_76 K), List.forall_mem_cons.mpr ⟨am_alS i95_77 (s95_77 K), List.forall_mem_cons.mpr ⟨am_alS i95_78 (s95_78 K), List.forall_mem_cons.mpr ⟨am_alS i95_79 (s95_79 K), List.forall_mem_cons.mpr ⟨am_alS i95_80 (s95_80 K), List.forall_mem_cons.mpr ⟨am_alS i95_81 (s95_81 K), List.forall_mem_cons.mpr ⟨am_alS i95_83 (s95_83 K), List.forall_mem_cons.mpr ⟨am_alS i95_84 (s95_84 K), List.forall_mem_cons.mpr ⟨am_alS i95_86 (s95_86 K), fun _ h => absurd h List.not_mem_nil⟩⟩⟩⟩⟩⟩⟩⟩⟩⟩⟩⟩⟩⟩⟩⟩⟩⟩⟩⟩⟩⟩⟩⟩⟩⟩⟩⟩⟩⟩
theorem al95_2 (K : aK) : ∀ q ∈ [88, 89, 92, 95, 96, 97, 99, 100, 103, 106, 107, 109, 110, 113, 116, 118, 119, 122, 123, 125, 127, 130, 133, 135, 137, 140, 143, 144, 147, 148], am_All K 95 q := List.forall_mem_cons.mpr ⟨am_alS i95_88 (s95_88 K), List.forall_mem_cons.mpr ⟨am_alS i95_89 (s95_89 K), List.forall_mem_cons.mpr ⟨am_alS i95_92 (s95_92 K), List.forall_mem_cons.mpr ⟨am_alS i95_95 (s95_95 K), List.forall_mem_cons.mpr ⟨am_alS i95_96 (s95_96 K), List.forall_mem_cons.mpr ⟨am_alS i95_97 (s95_97 K), List.forall_mem_cons.mpr ⟨am_alS i95_99 (s95_99 K), List.forall_mem_cons.mpr ⟨am_alC i95_100 (s95_100 K), List.forall_mem_cons.mpr ⟨am_alS i95_103 (s95_103 K), List.forall_mem_cons.mpr ⟨am_alS i95_106 (s95_106 K), List.forall_mem_cons.mpr ⟨am_alS i95_107 (s95_107 K), List.forall_mem_cons.mpr ⟨am_alS i95_109 (s95_109 K), List.forall_mem_cons.mpr ⟨am_alC i95_110 (s95_110 K), List.forall_mem_cons.mpr ⟨am_alS i95_113 (s95_113 K), List.forall_mem_cons.mpr ⟨am_alS i95_116 (s95_116 K), List.forall_mem_cons.mpr ⟨am_alS i95_118 (s95_118 K), List.forall_mem_cons.mpr ⟨am_alS i95_119 (s95_119 K), List.forall_mem_cons.mpr ⟨am_alS i95_122 (s95_122 K), List.forall_mem_cons.mpr ⟨am_alS i95_123 (s95_123 K), List.forall_mem_cons.mpr ⟨am_alS i95_125 (s95_125 K), List.forall_mem_cons.mpr ⟨am_alC i95_127 (s95_127 K), List.forall_mem_cons.mpr ⟨am_alS i95_130 (s95_130 K), List.forall_mem_cons.mpr ⟨am_alS i95_133 (s95_133 K), List.forall_mem_cons.mpr ⟨am_alS i95_135 (s95_135 K), List.forall_mem_cons.mpr ⟨am_alS i95_137 (s95_137 K), List.forall_mem_cons.mpr ⟨am_alS i95_140 (s95_140 K), List.forall_mem_cons.mpr ⟨am_alS i95_143 (s95_143 K), List.forall_mem_cons.mpr ⟨am_alS i95_144 (s95_144 K), List.forall_mem_cons.mpr ⟨am_alS i95_147 (s95_147 K), List.forall_mem_cons.mpr ⟨am_alS i95_148 (s95_148 K), fun _ h => absurd h List.not_mem_nil⟩⟩⟩⟩⟩⟩⟩⟩⟩⟩⟩⟩⟩⟩⟩⟩⟩⟩⟩⟩⟩⟩⟩⟩⟩⟩⟩⟩⟩⟩
theorem al95_3 (K : aK) : ∀ q ∈ [150, 151, 154, 155, 158, 159, 162, 164, 166, 167, 168, 169, 170, 171, 173, 174, 177, 179, 182, 184], am_All K 95 q := List.forall_mem_cons.mpr ⟨am_alS i95_150 (s95_150 K), List.forall_mem_cons.mpr ⟨am_alS i95_151 (s95_151 K), List.forall_mem_cons.mpr ⟨am_alS i95_154 (s95_154 K), List.forall_mem_cons.mpr ⟨am_alS i95_155 (s95_155 K), List.forall_mem_cons.mpr ⟨am_alS i95_158 (s95_158 K), List.forall_mem_cons.mpr ⟨am_alS i95_159 (s95_159 K), List.forall_mem_cons.mpr ⟨am_alS i95_162 (s95_162 K), List.forall_mem_cons.mpr ⟨am_alS i95_164 (s95_164 K), List.forall_mem_cons.mpr ⟨am_alS i95_166 (s95_166 K), List.forall_mem_cons.mpr ⟨am_alS i95_167 (s95_167 K), List.forall_mem_cons.mpr ⟨am_alS i95_168 (s95_168 K), List.forall_mem_cons.mpr ⟨am_alS i95_169 (s95_169 K), List.forall_mem_cons.mpr ⟨am_alS i95_170 (s95_170 K), List.forall_mem_cons.mpr ⟨am_alS i95_171 (s95_171 K), List.forall_mem_cons.mpr ⟨am_alS i95_173 (s95_173 K), List.forall_mem_cons.mpr ⟨am_alS i95_174 (s95_174 K), List.forall_mem_cons.mpr ⟨am_alS i95_177 (s95_177 K), List.forall_mem_cons.mpr ⟨am_alS i95_179 (s95_179 K), List.forall_mem_cons.mpr ⟨am_alS i95_182 (s95_182 K), List.forall_mem_cons.mpr ⟨am_alR i95_184 s95_184, fun _ h => absurd h List.not_mem_nil⟩⟩⟩⟩⟩⟩⟩⟩⟩⟩⟩⟩⟩⟩⟩⟩⟩⟩⟩⟩
set_option maxRecDepth 100000 in
theorem al95 (K : aK) : ∀ q ∈ (am_t95).map (fun z => z.1), am_All K 95 q := by
  have e : (am_t95).map (fun z => z.1) = [0, 1, 4, 7, 8, 11, 14, 15, 18, 19, 20, 21, 24, 25, 26, 27, 30, 31, 32, 33, 34, 35, 36, 37, 40, 41, 44, 45, 46, 49] ++ ([51, 52, 53, 54, 55, 56, 57, 59, 60, 61, 62, 63, 64, 65, 66, 67, 68, 69, 70, 71, 74, 76, 77, 78, 79, 80, 81, 83, 84, 86] ++ ([88, 89, 92, 95, 96, 97, 99, 100, 103, 106, 107, 109, 110, 113, 116, 118, 119, 122, 123, 125, 127, 130, 133, 135, 137, 140, 143, 144, 147, 148] ++ ([150, 151, 154, 155, 158, 159, 162, 164, 166, 167, 168, 169, 170, 171, 173, 174, 177, 179, 182, 184]))) := rfl
  rw [e]
  exact List.forall_mem_append.mpr ⟨al95_0 K, List.forall_mem_append.mpr ⟨al95_1 K, List.forall_mem_append.mpr ⟨al95_2 K, al95_3 K⟩⟩⟩
theorem i96_0 : am_ins 96 0 = (1, 1, 1, 0, []) := by decide +kernel
theorem d96_0 : decode (am_cod 96) 0 = .ok (.iload_n 1, 1) := by decide +kernel
theorem s96_0 (K : aK) : am_Snd K 96 0 := sn_iload_n i96_0 d96_0 rfl
theorem i96_1 : am_ins 96 1 = (61, 72, 1, 0, []) := by decide +kernel
theorem d96_1 : decode (am_cod 96) 1 = .ok (.invokestatic 141, 3) := by decide +kernel
theorem s96_1 (K : aK) : am_SndC K 96 1 := sc_S i96_1 d96_1 co72 w_586 w_587 w_6 hd72
theorem i96_4 : am_ins 96 4 = (12, 0, 16, 0, []) := by decide +kernel
theorem d96_4 : decode (am_cod 96) 4 = .ok (.ifCond .eq 12, 3) := by decide +kernel
theorem s96_4 (K : aK) : am_Snd K 96 4 := sn_if_eq i96_4 d96_4 rfl
theorem i96_7 : am_ins 96 7 = (33, 0, 1, 0, []) := by decide +kernel
theorem d96_7 : decode (am_cod 96) 7 = .ok (.aload_n 0, 1) := by decide +kernel
theorem s96_7 (K : aK) : am_Snd K 96 7 := sn_aload_n i96_7 d96_7 rfl
theorem i96_8 : am_ins 96 8 = (18, 7, 21, 0, []) := by decide +kernel
theorem d96_8 : decode (am_cod 96) 8 = .ok (.getfield 71, 3) := by decide +kernel
theorem s96_8 (K : aK) : am_Snd K 96 8 := sn_get (C0 := CN7) (T := FT7) (Nf := 24) i96_8 d96_8 rfl (by decide +kernel) fin7 w_530 rfl
theorem i96_11 : am_ins 96 11 = (1, 1, 1, 0, []) := by decide +kernel
theorem d96_11 : decode (am_cod 96) 11 = .ok (.iload_n 1, 1) := by decide +kernel
theorem s96_11 (K : aK) : am_Snd K 96 11 := sn_iload_n i96_11 d96_11 rfl
theorem i96_12 : am_ins 96 12 = (22, 0, 0, 0, []) := by decide +kernel
theorem d96_12 : decode (am_cod 96) 12 = .ok (.iaload, 1) := by decide +kernel
theorem s96_12 (K : aK) : am_Snd K 96 12 := sn_iald i96_12 d96_12 
theorem i96_13 : am_ins 96 13 = (14, 17, 0, 0, []) := by decide +kernel
theorem d96_13 : decode (am_cod 96) 13 = .ok (.goto 4, 3) := by decide +kernel
theorem s96_13 (K : aK) : am_Snd K 96 13 := sn_goto i96_13 d96_13 rfl
theorem i96_16 : am_ins 96 16 = (0, 1, 0, 0, []) := by decide +kernel
theorem d96_16 : decode (am_cod 96) 16 = .ok (.iconst 0, 1) := by decide +kernel
theorem s96_16 (K : aK) : am_Snd K 96 16 := sn_const1 i96_16 d96_16 rfl
theorem i96_17 : am_ins 96 17 = (50, 0, 0, 0, []) := by decide +kernel
theorem d96_17 : decode (am_cod 96) 17 = .ok (.ireturn, 1) := by decide +kernel
theorem s96_17 : am_SndR 96 17 := sn_iret i96_17 d96_17 rfl
theorem al96_0 (K : aK) : ∀ q ∈ [0, 1, 4, 7, 8, 11, 12, 13, 16, 17], am_All K 96 q := List.forall_mem_cons.mpr ⟨am_alS i96_0 (s96_0 K), List.forall_mem_cons.mpr ⟨am_alC i96_1 (s96_1 K), List.forall_mem_cons.mpr ⟨am_alS i96_4 (s96_4 K), List.forall_mem_cons.mpr ⟨am_alS i96_7 (s96_7 K), List.forall_mem_cons.mpr ⟨am_alS i96_8 (s96_8 K), List.forall_mem_cons.mpr ⟨am_alS i96_11 (s96_11 K), List.forall_mem_cons.mpr ⟨am_alS i96_12 (s96_12 K), List.forall_mem_cons.mpr ⟨am_alS i96_13 (s96_13 K), List.forall_mem_cons.mpr ⟨am_alS i96_16 (s96_16 K), List.forall_mem_cons.mpr ⟨am_alR i96_17 s96_17, fun _ h => absurd h List.not_mem_nil⟩⟩⟩⟩⟩⟩⟩⟩⟩⟩
set_option maxRecDepth 100000 in
theorem al96 (K : aK) : ∀ q ∈ (am_t96).map (fun z => z.1), am_All K 96 q := by
  have e : (am_t96).map (fun z => z.1) = [0, 1, 4, 7, 8, 11, 12, 13, 16, 17] := rfl
  rw [e]
  exact al96_0 K
theorem i97_0 : am_ins 97 0 = (1, 1, 1, 0, []) := by decide +kernel
theorem d97_0 : decode (am_cod 97) 0 = .ok (.iload_n 1, 1) := by decide +kernel
theorem s97_0 (K : aK) : am_Snd K 97 0 := sn_iload_n i97_0 d97_0 rfl
theorem i97_1 : am_ins 97 1 = (61, 72, 1, 0, []) := by decide +kernel
theorem d97_1 : decode (am_cod 97) 1 = .ok (.invokestatic 141, 3) := by decide +kernel
theorem s97_1 (K : aK) : am_SndC K 97 1 := sc_S i97_1 d97_1 co72 w_586 w_587 w_6 hd72
theorem i97_4 : am_ins 97 4 = (12, 0, 24, 0, []) := by decide +kernel
theorem d97_4 : decode (am_cod 97) 4 = .ok (.ifCond .eq 20, 3) := by decide +kernel
theorem s97_4 (K : aK) : am_Snd K 97 4 := sn_if_eq i97_4 d97_4 rfl
theorem i97_7 : am_ins 97 7 = (1, 2, 1, 0, []) := by decide +kernel
theorem d97_7 : decode (am_cod 97) 7 = .ok (.iload_n 2, 1) := by decide +kernel
theorem s97_7 (K : aK) : am_Snd K 97 7 := sn_iload_n i97_7 d97_7 rfl
theorem i97_8 : am_ins 97 8 = (61, 74, 1, 0, []) := by decide +kernel
theorem d97_8 : decode (am_cod 97) 8 = .ok (.invokestatic 150, 3) := by decide +kernel
theorem s97_8 (K : aK) : am_SndC K 97 8 := sc_S i97_8 d97_8 co74 w_611 w_612 w_6 hd74
theorem i97_11 : am_ins 97 11 = (12, 0, 24, 0, []) := by decide +kernel
theorem d97_11 : decode (am_cod 97) 11 = .ok (.ifCond .eq 13, 3) := by decide +kernel
theorem s97_11 (K : aK) : am_Snd K 97 11 := sn_if_eq i97_11 d97_11 rfl
theorem i97_14 : am_ins 97 14 = (33, 0, 1, 0, []) := by decide +kernel
theorem d97_14 : decode (am_cod 97) 14 = .ok (.aload_n 0, 1) := by decide +kernel
theorem s97_14 (K : aK) : am_Snd K 97 14 := sn_aload_n i97_14 d97_14 rfl
theorem i97_15 : am_ins 97 15 = (18, 7, 15, 0, []) := by decide +kernel
theorem d97_15 : decode (am_cod 97) 15 = .ok (.getfield 53, 3) := by decide +kernel
theorem s97_15 (K : aK) : am_Snd K 97 15 := sn_get (C0 := CN7) (T := FT7) (Nf := 24) i97_15 d97_15 rfl (by decide +kernel) fin7 w_524 rfl
theorem i97_18 : am_ins 97 18 = (1, 1, 1, 0, []) := by decide +kernel
theorem d97_18 : decode (am_cod 97) 18 = .ok (.iload_n 1, 1) := by decide +kernel
theorem s97_18 (K : aK) : am_Snd K 97 18 := sn_iload_n i97_18 d97_18 rfl
theorem i97_19 : am_ins 97 19 = (22, 0, 0, 0, []) := by decide +kernel
theorem d97_19 : decode (am_cod 97) 19 = .ok (.iaload, 1) := by decide +kernel
theorem s97_19 (K : aK) : am_Snd K 97 19 := sn_iald i97_19 d97_19 
theorem i97_20 : am_ins 97 20 = (0, 1, 0, 1, []) := by decide +kernel
theorem d97_20 : decode (am_cod 97) 20 = .ok (.iconst 1, 1) := by decide +kernel
theorem s97_20 (K : aK) : am_Snd K 97 20 := sn_const1 i97_20 d97_20 rfl
theorem i97_21 : am_ins 97 21 = (13, 0, 26, 0, []) := by decide +kernel
theorem d97_21 : decode (am_cod 97) 21 = .ok (.if_icmp .eq 5, 3) := by decide +kernel
theorem s97_21 (K : aK) : am_Snd K 97 21 := sn_icmp_eq i97_21 d97_21 rfl
theorem i97_24 : am_ins 97 24 = (0, 1, 0, 0, []) := by decide +kernel
theorem d97_24 : decode (am_cod 97) 24 = .ok (.iconst 0, 1) := by decide +kernel
theorem s97_24 (K : aK) : am_Snd K 97 24 := sn_const1 i97_24 d97_24 rfl
theorem i97_25 : am_ins 97 25 = (51, 0, 0, 0, []) := by decide +kernel
theorem d97_25 : decode (am_cod 97) 25 = .ok (.ireturn, 1) := by decide +kernel
theorem s97_25 : am_SndR 97 25 := sn_zret i97_25 d97_25 rfl
theorem i97_26 : am_ins 97 26 = (33, 0, 1, 0, []) := by decide +kernel
theorem d97_26 : decode (am_cod 97) 26 = .ok (.aload_n 0, 1) := by decide +kernel
theorem s97_26 (K : aK) : am_Snd K 97 26 := sn_aload_n i97_26 d97_26 rfl
theorem i97_27 : am_ins 97 27 = (18, 7, 19, 0, []) := by decide +kernel
theorem d97_27 : decode (am_cod 97) 27 = .ok (.getfield 65, 3) := by decide +kernel
theorem s97_27 (K : aK) : am_Snd K 97 27 := sn_get (C0 := CN7) (T := FT7) (Nf := 24) i97_27 d97_27 rfl (by decide +kernel) fin7 w_528 rfl
theorem i97_30 : am_ins 97 30 = (1, 1, 1, 0, []) := by decide +kernel
theorem d97_30 : decode (am_cod 97) 30 = .ok (.iload_n 1, 1) := by decide +kernel
theorem s97_30 (K : aK) : am_Snd K 97 30 := sn_iload_n i97_30 d97_30 rfl
theorem i97_31 : am_ins 97 31 = (10, 0, 0, 0, []) := by decide +kernel
theorem d97_31 : decode (am_cod 97) 31 = .ok (.dup2, 1) := by decide +kernel
theorem s97_31 (K : aK) : am_Snd K 97 31 := sn_dup2 i97_31 d97_31 
theorem i97_32 : am_ins 97 32 = (22, 0, 0, 0, []) := by decide +kernel
theorem d97_32 : decode (am_cod 97) 32 = .ok (.iaload, 1) := by decide +kernel
theorem s97_32 (K : aK) : am_Snd K 97 32 := sn_iald i97_32 d97_32 
theorem i97_33 : am_ins 97 33 = (0, 1, 0, 1, []) := by decide +kernel
theorem d97_33 : decode (am_cod 97) 33 = .ok (.iconst 1, 1) := by decide +kernel
theorem s97_33 (K : aK) : am_Snd K 97 33 := sn_const1 i97_33 d97_33 rfl
theorem i97_34 : am_ins 97 34 = (1, 2, 1, 0, []) := by decide +kernel
theorem d97_34 : decode (am_cod 97) 34 = .ok (.iload_n 2, 1) := by decide +kernel
theorem s97_34 (K : aK) : am_Snd K 97 34 := sn_iload_n i97_34 d97_34 rfl
theorem i97_35 : am_ins 97 35 = (4, 6, 0, 0, []) := by decide +kernel
theorem d97_35 : decode (am_cod 97) 35 = .ok (.ishl, 1) := by decide +kernel
theorem s97_35 (K : aK) : am_Snd K 97 35 := sn_shl i97_35 d97_35 
theorem i97_36 : am_ins 97 36 = (4, 4, 0, 0, []) := by decide +kernel
theorem d97_36 : decode (am_cod 97) 36 = .ok (.ior, 1) := by decide +kernel
theorem s97_36 (K : aK) : am_Snd K 97 36 := sn_or i97_36 d97_36 
theorem i97_37 : am_ins 97 37 = (23, 0, 0, 0, []) := by decide +kernel
theorem d97_37 : decode (am_cod 97) 37 = .ok (.iastore, 1) := by decide +kernel
theorem s97_37 (K : aK) : am_Snd K 97 37 := sn_iast i97_37 d97_37 
theorem i97_38 : am_ins 97 38 = (33, 0, 1, 0, []) := by decide +kernel
theorem d97_38 : decode (am_cod 97) 38 = .ok (.aload_n 0, 1) := by decide +kernel
theorem s97_38 (K : aK) : am_Snd K 97 38 := sn_aload_n i97_38 d97_38 rfl
theorem i97_39 : am_ins 97 39 = (18, 7, 20, 0, []) := by decide +kernel
theorem d97_39 : decode (am_cod 97) 39 = .ok (.getfield 68, 3) := by decide +kernel
theorem s97_39 (K : aK) : am_Snd K 97 39 := sn_get (C0 := CN7) (T := FT7) (Nf := 24) i97_39 d97_39 rfl (by decide +kernel) fin7 w_529 rfl
theorem i97_42 : am_ins 97 42 = (0, 2, 0, 8, []) := by decide +kernel
theorem d97_42 : decode (am_cod 97) 42 = .ok (.bipush 8, 2) := by decide +kernel
theorem s97_42 (K : aK) : am_Snd K 97 42 := sn_const2 i97_42 d97_42 (by decide +kernel)
theorem i97_44 : am_ins 97 44 = (1, 1, 1, 0, []) := by decide +kernel
theorem d97_44 : decode (am_cod 97) 44 = .ok (.iload_n 1, 1) := by decide +kernel
theorem s97_44 (K : aK) : am_Snd K 97 44 := sn_iload_n i97_44 d97_44 rfl
theorem i97_45 : am_ins 97 45 = (4, 2, 0, 0, []) := by decide +kernel
theorem d97_45 : decode (am_cod 97) 45 = .ok (.imul, 1) := by decide +kernel
theorem s97_45 (K : aK) : am_Snd K 97 45 := sn_mul i97_45 d97_45 
theorem i97_46 : am_ins 97 46 = (1, 2, 1, 0, []) := by decide +kernel
theorem d97_46 : decode (am_cod 97) 46 = .ok (.iload_n 2, 1) := by decide +kernel
theorem s97_46 (K : aK) : am_Snd K 97 46 := sn_iload_n i97_46 d97_46 rfl
theorem i97_47 : am_ins 97 47 = (4, 0, 0, 0, []) := by decide +kernel
theorem d97_47 : decode (am_cod 97) 47 = .ok (.iadd, 1) := by decide +kernel
theorem s97_47 (K : aK) : am_Snd K 97 47 := sn_add i97_47 d97_47 
theorem i97_48 : am_ins 97 48 = (1, 3, 1, 0, []) := by decide +kernel
theorem d97_48 : decode (am_cod 97) 48 = .ok (.iload_n 3, 1) := by decide +kernel
theorem s97_48 (K : aK) : am_Snd K 97 48 := sn_iload_n i97_48 d97_48 rfl
theorem i97_49 : am_ins 97 49 = (23, 0, 0, 0, []) := by decide +kernel
theorem d97_49 : decode (am_cod 97) 49 = .ok (.iastore, 1) := by decide +kernel
theorem s97_49 (K : aK) : am_Snd K 97 49 := sn_iast i97_49 d97_49 
theorem i97_50 : am_ins 97 50 = (0, 1, 0, 1, []) := by decide +kernel
theorem d97_50 : decode (am_cod 97) 50 = .ok (.iconst 1, 1) := by decide +kernel
theorem s97_50 (K : aK) : am_Snd K 97 50 := sn_const1 i97_50 d97_50 rfl
theorem i97_51 : am_ins 97 51 = (51, 0, 0, 0, []) := by decide +kernel
theorem d97_51 : decode (am_cod 97) 51 = .ok (.ireturn, 1) := by decide +kernel
theorem s97_51 : am_SndR 97 51 := sn_zret i97_51 d97_51 rfl
theorem al97_0 (K : aK) : ∀ q ∈ [0, 1, 4, 7, 8, 11, 14, 15, 18, 19, 20, 21, 24, 25, 26, 27, 30, 31, 32, 33, 34, 35, 36, 37, 38, 39, 42, 44, 45, 46], am_All K 97 q := List.forall_mem_cons.mpr ⟨am_alS i97_0 (s97_0 K), List.forall_mem_cons.mpr ⟨am_alC i97_1 (s97_1 K), List.forall_mem_cons.mpr ⟨am_alS i97_4 (s97_4 K), List.forall_mem_cons.mpr ⟨am_alS i97_7 (s97_7 K), List.forall_mem_cons.mpr ⟨am_alC i97_8 (s97_8 K), List.forall_mem_cons.mpr ⟨am_alS i97_11 (s97_11 K), List.forall_mem_cons.mpr ⟨am_alS i97_14 (s97_14 K), List.forall_mem_cons.mpr ⟨am_alS i97_15 (s97_15 K), List.forall_mem_cons.mpr ⟨am_alS i97_18 (s97_18 K), List.forall_mem_cons.mpr ⟨am_alS i97_19 (s97_19 K), List.forall_mem_cons.mpr ⟨am_alS i97_20 (s97_20 K), List.forall_mem_cons.mpr ⟨am_alS i97_21 (s97_21 K), List.forall_mem_cons.mpr ⟨am_alS i97_24 (s97_24 K), List.forall_mem_cons.mpr ⟨am_alR i97_25 s97_25, List.forall_mem_cons.mpr ⟨am_alS i97_26 (s97_26 K), List.forall_mem_cons.mpr ⟨am_alS i97_27 (s97_27 K), List.forall_mem_cons.mpr ⟨am_alS i97_30 (s97_30 K), List.forall_mem_cons.mpr ⟨am_alS i97_31 (s97_31 K), List.forall_mem_cons.mpr ⟨am_alS i97_32 (s97_32 K), List.forall_mem_cons.mpr ⟨am_alS i97_33 (s97_33 K), List.forall_mem_cons.mpr ⟨am_alS i97_34 (s97_34 K), List.forall_mem_cons.mpr ⟨am_alS i97_35 (s97_35 K), List.forall_mem_cons.mpr ⟨am_alS i97_36 (s97_36 K), List.forall_mem_cons.mpr ⟨am_alS i97_37 (s97_37 K), List.forall_mem_cons.mpr ⟨am_alS i97_38 (s97_38 K), List.forall_mem_cons.mpr ⟨am_alS i97_39 (s97_39 K), List.forall_mem_cons.mpr ⟨am_alS i97_42 (s97_42 K), List.forall_mem_cons.mpr ⟨am_alS i97_44 (s97_44 K), List.forall_mem_cons.mpr ⟨am_alS i97_45 (s97_45 K), List.forall_mem_cons.mpr ⟨am_alS i97_46 (s97_46 K), fun _ h => absurd h List.not_mem_nil⟩⟩⟩⟩⟩⟩⟩⟩⟩⟩⟩⟩⟩⟩⟩⟩⟩⟩⟩⟩⟩⟩⟩⟩⟩⟩⟩⟩⟩⟩
theorem al97_1 (K : aK) : ∀ q ∈ [47, 48, 49, 50, 51], am_All K 97 q := List.forall_mem_cons.mpr ⟨am_alS i97_47 (s97_47 K), List.forall_mem_cons.mpr ⟨am_alS i97_48 (s97_48 K), List.forall_mem_cons.mpr ⟨am_alS i97_49 (s97_49 K), List.forall_mem_cons.mpr ⟨am_alS i97_50 (s97_50 K), List.forall_mem_cons.mpr ⟨am_alR i97_51 s97_51, fun _ h => absurd h List.not_mem_nil⟩⟩⟩⟩⟩
set_option maxRecDepth 100000 in
theorem al97 (K : aK) : ∀ q ∈ (am_t97).map (fun z => z.1), am_All K 97 q := by
  have e : (am_t97).map (fun z => z.1) = [0, 1, 4, 7, 8, 11, 14, 15, 18, 19, 20, 21, 24, 25, 26, 27, 30, 31, 32, 33, 34, 35, 36, 37, 38, 39, 42, 44, 45, 46] ++ ([47, 48, 49, 50, 51]) := rfl
  rw [e]
  exact List.forall_mem_append.mpr ⟨al97_0 K, al97_1 K⟩
theorem i98_0 : am_ins 98 0 = (1, 1, 1, 0, []) := by decide +kernel
theorem d98_0 : decode (am_cod 98) 0 = .ok (.iload_n 1, 1) := by decide +kernel
theorem s98_0 (K : aK) : am_Snd K 98 0 := sn_iload_n i98_0 d98_0 rfl
theorem i98_1 : am_ins 98 1 = (61, 72, 1, 0, []) := by decide +kernel
theorem d98_1 : decode (am_cod 98) 1 = .ok (.invokestatic 141, 3) := by decide +kernel
theorem s98_1 (K : aK) : am_SndC K 98 1 := sc_S i98_1 d98_1 co72 w_586 w_587 w_6 hd72
theorem i98_4 : am_ins 98 4 = (12, 0, 17, 0, []) := by decide +kernel
theorem d98_4 : decode (am_cod 98) 4 = .ok (.ifCond .eq 13, 3) := by decide +kernel
theorem s98_4 (K : aK) : am_Snd K 98 4 := sn_if_eq i98_4 d98_4 rfl
theorem i98_7 : am_ins 98 7 = (33, 0, 1, 0, []) := by decide +kernel
theorem d98_7 : decode (am_cod 98) 7 = .ok (.aload_n 0, 1) := by decide +kernel
theorem s98_7 (K : aK) : am_Snd K 98 7 := sn_aload_n i98_7 d98_7 rfl
theorem i98_8 : am_ins 98 8 = (18, 7, 15, 0, []) := by decide +kernel
theorem d98_8 : decode (am_cod 98) 8 = .ok (.getfield 53, 3) := by decide +kernel
theorem s98_8 (K : aK) : am_Snd K 98 8 := sn_get (C0 := CN7) (T := FT7) (Nf := 24) i98_8 d98_8 rfl (by decide +kernel) fin7 w_524 rfl
theorem i98_11 : am_ins 98 11 = (1, 1, 1, 0, []) := by decide +kernel
theorem d98_11 : decode (am_cod 98) 11 = .ok (.iload_n 1, 1) := by decide +kernel
theorem s98_11 (K : aK) : am_Snd K 98 11 := sn_iload_n i98_11 d98_11 rfl
theorem i98_12 : am_ins 98 12 = (22, 0, 0, 0, []) := by decide +kernel
theorem d98_12 : decode (am_cod 98) 12 = .ok (.iaload, 1) := by decide +kernel
theorem s98_12 (K : aK) : am_Snd K 98 12 := sn_iald i98_12 d98_12 
theorem i98_13 : am_ins 98 13 = (0, 1, 0, 1, []) := by decide +kernel
theorem d98_13 : decode (am_cod 98) 13 = .ok (.iconst 1, 1) := by decide +kernel
theorem s98_13 (K : aK) : am_Snd K 98 13 := sn_const1 i98_13 d98_13 rfl
theorem i98_14 : am_ins 98 14 = (13, 0, 19, 0, []) := by decide +kernel
theorem d98_14 : decode (am_cod 98) 14 = .ok (.if_icmp .eq 5, 3) := by decide +kernel
theorem s98_14 (K : aK) : am_Snd K 98 14 := sn_icmp_eq i98_14 d98_14 rfl
theorem i98_17 : am_ins 98 17 = (0, 1, 0, (-1), []) := by decide +kernel
theorem d98_17 : decode (am_cod 98) 17 = .ok (.iconst (-1), 1) := by decide +kernel
theorem s98_17 (K : aK) : am_Snd K 98 17 := sn_const1 i98_17 d98_17 rfl
theorem i98_18 : am_ins 98 18 = (50, 0, 0, 0, []) := by decide +kernel
theorem d98_18 : decode (am_cod 98) 18 = .ok (.ireturn, 1) := by decide +kernel
theorem s98_18 : am_SndR 98 18 := sn_iret i98_18 d98_18 rfl
theorem i98_19 : am_ins 98 19 = (33, 0, 1, 0, []) := by decide +kernel
theorem d98_19 : decode (am_cod 98) 19 = .ok (.aload_n 0, 1) := by decide +kernel
theorem s98_19 (K : aK) : am_Snd K 98 19 := sn_aload_n i98_19 d98_19 rfl
theorem i98_20 : am_ins 98 20 = (18, 7, 19, 0, []) := by decide +kernel
theorem d98_20 : decode (am_cod 98) 20 = .ok (.getfield 65, 3) := by decide +kernel
theorem s98_20 (K : aK) : am_Snd K 98 20 := sn_get (C0 := CN7) (T := FT7) (Nf := 24) i98_20 d98_20 rfl (by decide +kernel) fin7 w_528 rfl
theorem i98_23 : am_ins 98 23 = (1, 1, 1, 0, []) := by decide +kernel
theorem d98_23 : decode (am_cod 98) 23 = .ok (.iload_n 1, 1) := by decide +kernel
theorem s98_23 (K : aK) : am_Snd K 98 23 := sn_iload_n i98_23 d98_23 rfl
theorem i98_24 : am_ins 98 24 = (22, 0, 0, 0, []) := by decide +kernel
theorem d98_24 : decode (am_cod 98) 24 = .ok (.iaload, 1) := by decide +kernel
theorem s98_24 (K : aK) : am_Snd K 98 24 := sn_iald i98_24 d98_24 
theorem i98_25 : am_ins 98 25 = (12, 1, 38, 0, []) := by decide +kernel
theorem d98_25 : decode (am_cod 98) 25 = .ok (.ifCond .ne 13, 3) := by decide +kernel
theorem s98_25 (K : aK) : am_Snd K 98 25 := sn_if_ne i98_25 d98_25 rfl
theorem i98_28 : am_ins 98 28 = (33, 0, 1, 0, []) := by decide +kernel
theorem d98_28 : decode (am_cod 98) 28 = .ok (.aload_n 0, 1) := by decide +kernel
theorem s98_28 (K : aK) : am_Snd K 98 28 := sn_aload_n i98_28 d98_28 rfl
theorem i98_29 : am_ins 98 29 = (18, 7, 15, 0, []) := by decide +kernel
theorem d98_29 : decode (am_cod 98) 29 = .ok (.getfield 53, 3) := by decide +kernel
theorem s98_29 (K : aK) : am_Snd K 98 29 := sn_get (C0 := CN7) (T := FT7) (Nf := 24) i98_29 d98_29 rfl (by decide +kernel) fin7 w_524 rfl
theorem i98_32 : am_ins 98 32 = (1, 1, 1, 0, []) := by decide +kernel
theorem d98_32 : decode (am_cod 98) 32 = .ok (.iload_n 1, 1) := by decide +kernel
theorem s98_32 (K : aK) : am_Snd K 98 32 := sn_iload_n i98_32 d98_32 rfl
theorem i98_33 : am_ins 98 33 = (0, 1, 0, 0, []) := by decide +kernel
theorem d98_33 : decode (am_cod 98) 33 = .ok (.iconst 0, 1) := by decide +kernel
theorem s98_33 (K : aK) : am_Snd K 98 33 := sn_const1 i98_33 d98_33 rfl
theorem i98_34 : am_ins 98 34 = (23, 0, 0, 0, []) := by decide +kernel
theorem d98_34 : decode (am_cod 98) 34 = .ok (.iastore, 1) := by decide +kernel
theorem s98_34 (K : aK) : am_Snd K 98 34 := sn_iast i98_34 d98_34 
theorem i98_35 : am_ins 98 35 = (0, 2, 0, (-2), []) := by decide +kernel
theorem d98_35 : decode (am_cod 98) 35 = .ok (.bipush (-2), 2) := by decide +kernel
theorem s98_35 (K : aK) : am_Snd K 98 35 := sn_const2 i98_35 d98_35 (by decide +kernel)
theorem i98_37 : am_ins 98 37 = (50, 0, 0, 0, []) := by decide +kernel
theorem d98_37 : decode (am_cod 98) 37 = .ok (.ireturn, 1) := by decide +kernel
theorem s98_37 : am_SndR 98 37 := sn_iret i98_37 d98_37 rfl
theorem i98_38 : am_ins 98 38 = (33, 0, 1, 0, []) := by decide +kernel
theorem d98_38 : decode (am_cod 98) 38 = .ok (.aload_n 0, 1) := by decide +kernel
theorem s98_38 (K : aK) : am_Snd K 98 38 := sn_aload_n i98_38 d98_38 rfl
theorem i98_39 : am_ins 98 39 = (18, 7, 0, 0, []) := by decide +kernel
theorem d98_39 : decode (am_cod 98) 39 = .ok (.getfield 132, 3) := by decide +kernel
theorem s98_39 (K : aK) : am_Snd K 98 39 := sn_get (C0 := CN7) (T := FT7) (Nf := 24) i98_39 d98_39 rfl (by decide +kernel) fin7 w_509 rfl
theorem i98_42 : am_ins 98 42 = (0, 3, 0, 200, []) := by decide +kernel
theorem d98_42 : decode (am_cod 98) 42 = .ok (.sipush 200, 3) := by decide +kernel
theorem s98_42 (K : aK) : am_Snd K 98 42 := sn_const3 i98_42 d98_42 (by decide +kernel)
theorem i98_45 : am_ins 98 45 = (13, 1, 51, 0, []) := by decide +kernel
theorem d98_45 : decode (am_cod 98) 45 = .ok (.if_icmp .ne 6, 3) := by decide +kernel
theorem s98_45 (K : aK) : am_Snd K 98 45 := sn_icmp_ne i98_45 d98_45 rfl
theorem i98_48 : am_ins 98 48 = (0, 2, 0, (-3), []) := by decide +kernel
theorem d98_48 : decode (am_cod 98) 48 = .ok (.bipush (-3), 2) := by decide +kernel
theorem s98_48 (K : aK) : am_Snd K 98 48 := sn_const2 i98_48 d98_48 (by decide +kernel)
theorem i98_50 : am_ins 98 50 = (50, 0, 0, 0, []) := by decide +kernel
theorem d98_50 : decode (am_cod 98) 50 = .ok (.ireturn, 1) := by decide +kernel
theorem s98_50 : am_SndR 98 50 := sn_iret i98_50 d98_50 rfl
theorem i98_51 : am_ins 98 51 = (33, 0, 1, 0, []) := by decide +kernel
theorem d98_51 : decode (am_cod 98) 51 = .ok (.aload_n 0, 1) := by decide +kernel
theorem s98_51 (K : aK) : am_Snd K 98 51 := sn_aload_n i98_51 d98_51 rfl
theorem i98_52 : am_ins 98 52 = (18, 7, 0, 0, []) := by decide +kernel
theorem d98_52 : decode (am_cod 98) 52 = .ok (.getfield 132, 3) := by decide +kernel
theorem s98_52 (K : aK) : am_Snd K 98 52 := sn_get (C0 := CN7) (T := FT7) (Nf := 24) i98_52 d98_52 rfl (by decide +kernel) fin7 w_509 rfl
theorem i98_55 : am_ins 98 55 = (2, 2, 1, 0, []) := by decide +kernel
theorem d98_55 : decode (am_cod 98) 55 = .ok (.istore_n 2, 1) := by decide +kernel
theorem s98_55 (K : aK) : am_Snd K 98 55 := sn_istore_n i98_55 d98_55 rfl (by decide +kernel)
theorem i98_56 : am_ins 98 56 = (33, 0, 1, 0, []) := by decide +kernel
theorem d98_56 : decode (am_cod 98) 56 = .ok (.aload_n 0, 1) := by decide +kernel
theorem s98_56 (K : aK) : am_Snd K 98 56 := sn_aload_n i98_56 d98_56 rfl
theorem i98_57 : am_ins 98 57 = (7, 0, 0, 0, []) := by decide +kernel
theorem d98_57 : decode (am_cod 98) 57 = .ok (.dup, 1) := by decide +kernel
theorem s98_57 (K : aK) : am_Snd K 98 57 := sn_dup i98_57 d98_57 
theorem i98_58 : am_ins 98 58 = (18, 7, 0, 0, []) := by decide +kernel
theorem d98_58 : decode (am_cod 98) 58 = .ok (.getfield 132, 3) := by decide +kernel
theorem s98_58 (K : aK) : am_Snd K 98 58 := sn_get (C0 := CN7) (T := FT7) (Nf := 24) i98_58 d98_58 rfl (by decide +kernel) fin7 w_509 rfl
theorem i98_61 : am_ins 98 61 = (0, 1, 0, 1, []) := by decide +kernel
theorem d98_61 : decode (am_cod 98) 61 = .ok (.iconst 1, 1) := by decide +kernel
theorem s98_61 (K : aK) : am_Snd K 98 61 := sn_const1 i98_61 d98_61 rfl
theorem i98_62 : am_ins 98 62 = (4, 0, 0, 0, []) := by decide +kernel
theorem d98_62 : decode (am_cod 98) 62 = .ok (.iadd, 1) := by decide +kernel
theorem s98_62 (K : aK) : am_Snd K 98 62 := sn_add i98_62 d98_62 
theorem i98_63 : am_ins 98 63 = (19, 7, 0, 0, []) := by decide +kernel
theorem d98_63 : decode (am_cod 98) 63 = .ok (.putfield 132, 3) := by decide +kernel
theorem s98_63 (K : aK) : am_Snd K 98 63 := sn_puti (ty := .int) (C0 := CN7) (T := FT7) (Nf := 24) (tyf := FY7) i98_63 d98_63 rfl (by decide +kernel) fin7 ftyok7 fnm7 w_509 rfl rfl rfl
theorem i98_66 : am_ins 98 66 = (33, 0, 1, 0, []) := by decide +kernel
theorem d98_66 : decode (am_cod 98) 66 = .ok (.aload_n 0, 1) := by decide +kernel
theorem s98_66 (K : aK) : am_Snd K 98 66 := sn_aload_n i98_66 d98_66 rfl
theorem i98_67 : am_ins 98 67 = (18, 7, 1, 0, []) := by decide +kernel
theorem d98_67 : decode (am_cod 98) 67 = .ok (.getfield 9, 3) := by decide +kernel
theorem s98_67 (K : aK) : am_Snd K 98 67 := sn_get (C0 := CN7) (T := FT7) (Nf := 24) i98_67 d98_67 rfl (by decide +kernel) fin7 w_510 rfl
theorem i98_70 : am_ins 98 70 = (1, 2, 1, 0, []) := by decide +kernel
theorem d98_70 : decode (am_cod 98) 70 = .ok (.iload_n 2, 1) := by decide +kernel
theorem s98_70 (K : aK) : am_Snd K 98 70 := sn_iload_n i98_70 d98_70 rfl
theorem i98_71 : am_ins 98 71 = (1, 1, 1, 0, []) := by decide +kernel
theorem d98_71 : decode (am_cod 98) 71 = .ok (.iload_n 1, 1) := by decide +kernel
theorem s98_71 (K : aK) : am_Snd K 98 71 := sn_iload_n i98_71 d98_71 rfl
theorem i98_72 : am_ins 98 72 = (23, 0, 0, 0, []) := by decide +kernel
theorem d98_72 : decode (am_cod 98) 72 = .ok (.iastore, 1) := by decide +kernel
theorem s98_72 (K : aK) : am_Snd K 98 72 := sn_iast i98_72 d98_72 
theorem i98_73 : am_ins 98 73 = (33, 0, 1, 0, []) := by decide +kernel
theorem d98_73 : decode (am_cod 98) 73 = .ok (.aload_n 0, 1) := by decide +kernel
theorem s98_73 (K : aK) : am_Snd K 98 73 := sn_aload_n i98_73 d98_73 rfl
theorem i98_74 : am_ins 98 74 = (18, 7, 3, 0, []) := by decide +kernel
theorem d98_74 : decode (am_cod 98) 74 = .ok (.getfield 16, 3) := by decide +kernel
theorem s98_74 (K : aK) : am_Snd K 98 74 := sn_get (C0 := CN7) (T := FT7) (Nf := 24) i98_74 d98_74 rfl (by decide +kernel) fin7 w_512 rfl
theorem i98_77 : am_ins 98 77 = (1, 2, 1, 0, []) := by decide +kernel
theorem d98_77 : decode (am_cod 98) 77 = .ok (.iload_n 2, 1) := by decide +kernel
theorem s98_77 (K : aK) : am_Snd K 98 77 := sn_iload_n i98_77 d98_77 rfl
theorem i98_78 : am_ins 98 78 = (33, 0, 1, 0, []) := by decide +kernel
theorem d98_78 : decode (am_cod 98) 78 = .ok (.aload_n 0, 1) := by decide +kernel
theorem s98_78 (K : aK) : am_Snd K 98 78 := sn_aload_n i98_78 d98_78 rfl
theorem i98_79 : am_ins 98 79 = (18, 7, 16, 0, []) := by decide +kernel
theorem d98_79 : decode (am_cod 98) 79 = .ok (.getfield 56, 3) := by decide +kernel
theorem s98_79 (K : aK) : am_Snd K 98 79 := sn_get (C0 := CN7) (T := FT7) (Nf := 24) i98_79 d98_79 rfl (by decide +kernel) fin7 w_525 rfl
theorem i98_82 : am_ins 98 82 = (1, 1, 1, 0, []) := by decide +kernel
theorem d98_82 : decode (am_cod 98) 82 = .ok (.iload_n 1, 1) := by decide +kernel
theorem s98_82 (K : aK) : am_Snd K 98 82 := sn_iload_n i98_82 d98_82 rfl
theorem i98_83 : am_ins 98 83 = (22, 0, 0, 0, []) := by decide +kernel
theorem d98_83 : decode (am_cod 98) 83 = .ok (.iaload, 1) := by decide +kernel
theorem s98_83 (K : aK) : am_Snd K 98 83 := sn_iald i98_83 d98_83 
theorem i98_84 : am_ins 98 84 = (23, 0, 0, 0, []) := by decide +kernel
theorem d98_84 : decode (am_cod 98) 84 = .ok (.iastore, 1) := by decide +kernel
theorem s98_84 (K : aK) : am_Snd K 98 84 := sn_iast i98_84 d98_84 
theorem i98_85 : am_ins 98 85 = (33, 0, 1, 0, []) := by decide +kernel
theorem d98_85 : decode (am_cod 98) 85 = .ok (.aload_n 0, 1) := by decide +kernel
theorem s98_85 (K : aK) : am_Snd K 98 85 := sn_aload_n i98_85 d98_85 rfl
theorem i98_86 : am_ins 98 86 = (18, 7, 4, 0, []) := by decide +kernel
theorem d98_86 : decode (am_cod 98) 86 = .ok (.getfield 19, 3) := by decide +kernel
theorem s98_86 (K : aK) : am_Snd K 98 86 := sn_get (C0 := CN7) (T := FT7) (Nf := 24) i98_86 d98_86 rfl (by decide +kernel) fin7 w_513 rfl
theorem i98_89 : am_ins 98 89 = (1, 2, 1, 0, []) := by decide +kernel
theorem d98_89 : decode (am_cod 98) 89 = .ok (.iload_n 2, 1) := by decide +kernel
theorem s98_89 (K : aK) : am_Snd K 98 89 := sn_iload_n i98_89 d98_89 rfl
theorem i98_90 : am_ins 98 90 = (33, 0, 1, 0, []) := by decide +kernel
theorem d98_90 : decode (am_cod 98) 90 = .ok (.aload_n 0, 1) := by decide +kernel
theorem s98_90 (K : aK) : am_Snd K 98 90 := sn_aload_n i98_90 d98_90 rfl
theorem i98_91 : am_ins 98 91 = (18, 7, 19, 0, []) := by decide +kernel
theorem d98_91 : decode (am_cod 98) 91 = .ok (.getfield 65, 3) := by decide +kernel
theorem s98_91 (K : aK) : am_Snd K 98 91 := sn_get (C0 := CN7) (T := FT7) (Nf := 24) i98_91 d98_91 rfl (by decide +kernel) fin7 w_528 rfl
theorem i98_94 : am_ins 98 94 = (1, 1, 1, 0, []) := by decide +kernel
theorem d98_94 : decode (am_cod 98) 94 = .ok (.iload_n 1, 1) := by decide +kernel
theorem s98_94 (K : aK) : am_Snd K 98 94 := sn_iload_n i98_94 d98_94 rfl
theorem i98_95 : am_ins 98 95 = (22, 0, 0, 0, []) := by decide +kernel
theorem d98_95 : decode (am_cod 98) 95 = .ok (.iaload, 1) := by decide +kernel
theorem s98_95 (K : aK) : am_Snd K 98 95 := sn_iald i98_95 d98_95 
theorem i98_96 : am_ins 98 96 = (23, 0, 0, 0, []) := by decide +kernel
theorem d98_96 : decode (am_cod 98) 96 = .ok (.iastore, 1) := by decide +kernel
theorem s98_96 (K : aK) : am_Snd K 98 96 := sn_iast i98_96 d98_96 
theorem i98_97 : am_ins 98 97 = (0, 1, 0, 0, []) := by decide +kernel
theorem d98_97 : decode (am_cod 98) 97 = .ok (.iconst 0, 1) := by decide +kernel
theorem s98_97 (K : aK) : am_Snd K 98 97 := sn_const1 i98_97 d98_97 rfl
theorem i98_98 : am_ins 98 98 = (2, 3, 1, 0, []) := by decide +kernel
theorem d98_98 : decode (am_cod 98) 98 = .ok (.istore_n 3, 1) := by decide +kernel
theorem s98_98 (K : aK) : am_Snd K 98 98 := sn_istore_n i98_98 d98_98 rfl (by decide +kernel)
theorem i98_99 : am_ins 98 99 = (1, 3, 1, 0, []) := by decide +kernel
theorem d98_99 : decode (am_cod 98) 99 = .ok (.iload_n 3, 1) := by decide +kernel
theorem s98_99 (K : aK) : am_Snd K 98 99 := sn_iload_n i98_99 d98_99 rfl
theorem i98_100 : am_ins 98 100 = (0, 1, 0, 3, []) := by decide +kernel
theorem d98_100 : decode (am_cod 98) 100 = .ok (.iconst 3, 1) := by decide +kernel
theorem s98_100 (K : aK) : am_Snd K 98 100 := sn_const1 i98_100 d98_100 rfl
theorem i98_101 : am_ins 98 101 = (13, 3, 130, 0, []) := by decide +kernel
theorem d98_101 : decode (am_cod 98) 101 = .ok (.if_icmp .ge 29, 3) := by decide +kernel
theorem s98_101 (K : aK) : am_Snd K 98 101 := sn_icmp_ge i98_101 d98_101 rfl
theorem i98_104 : am_ins 98 104 = (33, 0, 1, 0, []) := by decide +kernel
theorem d98_104 : decode (am_cod 98) 104 = .ok (.aload_n 0, 1) := by decide +kernel
theorem s98_104 (K : aK) : am_Snd K 98 104 := sn_aload_n i98_104 d98_104 rfl
theorem i98_105 : am_ins 98 105 = (18, 7, 2, 0, []) := by decide +kernel
theorem d98_105 : decode (am_cod 98) 105 = .ok (.getfield 13, 3) := by decide +kernel
theorem s98_105 (K : aK) : am_Snd K 98 105 := sn_get (C0 := CN7) (T := FT7) (Nf := 24) i98_105 d98_105 rfl (by decide +kernel) fin7 w_511 rfl
theorem i98_108 : am_ins 98 108 = (0, 1, 0, 3, []) := by decide +kernel
theorem d98_108 : decode (am_cod 98) 108 = .ok (.iconst 3, 1) := by decide +kernel
theorem s98_108 (K : aK) : am_Snd K 98 108 := sn_const1 i98_108 d98_108 rfl
theorem i98_109 : am_ins 98 109 = (1, 2, 1, 0, []) := by decide +kernel
theorem d98_109 : decode (am_cod 98) 109 = .ok (.iload_n 2, 1) := by decide +kernel
theorem s98_109 (K : aK) : am_Snd K 98 109 := sn_iload_n i98_109 d98_109 rfl
theorem i98_110 : am_ins 98 110 = (4, 2, 0, 0, []) := by decide +kernel
theorem d98_110 : decode (am_cod 98) 110 = .ok (.imul, 1) := by decide +kernel
theorem s98_110 (K : aK) : am_Snd K 98 110 := sn_mul i98_110 d98_110 
theorem i98_111 : am_ins 98 111 = (1, 3, 1, 0, []) := by decide +kernel
theorem d98_111 : decode (am_cod 98) 111 = .ok (.iload_n 3, 1) := by decide +kernel
theorem s98_111 (K : aK) : am_Snd K 98 111 := sn_iload_n i98_111 d98_111 rfl
theorem i98_112 : am_ins 98 112 = (4, 0, 0, 0, []) := by decide +kernel
theorem d98_112 : decode (am_cod 98) 112 = .ok (.iadd, 1) := by decide +kernel
theorem s98_112 (K : aK) : am_Snd K 98 112 := sn_add i98_112 d98_112 
theorem i98_113 : am_ins 98 113 = (33, 0, 1, 0, []) := by decide +kernel
theorem d98_113 : decode (am_cod 98) 113 = .ok (.aload_n 0, 1) := by decide +kernel
theorem s98_113 (K : aK) : am_Snd K 98 113 := sn_aload_n i98_113 d98_113 rfl
theorem i98_114 : am_ins 98 114 = (18, 7, 17, 0, []) := by decide +kernel
theorem d98_114 : decode (am_cod 98) 114 = .ok (.getfield 59, 3) := by decide +kernel
theorem s98_114 (K : aK) : am_Snd K 98 114 := sn_get (C0 := CN7) (T := FT7) (Nf := 24) i98_114 d98_114 rfl (by decide +kernel) fin7 w_526 rfl
theorem i98_117 : am_ins 98 117 = (0, 1, 0, 3, []) := by decide +kernel
theorem d98_117 : decode (am_cod 98) 117 = .ok (.iconst 3, 1) := by decide +kernel
theorem s98_117 (K : aK) : am_Snd K 98 117 := sn_const1 i98_117 d98_117 rfl
theorem i98_118 : am_ins 98 118 = (1, 1, 1, 0, []) := by decide +kernel
theorem d98_118 : decode (am_cod 98) 118 = .ok (.iload_n 1, 1) := by decide +kernel
theorem s98_118 (K : aK) : am_Snd K 98 118 := sn_iload_n i98_118 d98_118 rfl
theorem i98_119 : am_ins 98 119 = (4, 2, 0, 0, []) := by decide +kernel
theorem d98_119 : decode (am_cod 98) 119 = .ok (.imul, 1) := by decide +kernel
theorem s98_119 (K : aK) : am_Snd K 98 119 := sn_mul i98_119 d98_119 
theorem i98_120 : am_ins 98 120 = (1, 3, 1, 0, []) := by decide +kernel
theorem d98_120 : decode (am_cod 98) 120 = .ok (.iload_n 3, 1) := by decide +kernel
theorem s98_120 (K : aK) : am_Snd K 98 120 := sn_iload_n i98_120 d98_120 rfl
theorem i98_121 : am_ins 98 121 = (4, 0, 0, 0, []) := by decide +kernel
theorem d98_121 : decode (am_cod 98) 121 = .ok (.iadd, 1) := by decide +kernel
theorem s98_121 (K : aK) : am_Snd K 98 121 := sn_add i98_121 d98_121 
theorem i98_122 : am_ins 98 122 = (22, 0, 0, 0, []) := by decide +kernel
theorem d98_122 : decode (am_cod 98) 122 = .ok (.iaload, 1) := by decide +kernel
theorem s98_122 (K : aK) : am_Snd K 98 122 := sn_iald i98_122 d98_122 
theorem i98_123 : am_ins 98 123 = (23, 0, 0, 0, []) := by decide +kernel
theorem d98_123 : decode (am_cod 98) 123 = .ok (.iastore, 1) := by decide +kernel
theorem s98_123 (K : aK) : am_Snd K 98 123 := sn_iast i98_123 d98_123 
theorem i98_124 : am_ins 98 124 = (3, 3, 3, 1, []) := by decide +kernel
theorem d98_124 : decode (am_cod 98) 124 = .ok (.iinc 3 1, 3) := by decide +kernel
theorem s98_124 (K : aK) : am_Snd K 98 124 := sn_iinc i98_124 d98_124 rfl (by decide +kernel)
theorem i98_127 : am_ins 98 127 = (14, 99, 0, 0, []) := by decide +kernel
theorem d98_127 : decode (am_cod 98) 127 = .ok (.goto (-28), 3) := by decide +kernel
theorem s98_127 (K : aK) : am_Snd K 98 127 := sn_goto i98_127 d98_127 rfl
theorem i98_130 : am_ins 98 130 = (0, 1, 0, 0, []) := by decide +kernel
theorem d98_130 : decode (am_cod 98) 130 = .ok (.iconst 0, 1) := by decide +kernel
theorem s98_130 (K : aK) : am_Snd K 98 130 := sn_const1 i98_130 d98_130 rfl
theorem i98_131 : am_ins 98 131 = (2, 3, 1, 0, []) := by decide +kernel
theorem d98_131 : decode (am_cod 98) 131 = .ok (.istore_n 3, 1) := by decide +kernel
theorem s98_131 (K : aK) : am_Snd K 98 131 := sn_istore_n i98_131 d98_131 rfl (by decide +kernel)
theorem i98_132 : am_ins 98 132 = (1, 3, 1, 0, []) := by decide +kernel
theorem d98_132 : decode (am_cod 98) 132 = .ok (.iload_n 3, 1) := by decide +kernel
theorem s98_132 (K : aK) : am_Snd K 98 132 := sn_iload_n i98_132 d98_132 rfl
theorem i98_133 : am_ins 98 133 = (0, 2, 0, 8, []) := by decide +kernel
theorem d98_133 : decode (am_cod 98) 133 = .ok (.bipush 8, 2) := by decide +kernel
theorem s98_133 (K : aK) : am_Snd K 98 133 := sn_const2 i98_133 d98_133 (by decide +kernel)
theorem i98_135 : am_ins 98 135 = (13, 3, 179, 0, []) := by decide +kernel
theorem d98_135 : decode (am_cod 98) 135 = .ok (.if_icmp .ge 44, 3) := by decide +kernel
theorem s98_135 (K : aK) : am_Snd K 98 135 := sn_icmp_ge i98_135 d98_135 rfl
theorem i98_138 : am_ins 98 138 = (33, 0, 1, 0, []) := by decide +kernel
theorem d98_138 : decode (am_cod 98) 138 = .ok (.aload_n 0, 1) := by decide +kernel
theorem s98_138 (K : aK) : am_Snd K 98 138 := sn_aload_n i98_138 d98_138 rfl
theorem i98_139 : am_ins 98 139 = (18, 7, 5, 0, []) := by decide +kernel
theorem d98_139 : decode (am_cod 98) 139 = .ok (.getfield 22, 3) := by decide +kernel
theorem s98_139 (K : aK) : am_Snd K 98 139 := sn_get (C0 := CN7) (T := FT7) (Nf := 24) i98_139 d98_139 rfl (by decide +kernel) fin7 w_514 rfl
theorem i98_142 : am_ins 98 142 = (0, 2, 0, 8, []) := by decide +kernel
theorem d98_142 : decode (am_cod 98) 142 = .ok (.bipush 8, 2) := by decide +kernel
theorem s98_142 (K : aK) : am_Snd K 98 142 := sn_const2 i98_142 d98_142 (by decide +kernel)
theorem i98_144 : am_ins 98 144 = (1, 2, 1, 0, []) := by decide +kernel
theorem d98_144 : decode (am_cod 98) 144 = .ok (.iload_n 2, 1) := by decide +kernel
theorem s98_144 (K : aK) : am_Snd K 98 144 := sn_iload_n i98_144 d98_144 rfl
theorem i98_145 : am_ins 98 145 = (4, 2, 0, 0, []) := by decide +kernel
theorem d98_145 : decode (am_cod 98) 145 = .ok (.imul, 1) := by decide +kernel
theorem s98_145 (K : aK) : am_Snd K 98 145 := sn_mul i98_145 d98_145 
theorem i98_146 : am_ins 98 146 = (1, 3, 1, 0, []) := by decide +kernel
theorem d98_146 : decode (am_cod 98) 146 = .ok (.iload_n 3, 1) := by decide +kernel
theorem s98_146 (K : aK) : am_Snd K 98 146 := sn_iload_n i98_146 d98_146 rfl
theorem i98_147 : am_ins 98 147 = (4, 0, 0, 0, []) := by decide +kernel
theorem d98_147 : decode (am_cod 98) 147 = .ok (.iadd, 1) := by decide +kernel
theorem s98_147 (K : aK) : am_Snd K 98 147 := sn_add i98_147 d98_147 
theorem i98_148 : am_ins 98 148 = (33, 0, 1, 0, []) := by decide +kernel
theorem d98_148 : decode (am_cod 98) 148 = .ok (.aload_n 0, 1) := by decide +kernel
theorem s98_148 (K : aK) : am_Snd K 98 148 := sn_aload_n i98_148 d98_148 rfl
theorem i98_149 : am_ins 98 149 = (1, 2, 1, 0, []) := by decide +kernel
theorem d98_149 : decode (am_cod 98) 149 = .ok (.iload_n 2, 1) := by decide +kernel
theorem s98_149 (K : aK) : am_Snd K 98 149 := sn_iload_n i98_149 d98_149 rfl
theorem i98_150 : am_ins 98 150 = (1, 3, 1, 0, []) := by decide +kernel
theorem d98_150 : decode (am_cod 98) 150 = .ok (.iload_n 3, 1) := by decide +kernel
theorem s98_150 (K : aK) : am_Snd K 98 150 := sn_iload_n i98_150 d98_150 rfl
theorem i98_151 : am_ins 98 151 = (60, 79, 2, 0, []) := by decide +kernel
theorem d98_151 : decode (am_cod 98) 151 = .ok (.invokevirtual 92, 3) := by decide +kernel
theorem s98_151 (K : aK) : am_SndC K 98 151 := sc_V i98_151 d98_151 co79 w_618 w_620 ws_17 w_6 rfl (rr := (CN7, FT7, 24)) rfl rfl hd79
theorem i98_154 : am_ins 98 154 = (12, 0, 171, 0, []) := by decide +kernel
theorem d98_154 : decode (am_cod 98) 154 = .ok (.ifCond .eq 17, 3) := by decide +kernel
theorem s98_154 (K : aK) : am_Snd K 98 154 := sn_if_eq i98_154 d98_154 rfl
theorem i98_157 : am_ins 98 157 = (33, 0, 1, 0, []) := by decide +kernel
theorem d98_157 : decode (am_cod 98) 157 = .ok (.aload_n 0, 1) := by decide +kernel
theorem s98_157 (K : aK) : am_Snd K 98 157 := sn_aload_n i98_157 d98_157 rfl
theorem i98_158 : am_ins 98 158 = (18, 7, 20, 0, []) := by decide +kernel
theorem d98_158 : decode (am_cod 98) 158 = .ok (.getfield 68, 3) := by decide +kernel
theorem s98_158 (K : aK) : am_Snd K 98 158 := sn_get (C0 := CN7) (T := FT7) (Nf := 24) i98_158 d98_158 rfl (by decide +kernel) fin7 w_529 rfl
theorem i98_161 : am_ins 98 161 = (0, 2, 0, 8, []) := by decide +kernel
theorem d98_161 : decode (am_cod 98) 161 = .ok (.bipush 8, 2) := by decide +kernel
theorem s98_161 (K : aK) : am_Snd K 98 161 := sn_const2 i98_161 d98_161 (by decide +kernel)
theorem i98_163 : am_ins 98 163 = (1, 1, 1, 0, []) := by decide +kernel
theorem d98_163 : decode (am_cod 98) 163 = .ok (.iload_n 1, 1) := by decide +kernel
theorem s98_163 (K : aK) : am_Snd K 98 163 := sn_iload_n i98_163 d98_163 rfl
theorem i98_164 : am_ins 98 164 = (4, 2, 0, 0, []) := by decide +kernel
theorem d98_164 : decode (am_cod 98) 164 = .ok (.imul, 1) := by decide +kernel
theorem s98_164 (K : aK) : am_Snd K 98 164 := sn_mul i98_164 d98_164 
theorem i98_165 : am_ins 98 165 = (1, 3, 1, 0, []) := by decide +kernel
theorem d98_165 : decode (am_cod 98) 165 = .ok (.iload_n 3, 1) := by decide +kernel
theorem s98_165 (K : aK) : am_Snd K 98 165 := sn_iload_n i98_165 d98_165 rfl
theorem i98_166 : am_ins 98 166 = (4, 0, 0, 0, []) := by decide +kernel
theorem d98_166 : decode (am_cod 98) 166 = .ok (.iadd, 1) := by decide +kernel
theorem s98_166 (K : aK) : am_Snd K 98 166 := sn_add i98_166 d98_166 
theorem i98_167 : am_ins 98 167 = (22, 0, 0, 0, []) := by decide +kernel
theorem d98_167 : decode (am_cod 98) 167 = .ok (.iaload, 1) := by decide +kernel
theorem s98_167 (K : aK) : am_Snd K 98 167 := sn_iald i98_167 d98_167 
theorem i98_168 : am_ins 98 168 = (14, 172, 0, 0, []) := by decide +kernel
theorem d98_168 : decode (am_cod 98) 168 = .ok (.goto 4, 3) := by decide +kernel
theorem s98_168 (K : aK) : am_Snd K 98 168 := sn_goto i98_168 d98_168 rfl
theorem i98_171 : am_ins 98 171 = (0, 1, 0, 0, []) := by decide +kernel
theorem d98_171 : decode (am_cod 98) 171 = .ok (.iconst 0, 1) := by decide +kernel
theorem s98_171 (K : aK) : am_Snd K 98 171 := sn_const1 i98_171 d98_171 rfl
theorem i98_172 : am_ins 98 172 = (23, 0, 0, 0, []) := by decide +kernel
theorem d98_172 : decode (am_cod 98) 172 = .ok (.iastore, 1) := by decide +kernel
theorem s98_172 (K : aK) : am_Snd K 98 172 := sn_iast i98_172 d98_172 
theorem i98_173 : am_ins 98 173 = (3, 3, 3, 1, []) := by decide +kernel
theorem d98_173 : decode (am_cod 98) 173 = .ok (.iinc 3 1, 3) := by decide +kernel
theorem s98_173 (K : aK) : am_Snd K 98 173 := sn_iinc i98_173 d98_173 rfl (by decide +kernel)
theorem i98_176 : am_ins 98 176 = (14, 132, 0, 0, []) := by decide +kernel
theorem d98_176 : decode (am_cod 98) 176 = .ok (.goto (-44), 3) := by decide +kernel
theorem s98_176 (K : aK) : am_Snd K 98 176 := sn_goto i98_176 d98_176 rfl
theorem i98_179 : am_ins 98 179 = (33, 0, 1, 0, []) := by decide +kernel
theorem d98_179 : decode (am_cod 98) 179 = .ok (.aload_n 0, 1) := by decide +kernel
theorem s98_179 (K : aK) : am_Snd K 98 179 := sn_aload_n i98_179 d98_179 rfl
theorem i98_180 : am_ins 98 180 = (18, 7, 15, 0, []) := by decide +kernel
theorem d98_180 : decode (am_cod 98) 180 = .ok (.getfield 53, 3) := by decide +kernel
theorem s98_180 (K : aK) : am_Snd K 98 180 := sn_get (C0 := CN7) (T := FT7) (Nf := 24) i98_180 d98_180 rfl (by decide +kernel) fin7 w_524 rfl
theorem i98_183 : am_ins 98 183 = (1, 1, 1, 0, []) := by decide +kernel
theorem d98_183 : decode (am_cod 98) 183 = .ok (.iload_n 1, 1) := by decide +kernel
theorem s98_183 (K : aK) : am_Snd K 98 183 := sn_iload_n i98_183 d98_183 rfl
theorem i98_184 : am_ins 98 184 = (0, 1, 0, 2, []) := by decide +kernel
theorem d98_184 : decode (am_cod 98) 184 = .ok (.iconst 2, 1) := by decide +kernel
theorem s98_184 (K : aK) : am_Snd K 98 184 := sn_const1 i98_184 d98_184 rfl
theorem i98_185 : am_ins 98 185 = (23, 0, 0, 0, []) := by decide +kernel
theorem d98_185 : decode (am_cod 98) 185 = .ok (.iastore, 1) := by decide +kernel
theorem s98_185 (K : aK) : am_Snd K 98 185 := sn_iast i98_185 d98_185 
theorem i98_186 : am_ins 98 186 = (33, 0, 1, 0, []) := by decide +kernel
theorem d98_186 : decode (am_cod 98) 186 = .ok (.aload_n 0, 1) := by decide +kernel
theorem s98_186 (K : aK) : am_Snd K 98 186 := sn_aload_n i98_186 d98_186 rfl
theorem i98_187 : am_ins 98 187 = (18, 7, 19, 0, []) := by decide +kernel
theorem d98_187 : decode (am_cod 98) 187 = .ok (.getfield 65, 3) := by decide +kernel
theorem s98_187 (K : aK) : am_Snd K 98 187 := sn_get (C0 := CN7) (T := FT7) (Nf := 24) i98_187 d98_187 rfl (by decide +kernel) fin7 w_528 rfl
theorem i98_190 : am_ins 98 190 = (1, 1, 1, 0, []) := by decide +kernel
theorem d98_190 : decode (am_cod 98) 190 = .ok (.iload_n 1, 1) := by decide +kernel
theorem s98_190 (K : aK) : am_Snd K 98 190 := sn_iload_n i98_190 d98_190 rfl
theorem i98_191 : am_ins 98 191 = (0, 1, 0, 0, []) := by decide +kernel
theorem d98_191 : decode (am_cod 98) 191 = .ok (.iconst 0, 1) := by decide +kernel
theorem s98_191 (K : aK) : am_Snd K 98 191 := sn_const1 i98_191 d98_191 rfl
theorem i98_192 : am_ins 98 192 = (23, 0, 0, 0, []) := by decide +kernel
theorem d98_192 : decode (am_cod 98) 192 = .ok (.iastore, 1) := by decide +kernel
theorem s98_192 (K : aK) : am_Snd K 98 192 := sn_iast i98_192 d98_192 
theorem i98_193 : am_ins 98 193 = (0, 1, 0, 2, []) := by decide +kernel
theorem d98_193 : decode (am_cod 98) 193 = .ok (.iconst 2, 1) := by decide +kernel
theorem s98_193 (K : aK) : am_Snd K 98 193 := sn_const1 i98_193 d98_193 rfl
theorem i98_194 : am_ins 98 194 = (1, 1, 1, 0, []) := by decide +kernel
theorem d98_194 : decode (am_cod 98) 194 = .ok (.iload_n 1, 1) := by decide +kernel
theorem s98_194 (K : aK) : am_Snd K 98 194 := sn_iload_n i98_194 d98_194 rfl
theorem i98_195 : am_ins 98 195 = (0, 1, 0, 3, []) := by decide +kernel
theorem d98_195 : decode (am_cod 98) 195 = .ok (.iconst 3, 1) := by decide +kernel
theorem s98_195 (K : aK) : am_Snd K 98 195 := sn_const1 i98_195 d98_195 rfl
theorem i98_196 : am_ins 98 196 = (6, 0, 0, 0, []) := by decide +kernel
theorem d98_196 : decode (am_cod 98) 196 = .ok (.irem, 1) := by decide +kernel
theorem s98_196 (K : aK) : am_Snd K 98 196 := sn_rem i98_196 d98_196 
theorem i98_197 : am_ins 98 197 = (4, 2, 0, 0, []) := by decide +kernel
theorem d98_197 : decode (am_cod 98) 197 = .ok (.imul, 1) := by decide +kernel
theorem s98_197 (K : aK) : am_Snd K 98 197 := sn_mul i98_197 d98_197 
theorem i98_198 : am_ins 98 198 = (2, 3, 1, 0, []) := by decide +kernel
theorem d98_198 : decode (am_cod 98) 198 = .ok (.istore_n 3, 1) := by decide +kernel
theorem s98_198 (K : aK) : am_Snd K 98 198 := sn_istore_n i98_198 d98_198 rfl (by decide +kernel)
theorem i98_199 : am_ins 98 199 = (33, 0, 1, 0, []) := by decide +kernel
theorem d98_199 : decode (am_cod 98) 199 = .ok (.aload_n 0, 1) := by decide +kernel
theorem s98_199 (K : aK) : am_Snd K 98 199 := sn_aload_n i98_199 d98_199 rfl
theorem i98_200 : am_ins 98 200 = (18, 7, 6, 0, []) := by decide +kernel
theorem d98_200 : decode (am_cod 98) 200 = .ok (.getfield 25, 3) := by decide +kernel
theorem s98_200 (K : aK) : am_Snd K 98 200 := sn_get (C0 := CN7) (T := FT7) (Nf := 24) i98_200 d98_200 rfl (by decide +kernel) fin7 w_515 rfl
theorem i98_203 : am_ins 98 203 = (1, 2, 1, 0, []) := by decide +kernel
theorem d98_203 : decode (am_cod 98) 203 = .ok (.iload_n 2, 1) := by decide +kernel
theorem s98_203 (K : aK) : am_Snd K 98 203 := sn_iload_n i98_203 d98_203 rfl
theorem i98_204 : am_ins 98 204 = (0, 1, 0, 0, []) := by decide +kernel
theorem d98_204 : decode (am_cod 98) 204 = .ok (.iconst 0, 1) := by decide +kernel
theorem s98_204 (K : aK) : am_Snd K 98 204 := sn_const1 i98_204 d98_204 rfl
theorem i98_205 : am_ins 98 205 = (23, 0, 0, 0, []) := by decide +kernel
theorem d98_205 : decode (am_cod 98) 205 = .ok (.iastore, 1) := by decide +kernel
theorem s98_205 (K : aK) : am_Snd K 98 205 := sn_iast i98_205 d98_205 
theorem i98_206 : am_ins 98 206 = (33, 0, 1, 0, []) := by decide +kernel
theorem d98_206 : decode (am_cod 98) 206 = .ok (.aload_n 0, 1) := by decide +kernel
theorem s98_206 (K : aK) : am_Snd K 98 206 := sn_aload_n i98_206 d98_206 rfl
theorem i98_207 : am_ins 98 207 = (18, 7, 7, 0, []) := by decide +kernel
theorem d98_207 : decode (am_cod 98) 207 = .ok (.getfield 28, 3) := by decide +kernel
theorem s98_207 (K : aK) : am_Snd K 98 207 := sn_get (C0 := CN7) (T := FT7) (Nf := 24) i98_207 d98_207 rfl (by decide +kernel) fin7 w_516 rfl
theorem i98_210 : am_ins 98 210 = (1, 2, 1, 0, []) := by decide +kernel
theorem d98_210 : decode (am_cod 98) 210 = .ok (.iload_n 2, 1) := by decide +kernel
theorem s98_210 (K : aK) : am_Snd K 98 210 := sn_iload_n i98_210 d98_210 rfl
theorem i98_211 : am_ins 98 211 = (0, 1, 0, 0, []) := by decide +kernel
theorem d98_211 : decode (am_cod 98) 211 = .ok (.iconst 0, 1) := by decide +kernel
theorem s98_211 (K : aK) : am_Snd K 98 211 := sn_const1 i98_211 d98_211 rfl
theorem i98_212 : am_ins 98 212 = (23, 0, 0, 0, []) := by decide +kernel
theorem d98_212 : decode (am_cod 98) 212 = .ok (.iastore, 1) := by decide +kernel
theorem s98_212 (K : aK) : am_Snd K 98 212 := sn_iast i98_212 d98_212 
theorem i98_213 : am_ins 98 213 = (1, 3, 1, 0, []) := by decide +kernel
theorem d98_213 : decode (am_cod 98) 213 = .ok (.iload_n 3, 1) := by decide +kernel
theorem s98_213 (K : aK) : am_Snd K 98 213 := sn_iload_n i98_213 d98_213 rfl
theorem i98_214 : am_ins 98 214 = (2, 4, 2, 0, []) := by decide +kernel
theorem d98_214 : decode (am_cod 98) 214 = .ok (.istore 4, 2) := by decide +kernel
theorem s98_214 (K : aK) : am_Snd K 98 214 := sn_istore i98_214 d98_214 (by decide +kernel)
theorem i98_216 : am_ins 98 216 = (1, 4, 2, 0, []) := by decide +kernel
theorem d98_216 : decode (am_cod 98) 216 = .ok (.iload 4, 2) := by decide +kernel
theorem s98_216 (K : aK) : am_Snd K 98 216 := sn_iload i98_216 d98_216 
theorem i98_218 : am_ins 98 218 = (1, 3, 1, 0, []) := by decide +kernel
theorem d98_218 : decode (am_cod 98) 218 = .ok (.iload_n 3, 1) := by decide +kernel
theorem s98_218 (K : aK) : am_Snd K 98 218 := sn_iload_n i98_218 d98_218 rfl
theorem i98_219 : am_ins 98 219 = (0, 1, 0, 2, []) := by decide +kernel
theorem d98_219 : decode (am_cod 98) 219 = .ok (.iconst 2, 1) := by decide +kernel
theorem s98_219 (K : aK) : am_Snd K 98 219 := sn_const1 i98_219 d98_219 rfl
theorem i98_220 : am_ins 98 220 = (4, 0, 0, 0, []) := by decide +kernel
theorem d98_220 : decode (am_cod 98) 220 = .ok (.iadd, 1) := by decide +kernel
theorem s98_220 (K : aK) : am_Snd K 98 220 := sn_add i98_220 d98_220 
theorem i98_221 : am_ins 98 221 = (13, 3, 254, 0, []) := by decide +kernel
theorem d98_221 : decode (am_cod 98) 221 = .ok (.if_icmp .ge 33, 3) := by decide +kernel
theorem s98_221 (K : aK) : am_Snd K 98 221 := sn_icmp_ge i98_221 d98_221 rfl
theorem i98_224 : am_ins 98 224 = (33, 0, 1, 0, []) := by decide +kernel
theorem d98_224 : decode (am_cod 98) 224 = .ok (.aload_n 0, 1) := by decide +kernel
theorem s98_224 (K : aK) : am_Snd K 98 224 := sn_aload_n i98_224 d98_224 rfl
theorem i98_225 : am_ins 98 225 = (18, 7, 6, 0, []) := by decide +kernel
theorem d98_225 : decode (am_cod 98) 225 = .ok (.getfield 25, 3) := by decide +kernel
theorem s98_225 (K : aK) : am_Snd K 98 225 := sn_get (C0 := CN7) (T := FT7) (Nf := 24) i98_225 d98_225 rfl (by decide +kernel) fin7 w_515 rfl
theorem i98_228 : am_ins 98 228 = (1, 2, 1, 0, []) := by decide +kernel
theorem d98_228 : decode (am_cod 98) 228 = .ok (.iload_n 2, 1) := by decide +kernel
theorem s98_228 (K : aK) : am_Snd K 98 228 := sn_iload_n i98_228 d98_228 rfl
theorem i98_229 : am_ins 98 229 = (10, 0, 0, 0, []) := by decide +kernel
theorem d98_229 : decode (am_cod 98) 229 = .ok (.dup2, 1) := by decide +kernel
theorem s98_229 (K : aK) : am_Snd K 98 229 := sn_dup2 i98_229 d98_229 
theorem i98_230 : am_ins 98 230 = (22, 0, 0, 0, []) := by decide +kernel
theorem d98_230 : decode (am_cod 98) 230 = .ok (.iaload, 1) := by decide +kernel
theorem s98_230 (K : aK) : am_Snd K 98 230 := sn_iald i98_230 d98_230 
theorem i98_231 : am_ins 98 231 = (33, 0, 1, 0, []) := by decide +kernel
theorem d98_231 : decode (am_cod 98) 231 = .ok (.aload_n 0, 1) := by decide +kernel
theorem s98_231 (K : aK) : am_Snd K 98 231 := sn_aload_n i98_231 d98_231 rfl
theorem i98_232 : am_ins 98 232 = (1, 2, 1, 0, []) := by decide +kernel
theorem d98_232 : decode (am_cod 98) 232 = .ok (.iload_n 2, 1) := by decide +kernel
theorem s98_232 (K : aK) : am_Snd K 98 232 := sn_iload_n i98_232 d98_232 rfl
theorem i98_233 : am_ins 98 233 = (1, 4, 2, 0, []) := by decide +kernel
theorem d98_233 : decode (am_cod 98) 233 = .ok (.iload 4, 2) := by decide +kernel
theorem s98_233 (K : aK) : am_Snd K 98 233 := sn_iload i98_233 d98_233 
theorem i98_235 : am_ins 98 235 = (60, 84, 2, 0, []) := by decide +kernel
theorem d98_235 : decode (am_cod 98) 235 = .ok (.invokevirtual 125, 3) := by decide +kernel
theorem s98_235 (K : aK) : am_SndC K 98 235 := sc_V i98_235 d98_235 co84 w_638 w_640 ws_19 w_6 rfl (rr := (CN7, FT7, 24)) rfl rfl hd84
theorem i98_238 : am_ins 98 238 = (12, 0, 245, 0, []) := by decide +kernel
theorem d98_238 : decode (am_cod 98) 238 = .ok (.ifCond .eq 7, 3) := by decide +kernel
theorem s98_238 (K : aK) : am_Snd K 98 238 := sn_if_eq i98_238 d98_238 rfl
theorem i98_241 : am_ins 98 241 = (0, 1, 0, 1, []) := by decide +kernel
theorem d98_241 : decode (am_cod 98) 241 = .ok (.iconst 1, 1) := by decide +kernel
theorem s98_241 (K : aK) : am_Snd K 98 241 := sn_const1 i98_241 d98_241 rfl
theorem i98_242 : am_ins 98 242 = (14, 246, 0, 0, []) := by decide +kernel
theorem d98_242 : decode (am_cod 98) 242 = .ok (.goto 4, 3) := by decide +kernel
theorem s98_242 (K : aK) : am_Snd K 98 242 := sn_goto i98_242 d98_242 rfl
theorem i98_245 : am_ins 98 245 = (0, 1, 0, 0, []) := by decide +kernel
theorem d98_245 : decode (am_cod 98) 245 = .ok (.iconst 0, 1) := by decide +kernel
theorem s98_245 (K : aK) : am_Snd K 98 245 := sn_const1 i98_245 d98_245 rfl
theorem i98_246 : am_ins 98 246 = (4, 0, 0, 0, []) := by decide +kernel
theorem d98_246 : decode (am_cod 98) 246 = .ok (.iadd, 1) := by decide +kernel
theorem s98_246 (K : aK) : am_Snd K 98 246 := sn_add i98_246 d98_246 
theorem i98_247 : am_ins 98 247 = (23, 0, 0, 0, []) := by decide +kernel
theorem d98_247 : decode (am_cod 98) 247 = .ok (.iastore, 1) := by decide +kernel
theorem s98_247 (K : aK) : am_Snd K 98 247 := sn_iast i98_247 d98_247 
theorem i98_248 : am_ins 98 248 = (3, 4, 3, 1, []) := by decide +kernel
theorem d98_248 : decode (am_cod 98) 248 = .ok (.iinc 4 1, 3) := by decide +kernel
theorem s98_248 (K : aK) : am_Snd K 98 248 := sn_iinc i98_248 d98_248 rfl (by decide +kernel)
theorem i98_251 : am_ins 98 251 = (14, 216, 0, 0, []) := by decide +kernel
theorem d98_251 : decode (am_cod 98) 251 = .ok (.goto (-35), 3) := by decide +kernel
theorem s98_251 (K : aK) : am_Snd K 98 251 := sn_goto i98_251 d98_251 rfl
theorem i98_254 : am_ins 98 254 = (1, 3, 1, 0, []) := by decide +kernel
theorem d98_254 : decode (am_cod 98) 254 = .ok (.iload_n 3, 1) := by decide +kernel
theorem s98_254 (K : aK) : am_Snd K 98 254 := sn_iload_n i98_254 d98_254 rfl
theorem i98_255 : am_ins 98 255 = (2, 4, 2, 0, []) := by decide +kernel
theorem d98_255 : decode (am_cod 98) 255 = .ok (.istore 4, 2) := by decide +kernel
theorem s98_255 (K : aK) : am_Snd K 98 255 := sn_istore i98_255 d98_255 (by decide +kernel)
theorem i98_257 : am_ins 98 257 = (1, 4, 2, 0, []) := by decide +kernel
theorem d98_257 : decode (am_cod 98) 257 = .ok (.iload 4, 2) := by decide +kernel
theorem s98_257 (K : aK) : am_Snd K 98 257 := sn_iload i98_257 d98_257 
theorem i98_259 : am_ins 98 259 = (1, 3, 1, 0, []) := by decide +kernel
theorem d98_259 : decode (am_cod 98) 259 = .ok (.iload_n 3, 1) := by decide +kernel
theorem s98_259 (K : aK) : am_Snd K 98 259 := sn_iload_n i98_259 d98_259 rfl
theorem i98_260 : am_ins 98 260 = (0, 1, 0, 2, []) := by decide +kernel
theorem d98_260 : decode (am_cod 98) 260 = .ok (.iconst 2, 1) := by decide +kernel
theorem s98_260 (K : aK) : am_Snd K 98 260 := sn_const1 i98_260 d98_260 rfl
theorem i98_261 : am_ins 98 261 = (4, 0, 0, 0, []) := by decide +kernel
theorem d98_261 : decode (am_cod 98) 261 = .ok (.iadd, 1) := by decide +kernel
theorem s98_261 (K : aK) : am_Snd K 98 261 := sn_add i98_261 d98_261 
theorem i98_262 : am_ins 98 262 = (13, 3, 293, 0, []) := by decide +kernel
theorem d98_262 : decode (am_cod 98) 262 = .ok (.if_icmp .ge 31, 3) := by decide +kernel
theorem s98_262 (K : aK) : am_Snd K 98 262 := sn_icmp_ge i98_262 d98_262 rfl
theorem i98_265 : am_ins 98 265 = (33, 0, 1, 0, []) := by decide +kernel
theorem d98_265 : decode (am_cod 98) 265 = .ok (.aload_n 0, 1) := by decide +kernel
theorem s98_265 (K : aK) : am_Snd K 98 265 := sn_aload_n i98_265 d98_265 rfl
theorem i98_266 : am_ins 98 266 = (1, 2, 1, 0, []) := by decide +kernel
theorem d98_266 : decode (am_cod 98) 266 = .ok (.iload_n 2, 1) := by decide +kernel
theorem s98_266 (K : aK) : am_Snd K 98 266 := sn_iload_n i98_266 d98_266 rfl
theorem i98_267 : am_ins 98 267 = (1, 4, 2, 0, []) := by decide +kernel
theorem d98_267 : decode (am_cod 98) 267 = .ok (.iload 4, 2) := by decide +kernel
theorem s98_267 (K : aK) : am_Snd K 98 267 := sn_iload i98_267 d98_267 
theorem i98_269 : am_ins 98 269 = (60, 84, 2, 0, []) := by decide +kernel
theorem d98_269 : decode (am_cod 98) 269 = .ok (.invokevirtual 125, 3) := by decide +kernel
theorem s98_269 (K : aK) : am_SndC K 98 269 := sc_V i98_269 d98_269 co84 w_638 w_640 ws_19 w_6 rfl (rr := (CN7, FT7, 24)) rfl rfl hd84
theorem i98_272 : am_ins 98 272 = (12, 0, 287, 0, []) := by decide +kernel
theorem d98_272 : decode (am_cod 98) 272 = .ok (.ifCond .eq 15, 3) := by decide +kernel
theorem s98_272 (K : aK) : am_Snd K 98 272 := sn_if_eq i98_272 d98_272 rfl
theorem i98_275 : am_ins 98 275 = (33, 0, 1, 0, []) := by decide +kernel
theorem d98_275 : decode (am_cod 98) 275 = .ok (.aload_n 0, 1) := by decide +kernel
theorem s98_275 (K : aK) : am_Snd K 98 275 := sn_aload_n i98_275 d98_275 rfl
theorem i98_276 : am_ins 98 276 = (1, 3, 1, 0, []) := by decide +kernel
theorem d98_276 : decode (am_cod 98) 276 = .ok (.iload_n 3, 1) := by decide +kernel
theorem s98_276 (K : aK) : am_Snd K 98 276 := sn_iload_n i98_276 d98_276 rfl
theorem i98_277 : am_ins 98 277 = (1, 4, 2, 0, []) := by decide +kernel
theorem d98_277 : decode (am_cod 98) 277 = .ok (.iload 4, 2) := by decide +kernel
theorem s98_277 (K : aK) : am_Snd K 98 277 := sn_iload i98_277 d98_277 
theorem i98_279 : am_ins 98 279 = (0, 1, 0, 1, []) := by decide +kernel
theorem d98_279 : decode (am_cod 98) 279 = .ok (.iconst 1, 1) := by decide +kernel
theorem s98_279 (K : aK) : am_Snd K 98 279 := sn_const1 i98_279 d98_279 rfl
theorem i98_280 : am_ins 98 280 = (1, 2, 1, 0, []) := by decide +kernel
theorem d98_280 : decode (am_cod 98) 280 = .ok (.iload_n 2, 1) := by decide +kernel
theorem s98_280 (K : aK) : am_Snd K 98 280 := sn_iload_n i98_280 d98_280 rfl
theorem i98_281 : am_ins 98 281 = (0, 1, 0, 0, []) := by decide +kernel
theorem d98_281 : decode (am_cod 98) 281 = .ok (.iconst 0, 1) := by decide +kernel
theorem s98_281 (K : aK) : am_Snd K 98 281 := sn_const1 i98_281 d98_281 rfl
theorem i98_282 : am_ins 98 282 = (0, 1, 0, 0, []) := by decide +kernel
theorem d98_282 : decode (am_cod 98) 282 = .ok (.iconst 0, 1) := by decide +kernel
theorem s98_282 (K : aK) : am_Snd K 98 282 := sn_const1 i98_282 d98_282 rfl
theorem i98_283 : am_ins 98 283 = (0, 1, 0, 0, []) := by decide +kernel
theorem d98_283 : decode (am_cod 98) 283 = .ok (.iconst 0, 1) := by decide +kernel
theorem s98_283 (K : aK) : am_Snd K 98 283 := sn_const1 i98_283 d98_283 rfl
theorem i98_284 : am_ins 98 284 = (60, 85, 7, 0, []) := by decide +kernel
theorem d98_284 : decode (am_cod 98) 284 = .ok (.invokevirtual 122, 3) := by decide +kernel
theorem s98_284 (K : aK) : am_SndC K 98 284 := sc_V i98_284 d98_284 co85 w_645 w_647 ws_20 w_6 rfl (rr := (CN7, FT7, 24)) rfl rfl hd85
theorem i98_287 : am_ins 98 287 = (3, 4, 3, 1, []) := by decide +kernel
theorem d98_287 : decode (am_cod 98) 287 = .ok (.iinc 4 1, 3) := by decide +kernel
theorem s98_287 (K : aK) : am_Snd K 98 287 := sn_iinc i98_287 d98_287 rfl (by decide +kernel)
theorem i98_290 : am_ins 98 290 = (14, 257, 0, 0, []) := by decide +kernel
theorem d98_290 : decode (am_cod 98) 290 = .ok (.goto (-33), 3) := by decide +kernel
theorem s98_290 (K : aK) : am_Snd K 98 290 := sn_goto i98_290 d98_290 rfl
theorem i98_293 : am_ins 98 293 = (1, 2, 1, 0, []) := by decide +kernel
theorem d98_293 : decode (am_cod 98) 293 = .ok (.iload_n 2, 1) := by decide +kernel
theorem s98_293 (K : aK) : am_Snd K 98 293 := sn_iload_n i98_293 d98_293 rfl
theorem i98_294 : am_ins 98 294 = (50, 0, 0, 0, []) := by decide +kernel
theorem d98_294 : decode (am_cod 98) 294 = .ok (.ireturn, 1) := by decide +kernel
theorem s98_294 : am_SndR 98 294 := sn_iret i98_294 d98_294 rfl
theorem al98_0 (K : aK) : ∀ q ∈ [0, 1, 4, 7, 8, 11, 12, 13, 14, 17, 18, 19, 20, 23, 24, 25, 28, 29, 32, 33, 34, 35, 37, 38, 39, 42, 45, 48, 50, 51], am_All K 98 q := List.forall_mem_cons.mpr ⟨am_alS i98_0 (s98_0 K), List.forall_mem_cons.mpr ⟨am_alC i98_1 (s98_1 K), List.forall_mem_cons.mpr ⟨am_alS i98_4 (s98_4 K), List.forall_mem_cons.mpr ⟨am_alS i98_7 (s98_7 K), List.forall_mem_cons.mpr ⟨am_alS i98_8 (s98_8 K), List.forall_mem_cons.mpr ⟨am_alS i98_11 (s98_11 K), List.forall_mem_cons.mpr ⟨am_alS i98_12 (s98_12 K), List.forall_mem_cons.mpr ⟨am_alS i98_13 (s98_13 K), List.forall_mem_cons.mpr ⟨am_alS i98_14 (s98_14 K), List.forall_mem_cons.mpr ⟨am_alS i98_17 (s98_17 K), List.forall_mem_cons.mpr ⟨am_alR i98_18 s98_18, List.forall_mem_cons.mpr ⟨am_alS i98_19 (s98_19 K), List.forall_mem_cons.mpr ⟨am_alS i98_20 (s98_20 K), List.forall_mem_cons.mpr ⟨am_alS i98_23 (s98_23 K), List.forall_mem_cons.mpr ⟨am_alS i98_24 (s98_24 K), List.forall_mem_cons.mpr ⟨am_alS i98_25 (s98_25 K), List.forall_mem_cons.mpr ⟨am_alS i98_28 (s98_28 K), List.forall_mem_cons.mpr ⟨am_alS i98_29 (s98_29 K), List.forall_mem_cons.mpr ⟨am_alS i98_32 (s98_32 K), List.forall_mem_cons.mpr ⟨am_alS i98_33 (s98_33 K), List.forall_mem_cons.mpr ⟨am_alS i98_34 (s98_34 K), List.forall_mem_cons.mpr ⟨am_alS i98_35 (s98_35 K), List.forall_mem_cons.mpr ⟨am_alR i98_37 s98_37, List.forall_mem_cons.mpr ⟨am_alS i98_38 (s98_38 K), List.forall_mem_cons.mpr ⟨am_alS i98_39 (s98_39 K), List.forall_mem_cons.mpr ⟨am_alS i98_42 (s98_42 K), List.forall_mem_cons.mpr ⟨am_alS i98_45 (s98_45 K), List.forall_mem_cons.mpr ⟨am_alS i98_48 (s98_48 K), List.forall_mem_cons.mpr ⟨am_alR i98_50 s98_50, List.forall_mem_cons.mpr ⟨am_alS i98_51 (s98_51 K), fun _ h => absurd h List.not_mem_nil⟩⟩⟩⟩⟩⟩⟩⟩⟩⟩⟩⟩⟩⟩⟩⟩⟩⟩⟩⟩⟩⟩⟩⟩⟩⟩⟩⟩⟩⟩
theorem al98_1 (K : aK) : ∀ q ∈ [52, 55, 56, 57, 58, 61, 62, 63, 66, 67, 70, 71, 72, 73, 74, 77, 78, 79, 82, 83, 84, 85, 86, 89, 90, 91, 94, 95, 96, 97], am_All K 98 q := List.forall_mem_cons.mpr ⟨am_alS i98_52 (s98_52 K), List.forall_mem_cons.mpr ⟨am_alS i98_55 (s98_55 K), List.forall_mem_cons.mpr ⟨am_alS i98_56 (s98_56 K), List.forall_mem_cons.mpr ⟨am_alS i98_57 (s98_57 K), List.forall_mem_cons.mpr ⟨am_alS i98_58 (s98_58 K), List.forall_mem_cons.mpr ⟨am_alS i98_61 (s98_61 K), List.forall_mem_cons.mpr ⟨am_alS i98_62 (s98_62 K), List.forall_mem_cons.mpr ⟨am_alS i98_63 (s98_63 K), List.forall_mem_cons.mpr ⟨am_alS i98_66 (s98_66 K), List.forall_mem_cons.mpr ⟨am_alS i98_67 (s98_67 K), List.forall_mem_cons.mpr ⟨am_alS i98_70 (s98_70 K), List.forall_mem_cons.mpr ⟨am_alS i98_71 (s98_71 K), List.forall_mem_cons.mpr ⟨am_alS i98_72 (s98_72 K), List.forall_mem_cons.mpr ⟨am_alS i98_73 (s98_73 K), List.forall_mem_cons.mpr ⟨am_alS i98_74 (s98_74 K), List.forall_mem_cons.mpr ⟨am_alS i98_77 (s98_77 K), List.forall_mem_cons.mpr ⟨am_alS i98_78 (s98_78 K), List.forall_mem_cons.mpr ⟨am_alS i98_79 (s98_79 K), List.forall_mem_cons.mpr ⟨am_alS i98_82 (s98_82 K), List.forall_mem_cons.mpr ⟨am_alS i98_83 (s98_83 K), List.forall_mem_cons.mpr ⟨am_alS i98_84 (s98_84 K), List.forall_mem_cons.mpr ⟨am_alS i98_85 (s98_85 K), List.forall_mem_cons.mpr ⟨am_alS i98_86 (s98_86 K), List.forall_mem_cons.mpr ⟨am_alS i98_89 (s98_89 K), List.forall_mem_cons.mpr ⟨am_alS i98_90 (s98_90 K), List.forall_mem_cons.mpr ⟨am_alS i98_91 (s98_91 K), List.forall_mem_cons.mpr ⟨am_alS i98_94 (s98_94 K), List.forall_mem_cons.mpr ⟨am_alS i98_95 (s98_95 K), List.forall_mem_cons.mpr ⟨am_alS i98_96 (s98_96 K), List.forall_mem_cons.mpr ⟨am_alS i98_97 (s98_97 K), fun _ h => absurd h List.not_mem_nil⟩⟩⟩⟩⟩⟩⟩⟩⟩⟩⟩⟩⟩⟩⟩⟩⟩⟩⟩⟩⟩⟩⟩⟩⟩⟩⟩⟩⟩⟩
theorem al98_2 (K : aK) : ∀ q ∈ [98, 99, 100, 101, 104, 105, 108, 109, 110, 111, 112, 113, 114, 117, 118, 119, 120, 121, 122, 123, 124, 127, 130, 131, 132, 133, 135, 138, 139, 142], am_All K 98 q := List.forall_mem_cons.mpr ⟨am_alS i98_98 (s98_98 K), List.forall_mem_cons.mpr ⟨am_alS i98_99 (s98_99 K), List.forall_mem_cons.mpr ⟨am_alS i98_100 (s98_100 K), List.forall_mem_cons.mpr ⟨am_alS i98_101 (s98_101 K), List.forall_mem_cons.mpr ⟨am_alS i98_104 (s98_104 K), List.forall_mem_cons.mpr ⟨am_alS i98_105 (s98_105 K), List.forall_mem_cons.mpr ⟨am_alS i98_108 (s98_108 K), List.forall_mem_cons.mpr ⟨am_alS i98_109 (s98_109 K), List.forall_mem_cons.mpr ⟨am_alS i98_110 (s98_110 K), List.forall_mem_cons.mpr ⟨am_alS i98_111 (s98_111 K), List.forall_mem_cons.mpr ⟨am_alS i98_112 (s98_112 K), List.forall_mem_cons.mpr ⟨am_alS i98_113 (s98_113 K), List.forall_mem_cons.mpr ⟨am_alS i98_114 (s98_114 K), List.forall_mem_cons.mpr ⟨am_alS i98_117 (s98_117 K), List.forall_mem_cons.mpr ⟨am_alS i98_118 (s98_118 K), List.forall_mem_cons.mpr ⟨am_alS i98_119 (s98_119 K), List.forall_mem_cons.mpr ⟨am_alS i98_120 (s98_120 K), List.forall_mem_cons.mpr ⟨am_alS i98_121 (s98_121 K), List.forall_mem_cons.mpr ⟨am_alS i98_122 (s98_122 K), List.forall_mem_cons.mpr ⟨am_alS i98_123 (s98_123 K), List.forall_mem_cons.mpr ⟨am_alS i98_124 (s98_124 K), List.forall_mem_cons.mpr ⟨am_alS i98_127 (s98_127 K), List.forall_mem_cons.mpr ⟨am_alS i98_130 (s98_130 K), List.forall_mem_cons.mpr ⟨am_alS i98_131 (s98_131 K), List.forall_mem_cons.mpr ⟨am_alS i98_132 (s98_132 K), List.forall_mem_cons.mpr ⟨am_alS i98_133 (s98_133 K), List.forall_mem_cons.mpr ⟨am_alS i98_135 (s98_135 K), List.forall_mem_cons.mpr ⟨am_alS i98_138 (s98_138 K), List.forall_mem_cons.mpr ⟨am_alS i98_139 (s98_139 K), List.forall_mem_cons.mpr ⟨am_alS i98_142 (s98_142 K), fun _ h => absurd h List.not_mem_nil⟩⟩⟩⟩⟩⟩⟩⟩⟩⟩⟩⟩⟩⟩⟩⟩⟩⟩⟩⟩⟩⟩⟩⟩⟩⟩⟩⟩⟩⟩
theorem al98_3 (K : aK) : ∀ q ∈ [144, 145, 146, 147, 148, 149, 150, 151, 154, 157, 158, 161, 163, 164, 165, 166, 167, 168, 171, 172, 173, 176, 179, 180, 183, 184, 185, 186, 187, 190], am_All K 98 q := List.forall_mem_cons.mpr ⟨am_alS i98_144 (s98_144 K), List.forall_mem_cons.mpr ⟨am_alS i98_145 (s98_145 K), List.forall_mem_cons.mpr ⟨am_alS i98_146 (s98_146 K), List.forall_mem_cons.mpr ⟨am_alS i98_147 (s98_147 K), List.forall_mem_cons.mpr ⟨am_alS i98_148 (s98_148 K), List.forall_mem_cons.mpr ⟨am_alS i98_149 (s98_149 K), List.forall_mem_cons.mpr ⟨am_alS i98_150 (s98_150 K), List.forall_mem_cons.mpr ⟨am_alC i98_151 (s98_151 K), List.forall_mem_cons.mpr ⟨am_alS i98_154 (s98_154 K), List.forall_mem_cons.mpr ⟨am_alS i98_157 (s98_157 K), List.forall_mem_cons.mpr ⟨am_alS i98_158 (s98_158 K), List.forall_mem_cons.mpr ⟨am_alS i98_161 (s98_161 K), List.forall_mem_cons.mpr ⟨am_alS i98_163 (s98_163 K), List.forall_mem_cons.mpr ⟨am_alS i98_164 (s98_164 K), List.forall_mem_cons.mpr ⟨am_alS i98_165 (s98_165 K), List.forall_mem_cons.mpr ⟨am_alS i98_166 (s98_166 K), List.forall_mem_cons.mpr ⟨am_alS i98_167 (s98_167 K), List.forall_mem_cons.mpr ⟨am_alS i98_168 (s98_168 K), List.forall_mem_cons.mpr ⟨am_alS i98_171 (s98_171 K), List.forall_mem_cons.mpr ⟨am_alS i98_172 (s98_172 K), List.forall_mem_cons.mpr ⟨am_alS i98_173 (s98_173 K), List.forall_mem_cons.mpr ⟨am_alS i98_176 (s98_176 K), List.forall_mem_cons.mpr ⟨am_alS i98_179 (s98_179 K), List.forall_mem_cons.mpr ⟨am_alS i98_180 (s98_180 K), List.forall_mem_cons.mpr ⟨am_alS i98_183 (s98_183 K), List.forall_mem_cons.mpr ⟨am_alS i98_184 (s98_184 K), List.forall_mem_cons.mpr ⟨am_alS i98_185 (s98_185 K), List.forall_mem_cons.mpr ⟨am_alS i98_186 (s98_186 K), List.forall_mem_cons.mpr ⟨am_alS i98_187 (s98_187 K), List.forall_mem_cons.mpr ⟨am_alS i98_190 (s98_190 K), fun _ h => absurd h List.not_mem_nil⟩⟩⟩⟩⟩⟩⟩⟩⟩⟩⟩⟩⟩⟩⟩⟩⟩⟩⟩⟩⟩⟩⟩⟩⟩⟩⟩⟩⟩⟩
theorem al98_4 (K : aK) : ∀ q ∈ [191, 192, 193, 194, 195, 196, 197, 198, 199, 200, 203, 204, 205, 206, 207, 210, 211, 212, 213, 214, 216, 218, 219, 220, 221, 224, 225, 228, 229, 230], am_All K 98 q := List.forall_mem_cons.mpr ⟨am_alS i98_191 (s98_191 K), List.forall_mem_cons.mpr ⟨am_alS i98_192 (s98_192 K), List.forall_mem_cons.mpr ⟨am_alS i98_193 (s98_193 K), List.forall_mem_cons.mpr ⟨am_alS i98_194 (s98_194 K), List.forall_mem_cons.mpr ⟨am_alS i98_195 (s98_195 K), List.forall_mem_cons.mpr ⟨am_alS i98_196 (s98_196 K), List.forall_mem_cons.mpr ⟨am_alS i98_197 (s98_197 K), List.forall_mem_cons.mpr ⟨am_alS i98_198 (s98_198 K), List.forall_mem_cons.mpr ⟨am_alS i98_199 (s98_199 K), List.forall_mem_cons.mpr ⟨am_alS i98_200 (s98_200 K), List.forall_mem_cons.mpr ⟨am_alS i98_203 (s98_203 K), List.forall_mem_cons.mpr ⟨am_alS i98_204 (s98_204 K), List.forall_mem_cons.mpr ⟨am_alS i98_205 (s98_205 K), List.forall_mem_cons.mpr ⟨am_alS i98_206 (s98_206 K), List.forall_mem_cons.mpr ⟨am_alS i98_207 (s98_207 K), List.forall_mem_cons.mpr ⟨am_alS i98_210 (s98_210 K), List.forall_mem_cons.mpr ⟨am_alS i98_211 (s98_211 K), List.forall_mem_cons.mpr ⟨am_alS i98_212 (s98_212 K), List.forall_mem_cons.mpr ⟨am_alS i98_213 (s98_213 K), List.forall_mem_cons.mpr ⟨am_alS i98_214 (s98_214 K), List.forall_mem_cons.mpr ⟨am_alS i98_216 (s98_216 K), List.forall_mem_cons.mpr ⟨am_alS i98_218 (s98_218 K), List.forall_mem_cons.mpr ⟨am_alS i98_219 (s98_219 K), List.forall_mem_cons.mpr ⟨am_alS i98_220 (s98_220 K), List.forall_mem_cons.mpr ⟨am_alS i98_221 (s98_221 K), List.forall_mem_cons.mpr ⟨am_alS i98_224 (s98_224 K), List.forall_mem_cons.mpr ⟨am_alS i98_225 (s98_225 K), List.forall_mem_cons.mpr ⟨am_alS i98_228 (s98_228 K), List.forall_mem_cons.mpr ⟨am_alS i98_229 (s98_229 K), List.forall_mem_cons.mpr ⟨am_alS i98_230 (s98_230 K), fun _ h => absurd h List.not_mem_nil⟩⟩⟩⟩⟩⟩⟩⟩⟩⟩⟩⟩⟩⟩⟩⟩⟩⟩⟩⟩⟩⟩⟩⟩⟩⟩⟩⟩⟩⟩
theorem al98_5 (K : aK) : ∀ q ∈ [231, 232, 233, 235, 238, 241, 242, 245, 246, 247, 248, 251, 254, 255, 257, 259, 260, 261, 262, 265, 266, 267, 269, 272, 275, 276, 277, 279, 280, 281], am_All K 98 q := List.forall_mem_cons.mpr ⟨am_alS i98_231 (s98_231 K), List.forall_mem_cons.mpr ⟨am_alS i98_232 (s98_232 K), List.forall_mem_cons.mpr ⟨am_alS i98_233 (s98_233 K), List.forall_mem_cons.mpr ⟨am_alC i98_235 (s98_235 K), List.forall_mem_cons.mpr ⟨am_alS i98_238 (s98_238 K), List.forall_mem_cons.mpr ⟨am_alS i98_241 (s98_241 K), List.forall_mem_cons.mpr ⟨am_alS i98_242 (s98_242 K), List.forall_mem_cons.mpr ⟨am_alS i98_245 (s98_245 K), List.forall_mem_cons.mpr ⟨am_alS i98_246 (s98_246 K), List.forall_mem_cons.mpr ⟨am_alS i98_247 (s98_247 K), List.forall_mem_cons.mpr ⟨am_alS i98_248 (s98_248 K), List.forall_mem_cons.mpr ⟨am_alS i98_251 (s98_251 K), List.forall_mem_cons.mpr ⟨am_alS i98_254 (s98_254 K), List.forall_mem_cons.mpr ⟨am_alS i98_255 (s98_255 K), List.forall_mem_cons.mpr ⟨am_alS i98_257 (s98_257 K), List.forall_mem_cons.mpr ⟨am_alS i98_259 (s98_259 K), List.forall_mem_cons.mpr ⟨am_alS i98_260 (s98_260 K), List.forall_mem_cons.mpr ⟨am_alS i98_261 (s98_261 K), List.forall_mem_cons.mpr ⟨am_alS i98_262 (s98_262 K), List.forall_mem_cons.mpr ⟨am_alS i98_265 (s98_265 K), List.forall_mem_cons.mpr ⟨am_alS i98_266 (s98_266 K), List.forall_mem_cons.mpr ⟨am_alS i98_267 (s98_267 K), List.forall_mem_cons.mpr ⟨am_alC i98_269 (s98_269 K), List.forall_mem_cons.mpr ⟨am_alS i98_272 (s98_272 K), List.forall_mem_cons.mpr ⟨am_alS i98_275 (s98_275 K), List.forall_mem_cons.mpr ⟨am_alS i98_276 (s98_276 K), List.forall_mem_cons.mpr ⟨am_alS i98_277 (s98_277 K), List.forall_mem_cons.mpr ⟨am_alS i98_279 (s98_279 K), List.forall_mem_cons.mpr ⟨am_alS i98_280 (s98_280 K), List.forall_mem_cons.mpr ⟨am_alS i98_281 (s98_281 K), fun _ h => absurd h List.not_mem_nil⟩⟩⟩⟩⟩⟩⟩⟩⟩⟩⟩⟩⟩⟩⟩⟩⟩⟩⟩⟩⟩⟩⟩⟩⟩⟩⟩⟩⟩⟩
theorem al98_6 (K : aK) : ∀ q ∈ [282, 283, 284, 287, 290, 293, 294], am_All K 98 q := List.forall_mem_cons.mpr ⟨am_alS i98_282 (s98_282 K), List.forall_mem_cons.mpr ⟨am_alS i98_283 (s98_283 K), List.forall_mem_cons.mpr ⟨am_alC i98_284 (s98_284 K), List.forall_mem_cons.mpr ⟨am_alS i98_287 (s98_287 K), List.forall_mem_cons.mpr ⟨am_alS i98_290 (s98_290 K), List.forall_mem_cons.mpr ⟨am_alS i98_293 (s98_293 K), List.forall_mem_cons.mpr ⟨am_alR i98_294 s98_294, fun _ h => absurd h List.not_mem_nil⟩⟩⟩⟩⟩⟩⟩
set_option maxRecDepth 100000 in
theorem al98 (K : aK) : ∀ q ∈ (am_t98).map (fun z => z.1), am_All K 98 q := by
  have e : (am_t98).map (fun z => z.1) = [0, 1, 4, 7, 8, 11, 12, 13, 14, 17, 18, 19, 20, 23, 24, 25, 28, 29, 32, 33, 34, 35, 37, 38, 39, 42, 45, 48, 50, 51] ++ ([52, 55, 56, 57, 58, 61, 62, 63, 66, 67, 70, 71, 72, 73, 74, 77, 78, 79, 82, 83, 84, 85, 86, 89, 90, 91, 94, 95, 96, 97] ++ ([98, 99, 100, 101, 104, 105, 108, 109, 110, 111, 112, 113, 114, 117, 118, 119, 120, 121, 122, 123, 124, 127, 130, 131, 132, 133, 135, 138, 139, 142] ++ ([144, 145, 146, 147, 148, 149, 150, 151, 154, 157, 158, 161, 163, 164, 165, 166, 167, 168, 171, 172, 173, 176, 179, 180, 183, 184, 185, 186, 187, 190] ++ ([191, 192, 193, 194, 195, 196, 197, 198, 199, 200, 203, 204, 205, 206, 207, 210, 211, 212, 213, 214, 216, 218, 219, 220, 221, 224, 225, 228, 229, 230] ++ ([231, 232, 233, 235, 238, 241, 242, 245, 246, 247, 248, 251, 254, 255, 257, 259, 260, 261, 262, 265, 266, 267, 269, 272, 275, 276, 277, 279, 280, 281] ++ ([282, 283, 284, 287, 290, 293, 294])))))) := rfl
  rw [e]
  exact List.forall_mem_append.mpr ⟨al98_0 K, List.forall_mem_append.mpr ⟨al98_1 K, List.forall_mem_append.mpr ⟨al98_2 K, List.forall_mem_append.mpr ⟨al98_3 K, List.forall_mem_append.mpr ⟨al98_4 K, List.forall_mem_append.mpr ⟨al98_5 K, al98_6 K⟩⟩⟩⟩⟩⟩
theorem i99_0 : am_ins 99 0 = (1, 1, 1, 0, []) := by decide +kernel
theorem d99_0 : decode (am_cod 99) 0 = .ok (.iload_n 1, 1) := by decide +kernel
theorem s99_0 (K : aK) : am_Snd K 99 0 := sn_iload_n i99_0 d99_0 rfl
theorem i99_1 : am_ins 99 1 = (61, 72, 1, 0, []) := by decide +kernel
theorem d99_1 : decode (am_cod 99) 1 = .ok (.invokestatic 141, 3) := by decide +kernel
theorem s99_1 (K : aK) : am_SndC K 99 1 := sc_S i99_1 d99_1 co72 w_586 w_587 w_6 hd72
theorem i99_4 : am_ins 99 4 = (12, 0, 17, 0, []) := by decide +kernel
theorem d99_4 : decode (am_cod 99) 4 = .ok (.ifCond .eq 13, 3) := by decide +kernel
theorem s99_4 (K : aK) : am_Snd K 99 4 := sn_if_eq i99_4 d99_4 rfl
theorem i99_7 : am_ins 99 7 = (33, 0, 1, 0, []) := by decide +kernel
theorem d99_7 : decode (am_cod 99) 7 = .ok (.aload_n 0, 1) := by decide +kernel
theorem s99_7 (K : aK) : am_Snd K 99 7 := sn_aload_n i99_7 d99_7 rfl
theorem i99_8 : am_ins 99 8 = (18, 7, 15, 0, []) := by decide +kernel
theorem d99_8 : decode (am_cod 99) 8 = .ok (.getfield 53, 3) := by decide +kernel
theorem s99_8 (K : aK) : am_Snd K 99 8 := sn_get (C0 := CN7) (T := FT7) (Nf := 24) i99_8 d99_8 rfl (by decide +kernel) fin7 w_524 rfl
theorem i99_11 : am_ins 99 11 = (1, 1, 1, 0, []) := by decide +kernel
theorem d99_11 : decode (am_cod 99) 11 = .ok (.iload_n 1, 1) := by decide +kernel
theorem s99_11 (K : aK) : am_Snd K 99 11 := sn_iload_n i99_11 d99_11 rfl
theorem i99_12 : am_ins 99 12 = (22, 0, 0, 0, []) := by decide +kernel
theorem d99_12 : decode (am_cod 99) 12 = .ok (.iaload, 1) := by decide +kernel
theorem s99_12 (K : aK) : am_Snd K 99 12 := sn_iald i99_12 d99_12 
theorem i99_13 : am_ins 99 13 = (0, 1, 0, 1, []) := by decide +kernel
theorem d99_13 : decode (am_cod 99) 13 = .ok (.iconst 1, 1) := by decide +kernel
theorem s99_13 (K : aK) : am_Snd K 99 13 := sn_const1 i99_13 d99_13 rfl
theorem i99_14 : am_ins 99 14 = (13, 0, 19, 0, []) := by decide +kernel
theorem d99_14 : decode (am_cod 99) 14 = .ok (.if_icmp .eq 5, 3) := by decide +kernel
theorem s99_14 (K : aK) : am_Snd K 99 14 := sn_icmp_eq i99_14 d99_14 rfl
theorem i99_17 : am_ins 99 17 = (0, 1, 0, 0, []) := by decide +kernel
theorem d99_17 : decode (am_cod 99) 17 = .ok (.iconst 0, 1) := by decide +kernel
theorem s99_17 (K : aK) : am_Snd K 99 17 := sn_const1 i99_17 d99_17 rfl
theorem i99_18 : am_ins 99 18 = (51, 0, 0, 0, []) := by decide +kernel
theorem d99_18 : decode (am_cod 99) 18 = .ok (.ireturn, 1) := by decide +kernel
theorem s99_18 : am_SndR 99 18 := sn_zret i99_18 d99_18 rfl
theorem i99_19 : am_ins 99 19 = (33, 0, 1, 0, []) := by decide +kernel
theorem d99_19 : decode (am_cod 99) 19 = .ok (.aload_n 0, 1) := by decide +kernel
theorem s99_19 (K : aK) : am_Snd K 99 19 := sn_aload_n i99_19 d99_19 rfl
theorem i99_20 : am_ins 99 20 = (18, 7, 15, 0, []) := by decide +kernel
theorem d99_20 : decode (am_cod 99) 20 = .ok (.getfield 53, 3) := by decide +kernel
theorem s99_20 (K : aK) : am_Snd K 99 20 := sn_get (C0 := CN7) (T := FT7) (Nf := 24) i99_20 d99_20 rfl (by decide +kernel) fin7 w_524 rfl
theorem i99_23 : am_ins 99 23 = (1, 1, 1, 0, []) := by decide +kernel
theorem d99_23 : decode (am_cod 99) 23 = .ok (.iload_n 1, 1) := by decide +kernel
theorem s99_23 (K : aK) : am_Snd K 99 23 := sn_iload_n i99_23 d99_23 rfl
theorem i99_24 : am_ins 99 24 = (0, 1, 0, 0, []) := by decide +kernel
theorem d99_24 : decode (am_cod 99) 24 = .ok (.iconst 0, 1) := by decide +kernel
theorem s99_24 (K : aK) : am_Snd K 99 24 := sn_const1 i99_24 d99_24 rfl
theorem i99_25 : am_ins 99 25 = (23, 0, 0, 0, []) := by decide +kernel
theorem d99_25 : decode (am_cod 99) 25 = .ok (.iastore, 1) := by decide +kernel
theorem s99_25 (K : aK) : am_Snd K 99 25 := sn_iast i99_25 d99_25 
theorem i99_26 : am_ins 99 26 = (33, 0, 1, 0, []) := by decide +kernel
theorem d99_26 : decode (am_cod 99) 26 = .ok (.aload_n 0, 1) := by decide +kernel
theorem s99_26 (K : aK) : am_Snd K 99 26 := sn_aload_n i99_26 d99_26 rfl
theorem i99_27 : am_ins 99 27 = (18, 7, 19, 0, []) := by decide +kernel
theorem d99_27 : decode (am_cod 99) 27 = .ok (.getfield 65, 3) := by decide +kernel
theorem s99_27 (K : aK) : am_Snd K 99 27 := sn_get (C0 := CN7) (T := FT7) (Nf := 24) i99_27 d99_27 rfl (by decide +kernel) fin7 w_528 rfl
theorem i99_30 : am_ins 99 30 = (1, 1, 1, 0, []) := by decide +kernel
theorem d99_30 : decode (am_cod 99) 30 = .ok (.iload_n 1, 1) := by decide +kernel
theorem s99_30 (K : aK) : am_Snd K 99 30 := sn_iload_n i99_30 d99_30 rfl
theorem i99_31 : am_ins 99 31 = (0, 1, 0, 0, []) := by decide +kernel
theorem d99_31 : decode (am_cod 99) 31 = .ok (.iconst 0, 1) := by decide +kernel
theorem s99_31 (K : aK) : am_Snd K 99 31 := sn_const1 i99_31 d99_31 rfl
theorem i99_32 : am_ins 99 32 = (23, 0, 0, 0, []) := by decide +kernel
theorem d99_32 : decode (am_cod 99) 32 = .ok (.iastore, 1) := by decide +kernel
theorem s99_32 (K : aK) : am_Snd K 99 32 := sn_iast i99_32 d99_32 
theorem i99_33 : am_ins 99 33 = (0, 1, 0, 1, []) := by decide +kernel
theorem d99_33 : decode (am_cod 99) 33 = .ok (.iconst 1, 1) := by decide +kernel
theorem s99_33 (K : aK) : am_Snd K 99 33 := sn_const1 i99_33 d99_33 rfl
theorem i99_34 : am_ins 99 34 = (51, 0, 0, 0, []) := by decide +kernel
theorem d99_34 : decode (am_cod 99) 34 = .ok (.ireturn, 1) := by decide +kernel
theorem s99_34 : am_SndR 99 34 := sn_zret i99_34 d99_34 rfl
theorem al99_0 (K : aK) : ∀ q ∈ [0, 1, 4, 7, 8, 11, 12, 13, 14, 17, 18, 19, 20, 23, 24, 25, 26, 27, 30, 31, 32, 33, 34], am_All K 99 q := List.forall_mem_cons.mpr ⟨am_alS i99_0 (s99_0 K), List.forall_mem_cons.mpr ⟨am_alC i99_1 (s99_1 K), List.forall_mem_cons.mpr ⟨am_alS i99_4 (s99_4 K), List.forall_mem_cons.mpr ⟨am_alS i99_7 (s99_7 K), List.forall_mem_cons.mpr ⟨am_alS i99_8 (s99_8 K), List.forall_mem_cons.mpr ⟨am_alS i99_11 (s99_11 K), List.forall_mem_cons.mpr ⟨am_alS i99_12 (s99_12 K), List.forall_mem_cons.mpr ⟨am_alS i99_13 (s99_13 K), List.forall_mem_cons.mpr ⟨am_alS i99_14 (s99_14 K), List.forall_mem_cons.mpr ⟨am_alS i99_17 (s99_17 K), List.forall_mem_cons.mpr ⟨am_alR i99_18 s99_18, List.forall_mem_cons.mpr ⟨am_alS i99_19 (s99_19 K), List.forall_mem_cons.mpr ⟨am_alS i99_20 (s99_20 K), List.forall_mem_cons.mpr ⟨am_alS i99_23 (s99_23 K), List.forall_mem_cons.mpr ⟨am_alS i99_24 (s99_24 K), List.forall_mem_cons.mpr ⟨am_alS i99_25 (s99_25 K), List.forall_mem_cons.mpr ⟨am_alS i99_26 (s99_26 K), List.forall_mem_cons.mpr ⟨am_alS i99_27 (s99_27 K), List.forall_mem_cons.mpr ⟨am_alS i99_30 (s99_30 K), List.forall_mem_cons.mpr ⟨am_alS i99_31 (s99_31 K), List.forall_mem_cons.mpr ⟨am_alS i99_32 (s99_32 K), List.forall_mem_cons.mpr ⟨am_alS i99_33 (s99_33 K), List.forall_mem_cons.mpr ⟨am_alR i99_34 s99_34, fun _ h => absurd h List.not_mem_nil⟩⟩⟩⟩⟩⟩⟩⟩⟩⟩⟩⟩⟩⟩⟩⟩⟩⟩⟩⟩⟩⟩⟩
set_option maxRecDepth 100000 in
theorem al99 (K : aK) : ∀ q ∈ (am_t99).map (fun z => z.1), am_All K 99 q := by
  have e : (am_t99).map (fun z => z.1) = [0, 1, 4, 7, 8, 11, 12, 13, 14, 17, 18, 19, 20, 23, 24, 25, 26, 27, 30, 31, 32, 33, 34] := rfl
  rw [e]
  exact al99_0 K
theorem i100_0 : am_ins 100 0 = (1, 1, 1, 0, []) := by decide +kernel
theorem d100_0 : decode (am_cod 100) 0 = .ok (.iload_n 1, 1) := by decide +kernel
theorem s100_0 (K : aK) : am_Snd K 100 0 := sn_iload_n i100_0 d100_0 rfl
theorem i100_1 : am_ins 100 1 = (61, 73, 1, 0, []) := by decide +kernel
theorem d100_1 : decode (am_cod 100) 1 = .ok (.invokestatic 77, 3) := by decide +kernel
theorem s100_1 (K : aK) : am_SndC K 100 1 := sc_S i100_1 d100_1 co73 w_684 w_685 w_6 hd73
theorem i100_4 : am_ins 100 4 = (12, 1, 9, 0, []) := by decide +kernel
theorem d100_4 : decode (am_cod 100) 4 = .ok (.ifCond .ne 5, 3) := by decide +kernel
theorem s100_4 (K : aK) : am_Snd K 100 4 := sn_if_ne i100_4 d100_4 rfl
theorem i100_7 : am_ins 100 7 = (0, 1, 0, (-1), []) := by decide +kernel
theorem d100_7 : decode (am_cod 100) 7 = .ok (.iconst (-1), 1) := by decide +kernel
theorem s100_7 (K : aK) : am_Snd K 100 7 := sn_const1 i100_7 d100_7 rfl
theorem i100_8 : am_ins 100 8 = (50, 0, 0, 0, []) := by decide +kernel
theorem d100_8 : decode (am_cod 100) 8 = .ok (.ireturn, 1) := by decide +kernel
theorem s100_8 : am_SndR 100 8 := sn_iret i100_8 d100_8 rfl
theorem i100_9 : am_ins 100 9 = (33, 0, 1, 0, []) := by decide +kernel
theorem d100_9 : decode (am_cod 100) 9 = .ok (.aload_n 0, 1) := by decide +kernel
theorem s100_9 (K : aK) : am_Snd K 100 9 := sn_aload_n i100_9 d100_9 rfl
theorem i100_10 : am_ins 100 10 = (18, 7, 10, 0, []) := by decide +kernel
theorem d100_10 : decode (am_cod 100) 10 = .ok (.getfield 38, 3) := by decide +kernel
theorem s100_10 (K : aK) : am_Snd K 100 10 := sn_get (C0 := CN7) (T := FT7) (Nf := 24) i100_10 d100_10 rfl (by decide +kernel) fin7 w_519 rfl
theorem i100_13 : am_ins 100 13 = (1, 1, 1, 0, []) := by decide +kernel
theorem d100_13 : decode (am_cod 100) 13 = .ok (.iload_n 1, 1) := by decide +kernel
theorem s100_13 (K : aK) : am_Snd K 100 13 := sn_iload_n i100_13 d100_13 rfl
theorem i100_14 : am_ins 100 14 = (10, 0, 0, 0, []) := by decide +kernel
theorem d100_14 : decode (am_cod 100) 14 = .ok (.dup2, 1) := by decide +kernel
theorem s100_14 (K : aK) : am_Snd K 100 14 := sn_dup2 i100_14 d100_14 
theorem i100_15 : am_ins 100 15 = (22, 0, 0, 0, []) := by decide +kernel
theorem d100_15 : decode (am_cod 100) 15 = .ok (.iaload, 1) := by decide +kernel
theorem s100_15 (K : aK) : am_Snd K 100 15 := sn_iald i100_15 d100_15 
theorem i100_16 : am_ins 100 16 = (0, 1, 0, 1, []) := by decide +kernel
theorem d100_16 : decode (am_cod 100) 16 = .ok (.iconst 1, 1) := by decide +kernel
theorem s100_16 (K : aK) : am_Snd K 100 16 := sn_const1 i100_16 d100_16 rfl
theorem i100_17 : am_ins 100 17 = (4, 0, 0, 0, []) := by decide +kernel
theorem d100_17 : decode (am_cod 100) 17 = .ok (.iadd, 1) := by decide +kernel
theorem s100_17 (K : aK) : am_Snd K 100 17 := sn_add i100_17 d100_17 
theorem i100_18 : am_ins 100 18 = (23, 0, 0, 0, []) := by decide +kernel
theorem d100_18 : decode (am_cod 100) 18 = .ok (.iastore, 1) := by decide +kernel
theorem s100_18 (K : aK) : am_Snd K 100 18 := sn_iast i100_18 d100_18 
theorem i100_19 : am_ins 100 19 = (33, 0, 1, 0, []) := by decide +kernel
theorem d100_19 : decode (am_cod 100) 19 = .ok (.aload_n 0, 1) := by decide +kernel
theorem s100_19 (K : aK) : am_Snd K 100 19 := sn_aload_n i100_19 d100_19 rfl
theorem i100_20 : am_ins 100 20 = (18, 7, 10, 0, []) := by decide +kernel
theorem d100_20 : decode (am_cod 100) 20 = .ok (.getfield 38, 3) := by decide +kernel
theorem s100_20 (K : aK) : am_Snd K 100 20 := sn_get (C0 := CN7) (T := FT7) (Nf := 24) i100_20 d100_20 rfl (by decide +kernel) fin7 w_519 rfl
theorem i100_23 : am_ins 100 23 = (1, 1, 1, 0, []) := by decide +kernel
theorem d100_23 : decode (am_cod 100) 23 = .ok (.iload_n 1, 1) := by decide +kernel
theorem s100_23 (K : aK) : am_Snd K 100 23 := sn_iload_n i100_23 d100_23 rfl
theorem i100_24 : am_ins 100 24 = (22, 0, 0, 0, []) := by decide +kernel
theorem d100_24 : decode (am_cod 100) 24 = .ok (.iaload, 1) := by decide +kernel
theorem s100_24 (K : aK) : am_Snd K 100 24 := sn_iald i100_24 d100_24 
theorem i100_25 : am_ins 100 25 = (2, 2, 1, 0, []) := by decide +kernel
theorem d100_25 : decode (am_cod 100) 25 = .ok (.istore_n 2, 1) := by decide +kernel
theorem s100_25 (K : aK) : am_Snd K 100 25 := sn_istore_n i100_25 d100_25 rfl (by decide +kernel)
theorem i100_26 : am_ins 100 26 = (0, 1, 0, 0, []) := by decide +kernel
theorem d100_26 : decode (am_cod 100) 26 = .ok (.iconst 0, 1) := by decide +kernel
theorem s100_26 (K : aK) : am_Snd K 100 26 := sn_const1 i100_26 d100_26 rfl
theorem i100_27 : am_ins 100 27 = (2, 3, 1, 0, []) := by decide +kernel
theorem d100_27 : decode (am_cod 100) 27 = .ok (.istore_n 3, 1) := by decide +kernel
theorem s100_27 (K : aK) : am_Snd K 100 27 := sn_istore_n i100_27 d100_27 rfl (by decide +kernel)
theorem i100_28 : am_ins 100 28 = (0, 1, 0, 0, []) := by decide +kernel
theorem d100_28 : decode (am_cod 100) 28 = .ok (.iconst 0, 1) := by decide +kernel
theorem s100_28 (K : aK) : am_Snd K 100 28 := sn_const1 i100_28 d100_28 rfl
theorem i100_29 : am_ins 100 29 = (2, 4, 2, 0, []) := by decide +kernel
theorem d100_29 : decode (am_cod 100) 29 = .ok (.istore 4, 2) := by decide +kernel
theorem s100_29 (K : aK) : am_Snd K 100 29 := sn_istore i100_29 d100_29 (by decide +kernel)
theorem i100_31 : am_ins 100 31 = (1, 4, 2, 0, []) := by decide +kernel
theorem d100_31 : decode (am_cod 100) 31 = .ok (.iload 4, 2) := by decide +kernel
theorem s100_31 (K : aK) : am_Snd K 100 31 := sn_iload i100_31 d100_31 
theorem i100_33 : am_ins 100 33 = (33, 0, 1, 0, []) := by decide +kernel
theorem d100_33 : decode (am_cod 100) 33 = .ok (.aload_n 0, 1) := by decide +kernel
theorem s100_33 (K : aK) : am_Snd K 100 33 := sn_aload_n i100_33 d100_33 rfl
theorem i100_34 : am_ins 100 34 = (18, 7, 0, 0, []) := by decide +kernel
theorem d100_34 : decode (am_cod 100) 34 = .ok (.getfield 132, 3) := by decide +kernel
theorem s100_34 (K : aK) : am_Snd K 100 34 := sn_get (C0 := CN7) (T := FT7) (Nf := 24) i100_34 d100_34 rfl (by decide +kernel) fin7 w_509 rfl
theorem i100_37 : am_ins 100 37 = (13, 3, 111, 0, []) := by decide +kernel
theorem d100_37 : decode (am_cod 100) 37 = .ok (.if_icmp .ge 74, 3) := by decide +kernel
theorem s100_37 (K : aK) : am_Snd K 100 37 := sn_icmp_ge i100_37 d100_37 rfl
theorem i100_40 : am_ins 100 40 = (33, 0, 1, 0, []) := by decide +kernel
theorem d100_40 : decode (am_cod 100) 40 = .ok (.aload_n 0, 1) := by decide +kernel
theorem s100_40 (K : aK) : am_Snd K 100 40 := sn_aload_n i100_40 d100_40 rfl
theorem i100_41 : am_ins 100 41 = (18, 7, 11, 0, []) := by decide +kernel
theorem d100_41 : decode (am_cod 100) 41 = .ok (.getfield 41, 3) := by decide +kernel
theorem s100_41 (K : aK) : am_Snd K 100 41 := sn_get (C0 := CN7) (T := FT7) (Nf := 24) i100_41 d100_41 rfl (by decide +kernel) fin7 w_520 rfl
theorem i100_44 : am_ins 100 44 = (0, 3, 0, 200, []) := by decide +kernel
theorem d100_44 : decode (am_cod 100) 44 = .ok (.sipush 200, 3) := by decide +kernel
theorem s100_44 (K : aK) : am_Snd K 100 44 := sn_const3 i100_44 d100_44 (by decide +kernel)
theorem i100_47 : am_ins 100 47 = (1, 1, 1, 0, []) := by decide +kernel
theorem d100_47 : decode (am_cod 100) 47 = .ok (.iload_n 1, 1) := by decide +kernel
theorem s100_47 (K : aK) : am_Snd K 100 47 := sn_iload_n i100_47 d100_47 rfl
theorem i100_48 : am_ins 100 48 = (4, 2, 0, 0, []) := by decide +kernel
theorem d100_48 : decode (am_cod 100) 48 = .ok (.imul, 1) := by decide +kernel
theorem s100_48 (K : aK) : am_Snd K 100 48 := sn_mul i100_48 d100_48 
theorem i100_49 : am_ins 100 49 = (1, 4, 2, 0, []) := by decide +kernel
theorem d100_49 : decode (am_cod 100) 49 = .ok (.iload 4, 2) := by decide +kernel
theorem s100_49 (K : aK) : am_Snd K 100 49 := sn_iload i100_49 d100_49 
theorem i100_51 : am_ins 100 51 = (4, 0, 0, 0, []) := by decide +kernel
theorem d100_51 : decode (am_cod 100) 51 = .ok (.iadd, 1) := by decide +kernel
theorem s100_51 (K : aK) : am_Snd K 100 51 := sn_add i100_51 d100_51 
theorem i100_52 : am_ins 100 52 = (22, 0, 0, 0, []) := by decide +kernel
theorem d100_52 : decode (am_cod 100) 52 = .ok (.iaload, 1) := by decide +kernel
theorem s100_52 (K : aK) : am_Snd K 100 52 := sn_iald i100_52 d100_52 
theorem i100_53 : am_ins 100 53 = (2, 5, 2, 0, []) := by decide +kernel
theorem d100_53 : decode (am_cod 100) 53 = .ok (.istore 5, 2) := by decide +kernel
theorem s100_53 (K : aK) : am_Snd K 100 53 := sn_istore i100_53 d100_53 (by decide +kernel)
theorem i100_55 : am_ins 100 55 = (1, 5, 2, 0, []) := by decide +kernel
theorem d100_55 : decode (am_cod 100) 55 = .ok (.iload 5, 2) := by decide +kernel
theorem s100_55 (K : aK) : am_Snd K 100 55 := sn_iload i100_55 d100_55 
theorem i100_57 : am_ins 100 57 = (0, 1, 0, 1, []) := by decide +kernel
theorem d100_57 : decode (am_cod 100) 57 = .ok (.iconst 1, 1) := by decide +kernel
theorem s100_57 (K : aK) : am_Snd K 100 57 := sn_const1 i100_57 d100_57 rfl
theorem i100_58 : am_ins 100 58 = (13, 0, 70, 0, []) := by decide +kernel
theorem d100_58 : decode (am_cod 100) 58 = .ok (.if_icmp .eq 12, 3) := by decide +kernel
theorem s100_58 (K : aK) : am_Snd K 100 58 := sn_icmp_eq i100_58 d100_58 rfl
theorem i100_61 : am_ins 100 61 = (1, 5, 2, 0, []) := by decide +kernel
theorem d100_61 : decode (am_cod 100) 61 = .ok (.iload 5, 2) := by decide +kernel
theorem s100_61 (K : aK) : am_Snd K 100 61 := sn_iload i100_61 d100_61 
theorem i100_63 : am_ins 100 63 = (0, 1, 0, 2, []) := by decide +kernel
theorem d100_63 : decode (am_cod 100) 63 = .ok (.iconst 2, 1) := by decide +kernel
theorem s100_63 (K : aK) : am_Snd K 100 63 := sn_const1 i100_63 d100_63 rfl
theorem i100_64 : am_ins 100 64 = (13, 0, 70, 0, []) := by decide +kernel
theorem d100_64 : decode (am_cod 100) 64 = .ok (.if_icmp .eq 6, 3) := by decide +kernel
theorem s100_64 (K : aK) : am_Snd K 100 64 := sn_icmp_eq i100_64 d100_64 rfl
theorem i100_67 : am_ins 100 67 = (14, 105, 0, 0, []) := by decide +kernel
theorem d100_67 : decode (am_cod 100) 67 = .ok (.goto 38, 3) := by decide +kernel
theorem s100_67 (K : aK) : am_Snd K 100 67 := sn_goto i100_67 d100_67 rfl
theorem i100_70 : am_ins 100 70 = (33, 0, 1, 0, []) := by decide +kernel
theorem d100_70 : decode (am_cod 100) 70 = .ok (.aload_n 0, 1) := by decide +kernel
theorem s100_70 (K : aK) : am_Snd K 100 70 := sn_aload_n i100_70 d100_70 rfl
theorem i100_71 : am_ins 100 71 = (18, 7, 12, 0, []) := by decide +kernel
theorem d100_71 : decode (am_cod 100) 71 = .ok (.getfield 44, 3) := by decide +kernel
theorem s100_71 (K : aK) : am_Snd K 100 71 := sn_get (C0 := CN7) (T := FT7) (Nf := 24) i100_71 d100_71 rfl (by decide +kernel) fin7 w_521 rfl
theorem i100_74 : am_ins 100 74 = (0, 3, 0, 200, []) := by decide +kernel
theorem d100_74 : decode (am_cod 100) 74 = .ok (.sipush 200, 3) := by decide +kernel
theorem s100_74 (K : aK) : am_Snd K 100 74 := sn_const3 i100_74 d100_74 (by decide +kernel)
theorem i100_77 : am_ins 100 77 = (1, 1, 1, 0, []) := by decide +kernel
theorem d100_77 : decode (am_cod 100) 77 = .ok (.iload_n 1, 1) := by decide +kernel
theorem s100_77 (K : aK) : am_Snd K 100 77 := sn_iload_n i100_77 d100_77 rfl
theorem i100_78 : am_ins 100 78 = (4, 2, 0, 0, []) := by decide +kernel
theorem d100_78 : decode (am_cod 100) 78 = .ok (.imul, 1) := by decide +kernel
theorem s100_78 (K : aK) : am_Snd K 100 78 := sn_mul i100_78 d100_78 
theorem i100_79 : am_ins 100 79 = (1, 4, 2, 0, []) := by decide +kernel
theorem d100_79 : decode (am_cod 100) 79 = .ok (.iload 4, 2) := by decide +kernel
theorem s100_79 (K : aK) : am_Snd K 100 79 := sn_iload i100_79 d100_79 
theorem i100_81 : am_ins 100 81 = (4, 0, 0, 0, []) := by decide +kernel
theorem d100_81 : decode (am_cod 100) 81 = .ok (.iadd, 1) := by decide +kernel
theorem s100_81 (K : aK) : am_Snd K 100 81 := sn_add i100_81 d100_81 
theorem i100_82 : am_ins 100 82 = (22, 0, 0, 0, []) := by decide +kernel
theorem d100_82 : decode (am_cod 100) 82 = .ok (.iaload, 1) := by decide +kernel
theorem s100_82 (K : aK) : am_Snd K 100 82 := sn_iald i100_82 d100_82 
theorem i100_83 : am_ins 100 83 = (0, 1, 0, 1, []) := by decide +kernel
theorem d100_83 : decode (am_cod 100) 83 = .ok (.iconst 1, 1) := by decide +kernel
theorem s100_83 (K : aK) : am_Snd K 100 83 := sn_const1 i100_83 d100_83 rfl
theorem i100_84 : am_ins 100 84 = (4, 1, 0, 0, []) := by decide +kernel
theorem d100_84 : decode (am_cod 100) 84 = .ok (.isub, 1) := by decide +kernel
theorem s100_84 (K : aK) : am_Snd K 100 84 := sn_sub i100_84 d100_84 
theorem i100_85 : am_ins 100 85 = (2, 6, 2, 0, []) := by decide +kernel
theorem d100_85 : decode (am_cod 100) 85 = .ok (.istore 6, 2) := by decide +kernel
theorem s100_85 (K : aK) : am_Snd K 100 85 := sn_istore i100_85 d100_85 (by decide +kernel)
theorem i100_87 : am_ins 100 87 = (1, 3, 1, 0, []) := by decide +kernel
theorem d100_87 : decode (am_cod 100) 87 = .ok (.iload_n 3, 1) := by decide +kernel
theorem s100_87 (K : aK) : am_Snd K 100 87 := sn_iload_n i100_87 d100_87 rfl
theorem i100_88 : am_ins 100 88 = (12, 0, 100, 0, []) := by decide +kernel
theorem d100_88 : decode (am_cod 100) 88 = .ok (.ifCond .eq 12, 3) := by decide +kernel
theorem s100_88 (K : aK) : am_Snd K 100 88 := sn_if_eq i100_88 d100_88 rfl
theorem i100_91 : am_ins 100 91 = (1, 2, 1, 0, []) := by decide +kernel
theorem d100_91 : decode (am_cod 100) 91 = .ok (.iload_n 2, 1) := by decide +kernel
theorem s100_91 (K : aK) : am_Snd K 100 91 := sn_iload_n i100_91 d100_91 rfl
theorem i100_92 : am_ins 100 92 = (1, 6, 2, 0, []) := by decide +kernel
theorem d100_92 : decode (am_cod 100) 92 = .ok (.iload 6, 2) := by decide +kernel
theorem s100_92 (K : aK) : am_Snd K 100 92 := sn_iload i100_92 d100_92 
theorem i100_94 : am_ins 100 94 = (37, 0, 0, 0, []) := by decide +kernel
theorem d100_94 : decode (am_cod 100) 94 = .ok (.invokestatic 138, 3) := by decide +kernel
theorem s100_94 (K : aK) : am_Snd K 100 94 := sn_min i100_94 d100_94 w_593 w_181 w_7 w_182
theorem i100_97 : am_ins 100 97 = (14, 102, 0, 0, []) := by decide +kernel
theorem d100_97 : decode (am_cod 100) 97 = .ok (.goto 5, 3) := by decide +kernel
theorem s100_97 (K : aK) : am_Snd K 100 97 := sn_goto i100_97 d100_97 rfl
theorem i100_100 : am_ins 100 100 = (1, 6, 2, 0, []) := by decide +kernel
theorem d100_100 : decode (am_cod 100) 100 = .ok (.iload 6, 2) := by decide +kernel
theorem s100_100 (K : aK) : am_Snd K 100 100 := sn_iload i100_100 d100_100 
theorem i100_102 : am_ins 100 102 = (2, 2, 1, 0, []) := by decide +kernel
theorem d100_102 : decode (am_cod 100) 102 = .ok (.istore_n 2, 1) := by decide +kernel
theorem s100_102 (K : aK) : am_Snd K 100 102 := sn_istore_n i100_102 d100_102 rfl (by decide +kernel)
theorem i100_103 : am_ins 100 103 = (0, 1, 0, 1, []) := by decide +kernel
theorem d100_103 : decode (am_cod 100) 103 = .ok (.iconst 1, 1) := by decide +kernel
theorem s100_103 (K : aK) : am_Snd K 100 103 := sn_const1 i100_103 d100_103 rfl
theorem i100_104 : am_ins 100 104 = (2, 3, 1, 0, []) := by decide +kernel
theorem d100_104 : decode (am_cod 100) 104 = .ok (.istore_n 3, 1) := by decide +kernel
theorem s100_104 (K : aK) : am_Snd K 100 104 := sn_istore_n i100_104 d100_104 rfl (by decide +kernel)
theorem i100_105 : am_ins 100 105 = (3, 4, 3, 1, []) := by decide +kernel
theorem d100_105 : decode (am_cod 100) 105 = .ok (.iinc 4 1, 3) := by decide +kernel
theorem s100_105 (K : aK) : am_Snd K 100 105 := sn_iinc i100_105 d100_105 rfl (by decide +kernel)
theorem i100_108 : am_ins 100 108 = (14, 31, 0, 0, []) := by decide +kernel
theorem d100_108 : decode (am_cod 100) 108 = .ok (.goto (-77), 3) := by decide +kernel
theorem s100_108 (K : aK) : am_Snd K 100 108 := sn_goto i100_108 d100_108 rfl
theorem i100_111 : am_ins 100 111 = (0, 1, 0, 3, []) := by decide +kernel
theorem d100_111 : decode (am_cod 100) 111 = .ok (.iconst 3, 1) := by decide +kernel
theorem s100_111 (K : aK) : am_Snd K 100 111 := sn_const1 i100_111 d100_111 rfl
theorem i100_112 : am_ins 100 112 = (1, 1, 1, 0, []) := by decide +kernel
theorem d100_112 : decode (am_cod 100) 112 = .ok (.iload_n 1, 1) := by decide +kernel
theorem s100_112 (K : aK) : am_Snd K 100 112 := sn_iload_n i100_112 d100_112 rfl
theorem i100_113 : am_ins 100 113 = (4, 2, 0, 0, []) := by decide +kernel
theorem d100_113 : decode (am_cod 100) 113 = .ok (.imul, 1) := by decide +kernel
theorem s100_113 (K : aK) : am_Snd K 100 113 := sn_mul i100_113 d100_113 
theorem i100_114 : am_ins 100 114 = (2, 4, 2, 0, []) := by decide +kernel
theorem d100_114 : decode (am_cod 100) 114 = .ok (.istore 4, 2) := by decide +kernel
theorem s100_114 (K : aK) : am_Snd K 100 114 := sn_istore i100_114 d100_114 (by decide +kernel)
theorem i100_116 : am_ins 100 116 = (33, 0, 1, 0, []) := by decide +kernel
theorem d100_116 : decode (am_cod 100) 116 = .ok (.aload_n 0, 1) := by decide +kernel
theorem s100_116 (K : aK) : am_Snd K 100 116 := sn_aload_n i100_116 d100_116 rfl
theorem i100_117 : am_ins 100 117 = (18, 7, 13, 0, []) := by decide +kernel
theorem d100_117 : decode (am_cod 100) 117 = .ok (.getfield 47, 3) := by decide +kernel
theorem s100_117 (K : aK) : am_Snd K 100 117 := sn_get (C0 := CN7) (T := FT7) (Nf := 24) i100_117 d100_117 rfl (by decide +kernel) fin7 w_522 rfl
theorem i100_120 : am_ins 100 120 = (1, 4, 2, 0, []) := by decide +kernel
theorem d100_120 : decode (am_cod 100) 120 = .ok (.iload 4, 2) := by decide +kernel
theorem s100_120 (K : aK) : am_Snd K 100 120 := sn_iload i100_120 d100_120 
theorem i100_122 : am_ins 100 122 = (1, 1, 1, 0, []) := by decide +kernel
theorem d100_122 : decode (am_cod 100) 122 = .ok (.iload_n 1, 1) := by decide +kernel
theorem s100_122 (K : aK) : am_Snd K 100 122 := sn_iload_n i100_122 d100_122 rfl
theorem i100_123 : am_ins 100 123 = (61, 75, 1, 0, []) := by decide +kernel
theorem d100_123 : decode (am_cod 100) 123 = .ok (.invokestatic 81, 3) := by decide +kernel
theorem s100_123 (K : aK) : am_SndC K 100 123 := sc_S i100_123 d100_123 co75 w_673 w_674 w_6 hd75
theorem i100_126 : am_ins 100 126 = (4, 0, 0, 0, []) := by decide +kernel
theorem d100_126 : decode (am_cod 100) 126 = .ok (.iadd, 1) := by decide +kernel
theorem s100_126 (K : aK) : am_Snd K 100 126 := sn_add i100_126 d100_126 
theorem i100_127 : am_ins 100 127 = (1, 2, 1, 0, []) := by decide +kernel
theorem d100_127 : decode (am_cod 100) 127 = .ok (.iload_n 2, 1) := by decide +kernel
theorem s100_127 (K : aK) : am_Snd K 100 127 := sn_iload_n i100_127 d100_127 rfl
theorem i100_128 : am_ins 100 128 = (23, 0, 0, 0, []) := by decide +kernel
theorem d100_128 : decode (am_cod 100) 128 = .ok (.iastore, 1) := by decide +kernel
theorem s100_128 (K : aK) : am_Snd K 100 128 := sn_iast i100_128 d100_128 
theorem i100_129 : am_ins 100 129 = (0, 1, 0, 0, []) := by decide +kernel
theorem d100_129 : decode (am_cod 100) 129 = .ok (.iconst 0, 1) := by decide +kernel
theorem s100_129 (K : aK) : am_Snd K 100 129 := sn_const1 i100_129 d100_129 rfl
theorem i100_130 : am_ins 100 130 = (2, 5, 2, 0, []) := by decide +kernel
theorem d100_130 : decode (am_cod 100) 130 = .ok (.istore 5, 2) := by decide +kernel
theorem s100_130 (K : aK) : am_Snd K 100 130 := sn_istore i100_130 d100_130 (by decide +kernel)
theorem i100_132 : am_ins 100 132 = (1, 5, 2, 0, []) := by decide +kernel
theorem d100_132 : decode (am_cod 100) 132 = .ok (.iload 5, 2) := by decide +kernel
theorem s100_132 (K : aK) : am_Snd K 100 132 := sn_iload i100_132 d100_132 
theorem i100_134 : am_ins 100 134 = (0, 1, 0, 3, []) := by decide +kernel
theorem d100_134 : decode (am_cod 100) 134 = .ok (.iconst 3, 1) := by decide +kernel
theorem s100_134 (K : aK) : am_Snd K 100 134 := sn_const1 i100_134 d100_134 rfl
theorem i100_135 : am_ins 100 135 = (13, 3, 171, 0, []) := by decide +kernel
theorem d100_135 : decode (am_cod 100) 135 = .ok (.if_icmp .ge 36, 3) := by decide +kernel
theorem s100_135 (K : aK) : am_Snd K 100 135 := sn_icmp_ge i100_135 d100_135 rfl
theorem i100_138 : am_ins 100 138 = (1, 5, 2, 0, []) := by decide +kernel
theorem d100_138 : decode (am_cod 100) 138 = .ok (.iload 5, 2) := by decide +kernel
theorem s100_138 (K : aK) : am_Snd K 100 138 := sn_iload i100_138 d100_138 
theorem i100_140 : am_ins 100 140 = (1, 1, 1, 0, []) := by decide +kernel
theorem d100_140 : decode (am_cod 100) 140 = .ok (.iload_n 1, 1) := by decide +kernel
theorem s100_140 (K : aK) : am_Snd K 100 140 := sn_iload_n i100_140 d100_140 rfl
theorem i100_141 : am_ins 100 141 = (61, 75, 1, 0, []) := by decide +kernel
theorem d100_141 : decode (am_cod 100) 141 = .ok (.invokestatic 81, 3) := by decide +kernel
theorem s100_141 (K : aK) : am_SndC K 100 141 := sc_S i100_141 d100_141 co75 w_673 w_674 w_6 hd75
theorem i100_144 : am_ins 100 144 = (13, 0, 165, 0, []) := by decide +kernel
theorem d100_144 : decode (am_cod 100) 144 = .ok (.if_icmp .eq 21, 3) := by decide +kernel
theorem s100_144 (K : aK) : am_Snd K 100 144 := sn_icmp_eq i100_144 d100_144 rfl
theorem i100_147 : am_ins 100 147 = (33, 0, 1, 0, []) := by decide +kernel
theorem d100_147 : decode (am_cod 100) 147 = .ok (.aload_n 0, 1) := by decide +kernel
theorem s100_147 (K : aK) : am_Snd K 100 147 := sn_aload_n i100_147 d100_147 rfl
theorem i100_148 : am_ins 100 148 = (1, 1, 1, 0, []) := by decide +kernel
theorem d100_148 : decode (am_cod 100) 148 = .ok (.iload_n 1, 1) := by decide +kernel
theorem s100_148 (K : aK) : am_Snd K 100 148 := sn_iload_n i100_148 d100_148 rfl
theorem i100_149 : am_ins 100 149 = (0, 1, 0, 2, []) := by decide +kernel
theorem d100_149 : decode (am_cod 100) 149 = .ok (.iconst 2, 1) := by decide +kernel
theorem s100_149 (K : aK) : am_Snd K 100 149 := sn_const1 i100_149 d100_149 rfl
theorem i100_150 : am_ins 100 150 = (1, 5, 2, 0, []) := by decide +kernel
theorem d100_150 : decode (am_cod 100) 150 = .ok (.iload 5, 2) := by decide +kernel
theorem s100_150 (K : aK) : am_Snd K 100 150 := sn_iload i100_150 d100_150 
theorem i100_152 : am_ins 100 152 = (4, 2, 0, 0, []) := by decide +kernel
theorem d100_152 : decode (am_cod 100) 152 = .ok (.imul, 1) := by decide +kernel
theorem s100_152 (K : aK) : am_Snd K 100 152 := sn_mul i100_152 d100_152 
theorem i100_153 : am_ins 100 153 = (1, 1, 1, 0, []) := by decide +kernel
theorem d100_153 : decode (am_cod 100) 153 = .ok (.iload_n 1, 1) := by decide +kernel
theorem s100_153 (K : aK) : am_Snd K 100 153 := sn_iload_n i100_153 d100_153 rfl
theorem i100_154 : am_ins 100 154 = (0, 1, 0, 2, []) := by decide +kernel
theorem d100_154 : decode (am_cod 100) 154 = .ok (.iconst 2, 1) := by decide +kernel
theorem s100_154 (K : aK) : am_Snd K 100 154 := sn_const1 i100_154 d100_154 rfl
theorem i100_155 : am_ins 100 155 = (6, 0, 0, 0, []) := by decide +kernel
theorem d100_155 : decode (am_cod 100) 155 = .ok (.irem, 1) := by decide +kernel
theorem s100_155 (K : aK) : am_Snd K 100 155 := sn_rem i100_155 d100_155 
theorem i100_156 : am_ins 100 156 = (4, 0, 0, 0, []) := by decide +kernel
theorem d100_156 : decode (am_cod 100) 156 = .ok (.iadd, 1) := by decide +kernel
theorem s100_156 (K : aK) : am_Snd K 100 156 := sn_add i100_156 d100_156 
theorem i100_157 : am_ins 100 157 = (0, 1, 0, 5, []) := by decide +kernel
theorem d100_157 : decode (am_cod 100) 157 = .ok (.iconst 5, 1) := by decide +kernel
theorem s100_157 (K : aK) : am_Snd K 100 157 := sn_const1 i100_157 d100_157 rfl
theorem i100_158 : am_ins 100 158 = (1, 2, 1, 0, []) := by decide +kernel
theorem d100_158 : decode (am_cod 100) 158 = .ok (.iload_n 2, 1) := by decide +kernel
theorem s100_158 (K : aK) : am_Snd K 100 158 := sn_iload_n i100_158 d100_158 rfl
theorem i100_159 : am_ins 100 159 = (0, 1, 0, 0, []) := by decide +kernel
theorem d100_159 : decode (am_cod 100) 159 = .ok (.iconst 0, 1) := by decide +kernel
theorem s100_159 (K : aK) : am_Snd K 100 159 := sn_const1 i100_159 d100_159 rfl
theorem i100_160 : am_ins 100 160 = (0, 1, 0, 0, []) := by decide +kernel
theorem d100_160 : decode (am_cod 100) 160 = .ok (.iconst 0, 1) := by decide +kernel
theorem s100_160 (K : aK) : am_Snd K 100 160 := sn_const1 i100_160 d100_160 rfl
theorem i100_161 : am_ins 100 161 = (0, 1, 0, 0, []) := by decide +kernel
theorem d100_161 : decode (am_cod 100) 161 = .ok (.iconst 0, 1) := by decide +kernel
theorem s100_161 (K : aK) : am_Snd K 100 161 := sn_const1 i100_161 d100_161 rfl
theorem i100_162 : am_ins 100 162 = (60, 85, 7, 0, []) := by decide +kernel
theorem d100_162 : decode (am_cod 100) 162 = .ok (.invokevirtual 122, 3) := by decide +kernel
theorem s100_162 (K : aK) : am_SndC K 100 162 := sc_V i100_162 d100_162 co85 w_645 w_647 ws_20 w_6 rfl (rr := (CN7, FT7, 24)) rfl rfl hd85
theorem i100_165 : am_ins 100 165 = (3, 5, 3, 1, []) := by decide +kernel
theorem d100_165 : decode (am_cod 100) 165 = .ok (.iinc 5 1, 3) := by decide +kernel
theorem s100_165 (K : aK) : am_Snd K 100 165 := sn_iinc i100_165 d100_165 rfl (by decide +kernel)
theorem i100_168 : am_ins 100 168 = (14, 132, 0, 0, []) := by decide +kernel
theorem d100_168 : decode (am_cod 100) 168 = .ok (.goto (-36), 3) := by decide +kernel
theorem s100_168 (K : aK) : am_Snd K 100 168 := sn_goto i100_168 d100_168 rfl
theorem i100_171 : am_ins 100 171 = (1, 1, 1, 0, []) := by decide +kernel
theorem d100_171 : decode (am_cod 100) 171 = .ok (.iload_n 1, 1) := by decide +kernel
theorem s100_171 (K : aK) : am_Snd K 100 171 := sn_iload_n i100_171 d100_171 rfl
theorem i100_172 : am_ins 100 172 = (0, 1, 0, 2, []) := by decide +kernel
theorem d100_172 : decode (am_cod 100) 172 = .ok (.iconst 2, 1) := by decide +kernel
theorem s100_172 (K : aK) : am_Snd K 100 172 := sn_const1 i100_172 d100_172 rfl
theorem i100_173 : am_ins 100 173 = (6, 0, 0, 0, []) := by decide +kernel
theorem d100_173 : decode (am_cod 100) 173 = .ok (.irem, 1) := by decide +kernel
theorem s100_173 (K : aK) : am_Snd K 100 173 := sn_rem i100_173 d100_173 
theorem i100_174 : am_ins 100 174 = (12, 1, 183, 0, []) := by decide +kernel
theorem d100_174 : decode (am_cod 100) 174 = .ok (.ifCond .ne 9, 3) := by decide +kernel
theorem s100_174 (K : aK) : am_Snd K 100 174 := sn_if_ne i100_174 d100_174 rfl
theorem i100_177 : am_ins 100 177 = (1, 1, 1, 0, []) := by decide +kernel
theorem d100_177 : decode (am_cod 100) 177 = .ok (.iload_n 1, 1) := by decide +kernel
theorem s100_177 (K : aK) : am_Snd K 100 177 := sn_iload_n i100_177 d100_177 rfl
theorem i100_178 : am_ins 100 178 = (0, 1, 0, 1, []) := by decide +kernel
theorem d100_178 : decode (am_cod 100) 178 = .ok (.iconst 1, 1) := by decide +kernel
theorem s100_178 (K : aK) : am_Snd K 100 178 := sn_const1 i100_178 d100_178 rfl
theorem i100_179 : am_ins 100 179 = (4, 0, 0, 0, []) := by decide +kernel
theorem d100_179 : decode (am_cod 100) 179 = .ok (.iadd, 1) := by decide +kernel
theorem s100_179 (K : aK) : am_Snd K 100 179 := sn_add i100_179 d100_179 
theorem i100_180 : am_ins 100 180 = (14, 186, 0, 0, []) := by decide +kernel
theorem d100_180 : decode (am_cod 100) 180 = .ok (.goto 6, 3) := by decide +kernel
theorem s100_180 (K : aK) : am_Snd K 100 180 := sn_goto i100_180 d100_180 rfl
theorem i100_183 : am_ins 100 183 = (1, 1, 1, 0, []) := by decide +kernel
theorem d100_183 : decode (am_cod 100) 183 = .ok (.iload_n 1, 1) := by decide +kernel
theorem s100_183 (K : aK) : am_Snd K 100 183 := sn_iload_n i100_183 d100_183 rfl
theorem i100_184 : am_ins 100 184 = (0, 1, 0, 1, []) := by decide +kernel
theorem d100_184 : decode (am_cod 100) 184 = .ok (.iconst 1, 1) := by decide +kernel
theorem s100_184 (K : aK) : am_Snd K 100 184 := sn_const1 i100_184 d100_184 rfl
theorem i100_185 : am_ins 100 185 = (4, 1, 0, 0, []) := by decide +kernel
theorem d100_185 : decode (am_cod 100) 185 = .ok (.isub, 1) := by decide +kernel
theorem s100_185 (K : aK) : am_Snd K 100 185 := sn_sub i100_185 d100_185 
theorem i100_186 : am_ins 100 186 = (2, 5, 2, 0, []) := by decide +kernel
theorem d100_186 : decode (am_cod 100) 186 = .ok (.istore 5, 2) := by decide +kernel
theorem s100_186 (K : aK) : am_Snd K 100 186 := sn_istore i100_186 d100_186 (by decide +kernel)
theorem i100_188 : am_ins 100 188 = (33, 0, 1, 0, []) := by decide +kernel
theorem d100_188 : decode (am_cod 100) 188 = .ok (.aload_n 0, 1) := by decide +kernel
theorem s100_188 (K : aK) : am_Snd K 100 188 := sn_aload_n i100_188 d100_188 rfl
theorem i100_189 : am_ins 100 189 = (1, 1, 1, 0, []) := by decide +kernel
theorem d100_189 : decode (am_cod 100) 189 = .ok (.iload_n 1, 1) := by decide +kernel
theorem s100_189 (K : aK) : am_Snd K 100 189 := sn_iload_n i100_189 d100_189 rfl
theorem i100_190 : am_ins 100 190 = (1, 5, 2, 0, []) := by decide +kernel
theorem d100_190 : decode (am_cod 100) 190 = .ok (.iload 5, 2) := by decide +kernel
theorem s100_190 (K : aK) : am_Snd K 100 190 := sn_iload i100_190 d100_190 
theorem i100_192 : am_ins 100 192 = (0, 2, 0, 6, []) := by decide +kernel
theorem d100_192 : decode (am_cod 100) 192 = .ok (.bipush 6, 2) := by decide +kernel
theorem s100_192 (K : aK) : am_Snd K 100 192 := sn_const2 i100_192 d100_192 (by decide +kernel)
theorem i100_194 : am_ins 100 194 = (0, 1, 0, (-1), []) := by decide +kernel
theorem d100_194 : decode (am_cod 100) 194 = .ok (.iconst (-1), 1) := by decide +kernel
theorem s100_194 (K : aK) : am_Snd K 100 194 := sn_const1 i100_194 d100_194 rfl
theorem i100_195 : am_ins 100 195 = (33, 0, 1, 0, []) := by decide +kernel
theorem d100_195 : decode (am_cod 100) 195 = .ok (.aload_n 0, 1) := by decide +kernel
theorem s100_195 (K : aK) : am_Snd K 100 195 := sn_aload_n i100_195 d100_195 rfl
theorem i100_196 : am_ins 100 196 = (18, 7, 13, 0, []) := by decide +kernel
theorem d100_196 : decode (am_cod 100) 196 = .ok (.getfield 47, 3) := by decide +kernel
theorem s100_196 (K : aK) : am_Snd K 100 196 := sn_get (C0 := CN7) (T := FT7) (Nf := 24) i100_196 d100_196 rfl (by decide +kernel) fin7 w_522 rfl
theorem i100_199 : am_ins 100 199 = (1, 4, 2, 0, []) := by decide +kernel
theorem d100_199 : decode (am_cod 100) 199 = .ok (.iload 4, 2) := by decide +kernel
theorem s100_199 (K : aK) : am_Snd K 100 199 := sn_iload i100_199 d100_199 
theorem i100_201 : am_ins 100 201 = (22, 0, 0, 0, []) := by decide +kernel
theorem d100_201 : decode (am_cod 100) 201 = .ok (.iaload, 1) := by decide +kernel
theorem s100_201 (K : aK) : am_Snd K 100 201 := sn_iald i100_201 d100_201 
theorem i100_202 : am_ins 100 202 = (33, 0, 1, 0, []) := by decide +kernel
theorem d100_202 : decode (am_cod 100) 202 = .ok (.aload_n 0, 1) := by decide +kernel
theorem s100_202 (K : aK) : am_Snd K 100 202 := sn_aload_n i100_202 d100_202 rfl
theorem i100_203 : am_ins 100 203 = (18, 7, 13, 0, []) := by decide +kernel
theorem d100_203 : decode (am_cod 100) 203 = .ok (.getfield 47, 3) := by decide +kernel
theorem s100_203 (K : aK) : am_Snd K 100 203 := sn_get (C0 := CN7) (T := FT7) (Nf := 24) i100_203 d100_203 rfl (by decide +kernel) fin7 w_522 rfl
theorem i100_206 : am_ins 100 206 = (1, 4, 2, 0, []) := by decide +kernel
theorem d100_206 : decode (am_cod 100) 206 = .ok (.iload 4, 2) := by decide +kernel
theorem s100_206 (K : aK) : am_Snd K 100 206 := sn_iload i100_206 d100_206 
theorem i100_208 : am_ins 100 208 = (0, 1, 0, 1, []) := by decide +kernel
theorem d100_208 : decode (am_cod 100) 208 = .ok (.iconst 1, 1) := by decide +kernel
theorem s100_208 (K : aK) : am_Snd K 100 208 := sn_const1 i100_208 d100_208 rfl
theorem i100_209 : am_ins 100 209 = (4, 0, 0, 0, []) := by decide +kernel
theorem d100_209 : decode (am_cod 100) 209 = .ok (.iadd, 1) := by decide +kernel
theorem s100_209 (K : aK) : am_Snd K 100 209 := sn_add i100_209 d100_209 
theorem i100_210 : am_ins 100 210 = (22, 0, 0, 0, []) := by decide +kernel
theorem d100_210 : decode (am_cod 100) 210 = .ok (.iaload, 1) := by decide +kernel
theorem s100_210 (K : aK) : am_Snd K 100 210 := sn_iald i100_210 d100_210 
theorem i100_211 : am_ins 100 211 = (33, 0, 1, 0, []) := by decide +kernel
theorem d100_211 : decode (am_cod 100) 211 = .ok (.aload_n 0, 1) := by decide +kernel
theorem s100_211 (K : aK) : am_Snd K 100 211 := sn_aload_n i100_211 d100_211 rfl
theorem i100_212 : am_ins 100 212 = (18, 7, 13, 0, []) := by decide +kernel
theorem d100_212 : decode (am_cod 100) 212 = .ok (.getfield 47, 3) := by decide +kernel
theorem s100_212 (K : aK) : am_Snd K 100 212 := sn_get (C0 := CN7) (T := FT7) (Nf := 24) i100_212 d100_212 rfl (by decide +kernel) fin7 w_522 rfl
theorem i100_215 : am_ins 100 215 = (1, 4, 2, 0, []) := by decide +kernel
theorem d100_215 : decode (am_cod 100) 215 = .ok (.iload 4, 2) := by decide +kernel
theorem s100_215 (K : aK) : am_Snd K 100 215 := sn_iload i100_215 d100_215 
theorem i100_217 : am_ins 100 217 = (0, 1, 0, 2, []) := by decide +kernel
theorem d100_217 : decode (am_cod 100) 217 = .ok (.iconst 2, 1) := by decide +kernel
theorem s100_217 (K : aK) : am_Snd K 100 217 := sn_const1 i100_217 d100_217 rfl
theorem i100_218 : am_ins 100 218 = (4, 0, 0, 0, []) := by decide +kernel
theorem d100_218 : decode (am_cod 100) 218 = .ok (.iadd, 1) := by decide +kernel
theorem s100_218 (K : aK) : am_Snd K 100 218 := sn_add i100_218 d100_218 
theorem i100_219 : am_ins 100 219 = (22, 0, 0, 0, []) := by decide +kernel
theorem d100_219 : decode (am_cod 100) 219 = .ok (.iaload, 1) := by decide +kernel
theorem s100_219 (K : aK) : am_Snd K 100 219 := sn_iald i100_219 d100_219 
theorem i100_220 : am_ins 100 220 = (60, 85, 7, 0, []) := by decide +kernel
theorem d100_220 : decode (am_cod 100) 220 = .ok (.invokevirtual 122, 3) := by decide +kernel
theorem s100_220 (K : aK) : am_SndC K 100 220 := sc_V i100_220 d100_220 co85 w_645 w_647 ws_20 w_6 rfl (rr := (CN7, FT7, 24)) rfl rfl hd85
theorem i100_223 : am_ins 100 223 = (33, 0, 1, 0, []) := by decide +kernel
theorem d100_223 : decode (am_cod 100) 223 = .ok (.aload_n 0, 1) := by decide +kernel
theorem s100_223 (K : aK) : am_Snd K 100 223 := sn_aload_n i100_223 d100_223 rfl
theorem i100_224 : am_ins 100 224 = (18, 7, 10, 0, []) := by decide +kernel
theorem d100_224 : decode (am_cod 100) 224 = .ok (.getfield 38, 3) := by decide +kernel
theorem s100_224 (K : aK) : am_Snd K 100 224 := sn_get (C0 := CN7) (T := FT7) (Nf := 24) i100_224 d100_224 rfl (by decide +kernel) fin7 w_519 rfl
theorem i100_227 : am_ins 100 227 = (1, 1, 1, 0, []) := by decide +kernel
theorem d100_227 : decode (am_cod 100) 227 = .ok (.iload_n 1, 1) := by decide +kernel
theorem s100_227 (K : aK) : am_Snd K 100 227 := sn_iload_n i100_227 d100_227 rfl
theorem i100_228 : am_ins 100 228 = (22, 0, 0, 0, []) := by decide +kernel
theorem d100_228 : decode (am_cod 100) 228 = .ok (.iaload, 1) := by decide +kernel
theorem s100_228 (K : aK) : am_Snd K 100 228 := sn_iald i100_228 d100_228 
theorem i100_229 : am_ins 100 229 = (50, 0, 0, 0, []) := by decide +kernel
theorem d100_229 : decode (am_cod 100) 229 = .ok (.ireturn, 1) := by decide +kernel
theorem s100_229 : am_SndR 100 229 := sn_iret i100_229 d100_229 rfl
theorem al100_0 (K : aK) : ∀ q ∈ [0, 1, 4, 7, 8, 9, 10, 13, 14, 15, 16, 17, 18, 19, 20, 23, 24, 25, 26, 27, 28, 29, 31, 33, 34, 37, 40, 41, 44, 47], am_All K 100 q := List.forall_mem_cons.mpr ⟨am_alS i100_0 (s100_0 K), List.forall_mem_cons.mpr ⟨am_alC i100_1 (s100_1 K), List.forall_mem_cons.mpr ⟨am_alS i100_4 (s100_4 K), List.forall_mem_cons.mpr ⟨am_alS i100_7 (s100_7 K), List.forall_mem_cons.mpr ⟨am_alR i100_8 s100_8, List.forall_mem_cons.mpr ⟨am_alS i100_9 (s100_9 K), List.forall_mem_cons.mpr ⟨am_alS i100_10 (s100_10 K), List.forall_mem_cons.mpr ⟨am_alS i100_13 (s100_13 K), List.forall_mem_cons.mpr ⟨am_alS i100_14 (s100_14 K), List.forall_mem_cons.mpr ⟨am_alS i100_15 (s100_15 K), List.forall_mem_cons.mpr ⟨am_alS i100_16 (s100_16 K), List.forall_mem_cons.mpr ⟨am_alS i100_17 (s100_17 K), List.forall_mem_cons.mpr ⟨am_alS i100_18 (s100_18 K), List.forall_mem_cons.mpr ⟨am_alS i100_19 (s100_19 K), List.forall_mem_cons.mpr ⟨am_alS i100_20 (s100_20 K), List.forall_mem_cons.mpr ⟨am_alS i100_23 (s100_23 K), List.forall_mem_cons.mpr ⟨am_alS i100_24 (s100_24 K), List.forall_mem_cons.mpr ⟨am_alS i100_25 (s100_25 K), List.forall_mem_cons.mpr ⟨am_alS i100_26 (s100_26 K), List.forall_mem_cons.mpr ⟨am_alS i100_27 (s100_27 K), List.forall_mem_cons.mpr ⟨am_alS i100_28 (s100_28 K), List.forall_mem_cons.mpr ⟨am_alS i100_29 (s100_29 K), List.forall_mem_cons.mpr ⟨am_alS i100_31 (s100_31 K), List.forall_mem_cons.mpr ⟨am_alS i100_33 (s100_33 K), List.forall_mem_cons.mpr ⟨am_alS i100_34 (s100_34 K), List.forall_mem_cons.mpr ⟨am_alS i100_37 (s100_37 K), List.forall_mem_cons.mpr ⟨am_alS i100_40 (s100_40 K), List.forall_mem_cons.mpr ⟨am_alS i100_41 (s100_41 K), List.forall_mem_cons.mpr ⟨am_alS i100_44 (s100_44 K), List.forall_mem_cons.mpr ⟨am_alS i100_47 (s100_47 K), fun _ h => absurd h List.not_mem_nil⟩⟩⟩⟩⟩⟩⟩⟩⟩⟩⟩⟩⟩⟩⟩⟩⟩⟩⟩⟩⟩⟩⟩⟩⟩⟩⟩⟩⟩⟩
theorem al100_1 (K : aK) : ∀ q ∈ [48, 49, 51, 52, 53, 55, 57, 58, 61, 63, 64, 67, 70, 71, 74, 77, 78, 79, 81, 82, 83, 84, 85, 87, 88, 91, 92, 94, 97, 100], am_All K 100 q := List.forall_mem_cons.mpr ⟨am_alS i100_48 (s100_48 K), List.forall_mem_cons.mpr ⟨am_alS i100_49 (s100_49 K), List.forall_mem_cons.mpr ⟨am_alS i100_51 (s100_51 K), List.forall_mem_cons.mpr ⟨am_alS i100_52 (s100_52 K), List.forall_mem_cons.mpr ⟨am_alS i100_53 (s100_53 K), List.forall_mem_cons.mpr ⟨am_alS i100_55 (s100_55 K), List.forall_mem_cons.mpr ⟨am_alS i100_57 (s100_57 K), List.forall_mem_cons.mpr ⟨am_alS i100_58 (s100_58 K), List.forall_mem_cons.mpr ⟨am_alS i100_61 (s100_61 K), List.forall_mem_cons.mpr ⟨am_alS i100_63 (s100_63 K), List.forall_mem_cons.mpr ⟨am_alS i100_64 (s100_64 K), List.forall_mem_cons.mpr ⟨am_alS i100_67 (s100_67 K), List.forall_mem_cons.mpr ⟨am_alS i100_70 (s100_70 K), List.forall_mem_cons.mpr ⟨am_alS i100_71 (s100_71 K), List.forall_mem_cons.mpr ⟨am_alS i100_74 (s100_74 K), List.forall_mem_cons.mpr ⟨am_alS i100_77 (s100_77 K), List.forall_mem_cons.mpr ⟨am_alS i100_78 (s100_78 K), List.forall_mem_cons.mpr ⟨am_alS i100_79 (s100_79 K), List.forall_mem_cons.mpr ⟨am_alS i100_81 (s100_81 K), List.forall_mem_cons.mpr ⟨am_alS i100_82 (s100_82 K), List.forall_mem_cons.mpr ⟨am_alS i100_83 (s100_83 K), List.forall_mem_cons.mpr ⟨am_alS i100_84 (s100_84 K), List.forall_mem_cons.mpr ⟨am_alS i100_85 (s100_85 K), List.forall_mem_cons.mpr ⟨am_alS i100_87 (s100_87 K), List.forall_mem_cons.mpr ⟨am_alS i100_88 (s100_88 K), List.forall_mem_cons.mpr ⟨am_alS i100_91 (s100_91 K), List.forall_mem_cons.mpr ⟨am_alS i100_92 (s100_92 K), List.forall_mem_cons.mpr ⟨am_alS i100_94 (s100_94 K), List.forall_mem_cons.mpr ⟨am_alS i100_97 (s100_97 K), List.forall_mem_cons.mpr ⟨am_alS i100_100 (s100_100 K), fun _ h => absurd h List.not_mem_nil⟩⟩⟩⟩⟩⟩⟩⟩⟩⟩⟩⟩⟩⟩⟩⟩⟩⟩⟩⟩⟩⟩⟩⟩⟩⟩⟩⟩⟩⟩
theorem al100_2 (K : aK) : ∀ q ∈ [102, 103, 104, 105, 108, 111, 112, 113, 114, 116, 117, 120, 122, 123, 126, 127, 128, 129, 130, 132, 134, 135, 138, 140, 141, 144, 147, 148, 149, 150], am_All K 100 q := List.forall_mem_cons.mpr ⟨am_alS i100_102 (s100_102 K), List.forall_mem_cons.mpr ⟨am_alS i100_103 (s100_103 K), List.forall_mem_cons.mpr ⟨am_alS i100_104 (s100_104 K), List.forall_mem_cons.mpr ⟨am_alS i100_105 (s100_105 K), List.forall_mem_cons.mpr ⟨am_alS i100_108 (s100_108 K), List.forall_mem_cons.mpr ⟨am_alS i100_111 (s100_111 K), List.forall_mem_cons.mpr ⟨am_alS i100_112 (s100_112 K), List.forall_mem_cons.mpr ⟨am_alS i100_113 (s100_113 K), List.forall_mem_cons.mpr ⟨am_alS i100_114 (s100_114 K), List.forall_mem_cons.mpr ⟨am_alS i100_116 (s100_116 K), List.forall_mem_cons.mpr ⟨am_alS i100_117 (s100_117 K), List.forall_mem_cons.mpr ⟨am_alS i100_120 (s100_120 K), List.forall_mem_cons.mpr ⟨am_alS i100_122 (s100_122 K), List.forall_mem_cons.mpr ⟨am_alC i100_123 (s100_123 K), List.forall_mem_cons.mpr ⟨am_alS i100_126 (s100_126 K), List.forall_mem_cons.mpr ⟨am_alS i100_127 (s100_127 K), List.forall_mem_cons.mpr ⟨am_alS i100_128 (s100_128 K), List.forall_mem_cons.mpr ⟨am_alS i100_129 (s100_129 K), List.forall_mem_cons.mpr ⟨am_alS i100_130 (s100_130 K), List.forall_mem_cons.mpr ⟨am_alS i100_132 (s100_132 K), List.forall_mem_cons.mpr ⟨am_alS i100_134 (s100_134 K), List.forall_mem_cons.mpr ⟨am_alS i100_135 (s100_135 K), List.forall_mem_cons.mpr ⟨am_alS i100_138 (s100_138 K), List.forall_mem_cons.mpr ⟨am_alS i100_140 (s100_140 K), List.forall_mem_cons.mpr ⟨am_alC i100_141 (s100_141 K), List.forall_mem_cons.mpr ⟨am_alS i100_144 (s100_144 K), List.forall_mem_cons.mpr ⟨am_alS i100_147 (s100_147 K), List.forall_mem_cons.mpr ⟨am_alS i100_148 (s100_148 K), List.forall_mem_cons.mpr ⟨am_alS i100_149 (s100_149 K), List.forall_mem_cons.mpr ⟨am_alS i100_150 (s100_150 K), fun _ h => absurd h List.not_mem_nil⟩⟩⟩⟩⟩⟩⟩⟩⟩⟩⟩⟩⟩⟩⟩⟩⟩⟩⟩⟩⟩⟩⟩⟩⟩⟩⟩⟩⟩⟩
theorem al100_3 (K : aK) : ∀ q ∈ [152, 153, 154, 155, 156, 157, 158, 159, 160, 161, 162, 165, 168, 171, 172, 173, 174, 177, 178, 179, 180, 183, 184, 185, 186, 188, 189, 190, 192, 194], am_All K 100 q := List.forall_mem_cons.mpr ⟨am_alS i100_152 (s100_152 K), List.forall_mem_cons.mpr ⟨am_alS i100_153 (s100_153 K), List.forall_mem_cons.mpr ⟨am_alS i100_154 (s100_154 K), List.forall_mem_cons.mpr ⟨am_alS i100_155 (s100_155 K), List.forall_mem_cons.mpr ⟨am_alS i100_156 (s100_156 K), List.forall_mem_cons.mpr ⟨am_alS i100_157 (s100_157 K), List.forall_mem_cons.mpr ⟨am_alS i100_158 (s100_158 K), List.forall_mem_cons.mpr ⟨am_alS i100_159 (s100_159 K), List.forall_mem_cons.mpr ⟨am_alS i100_160 (s100_160 K), List.forall_mem_cons.mpr ⟨am_alS i100_161 (s100_161 K), List.forall_mem_cons.mpr ⟨am_alC i100_162 (s100_162 K), List.forall_mem_cons.mpr ⟨am_alS i100_165 (s100_165 K), List.forall_mem_cons.mpr ⟨am_alS i100_168 (s100_168 K), List.forall_mem_cons.mpr ⟨am_alS i100_171 (s100_171 K), List.forall_mem_cons.mpr ⟨am_alS i100_172 (s100_172 K), List.forall_mem_cons.mpr ⟨am_alS i100_173 (s100_173 K), List.forall_mem_cons.mpr ⟨am_alS i100_174 (s100_174 K), List.forall_mem_cons.mpr ⟨am_alS i100_177 (s100_177 K), List.forall_mem_cons.mpr ⟨am_alS i100_178 (s100_178 K), List.forall_mem_cons.mpr ⟨am_alS i100_179 (s100_179 K), List.forall_mem_cons.mpr ⟨am_alS i100_180 (s100_180 K), List.forall_mem_cons.mpr ⟨am_alS i100_183 (s100_183 K), List.forall_mem_cons.mpr ⟨am_alS i100_184 (s100_184 K), List.forall_mem_cons.mpr ⟨am_alS i100_185 (s100_185 K), List.forall_mem_cons.mpr ⟨am_alS i100_186 (s100_186 K), List.forall_mem_cons.mpr ⟨am_alS i100_188 (s100_188 K), List.forall_mem_cons.mpr ⟨am_alS i100_189 (s100_189 K), List.forall_mem_cons.mpr ⟨am_alS i100_190 (s100_190 K), List.forall_mem_cons.mpr ⟨am_alS i100_192 (s100_192 K), List.forall_mem_cons.mpr ⟨am_alS i100_194 (s100_194 K), fun _ h => absurd h List.not_mem_nil⟩⟩⟩⟩⟩⟩⟩⟩⟩⟩⟩⟩⟩⟩⟩⟩⟩⟩⟩⟩⟩⟩⟩⟩⟩⟩⟩⟩⟩⟩
theorem al100_4 (K : aK) : ∀ q ∈ [195, 196, 199, 201, 202, 203, 206, 208, 209, 210, 211, 212, 215, 217, 218, 219, 220, 223, 224, 227, 228, 229], am_All K 100 q := List.forall_mem_cons.mpr ⟨am_alS i100_195 (s100_195 K), List.forall_mem_cons.mpr ⟨am_alS i100_196 (s100_196 K), List.forall_mem_cons.mpr ⟨am_alS i100_199 (s100_199 K), List.forall_mem_cons.mpr ⟨am_alS i100_201 (s100_201 K), List.forall_mem_cons.mpr ⟨am_alS i100_202 (s100_202 K), List.forall_mem_cons.mpr ⟨am_alS i100_203 (s100_203 K), List.forall_mem_cons.mpr ⟨am_alS i100_206 (s100_206 K), List.forall_mem_cons.mpr ⟨am_alS i100_208 (s100_208 K), List.forall_mem_cons.mpr ⟨am_alS i100_209 (s100_209 K), List.forall_mem_cons.mpr ⟨am_alS i100_210 (s100_210 K), List.forall_mem_cons.mpr ⟨am_alS i100_211 (s100_211 K), List.forall_mem_cons.mpr ⟨am_alS i100_212 (s100_212 K), List.forall_mem_cons.mpr ⟨am_alS i100_215 (s100_215 K), List.forall_mem_cons.mpr ⟨am_alS i100_217 (s100_217 K), List.forall_mem_cons.mpr ⟨am_alS i100_218 (s100_218 K), List.forall_mem_cons.mpr ⟨am_alS i100_219 (s100_219 K), List.forall_mem_cons.mpr ⟨am_alC i100_220 (s100_220 K), List.forall_mem_cons.mpr ⟨am_alS i100_223 (s100_223 K), List.forall_mem_cons.mpr ⟨am_alS i100_224 (s100_224 K), List.forall_mem_cons.mpr ⟨am_alS i100_227 (s100_227 K), List.forall_mem_cons.mpr ⟨am_alS i100_228 (s100_228 K), List.forall_mem_cons.mpr ⟨am_alR i100_229 s100_229, fun _ h => absurd h List.not_mem_nil⟩⟩⟩⟩⟩⟩⟩⟩⟩⟩⟩⟩⟩⟩⟩⟩⟩⟩⟩⟩⟩⟩
set_option maxRecDepth 100000 in
theorem al100 (K : aK) : ∀ q ∈ (am_t100).map (fun z => z.1), am_All K 100 q := by
  have e : (am_t100).map (fun z => z.1) = [0, 1, 4, 7, 8, 9, 10, 13, 14, 15, 16, 17, 18, 19, 20, 23, 24, 25, 26, 27, 28, 29, 31, 33, 34, 37, 40, 41, 44, 47] ++ ([48, 49, 51, 52, 53, 55, 57, 58, 61, 63, 64, 67, 70, 71, 74, 77, 78, 79, 81, 82, 83, 84, 85, 87, 88, 91, 92, 94, 97, 100] ++ ([102, 103, 104, 105, 108, 111, 112, 113, 114, 116, 117, 120, 122, 123, 126, 127, 128, 129, 130, 132, 134, 135, 138, 140, 141, 144, 147, 148, 149, 150] ++ ([152, 153, 154, 155, 156, 157, 158, 159, 160, 161, 162, 165, 168, 171, 172, 173, 174, 177, 178, 179, 180, 183, 184, 185, 186, 188, 189, 190, 192, 194] ++ ([195, 196, 199, 201, 202, 203, 206, 208, 209, 210, 211, 212, 215, 217, 218, 219, 220, 223, 224, 227, 228, 229])))) := rfl
  rw [e]
  exact List.forall_mem_append.mpr ⟨al100_0 K, List.forall_mem_append.mpr ⟨al100_1 K, List.forall_mem_append.mpr ⟨al100_2 K, List.forall_mem_append.mpr ⟨al100_3 K, al100_4 K⟩⟩⟩⟩
