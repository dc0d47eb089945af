theorem i68_0 : am_ins 68 0 = (33, 0, 1, 0, []) := by decide +kernel
theorem d68_0 : decode (am_cod 68) 0 = .ok (.aload_n 0, 1) := by decide +kernel
theorem s68_0 (K : aK) : am_Snd K 68 0 := sn_aload_n i68_0 d68_0 rfl
theorem i68_1 : am_ins 68 1 = (1, 1, 1, 0, []) := by decide +kernel
theorem d68_1 : decode (am_cod 68) 1 = .ok (.iload_n 1, 1) := by decide +kernel
theorem s68_1 (K : aK) : am_Snd K 68 1 := sn_iload_n i68_1 d68_1 rfl
theorem i68_2 : am_ins 68 2 = (60, 67, 1, 0, []) := by decide +kernel
theorem d68_2 : decode (am_cod 68) 2 = .ok (.invokevirtual 23, 3) := by decide +kernel
theorem s68_2 (K : aK) : am_SndC K 68 2 := sc_V i68_2 d68_2 co67 w_219 w_211 w_212 w_3 rfl (rr := (CN6, FT6, 2)) rfl rfl hd67
theorem i68_5 : am_ins 68 5 = (12, 0, 17, 0, []) := by decide +kernel
theorem d68_5 : decode (am_cod 68) 5 = .ok (.ifCond .eq 12, 3) := by decide +kernel
theorem s68_5 (K : aK) : am_Snd K 68 5 := sn_if_eq i68_5 d68_5 rfl
theorem i68_8 : am_ins 68 8 = (33, 0, 1, 0, []) := by decide +kernel
theorem d68_8 : decode (am_cod 68) 8 = .ok (.aload_n 0, 1) := by decide +kernel
theorem s68_8 (K : aK) : am_Snd K 68 8 := sn_aload_n i68_8 d68_8 rfl
theorem i68_9 : am_ins 68 9 = (18, 6, 1, 0, []) := by decide +kernel
theorem d68_9 : decode (am_cod 68) 9 = .ok (.getfield 15, 3) := by decide +kernel
theorem s68_9 (K : aK) : am_Snd K 68 9 := sn_get (C0 := CN6) (T := FT6) (Nf := 2) i68_9 d68_9 rfl (by decide +kernel) fin6 w_34 rfl
theorem i68_12 : am_ins 68 12 = (1, 1, 1, 0, []) := by decide +kernel
theorem d68_12 : decode (am_cod 68) 12 = .ok (.iload_n 1, 1) := by decide +kernel
theorem s68_12 (K : aK) : am_Snd K 68 12 := sn_iload_n i68_12 d68_12 rfl
theorem i68_13 : am_ins 68 13 = (22, 0, 0, 0, []) := by decide +kernel
theorem d68_13 : decode (am_cod 68) 13 = .ok (.iaload, 1) := by decide +kernel
theorem s68_13 (K : aK) : am_Snd K 68 13 := sn_iald i68_13 d68_13 
theorem i68_14 : am_ins 68 14 = (14, 18, 0, 0, []) := by decide +kernel
theorem d68_14 : decode (am_cod 68) 14 = .ok (.goto 4, 3) := by decide +kernel
theorem s68_14 (K : aK) : am_Snd K 68 14 := sn_goto i68_14 d68_14 rfl
theorem i68_17 : am_ins 68 17 = (0, 1, 0, 0, []) := by decide +kernel
theorem d68_17 : decode (am_cod 68) 17 = .ok (.iconst 0, 1) := by decide +kernel
theorem s68_17 (K : aK) : am_Snd K 68 17 := sn_const1 i68_17 d68_17 rfl
theorem i68_18 : am_ins 68 18 = (50, 0, 0, 0, []) := by decide +kernel
theorem d68_18 : decode (am_cod 68) 18 = .ok (.ireturn, 1) := by decide +kernel
theorem s68_18 : am_SndR 68 18 := sn_iret i68_18 d68_18 rfl
theorem al68_0 (K : aK) : ∀ q ∈ [0, 1, 2, 5, 8, 9, 12, 13, 14, 17, 18], am_All K 68 q := List.forall_mem_cons.mpr ⟨am_alS i68_0 (s68_0 K), List.forall_mem_cons.mpr ⟨am_alS i68_1 (s68_1 K), List.forall_mem_cons.mpr ⟨am_alC i68_2 (s68_2 K), List.forall_mem_cons.mpr ⟨am_alS i68_5 (s68_5 K), List.forall_mem_cons.mpr ⟨am_alS i68_8 (s68_8 K), List.forall_mem_cons.mpr ⟨am_alS i68_9 (s68_9 K), List.forall_mem_cons.mpr ⟨am_alS i68_12 (s68_12 K), List.forall_mem_cons.mpr ⟨am_alS i68_13 (s68_13 K), List.forall_mem_cons.mpr ⟨am_alS i68_14 (s68_14 K), List.forall_mem_cons.mpr ⟨am_alS i68_17 (s68_17 K), List.forall_mem_cons.mpr ⟨am_alR i68_18 s68_18, fun _ h => absurd h List.not_mem_nil⟩⟩⟩⟩⟩⟩⟩⟩⟩⟩⟩
set_option maxRecDepth 100000 in
theorem al68 (K : aK) : ∀ q ∈ (am_t68).map (fun z => z.1), am_All K 68 q := by
  have e : (am_t68).map (fun z => z.1) = [0, 1, 2, 5, 8, 9, 12, 13, 14, 17, 18] := rfl
  rw [e]
  exact al68_0 K
theorem i69_0 : am_ins 69 0 = (0, 1, 0, 0, []) := by decide +kernel
theorem d69_0 : decode (am_cod 69) 0 = .ok (.iconst 0, 1) := by decide +kernel
theorem s69_0 (K : aK) : am_Snd K 69 0 := sn_const1 i69_0 d69_0 rfl
theorem i69_1 : am_ins 69 1 = (2, 1, 1, 0, []) := by decide +kernel
theorem d69_1 : decode (am_cod 69) 1 = .ok (.istore_n 1, 1) := by decide +kernel
theorem s69_1 (K : aK) : am_Snd K 69 1 := sn_istore_n i69_1 d69_1 rfl (by decide +kernel)
theorem i69_2 : am_ins 69 2 = (0, 1, 0, 0, []) := by decide +kernel
theorem d69_2 : decode (am_cod 69) 2 = .ok (.iconst 0, 1) := by decide +kernel
theorem s69_2 (K : aK) : am_Snd K 69 2 := sn_const1 i69_2 d69_2 rfl
theorem i69_3 : am_ins 69 3 = (2, 2, 1, 0, []) := by decide +kernel
theorem d69_3 : decode (am_cod 69) 3 = .ok (.istore_n 2, 1) := by decide +kernel
theorem s69_3 (K : aK) : am_Snd K 69 3 := sn_istore_n i69_3 d69_3 rfl (by decide +kernel)
theorem i69_4 : am_ins 69 4 = (1, 2, 1, 0, []) := by decide +kernel
theorem d69_4 : decode (am_cod 69) 4 = .ok (.iload_n 2, 1) := by decide +kernel
theorem s69_4 (K : aK) : am_Snd K 69 4 := sn_iload_n i69_4 d69_4 rfl
theorem i69_5 : am_ins 69 5 = (0, 2, 0, 8, []) := by decide +kernel
theorem d69_5 : decode (am_cod 69) 5 = .ok (.bipush 8, 2) := by decide +kernel
theorem s69_5 (K : aK) : am_Snd K 69 5 := sn_const2 i69_5 d69_5 (by decide +kernel)
theorem i69_7 : am_ins 69 7 = (13, 3, 28, 0, []) := by decide +kernel
theorem d69_7 : decode (am_cod 69) 7 = .ok (.if_icmp .ge 21, 3) := by decide +kernel
theorem s69_7 (K : aK) : am_Snd K 69 7 := sn_icmp_ge i69_7 d69_7 rfl
theorem i69_10 : am_ins 69 10 = (33, 0, 1, 0, []) := by decide +kernel
theorem d69_10 : decode (am_cod 69) 10 = .ok (.aload_n 0, 1) := by decide +kernel
theorem s69_10 (K : aK) : am_Snd K 69 10 := sn_aload_n i69_10 d69_10 rfl
theorem i69_11 : am_ins 69 11 = (18, 6, 0, 0, []) := by decide +kernel
theorem d69_11 : decode (am_cod 69) 11 = .ok (.getfield 9, 3) := by decide +kernel
theorem s69_11 (K : aK) : am_Snd K 69 11 := sn_get (C0 := CN6) (T := FT6) (Nf := 2) i69_11 d69_11 rfl (by decide +kernel) fin6 w_33 rfl
theorem i69_14 : am_ins 69 14 = (1, 2, 1, 0, []) := by decide +kernel
theorem d69_14 : decode (am_cod 69) 14 = .ok (.iload_n 2, 1) := by decide +kernel
theorem s69_14 (K : aK) : am_Snd K 69 14 := sn_iload_n i69_14 d69_14 rfl
theorem i69_15 : am_ins 69 15 = (24, 0, 0, 0, []) := by decide +kernel
theorem d69_15 : decode (am_cod 69) 15 = .ok (.baload, 1) := by decide +kernel
theorem s69_15 (K : aK) : am_Snd K 69 15 := sn_zald i69_15 d69_15 
theorem i69_16 : am_ins 69 16 = (12, 0, 22, 0, []) := by decide +kernel
theorem d69_16 : decode (am_cod 69) 16 = .ok (.ifCond .eq 6, 3) := by decide +kernel
theorem s69_16 (K : aK) : am_Snd K 69 16 := sn_if_eq i69_16 d69_16 rfl
theorem i69_19 : am_ins 69 19 = (3, 1, 3, 1, []) := by decide +kernel
theorem d69_19 : decode (am_cod 69) 19 = .ok (.iinc 1 1, 3) := by decide +kernel
theorem s69_19 (K : aK) : am_Snd K 69 19 := sn_iinc i69_19 d69_19 rfl (by decide +kernel)
theorem i69_22 : am_ins 69 22 = (3, 2, 3, 1, []) := by decide +kernel
theorem d69_22 : decode (am_cod 69) 22 = .ok (.iinc 2 1, 3) := by decide +kernel
theorem s69_22 (K : aK) : am_Snd K 69 22 := sn_iinc i69_22 d69_22 rfl (by decide +kernel)
theorem i69_25 : am_ins 69 25 = (14, 4, 0, 0, []) := by decide +kernel
theorem d69_25 : decode (am_cod 69) 25 = .ok (.goto (-21), 3) := by decide +kernel
theorem s69_25 (K : aK) : am_Snd K 69 25 := sn_goto i69_25 d69_25 rfl
theorem i69_28 : am_ins 69 28 = (1, 1, 1, 0, []) := by decide +kernel
theorem d69_28 : decode (am_cod 69) 28 = .ok (.iload_n 1, 1) := by decide +kernel
theorem s69_28 (K : aK) : am_Snd K 69 28 := sn_iload_n i69_28 d69_28 rfl
theorem i69_29 : am_ins 69 29 = (50, 0, 0, 0, []) := by decide +kernel
theorem d69_29 : decode (am_cod 69) 29 = .ok (.ireturn, 1) := by decide +kernel
theorem s69_29 : am_SndR 69 29 := sn_iret i69_29 d69_29 rfl
theorem al69_0 (K : aK) : ∀ q ∈ [0, 1, 2, 3, 4, 5, 7, 10, 11, 14, 15, 16, 19, 22, 25, 28, 29], am_All K 69 q := List.forall_mem_cons.mpr ⟨am_alS i69_0 (s69_0 K), List.forall_mem_cons.mpr ⟨am_alS i69_1 (s69_1 K), List.forall_mem_cons.mpr ⟨am_alS i69_2 (s69_2 K), List.forall_mem_cons.mpr ⟨am_alS i69_3 (s69_3 K), List.forall_mem_cons.mpr ⟨am_alS i69_4 (s69_4 K), List.forall_mem_cons.mpr ⟨am_alS i69_5 (s69_5 K), List.forall_mem_cons.mpr ⟨am_alS i69_7 (s69_7 K), List.forall_mem_cons.mpr ⟨am_alS i69_10 (s69_10 K), List.forall_mem_cons.mpr ⟨am_alS i69_11 (s69_11 K), List.forall_mem_cons.mpr ⟨am_alS i69_14 (s69_14 K), List.forall_mem_cons.mpr ⟨am_alS i69_15 (s69_15 K), List.forall_mem_cons.mpr ⟨am_alS i69_16 (s69_16 K), List.forall_mem_cons.mpr ⟨am_alS i69_19 (s69_19 K), List.forall_mem_cons.mpr ⟨am_alS i69_22 (s69_22 K), List.forall_mem_cons.mpr ⟨am_alS i69_25 (s69_25 K), List.forall_mem_cons.mpr ⟨am_alS i69_28 (s69_28 K), List.forall_mem_cons.mpr ⟨am_alR i69_29 s69_29, fun _ h => absurd h List.not_mem_nil⟩⟩⟩⟩⟩⟩⟩⟩⟩⟩⟩⟩⟩⟩⟩⟩⟩
set_option maxRecDepth 100000 in
theorem al69 (K : aK) : ∀ q ∈ (am_t69).map (fun z => z.1), am_All K 69 q := by
  have e : (am_t69).map (fun z => z.1) = [0, 1, 2, 3, 4, 5, 7, 10, 11, 14, 15, 16, 19, 22, 25, 28, 29] := rfl
  rw [e]
  exact al69_0 K
theorem i70_0 : am_ins 70 0 = (0, 1, 0, 0, []) := by decide +kernel
theorem d70_0 : decode (am_cod 70) 0 = .ok (.iconst 0, 1) := by decide +kernel
theorem s70_0 (K : aK) : am_Snd K 70 0 := sn_const1 i70_0 d70_0 rfl
theorem i70_1 : am_ins 70 1 = (2, 2, 1, 0, []) := by decide +kernel
theorem d70_1 : decode (am_cod 70) 1 = .ok (.istore_n 2, 1) := by decide +kernel
theorem s70_1 (K : aK) : am_Snd K 70 1 := sn_istore_n i70_1 d70_1 rfl (by decide +kernel)
theorem i70_2 : am_ins 70 2 = (1, 2, 1, 0, []) := by decide +kernel
theorem d70_2 : decode (am_cod 70) 2 = .ok (.iload_n 2, 1) := by decide +kernel
theorem s70_2 (K : aK) : am_Snd K 70 2 := sn_iload_n i70_2 d70_2 rfl
theorem i70_3 : am_ins 70 3 = (0, 2, 0, 8, []) := by decide +kernel
theorem d70_3 : decode (am_cod 70) 3 = .ok (.bipush 8, 2) := by decide +kernel
theorem s70_3 (K : aK) : am_Snd K 70 3 := sn_const2 i70_3 d70_3 (by decide +kernel)
theorem i70_5 : am_ins 70 5 = (13, 3, 33, 0, []) := by decide +kernel
theorem d70_5 : decode (am_cod 70) 5 = .ok (.if_icmp .ge 28, 3) := by decide +kernel
theorem s70_5 (K : aK) : am_Snd K 70 5 := sn_icmp_ge i70_5 d70_5 rfl
theorem i70_8 : am_ins 70 8 = (33, 0, 1, 0, []) := by decide +kernel
theorem d70_8 : decode (am_cod 70) 8 = .ok (.aload_n 0, 1) := by decide +kernel
theorem s70_8 (K : aK) : am_Snd K 70 8 := sn_aload_n i70_8 d70_8 rfl
theorem i70_9 : am_ins 70 9 = (18, 6, 0, 0, []) := by decide +kernel
theorem d70_9 : decode (am_cod 70) 9 = .ok (.getfield 9, 3) := by decide +kernel
theorem s70_9 (K : aK) : am_Snd K 70 9 := sn_get (C0 := CN6) (T := FT6) (Nf := 2) i70_9 d70_9 rfl (by decide +kernel) fin6 w_33 rfl
theorem i70_12 : am_ins 70 12 = (1, 2, 1, 0, []) := by decide +kernel
theorem d70_12 : decode (am_cod 70) 12 = .ok (.iload_n 2, 1) := by decide +kernel
theorem s70_12 (K : aK) : am_Snd K 70 12 := sn_iload_n i70_12 d70_12 rfl
theorem i70_13 : am_ins 70 13 = (24, 0, 0, 0, []) := by decide +kernel
theorem d70_13 : decode (am_cod 70) 13 = .ok (.baload, 1) := by decide +kernel
theorem s70_13 (K : aK) : am_Snd K 70 13 := sn_zald i70_13 d70_13 
theorem i70_14 : am_ins 70 14 = (12, 0, 27, 0, []) := by decide +kernel
theorem d70_14 : decode (am_cod 70) 14 = .ok (.ifCond .eq 13, 3) := by decide +kernel
theorem s70_14 (K : aK) : am_Snd K 70 14 := sn_if_eq i70_14 d70_14 rfl
theorem i70_17 : am_ins 70 17 = (33, 1, 1, 0, []) := by decide +kernel
theorem d70_17 : decode (am_cod 70) 17 = .ok (.aload_n 1, 1) := by decide +kernel
theorem s70_17 (K : aK) : am_Snd K 70 17 := sn_aload_n i70_17 d70_17 rfl
theorem i70_18 : am_ins 70 18 = (1, 2, 1, 0, []) := by decide +kernel
theorem d70_18 : decode (am_cod 70) 18 = .ok (.iload_n 2, 1) := by decide +kernel
theorem s70_18 (K : aK) : am_Snd K 70 18 := sn_iload_n i70_18 d70_18 rfl
theorem i70_19 : am_ins 70 19 = (60, 44, 1, 0, []) := by decide +kernel
theorem d70_19 : decode (am_cod 70) 19 = .ok (.invokevirtual 26, 3) := by decide +kernel
theorem s70_19 (K : aK) : am_SndC K 70 19 := sc_V i70_19 d70_19 co44 w_327 w_328 w_329 w_4 rfl (rr := (CN4, FT4, 9)) rfl rfl hd44
theorem i70_22 : am_ins 70 22 = (12, 0, 27, 0, []) := by decide +kernel
theorem d70_22 : decode (am_cod 70) 22 = .ok (.ifCond .eq 5, 3) := by decide +kernel
theorem s70_22 (K : aK) : am_Snd K 70 22 := sn_if_eq i70_22 d70_22 rfl
theorem i70_25 : am_ins 70 25 = (0, 1, 0, 1, []) := by decide +kernel
theorem d70_25 : decode (am_cod 70) 25 = .ok (.iconst 1, 1) := by decide +kernel
theorem s70_25 (K : aK) : am_Snd K 70 25 := sn_const1 i70_25 d70_25 rfl
theorem i70_26 : am_ins 70 26 = (51, 0, 0, 0, []) := by decide +kernel
theorem d70_26 : decode (am_cod 70) 26 = .ok (.ireturn, 1) := by decide +kernel
theorem s70_26 : am_SndR 70 26 := sn_zret i70_26 d70_26 rfl
theorem i70_27 : am_ins 70 27 = (3, 2, 3, 1, []) := by decide +kernel
theorem d70_27 : decode (am_cod 70) 27 = .ok (.iinc 2 1, 3) := by decide +kernel
theorem s70_27 (K : aK) : am_Snd K 70 27 := sn_iinc i70_27 d70_27 rfl (by decide +kernel)
theorem i70_30 : am_ins 70 30 = (14, 2, 0, 0, []) := by decide +kernel
theorem d70_30 : decode (am_cod 70) 30 = .ok (.goto (-28), 3) := by decide +kernel
theorem s70_30 (K : aK) : am_Snd K 70 30 := sn_goto i70_30 d70_30 rfl
theorem i70_33 : am_ins 70 33 = (0, 1, 0, 0, []) := by decide +kernel
theorem d70_33 : decode (am_cod 70) 33 = .ok (.iconst 0, 1) := by decide +kernel
theorem s70_33 (K : aK) : am_Snd K 70 33 := sn_const1 i70_33 d70_33 rfl
theorem i70_34 : am_ins 70 34 = (51, 0, 0, 0, []) := by decide +kernel
theorem d70_34 : decode (am_cod 70) 34 = .ok (.ireturn, 1) := by decide +kernel
theorem s70_34 : am_SndR 70 34 := sn_zret i70_34 d70_34 rfl
theorem al70_0 (K : aK) : ∀ q ∈ [0, 1, 2, 3, 5, 8, 9, 12, 13, 14, 17, 18, 19, 22, 25, 26, 27, 30, 33, 34], am_All K 70 q := List.forall_mem_cons.mpr ⟨am_alS i70_0 (s70_0 K), List.forall_mem_cons.mpr ⟨am_alS i70_1 (s70_1 K), List.forall_mem_cons.mpr ⟨am_alS i70_2 (s70_2 K), List.forall_mem_cons.mpr ⟨am_alS i70_3 (s70_3 K), List.forall_mem_cons.mpr ⟨am_alS i70_5 (s70_5 K), List.forall_mem_cons.mpr ⟨am_alS i70_8 (s70_8 K), List.forall_mem_cons.mpr ⟨am_alS i70_9 (s70_9 K), List.forall_mem_cons.mpr ⟨am_alS i70_12 (s70_12 K), List.forall_mem_cons.mpr ⟨am_alS i70_13 (s70_13 K), List.forall_mem_cons.mpr ⟨am_alS i70_14 (s70_14 K), List.forall_mem_cons.mpr ⟨am_alS i70_17 (s70_17 K), List.forall_mem_cons.mpr ⟨am_alS i70_18 (s70_18 K), List.forall_mem_cons.mpr ⟨am_alC i70_19 (s70_19 K), List.forall_mem_cons.mpr ⟨am_alS i70_22 (s70_22 K), List.forall_mem_cons.mpr ⟨am_alS i70_25 (s70_25 K), List.forall_mem_cons.mpr ⟨am_alR i70_26 s70_26, List.forall_mem_cons.mpr ⟨am_alS i70_27 (s70_27 K), List.forall_mem_cons.mpr ⟨am_alS i70_30 (s70_30 K), List.forall_mem_cons.mpr ⟨am_alS i70_33 (s70_33 K), List.forall_mem_cons.mpr ⟨am_alR i70_34 s70_34, fun _ h => absurd h List.not_mem_nil⟩⟩⟩⟩⟩⟩⟩⟩⟩⟩⟩⟩⟩⟩⟩⟩⟩⟩⟩⟩
set_option maxRecDepth 100000 in
theorem al70 (K : aK) : ∀ q ∈ (am_t70).map (fun z => z.1), am_All K 70 q := by
  have e : (am_t70).map (fun z => z.1) = [0, 1, 2, 3, 5, 8, 9, 12, 13, 14, 17, 18, 19, 22, 25, 26, 27, 30, 33, 34] := rfl
  rw [e]
  exact al70_0 K
theorem i71_0 : am_ins 71 0 = (33, 0, 1, 0, []) := by decide +kernel
theorem d71_0 : decode (am_cod 71) 0 = .ok (.aload_n 0, 1) := by decide +kernel
theorem s71_0 (K : aK) : am_Snd K 71 0 := sn_aload_n i71_0 d71_0 rfl
theorem i71_1 : am_ins 71 1 = (35, 0, 0, 0, []) := by decide +kernel
theorem d71_1 : decode (am_cod 71) 1 = .ok (.invokespecial 1, 3) := by decide +kernel
theorem s71_1 (K : aK) : am_Snd K 71 1 := sn_oinit i71_1 d71_1 w_508 w_16 w_17
theorem i71_4 : am_ins 71 4 = (33, 0, 1, 0, []) := by decide +kernel
theorem d71_4 : decode (am_cod 71) 4 = .ok (.aload_n 0, 1) := by decide +kernel
theorem s71_4 (K : aK) : am_Snd K 71 4 := sn_aload_n i71_4 d71_4 rfl
theorem i71_5 : am_ins 71 5 = (0, 3, 0, 200, []) := by decide +kernel
theorem d71_5 : decode (am_cod 71) 5 = .ok (.sipush 200, 3) := by decide +kernel
theorem s71_5 (K : aK) : am_Snd K 71 5 := sn_const3 i71_5 d71_5 (by decide +kernel)
theorem i71_8 : am_ins 71 8 = (30, 0, 0, 0, []) := by decide +kernel
theorem d71_8 : decode (am_cod 71) 8 = .ok (.newarray .int, 2) := by decide +kernel
theorem s71_8 (K : aK) : am_Snd K 71 8 := sn_newI i71_8 d71_8 w_40
theorem i71_10 : am_ins 71 10 = (21, 7, 1, 0, []) := by decide +kernel
theorem d71_10 : decode (am_cod 71) 10 = .ok (.putfield 9, 3) := by decide +kernel
theorem s71_10 (K : aK) : am_Snd K 71 10 := sn_putrF (ty := .array .int) (C0 := CN7) (T := FT7) (Nf := 24) (tyf := FY7) i71_10 d71_10 rfl (by decide +kernel) fin7 ftyok7 fnm7 w_510 rfl rfl rfl rfl rfl rfl
theorem i71_13 : am_ins 71 13 = (33, 0, 1, 0, []) := by decide +kernel
theorem d71_13 : decode (am_cod 71) 13 = .ok (.aload_n 0, 1) := by decide +kernel
theorem s71_13 (K : aK) : am_Snd K 71 13 := sn_aload_n i71_13 d71_13 rfl
theorem i71_14 : am_ins 71 14 = (0, 3, 0, 600, []) := by decide +kernel
theorem d71_14 : decode (am_cod 71) 14 = .ok (.sipush 600, 3) := by decide +kernel
theorem s71_14 (K : aK) : am_Snd K 71 14 := sn_const3 i71_14 d71_14 (by decide +kernel)
theorem i71_17 : am_ins 71 17 = (30, 0, 0, 0, []) := by decide +kernel
theorem d71_17 : decode (am_cod 71) 17 = .ok (.newarray .int, 2) := by decide +kernel
theorem s71_17 (K : aK) : am_Snd K 71 17 := sn_newI i71_17 d71_17 w_40
theorem i71_19 : am_ins 71 19 = (21, 7, 2, 0, []) := by decide +kernel
theorem d71_19 : decode (am_cod 71) 19 = .ok (.putfield 13, 3) := by decide +kernel
theorem s71_19 (K : aK) : am_Snd K 71 19 := sn_putrF (ty := .array .int) (C0 := CN7) (T := FT7) (Nf := 24) (tyf := FY7) i71_19 d71_19 rfl (by decide +kernel) fin7 ftyok7 fnm7 w_511 rfl rfl rfl rfl rfl rfl
theorem i71_22 : am_ins 71 22 = (33, 0, 1, 0, []) := by decide +kernel
theorem d71_22 : decode (am_cod 71) 22 = .ok (.aload_n 0, 1) := by decide +kernel
theorem s71_22 (K : aK) : am_Snd K 71 22 := sn_aload_n i71_22 d71_22 rfl
theorem i71_23 : am_ins 71 23 = (0, 3, 0, 200, []) := by decide +kernel
theorem d71_23 : decode (am_cod 71) 23 = .ok (.sipush 200, 3) := by decide +kernel
theorem s71_23 (K : aK) : am_Snd K 71 23 := sn_const3 i71_23 d71_23 (by decide +kernel)
theorem i71_26 : am_ins 71 26 = (30, 0, 0, 0, []) := by decide +kernel
theorem d71_26 : decode (am_cod 71) 26 = .ok (.newarray .int, 2) := by decide +kernel
theorem s71_26 (K : aK) : am_Snd K 71 26 := sn_newI i71_26 d71_26 w_40
theorem i71_28 : am_ins 71 28 = (21, 7, 3, 0, []) := by decide +kernel
theorem d71_28 : decode (am_cod 71) 28 = .ok (.putfield 16, 3) := by decide +kernel
theorem s71_28 (K : aK) : am_Snd K 71 28 := sn_putrF (ty := .array .int) (C0 := CN7) (T := FT7) (Nf := 24) (tyf := FY7) i71_28 d71_28 rfl (by decide +kernel) fin7 ftyok7 fnm7 w_512 rfl rfl rfl rfl rfl rfl
theorem i71_31 : am_ins 71 31 = (33, 0, 1, 0, []) := by decide +kernel
theorem d71_31 : decode (am_cod 71) 31 = .ok (.aload_n 0, 1) := by decide +kernel
theorem s71_31 (K : aK) : am_Snd K 71 31 := sn_aload_n i71_31 d71_31 rfl
theorem i71_32 : am_ins 71 32 = (0, 3, 0, 200, []) := by decide +kernel
theorem d71_32 : decode (am_cod 71) 32 = .ok (.sipush 200, 3) := by decide +kernel
theorem s71_32 (K : aK) : am_Snd K 71 32 := sn_const3 i71_32 d71_32 (by decide +kernel)
theorem i71_35 : am_ins 71 35 = (30, 0, 0, 0, []) := by decide +kernel
theorem d71_35 : decode (am_cod 71) 35 = .ok (.newarray .int, 2) := by decide +kernel
theorem s71_35 (K : aK) : am_Snd K 71 35 := sn_newI i71_35 d71_35 w_40
theorem i71_37 : am_ins 71 37 = (21, 7, 4, 0, []) := by decide +kernel
theorem d71_37 : decode (am_cod 71) 37 = .ok (.putfield 19, 3) := by decide +kernel
theorem s71_37 (K : aK) : am_Snd K 71 37 := sn_putrF (ty := .array .int) (C0 := CN7) (T := FT7) (Nf := 24) (tyf := FY7) i71_37 d71_37 rfl (by decide +kernel) fin7 ftyok7 fnm7 w_513 rfl rfl rfl rfl rfl rfl
theorem i71_40 : am_ins 71 40 = (33, 0, 1, 0, []) := by decide +kernel
theorem d71_40 : decode (am_cod 71) 40 = .ok (.aload_n 0, 1) := by decide +kernel
theorem s71_40 (K : aK) : am_Snd K 71 40 := sn_aload_n i71_40 d71_40 rfl
theorem i71_41 : am_ins 71 41 = (0, 3, 0, 1600, []) := by decide +kernel
theorem d71_41 : decode (am_cod 71) 41 = .ok (.sipush 1600, 3) := by decide +kernel
theorem s71_41 (K : aK) : am_Snd K 71 41 := sn_const3 i71_41 d71_41 (by decide +kernel)
theorem i71_44 : am_ins 71 44 = (30, 0, 0, 0, []) := by decide +kernel
theorem d71_44 : decode (am_cod 71) 44 = .ok (.newarray .int, 2) := by decide +kernel
theorem s71_44 (K : aK) : am_Snd K 71 44 := sn_newI i71_44 d71_44 w_40
theorem i71_46 : am_ins 71 46 = (21, 7, 5, 0, []) := by decide +kernel
theorem d71_46 : decode (am_cod 71) 46 = .ok (.putfield 22, 3) := by decide +kernel
theorem s71_46 (K : aK) : am_Snd K 71 46 := sn_putrF (ty := .array .int) (C0 := CN7) (T := FT7) (Nf := 24) (tyf := FY7) i71_46 d71_46 rfl (by decide +kernel) fin7 ftyok7 fnm7 w_514 rfl rfl rfl rfl rfl rfl
theorem i71_49 : am_ins 71 49 = (33, 0, 1, 0, []) := by decide +kernel
theorem d71_49 : decode (am_cod 71) 49 = .ok (.aload_n 0, 1) := by decide +kernel
theorem s71_49 (K : aK) : am_Snd K 71 49 := sn_aload_n i71_49 d71_49 rfl
theorem i71_50 : am_ins 71 50 = (0, 3, 0, 200, []) := by decide +kernel
theorem d71_50 : decode (am_cod 71) 50 = .ok (.sipush 200, 3) := by decide +kernel
theorem s71_50 (K : aK) : am_Snd K 71 50 := sn_const3 i71_50 d71_50 (by decide +kernel)
theorem i71_53 : am_ins 71 53 = (30, 0, 0, 0, []) := by decide +kernel
theorem d71_53 : decode (am_cod 71) 53 = .ok (.newarray .int, 2) := by decide +kernel
theorem s71_53 (K : aK) : am_Snd K 71 53 := sn_newI i71_53 d71_53 w_40
theorem i71_55 : am_ins 71 55 = (21, 7, 6, 0, []) := by decide +kernel
theorem d71_55 : decode (am_cod 71) 55 = .ok (.putfield 25, 3) := by decide +kernel
theorem s71_55 (K : aK) : am_Snd K 71 55 := sn_putrF (ty := .array .int) (C0 := CN7) (T := FT7) (Nf := 24) (tyf := FY7) i71_55 d71_55 rfl (by decide +kernel) fin7 ftyok7 fnm7 w_515 rfl rfl rfl rfl rfl rfl
theorem i71_58 : am_ins 71 58 = (33, 0, 1, 0, []) := by decide +kernel
theorem d71_58 : decode (am_cod 71) 58 = .ok (.aload_n 0, 1) := by decide +kernel
theorem s71_58 (K : aK) : am_Snd K 71 58 := sn_aload_n i71_58 d71_58 rfl
theorem i71_59 : am_ins 71 59 = (0, 3, 0, 200, []) := by decide +kernel
theorem d71_59 : decode (am_cod 71) 59 = .ok (.sipush 200, 3) := by decide +kernel
theorem s71_59 (K : aK) : am_Snd K 71 59 := sn_const3 i71_59 d71_59 (by decide +kernel)
theorem i71_62 : am_ins 71 62 = (30, 0, 0, 0, []) := by decide +kernel
theorem d71_62 : decode (am_cod 71) 62 = .ok (.newarray .int, 2) := by decide +kernel
theorem s71_62 (K : aK) : am_Snd K 71 62 := sn_newI i71_62 d71_62 w_40
theorem i71_64 : am_ins 71 64 = (21, 7, 7, 0, []) := by decide +kernel
theorem d71_64 : decode (am_cod 71) 64 = .ok (.putfield 28, 3) := by decide +kernel
theorem s71_64 (K : aK) : am_Snd K 71 64 := sn_putrF (ty := .array .int) (C0 := CN7) (T := FT7) (Nf := 24) (tyf := FY7) i71_64 d71_64 rfl (by decide +kernel) fin7 ftyok7 fnm7 w_516 rfl rfl rfl rfl rfl rfl
theorem i71_67 : am_ins 71 67 = (33, 0, 1, 0, []) := by decide +kernel
theorem d71_67 : decode (am_cod 71) 67 = .ok (.aload_n 0, 1) := by decide +kernel
theorem s71_67 (K : aK) : am_Snd K 71 67 := sn_aload_n i71_67 d71_67 rfl
theorem i71_68 : am_ins 71 68 = (0, 3, 0, 200, []) := by decide +kernel
theorem d71_68 : decode (am_cod 71) 68 = .ok (.sipush 200, 3) := by decide +kernel
theorem s71_68 (K : aK) : am_Snd K 71 68 := sn_const3 i71_68 d71_68 (by decide +kernel)
theorem i71_71 : am_ins 71 71 = (30, 1, 0, 0, []) := by decide +kernel
theorem d71_71 : decode (am_cod 71) 71 = .ok (.newarray .boolean, 2) := by decide +kernel
theorem s71_71 (K : aK) : am_Snd K 71 71 := sn_newZ i71_71 d71_71 w_41
theorem i71_73 : am_ins 71 73 = (21, 7, 8, 0, []) := by decide +kernel
theorem d71_73 : decode (am_cod 71) 73 = .ok (.putfield 31, 3) := by decide +kernel
theorem s71_73 (K : aK) : am_Snd K 71 73 := sn_putrF (ty := .array .boolean) (C0 := CN7) (T := FT7) (Nf := 24) (tyf := FY7) i71_73 d71_73 rfl (by decide +kernel) fin7 ftyok7 fnm7 w_517 rfl rfl rfl rfl rfl rfl
theorem i71_76 : am_ins 71 76 = (33, 0, 1, 0, []) := by decide +kernel
theorem d71_76 : decode (am_cod 71) 76 = .ok (.aload_n 0, 1) := by decide +kernel
theorem s71_76 (K : aK) : am_Snd K 71 76 := sn_aload_n i71_76 d71_76 rfl
theorem i71_77 : am_ins 71 77 = (0, 3, 0, 200, []) := by decide +kernel
theorem d71_77 : decode (am_cod 71) 77 = .ok (.sipush 200, 3) := by decide +kernel
theorem s71_77 (K : aK) : am_Snd K 71 77 := sn_const3 i71_77 d71_77 (by decide +kernel)
theorem i71_80 : am_ins 71 80 = (30, 0, 0, 0, []) := by decide +kernel
theorem d71_80 : decode (am_cod 71) 80 = .ok (.newarray .int, 2) := by decide +kernel
theorem s71_80 (K : aK) : am_Snd K 71 80 := sn_newI i71_80 d71_80 w_40
theorem i71_82 : am_ins 71 82 = (21, 7, 9, 0, []) := by decide +kernel
theorem d71_82 : decode (am_cod 71) 82 = .ok (.putfield 35, 3) := by decide +kernel
theorem s71_82 (K : aK) : am_Snd K 71 82 := sn_putrF (ty := .array .int) (C0 := CN7) (T := FT7) (Nf := 24) (tyf := FY7) i71_82 d71_82 rfl (by decide +kernel) fin7 ftyok7 fnm7 w_518 rfl rfl rfl rfl rfl rfl
theorem i71_85 : am_ins 71 85 = (33, 0, 1, 0, []) := by decide +kernel
theorem d71_85 : decode (am_cod 71) 85 = .ok (.aload_n 0, 1) := by decide +kernel
theorem s71_85 (K : aK) : am_Snd K 71 85 := sn_aload_n i71_85 d71_85 rfl
theorem i71_86 : am_ins 71 86 = (0, 2, 0, 6, []) := by decide +kernel
theorem d71_86 : decode (am_cod 71) 86 = .ok (.bipush 6, 2) := by decide +kernel
theorem s71_86 (K : aK) : am_Snd K 71 86 := sn_const2 i71_86 d71_86 (by decide +kernel)
theorem i71_88 : am_ins 71 88 = (30, 0, 0, 0, []) := by decide +kernel
theorem d71_88 : decode (am_cod 71) 88 = .ok (.newarray .int, 2) := by decide +kernel
theorem s71_88 (K : aK) : am_Snd K 71 88 := sn_newI i71_88 d71_88 w_40
theorem i71_90 : am_ins 71 90 = (21, 7, 10, 0, []) := by decide +kernel
theorem d71_90 : decode (am_cod 71) 90 = .ok (.putfield 38, 3) := by decide +kernel
theorem s71_90 (K : aK) : am_Snd K 71 90 := sn_putrF (ty := .array .int) (C0 := CN7) (T := FT7) (Nf := 24) (tyf := FY7) i71_90 d71_90 rfl (by decide +kernel) fin7 ftyok7 fnm7 w_519 rfl rfl rfl rfl rfl rfl
theorem i71_93 : am_ins 71 93 = (33, 0, 1, 0, []) := by decide +kernel
theorem d71_93 : decode (am_cod 71) 93 = .ok (.aload_n 0, 1) := by decide +kernel
theorem s71_93 (K : aK) : am_Snd K 71 93 := sn_aload_n i71_93 d71_93 rfl
theorem i71_94 : am_ins 71 94 = (0, 3, 0, 1200, []) := by decide +kernel
theorem d71_94 : decode (am_cod 71) 94 = .ok (.sipush 1200, 3) := by decide +kernel
theorem s71_94 (K : aK) : am_Snd K 71 94 := sn_const3 i71_94 d71_94 (by decide +kernel)
theorem i71_97 : am_ins 71 97 = (30, 0, 0, 0, []) := by decide +kernel
theorem d71_97 : decode (am_cod 71) 97 = .ok (.newarray .int, 2) := by decide +kernel
theorem s71_97 (K : aK) : am_Snd K 71 97 := sn_newI i71_97 d71_97 w_40
theorem i71_99 : am_ins 71 99 = (21, 7, 11, 0, []) := by decide +kernel
theorem d71_99 : decode (am_cod 71) 99 = .ok (.putfield 41, 3) := by decide +kernel
theorem s71_99 (K : aK) : am_Snd K 71 99 := sn_putrF (ty := .array .int) (C0 := CN7) (T := FT7) (Nf := 24) (tyf := FY7) i71_99 d71_99 rfl (by decide +kernel) fin7 ftyok7 fnm7 w_520 rfl rfl rfl rfl rfl rfl
theorem i71_102 : am_ins 71 102 = (33, 0, 1, 0, []) := by decide +kernel
theorem d71_102 : decode (am_cod 71) 102 = .ok (.aload_n 0, 1) := by decide +kernel
theorem s71_102 (K : aK) : am_Snd K 71 102 := sn_aload_n i71_102 d71_102 rfl
theorem i71_103 : am_ins 71 103 = (0, 3, 0, 1200, []) := by decide +kernel
theorem d71_103 : decode (am_cod 71) 103 = .ok (.sipush 1200, 3) := by decide +kernel
theorem s71_103 (K : aK) : am_Snd K 71 103 := sn_const3 i71_103 d71_103 (by decide +kernel)
theorem i71_106 : am_ins 71 106 = (30, 0, 0, 0, []) := by decide +kernel
theorem d71_106 : decode (am_cod 71) 106 = .ok (.newarray .int, 2) := by decide +kernel
theorem s71_106 (K : aK) : am_Snd K 71 106 := sn_newI i71_106 d71_106 w_40
theorem i71_108 : am_ins 71 108 = (21, 7, 12, 0, []) := by decide +kernel
theorem d71_108 : decode (am_cod 71) 108 = .ok (.putfield 44, 3) := by decide +kernel
theorem s71_108 (K : aK) : am_Snd K 71 108 := sn_putrF (ty := .array .int) (C0 := CN7) (T := FT7) (Nf := 24) (tyf := FY7) i71_108 d71_108 rfl (by decide +kernel) fin7 ftyok7 fnm7 w_521 rfl rfl rfl rfl rfl rfl
theorem i71_111 : am_ins 71 111 = (33, 0, 1, 0, []) := by decide +kernel
theorem d71_111 : decode (am_cod 71) 111 = .ok (.aload_n 0, 1) := by decide +kernel
theorem s71_111 (K : aK) : am_Snd K 71 111 := sn_aload_n i71_111 d71_111 rfl
theorem i71_112 : am_ins 71 112 = (0, 2, 0, 18, []) := by decide +kernel
theorem d71_112 : decode (am_cod 71) 112 = .ok (.bipush 18, 2) := by decide +kernel
theorem s71_112 (K : aK) : am_Snd K 71 112 := sn_const2 i71_112 d71_112 (by decide +kernel)
theorem i71_114 : am_ins 71 114 = (30, 0, 0, 0, []) := by decide +kernel
theorem d71_114 : decode (am_cod 71) 114 = .ok (.newarray .int, 2) := by decide +kernel
theorem s71_114 (K : aK) : am_Snd K 71 114 := sn_newI i71_114 d71_114 w_40
theorem i71_116 : am_ins 71 116 = (21, 7, 13, 0, []) := by decide +kernel
theorem d71_116 : decode (am_cod 71) 116 = .ok (.putfield 47, 3) := by decide +kernel
theorem s71_116 (K : aK) : am_Snd K 71 116 := sn_putrF (ty := .array .int) (C0 := CN7) (T := FT7) (Nf := 24) (tyf := FY7) i71_116 d71_116 rfl (by decide +kernel) fin7 ftyok7 fnm7 w_522 rfl rfl rfl rfl rfl rfl
theorem i71_119 : am_ins 71 119 = (33, 0, 1, 0, []) := by decide +kernel
theorem d71_119 : decode (am_cod 71) 119 = .ok (.aload_n 0, 1) := by decide +kernel
theorem s71_119 (K : aK) : am_Snd K 71 119 := sn_aload_n i71_119 d71_119 rfl
theorem i71_120 : am_ins 71 120 = (0, 2, 0, 18, []) := by decide +kernel
theorem d71_120 : decode (am_cod 71) 120 = .ok (.bipush 18, 2) := by decide +kernel
theorem s71_120 (K : aK) : am_Snd K 71 120 := sn_const2 i71_120 d71_120 (by decide +kernel)
theorem i71_122 : am_ins 71 122 = (30, 0, 0, 0, []) := by decide +kernel
theorem d71_122 : decode (am_cod 71) 122 = .ok (.newarray .int, 2) := by decide +kernel
theorem s71_122 (K : aK) : am_Snd K 71 122 := sn_newI i71_122 d71_122 w_40
theorem i71_124 : am_ins 71 124 = (21, 7, 14, 0, []) := by decide +kernel
theorem d71_124 : decode (am_cod 71) 124 = .ok (.putfield 50, 3) := by decide +kernel
theorem s71_124 (K : aK) : am_Snd K 71 124 := sn_putrF (ty := .array .int) (C0 := CN7) (T := FT7) (Nf := 24) (tyf := FY7) i71_124 d71_124 rfl (by decide +kernel) fin7 ftyok7 fnm7 w_523 rfl rfl rfl rfl rfl rfl
theorem i71_127 : am_ins 71 127 = (33, 0, 1, 0, []) := by decide +kernel
theorem d71_127 : decode (am_cod 71) 127 = .ok (.aload_n 0, 1) := by decide +kernel
theorem s71_127 (K : aK) : am_Snd K 71 127 := sn_aload_n i71_127 d71_127 rfl
theorem i71_128 : am_ins 71 128 = (0, 2, 0, 6, []) := by decide +kernel
theorem d71_128 : decode (am_cod 71) 128 = .ok (.bipush 6, 2) := by decide +kernel
theorem s71_128 (K : aK) : am_Snd K 71 128 := sn_const2 i71_128 d71_128 (by decide +kernel)
theorem i71_130 : am_ins 71 130 = (30, 0, 0, 0, []) := by decide +kernel
theorem d71_130 : decode (am_cod 71) 130 = .ok (.newarray .int, 2) := by decide +kernel
theorem s71_130 (K : aK) : am_Snd K 71 130 := sn_newI i71_130 d71_130 w_40
theorem i71_132 : am_ins 71 132 = (21, 7, 15, 0, []) := by decide +kernel
theorem d71_132 : decode (am_cod 71) 132 = .ok (.putfield 53, 3) := by decide +kernel
theorem s71_132 (K : aK) : am_Snd K 71 132 := sn_putrF (ty := .array .int) (C0 := CN7) (T := FT7) (Nf := 24) (tyf := FY7) i71_132 d71_132 rfl (by decide +kernel) fin7 ftyok7 fnm7 w_524 rfl rfl rfl rfl rfl rfl
theorem i71_135 : am_ins 71 135 = (33, 0, 1, 0, []) := by decide +kernel
theorem d71_135 : decode (am_cod 71) 135 = .ok (.aload_n 0, 1) := by decide +kernel
theorem s71_135 (K : aK) : am_Snd K 71 135 := sn_aload_n i71_135 d71_135 rfl
theorem i71_136 : am_ins 71 136 = (0, 2, 0, 6, []) := by decide +kernel
theorem d71_136 : decode (am_cod 71) 136 = .ok (.bipush 6, 2) := by decide +kernel
theorem s71_136 (K : aK) : am_Snd K 71 136 := sn_const2 i71_136 d71_136 (by decide +kernel)
theorem i71_138 : am_ins 71 138 = (30, 0, 0, 0, []) := by decide +kernel
theorem d71_138 : decode (am_cod 71) 138 = .ok (.newarray .int, 2) := by decide +kernel
theorem s71_138 (K : aK) : am_Snd K 71 138 := sn_newI i71_138 d71_138 w_40
theorem i71_140 : am_ins 71 140 = (21, 7, 16, 0, []) := by decide +kernel
theorem d71_140 : decode (am_cod 71) 140 = .ok (.putfield 56, 3) := by decide +kernel
theorem s71_140 (K : aK) : am_Snd K 71 140 := sn_putrF (ty := .array .int) (C0 := CN7) (T := FT7) (Nf := 24) (tyf := FY7) i71_140 d71_140 rfl (by decide +kernel) fin7 ftyok7 fnm7 w_525 rfl rfl rfl rfl rfl rfl
theorem i71_143 : am_ins 71 143 = (33, 0, 1, 0, []) := by decide +kernel
theorem d71_143 : decode (am_cod 71) 143 = .ok (.aload_n 0, 1) := by decide +kernel
theorem s71_143 (K : aK) : am_Snd K 71 143 := sn_aload_n i71_143 d71_143 rfl
theorem i71_144 : am_ins 71 144 = (0, 2, 0, 18, []) := by decide +kernel
theorem d71_144 : decode (am_cod 71) 144 = .ok (.bipush 18, 2) := by decide +kernel
theorem s71_144 (K : aK) : am_Snd K 71 144 := sn_const2 i71_144 d71_144 (by decide +kernel)
theorem i71_146 : am_ins 71 146 = (30, 0, 0, 0, []) := by decide +kernel
theorem d71_146 : decode (am_cod 71) 146 = .ok (.newarray .int, 2) := by decide +kernel
theorem s71_146 (K : aK) : am_Snd K 71 146 := sn_newI i71_146 d71_146 w_40
theorem i71_148 : am_ins 71 148 = (21, 7, 17, 0, []) := by decide +kernel
theorem d71_148 : decode (am_cod 71) 148 = .ok (.putfield 59, 3) := by decide +kernel
theorem s71_148 (K : aK) : am_Snd K 71 148 := sn_putrF (ty := .array .int) (C0 := CN7) (T := FT7) (Nf := 24) (tyf := FY7) i71_148 d71_148 rfl (by decide +kernel) fin7 ftyok7 fnm7 w_526 rfl rfl rfl rfl rfl rfl
theorem i71_151 : am_ins 71 151 = (33, 0, 1, 0, []) := by decide +kernel
theorem d71_151 : decode (am_cod 71) 151 = .ok (.aload_n 0, 1) := by decide +kernel
theorem s71_151 (K : aK) : am_Snd K 71 151 := sn_aload_n i71_151 d71_151 rfl
theorem i71_152 : am_ins 71 152 = (0, 2, 0, 48, []) := by decide +kernel
theorem d71_152 : decode (am_cod 71) 152 = .ok (.bipush 48, 2) := by decide +kernel
theorem s71_152 (K : aK) : am_Snd K 71 152 := sn_const2 i71_152 d71_152 (by decide +kernel)
theorem i71_154 : am_ins 71 154 = (30, 0, 0, 0, []) := by decide +kernel
theorem d71_154 : decode (am_cod 71) 154 = .ok (.newarray .int, 2) := by decide +kernel
theorem s71_154 (K : aK) : am_Snd K 71 154 := sn_newI i71_154 d71_154 w_40
theorem i71_156 : am_ins 71 156 = (21, 7, 18, 0, []) := by decide +kernel
theorem d71_156 : decode (am_cod 71) 156 = .ok (.putfield 62, 3) := by decide +kernel
theorem s71_156 (K : aK) : am_Snd K 71 156 := sn_putrF (ty := .array .int) (C0 := CN7) (T := FT7) (Nf := 24) (tyf := FY7) i71_156 d71_156 rfl (by decide +kernel) fin7 ftyok7 fnm7 w_527 rfl rfl rfl rfl rfl rfl
theorem i71_159 : am_ins 71 159 = (33, 0, 1, 0, []) := by decide +kernel
theorem d71_159 : decode (am_cod 71) 159 = .ok (.aload_n 0, 1) := by decide +kernel
theorem s71_159 (K : aK) : am_Snd K 71 159 := sn_aload_n i71_159 d71_159 rfl
theorem i71_160 : am_ins 71 160 = (0, 2, 0, 6, []) := by decide +kernel
theorem d71_160 : decode (am_cod 71) 160 = .ok (.bipush 6, 2) := by decide +kernel
theorem s71_160 (K : aK) : am_Snd K 71 160 := sn_const2 i71_160 d71_160 (by decide +kernel)
theorem i71_162 : am_ins 71 162 = (30, 0, 0, 0, []) := by decide +kernel
theorem d71_162 : decode (am_cod 71) 162 = .ok (.newarray .int, 2) := by decide +kernel
theorem s71_162 (K : aK) : am_Snd K 71 162 := sn_newI i71_162 d71_162 w_40
theorem i71_164 : am_ins 71 164 = (21, 7, 19, 0, []) := by decide +kernel
theorem d71_164 : decode (am_cod 71) 164 = .ok (.putfield 65, 3) := by decide +kernel
theorem s71_164 (K : aK) : am_Snd K 71 164 := sn_putrF (ty := .array .int) (C0 := CN7) (T := FT7) (Nf := 24) (tyf := FY7) i71_164 d71_164 rfl (by decide +kernel) fin7 ftyok7 fnm7 w_528 rfl rfl rfl rfl rfl rfl
theorem i71_167 : am_ins 71 167 = (33, 0, 1, 0, []) := by decide +kernel
theorem d71_167 : decode (am_cod 71) 167 = .ok (.aload_n 0, 1) := by decide +kernel
theorem s71_167 (K : aK) : am_Snd K 71 167 := sn_aload_n i71_167 d71_167 rfl
theorem i71_168 : am_ins 71 168 = (0, 2, 0, 48, []) := by decide +kernel
theorem d71_168 : decode (am_cod 71) 168 = .ok (.bipush 48, 2) := by decide +kernel
theorem s71_168 (K : aK) : am_Snd K 71 168 := sn_const2 i71_168 d71_168 (by decide +kernel)
theorem i71_170 : am_ins 71 170 = (30, 0, 0, 0, []) := by decide +kernel
theorem d71_170 : decode (am_cod 71) 170 = .ok (.newarray .int, 2) := by decide +kernel
theorem s71_170 (K : aK) : am_Snd K 71 170 := sn_newI i71_170 d71_170 w_40
theorem i71_172 : am_ins 71 172 = (21, 7, 20, 0, []) := by decide +kernel
theorem d71_172 : decode (am_cod 71) 172 = .ok (.putfield 68, 3) := by decide +kernel
theorem s71_172 (K : aK) : am_Snd K 71 172 := sn_putrF (ty := .array .int) (C0 := CN7) (T := FT7) (Nf := 24) (tyf := FY7) i71_172 d71_172 rfl (by decide +kernel) fin7 ftyok7 fnm7 w_529 rfl rfl rfl rfl rfl rfl
theorem i71_175 : am_ins 71 175 = (33, 0, 1, 0, []) := by decide +kernel
theorem d71_175 : decode (am_cod 71) 175 = .ok (.aload_n 0, 1) := by decide +kernel
theorem s71_175 (K : aK) : am_Snd K 71 175 := sn_aload_n i71_175 d71_175 rfl
theorem i71_176 : am_ins 71 176 = (0, 2, 0, 6, []) := by decide +kernel
theorem d71_176 : decode (am_cod 71) 176 = .ok (.bipush 6, 2) := by decide +kernel
theorem s71_176 (K : aK) : am_Snd K 71 176 := sn_const2 i71_176 d71_176 (by decide +kernel)
theorem i71_178 : am_ins 71 178 = (30, 0, 0, 0, []) := by decide +kernel
theorem d71_178 : decode (am_cod 71) 178 = .ok (.newarray .int, 2) := by decide +kernel
theorem s71_178 (K : aK) : am_Snd K 71 178 := sn_newI i71_178 d71_178 w_40
theorem i71_180 : am_ins 71 180 = (21, 7, 21, 0, []) := by decide +kernel
theorem d71_180 : decode (am_cod 71) 180 = .ok (.putfield 71, 3) := by decide +kernel
theorem s71_180 (K : aK) : am_Snd K 71 180 := sn_putrF (ty := .array .int) (C0 := CN7) (T := FT7) (Nf := 24) (tyf := FY7) i71_180 d71_180 rfl (by decide +kernel) fin7 ftyok7 fnm7 w_530 rfl rfl rfl rfl rfl rfl
theorem i71_183 : am_ins 71 183 = (33, 0, 1, 0, []) := by decide +kernel
theorem d71_183 : decode (am_cod 71) 183 = .ok (.aload_n 0, 1) := by decide +kernel
theorem s71_183 (K : aK) : am_Snd K 71 183 := sn_aload_n i71_183 d71_183 rfl
theorem i71_184 : am_ins 71 184 = (0, 3, 0, 448, []) := by decide +kernel
theorem d71_184 : decode (am_cod 71) 184 = .ok (.sipush 448, 3) := by decide +kernel
theorem s71_184 (K : aK) : am_Snd K 71 184 := sn_const3 i71_184 d71_184 (by decide +kernel)
theorem i71_187 : am_ins 71 187 = (30, 0, 0, 0, []) := by decide +kernel
theorem d71_187 : decode (am_cod 71) 187 = .ok (.newarray .int, 2) := by decide +kernel
theorem s71_187 (K : aK) : am_Snd K 71 187 := sn_newI i71_187 d71_187 w_40
theorem i71_189 : am_ins 71 189 = (21, 7, 23, 0, []) := by decide +kernel
theorem d71_189 : decode (am_cod 71) 189 = .ok (.putfield 74, 3) := by decide +kernel
theorem s71_189 (K : aK) : am_Snd K 71 189 := sn_putr (ty := .array .int) (C0 := CN7) (T := FT7) (Nf := 24) (tyf := FY7) i71_189 d71_189 rfl (by decide +kernel) fin7 ftyok7 fnm7 w_532 rfl rfl rfl rfl
theorem i71_192 : am_ins 71 192 = (0, 1, 0, 0, []) := by decide +kernel
theorem d71_192 : decode (am_cod 71) 192 = .ok (.iconst 0, 1) := by decide +kernel
theorem s71_192 (K : aK) : am_Snd K 71 192 := sn_const1 i71_192 d71_192 rfl
theorem i71_193 : am_ins 71 193 = (2, 1, 1, 0, []) := by decide +kernel
theorem d71_193 : decode (am_cod 71) 193 = .ok (.istore_n 1, 1) := by decide +kernel
theorem s71_193 (K : aK) : am_Snd K 71 193 := sn_istore_n i71_193 d71_193 rfl (by decide +kernel)
theorem i71_194 : am_ins 71 194 = (1, 1, 1, 0, []) := by decide +kernel
theorem d71_194 : decode (am_cod 71) 194 = .ok (.iload_n 1, 1) := by decide +kernel
theorem s71_194 (K : aK) : am_Snd K 71 194 := sn_iload_n i71_194 d71_194 rfl
theorem i71_195 : am_ins 71 195 = (33, 0, 1, 0, []) := by decide +kernel
theorem d71_195 : decode (am_cod 71) 195 = .ok (.aload_n 0, 1) := by decide +kernel
theorem s71_195 (K : aK) : am_Snd K 71 195 := sn_aload_n i71_195 d71_195 rfl
theorem i71_196 : am_ins 71 196 = (18, 7, 18, 0, []) := by decide +kernel
theorem d71_196 : decode (am_cod 71) 196 = .ok (.getfield 62, 3) := by decide +kernel
theorem s71_196 (K : aK) : am_Snd K 71 196 := sn_get (C0 := CN7) (T := FT7) (Nf := 24) i71_196 d71_196 rfl (by decide +kernel) fin7 w_527 rfl
theorem i71_199 : am_ins 71 199 = (28, 0, 0, 0, []) := by decide +kernel
theorem d71_199 : decode (am_cod 71) 199 = .ok (.arraylength, 1) := by decide +kernel
theorem s71_199 (K : aK) : am_Snd K 71 199 := sn_alen i71_199 d71_199 
theorem i71_200 : am_ins 71 200 = (13, 3, 216, 0, []) := by decide +kernel
theorem d71_200 : decode (am_cod 71) 200 = .ok (.if_icmp .ge 16, 3) := by decide +kernel
theorem s71_200 (K : aK) : am_Snd K 71 200 := sn_icmp_ge i71_200 d71_200 rfl
theorem i71_203 : am_ins 71 203 = (33, 0, 1, 0, []) := by decide +kernel
theorem d71_203 : decode (am_cod 71) 203 = .ok (.aload_n 0, 1) := by decide +kernel
theorem s71_203 (K : aK) : am_Snd K 71 203 := sn_aload_n i71_203 d71_203 rfl
theorem i71_204 : am_ins 71 204 = (18, 7, 18, 0, []) := by decide +kernel
theorem d71_204 : decode (am_cod 71) 204 = .ok (.getfield 62, 3) := by decide +kernel
theorem s71_204 (K : aK) : am_Snd K 71 204 := sn_get (C0 := CN7) (T := FT7) (Nf := 24) i71_204 d71_204 rfl (by decide +kernel) fin7 w_527 rfl
theorem i71_207 : am_ins 71 207 = (1, 1, 1, 0, []) := by decide +kernel
theorem d71_207 : decode (am_cod 71) 207 = .ok (.iload_n 1, 1) := by decide +kernel
theorem s71_207 (K : aK) : am_Snd K 71 207 := sn_iload_n i71_207 d71_207 rfl
theorem i71_208 : am_ins 71 208 = (0, 1, 0, (-1), []) := by decide +kernel
theorem d71_208 : decode (am_cod 71) 208 = .ok (.iconst (-1), 1) := by decide +kernel
theorem s71_208 (K : aK) : am_Snd K 71 208 := sn_const1 i71_208 d71_208 rfl
theorem i71_209 : am_ins 71 209 = (23, 0, 0, 0, []) := by decide +kernel
theorem d71_209 : decode (am_cod 71) 209 = .ok (.iastore, 1) := by decide +kernel
theorem s71_209 (K : aK) : am_Snd K 71 209 := sn_iast i71_209 d71_209 
theorem i71_210 : am_ins 71 210 = (3, 1, 3, 1, []) := by decide +kernel
theorem d71_210 : decode (am_cod 71) 210 = .ok (.iinc 1 1, 3) := by decide +kernel
theorem s71_210 (K : aK) : am_Snd K 71 210 := sn_iinc i71_210 d71_210 rfl (by decide +kernel)
theorem i71_213 : am_ins 71 213 = (14, 194, 0, 0, []) := by decide +kernel
theorem d71_213 : decode (am_cod 71) 213 = .ok (.goto (-19), 3) := by decide +kernel
theorem s71_213 (K : aK) : am_Snd K 71 213 := sn_goto i71_213 d71_213 rfl
theorem i71_216 : am_ins 71 216 = (53, 0, 0, 0, []) := by decide +kernel
theorem d71_216 : decode (am_cod 71) 216 = .ok (.return_, 1) := by decide +kernel
theorem s71_216 : am_SndR 71 216 := sn_vret i71_216 d71_216 rfl
theorem al71_0 (K : aK) : ∀ q ∈ [0, 1, 4, 5, 8, 10, 13, 14, 17, 19, 22, 23, 26, 28, 31, 32, 35, 37, 40, 41, 44, 46, 49, 50, 53, 55, 58, 59, 62, 64], am_All K 71 q := List.forall_mem_cons.mpr ⟨am_alS i71_0 (s71_0 K), List.forall_mem_cons.mpr ⟨am_alS i71_1 (s71_1 K), List.forall_mem_cons.mpr ⟨am_alS i71_4 (s71_4 K), List.forall_mem_cons.mpr ⟨am_alS i71_5 (s71_5 K), List.forall_mem_cons.mpr ⟨am_alS i71_8 (s71_8 K), List.forall_mem_cons.mpr ⟨am_alS i71_10 (s71_10 K), List.forall_mem_cons.mpr ⟨am_alS i71_13 (s71_13 K), List.forall_mem_cons.mpr ⟨am_alS i71_14 (s71_14 K), List.forall_mem_cons.mpr ⟨am_alS i71_17 (s71_17 K), List.forall_mem_cons.mpr ⟨am_alS i71_19 (s71_19 K), List.forall_mem_cons.mpr ⟨am_alS i71_22 (s71_22 K), List.forall_mem_cons.mpr ⟨am_alS i71_23 (s71_23 K), List.forall_mem_cons.mpr ⟨am_alS i71_26 (s71_26 K), List.forall_mem_cons.mpr ⟨am_alS i71_28 (s71_28 K), List.forall_mem_cons.mpr ⟨am_alS i71_31 (s71_31 K), List.forall_mem_cons.mpr ⟨am_alS i71_32 (s71_32 K), List.forall_mem_cons.mpr ⟨am_alS i71_35 (s71_35 K), List.forall_mem_cons.mpr ⟨am_alS i71_37 (s71_37 K), List.forall_mem_cons.mpr ⟨am_alS i71_40 (s71_40 K), List.forall_mem_cons.mpr ⟨am_alS i71_41 (s71_41 K), List.forall_mem_cons.mpr ⟨am_alS i71_44 (s71_44 K), List.forall_mem_cons.mpr ⟨am_alS i71_46 (s71_46 K), List.forall_mem_cons.mpr ⟨am_alS i71_49 (s71_49 K), List.forall_mem_cons.mpr ⟨am_alS i71_50 (s71_50 K), List.forall_mem_cons.mpr ⟨am_alS i71_53 (s71_53 K), List.forall_mem_cons.mpr ⟨am_alS i71_55 (s71_55 K), List.forall_mem_cons.mpr ⟨am_alS i71_58 (s71_58 K), List.forall_mem_cons.mpr ⟨am_alS i71_59 (s71_59 K), List.forall_mem_cons.mpr ⟨am_alS i71_62 (s71_62 K), List.forall_mem_cons.mpr ⟨am_alS i71_64 (s71_64 K), fun _ h => absurd h List.not_mem_nil⟩⟩⟩⟩⟩⟩⟩⟩⟩⟩⟩⟩⟩⟩⟩⟩⟩⟩⟩⟩⟩⟩⟩⟩⟩⟩⟩⟩⟩⟩
theorem al71_1 (K : aK) : ∀ q ∈ [67, 68, 71, 73, 76, 77, 80, 82, 85, 86, 88, 90, 93, 94, 97, 99, 102, 103, 106, 108, 111, 112, 114, 116, 119, 120, 122, 124, 127, 128], am_All K 71 q := List.forall_mem_cons.mpr ⟨am_alS i71_67 (s71_67 K), List.forall_mem_cons.mpr ⟨am_alS i71_68 (s71_68 K), List.forall_mem_cons.mpr ⟨am_alS i71_71 (s71_71 K), List.forall_mem_cons.mpr ⟨am_alS i71_73 (s71_73 K), List.forall_mem_cons.mpr ⟨am_alS i71_76 (s71_76 K), List.forall_mem_cons.mpr ⟨am_alS i71_77 (s71_77 K), List.forall_mem_cons.mpr ⟨am_alS i71_80 (s71_80 K), List.forall_mem_cons.mpr ⟨am_alS i71_82 (s71_82 K), List.forall_mem_cons.mpr ⟨am_alS i71_85 (s71_85 K), List.forall_mem_cons.mpr ⟨am_alS i71_86 (s71_86 K), List.forall_mem_cons.mpr ⟨am_alS i71_88 (s71_88 K), List.forall_mem_cons.mpr ⟨am_alS i71_90 (s71_90 K), List.forall_mem_cons.mpr ⟨am_alS i71_93 (s71_93 K), List.forall_mem_cons.mpr ⟨am_alS i71_94 (s71_94 K), List.forall_mem_cons.mpr ⟨am_alS i71_97 (s71_97 K), List.forall_mem_cons.mpr ⟨am_alS i71_99 (s71_99 K), List.forall_mem_cons.mpr ⟨am_alS i71_102 (s71_102 K), List.forall_mem_cons.mpr ⟨am_alS i71_103 (s71_103 K), List.forall_mem_cons.mpr ⟨am_alS i71_106 (s71_106 K), List.forall_mem_cons.mpr ⟨am_alS i71_108 (s71_108 K), List.forall_mem_cons.mpr ⟨am_alS i71_111 (s71_111 K), List.forall_mem_cons.mpr ⟨am_alS i71_112 (s71_112 K), List.forall_mem_cons.mpr ⟨am_alS i71_114 (s71_114 K), List.forall_mem_cons.mpr ⟨am_alS i71_116 (s71_116 K), List.forall_mem_cons.mpr ⟨am_alS i71_119 (s71_119 K), List.forall_mem_cons.mpr ⟨am_alS i71_120 (s71_120 K), List.forall_mem_cons.mpr ⟨am_alS i71_122 (s71_122 K), List.forall_mem_cons.mpr ⟨am_alS i71_124 (s71_124 K), List.forall_mem_cons.mpr ⟨am_alS i71_127 (s71_127 K), List.forall_mem_cons.mpr ⟨am_alS i71_128 (s71_128 K), fun _ h => absurd h List.not_mem_nil⟩⟩⟩⟩⟩⟩⟩⟩⟩⟩⟩⟩⟩⟩⟩⟩⟩⟩⟩⟩⟩⟩⟩⟩⟩⟩⟩⟩⟩⟩
theorem al71_2 (K : aK) : ∀ q ∈ [130, 132, 135, 136, 138, 140, 143, 144, 146, 148, 151, 152, 154, 156, 159, 160, 162, 164, 167, 168, 170, 172, 175, 176, 178, 180, 183, 184, 187, 189], am_All K 71 q := List.forall_mem_cons.mpr ⟨am_alS i71_130 (s71_130 K), List.forall_mem_cons.mpr ⟨am_alS i71_132 (s71_132 K), List.forall_mem_cons.mpr ⟨am_alS i71_135 (s71_135 K), List.forall_mem_cons.mpr ⟨am_alS i71_136 (s71_136 K), List.forall_mem_cons.mpr ⟨am_alS i71_138 (s71_138 K), List.forall_mem_cons.mpr ⟨am_alS i71_140 (s71_140 K), List.forall_mem_cons.mpr ⟨am_alS i71_143 (s71_143 K), List.forall_mem_cons.mpr ⟨am_alS i71_144 (s71_144 K), List.forall_mem_cons.mpr ⟨am_alS i71_146 (s71_146 K), List.forall_mem_cons.mpr ⟨am_alS i71_148 (s71_148 K), List.forall_mem_cons.mpr ⟨am_alS i71_151 (s71_151 K), List.forall_mem_cons.mpr ⟨am_alS i71_152 (s71_152 K), List.forall_mem_cons.mpr ⟨am_alS i71_154 (s71_154 K), List.forall_mem_cons.mpr ⟨am_alS i71_156 (s71_156 K), List.forall_mem_cons.mpr ⟨am_alS i71_159 (s71_159 K), List.forall_mem_cons.mpr ⟨am_alS i71_160 (s71_160 K), List.forall_mem_cons.mpr ⟨am_alS i71_162 (s71_162 K), List.forall_mem_cons.mpr ⟨am_alS i71_164 (s71_164 K), List.forall_mem_cons.mpr ⟨am_alS i71_167 (s71_167 K), List.forall_mem_cons.mpr ⟨am_alS i71_168 (s71_168 K), List.forall_mem_cons.mpr ⟨am_alS i71_170 (s71_170 K), List.forall_mem_cons.mpr ⟨am_alS i71_172 (s71_172 K), List.forall_mem_cons.mpr ⟨am_alS i71_175 (s71_175 K), List.forall_mem_cons.mpr ⟨am_alS i71_176 (s71_176 K), List.forall_mem_cons.mpr ⟨am_alS i71_178 (s71_178 K), List.forall_mem_cons.mpr ⟨am_alS i71_180 (s71_180 K), List.forall_mem_cons.mpr ⟨am_alS i71_183 (s71_183 K), List.forall_mem_cons.mpr ⟨am_alS i71_184 (s71_184 K), List.forall_mem_cons.mpr ⟨am_alS i71_187 (s71_187 K), List.forall_mem_cons.mpr ⟨am_alS i71_189 (s71_189 K), fun _ h => absurd h List.not_mem_nil⟩⟩⟩⟩⟩⟩⟩⟩⟩⟩⟩⟩⟩⟩⟩⟩⟩⟩⟩⟩⟩⟩⟩⟩⟩⟩⟩⟩⟩⟩
theorem al71_3 (K : aK) : ∀ q ∈ [192, 193, 194, 195, 196, 199, 200, 203, 204, 207, 208, 209, 210, 213, 216], am_All K 71 q := List.forall_mem_cons.mpr ⟨am_alS i71_192 (s71_192 K), List.forall_mem_cons.mpr ⟨am_alS i71_193 (s71_193 K), List.forall_mem_cons.mpr ⟨am_alS i71_194 (s71_194 K), List.forall_mem_cons.mpr ⟨am_alS i71_195 (s71_195 K), List.forall_mem_cons.mpr ⟨am_alS i71_196 (s71_196 K), List.forall_mem_cons.mpr ⟨am_alS i71_199 (s71_199 K), List.forall_mem_cons.mpr ⟨am_alS i71_200 (s71_200 K), List.forall_mem_cons.mpr ⟨am_alS i71_203 (s71_203 K), List.forall_mem_cons.mpr ⟨am_alS i71_204 (s71_204 K), List.forall_mem_cons.mpr ⟨am_alS i71_207 (s71_207 K), List.forall_mem_cons.mpr ⟨am_alS i71_208 (s71_208 K), List.forall_mem_cons.mpr ⟨am_alS i71_209 (s71_209 K), List.forall_mem_cons.mpr ⟨am_alS i71_210 (s71_210 K), List.forall_mem_cons.mpr ⟨am_alS i71_213 (s71_213 K), List.forall_mem_cons.mpr ⟨am_alR i71_216 s71_216, fun _ h => absurd h List.not_mem_nil⟩⟩⟩⟩⟩⟩⟩⟩⟩⟩⟩⟩⟩⟩⟩
set_option maxRecDepth 100000 in
theorem al71 (K : aK) : ∀ q ∈ (am_t71).map (fun z => z.1), am_All K 71 q := by
  have e : (am_t71).map (fun z => z.1) = [0, 1, 4, 5, 8, 10, 13, 14, 17, 19, 22, 23, 26, 28, 31, 32, 35, 37, 40, 41, 44, 46, 49, 50, 53, 55, 58, 59, 62, 64] ++ ([67, 68, 71, 73, 76, 77, 80, 82, 85, 86, 88, 90, 93, 94, 97, 99, 102, 103, 106, 108, 111, 112, 114, 116, 119, 120, 122, 124, 127, 128] ++ ([130, 132, 135, 136, 138, 140, 143, 144, 146, 148, 151, 152, 154, 156, 159, 160, 162, 164, 167, 168, 170, 172, 175, 176, 178, 180, 183, 184, 187, 189] ++ ([192, 193, 194, 195, 196, 199, 200, 203, 204, 207, 208, 209, 210, 213, 216]))) := rfl
  rw [e]
  exact List.forall_mem_append.mpr ⟨al71_0 K, List.forall_mem_append.mpr ⟨al71_1 K, List.forall_mem_append.mpr ⟨al71_2 K, al71_3 K⟩⟩⟩
theorem i72_0 : am_ins 72 0 = (1, 0, 1, 0, []) := by decide +kernel
theorem d72_0 : decode (am_cod 72) 0 = .ok (.iload_n 0, 1) := by decide +kernel
theorem s72_0 (K : aK) : am_Snd K 72 0 := sn_iload_n i72_0 d72_0 rfl
theorem i72_1 : am_ins 72 1 = (12, 2, 14, 0, []) := by decide +kernel
theorem d72_1 : decode (am_cod 72) 1 = .ok (.ifCond .lt 13, 3) := by decide +kernel
theorem s72_1 (K : aK) : am_Snd K 72 1 := sn_if_lt i72_1 d72_1 rfl
theorem i72_4 : am_ins 72 4 = (1, 0, 1, 0, []) := by decide +kernel
theorem d72_4 : decode (am_cod 72) 4 = .ok (.iload_n 0, 1) := by decide +kernel
theorem s72_4 (K : aK) : am_Snd K 72 4 := sn_iload_n i72_4 d72_4 rfl
theorem i72_5 : am_ins 72 5 = (0, 2, 0, 6, []) := by decide +kernel
theorem d72_5 : decode (am_cod 72) 5 = .ok (.bipush 6, 2) := by decide +kernel
theorem s72_5 (K : aK) : am_Snd K 72 5 := sn_const2 i72_5 d72_5 (by decide +kernel)
theorem i72_7 : am_ins 72 7 = (13, 3, 14, 0, []) := by decide +kernel
theorem d72_7 : decode (am_cod 72) 7 = .ok (.if_icmp .ge 7, 3) := by decide +kernel
theorem s72_7 (K : aK) : am_Snd K 72 7 := sn_icmp_ge i72_7 d72_7 rfl
theorem i72_10 : am_ins 72 10 = (0, 1, 0, 1, []) := by decide +kernel
theorem d72_10 : decode (am_cod 72) 10 = .ok (.iconst 1, 1) := by decide +kernel
theorem s72_10 (K : aK) : am_Snd K 72 10 := sn_const1 i72_10 d72_10 rfl
theorem i72_11 : am_ins 72 11 = (14, 15, 0, 0, []) := by decide +kernel
theorem d72_11 : decode (am_cod 72) 11 = .ok (.goto 4, 3) := by decide +kernel
theorem s72_11 (K : aK) : am_Snd K 72 11 := sn_goto i72_11 d72_11 rfl
theorem i72_14 : am_ins 72 14 = (0, 1, 0, 0, []) := by decide +kernel
theorem d72_14 : decode (am_cod 72) 14 = .ok (.iconst 0, 1) := by decide +kernel
theorem s72_14 (K : aK) : am_Snd K 72 14 := sn_const1 i72_14 d72_14 rfl
theorem i72_15 : am_ins 72 15 = (51, 0, 0, 0, []) := by decide +kernel
theorem d72_15 : decode (am_cod 72) 15 = .ok (.ireturn, 1) := by decide +kernel
theorem s72_15 : am_SndR 72 15 := sn_zret i72_15 d72_15 rfl
theorem al72_0 (K : aK) : ∀ q ∈ [0, 1, 4, 5, 7, 10, 11, 14, 15], am_All K 72 q := List.forall_mem_cons.mpr ⟨am_alS i72_0 (s72_0 K), List.forall_mem_cons.mpr ⟨am_alS i72_1 (s72_1 K), List.forall_mem_cons.mpr ⟨am_alS i72_4 (s72_4 K), List.forall_mem_cons.mpr ⟨am_alS i72_5 (s72_5 K), List.forall_mem_cons.mpr ⟨am_alS i72_7 (s72_7 K), List.forall_mem_cons.mpr ⟨am_alS i72_10 (s72_10 K), List.forall_mem_cons.mpr ⟨am_alS i72_11 (s72_11 K), List.forall_mem_cons.mpr ⟨am_alS i72_14 (s72_14 K), List.forall_mem_cons.mpr ⟨am_alR i72_15 s72_15, fun _ h => absurd h List.not_mem_nil⟩⟩⟩⟩⟩⟩⟩⟩⟩
set_option maxRecDepth 100000 in
theorem al72 (K : aK) : ∀ q ∈ (am_t72).map (fun z => z.1), am_All K 72 q := by
  have e : (am_t72).map (fun z => z.1) = [0, 1, 4, 5, 7, 10, 11, 14, 15] := rfl
  rw [e]
  exact al72_0 K
theorem i73_0 : am_ins 73 0 = (1, 0, 1, 0, []) := by decide +kernel
theorem d73_0 : decode (am_cod 73) 0 = .ok (.iload_n 0, 1) := by decide +kernel
theorem s73_0 (K : aK) : am_Snd K 73 0 := sn_iload_n i73_0 d73_0 rfl
theorem i73_1 : am_ins 73 1 = (12, 2, 14, 0, []) := by decide +kernel
theorem d73_1 : decode (am_cod 73) 1 = .ok (.ifCond .lt 13, 3) := by decide +kernel
theorem s73_1 (K : aK) : am_Snd K 73 1 := sn_if_lt i73_1 d73_1 rfl
theorem i73_4 : am_ins 73 4 = (1, 0, 1, 0, []) := by decide +kernel
theorem d73_4 : decode (am_cod 73) 4 = .ok (.iload_n 0, 1) := by decide +kernel
theorem s73_4 (K : aK) : am_Snd K 73 4 := sn_iload_n i73_4 d73_4 rfl
theorem i73_5 : am_ins 73 5 = (0, 2, 0, 6, []) := by decide +kernel
theorem d73_5 : decode (am_cod 73) 5 = .ok (.bipush 6, 2) := by decide +kernel
theorem s73_5 (K : aK) : am_Snd K 73 5 := sn_const2 i73_5 d73_5 (by decide +kernel)
theorem i73_7 : am_ins 73 7 = (13, 3, 14, 0, []) := by decide +kernel
theorem d73_7 : decode (am_cod 73) 7 = .ok (.if_icmp .ge 7, 3) := by decide +kernel
theorem s73_7 (K : aK) : am_Snd K 73 7 := sn_icmp_ge i73_7 d73_7 rfl
theorem i73_10 : am_ins 73 10 = (0, 1, 0, 1, []) := by decide +kernel
theorem d73_10 : decode (am_cod 73) 10 = .ok (.iconst 1, 1) := by decide +kernel
theorem s73_10 (K : aK) : am_Snd K 73 10 := sn_const1 i73_10 d73_10 rfl
theorem i73_11 : am_ins 73 11 = (14, 15, 0, 0, []) := by decide +kernel
theorem d73_11 : decode (am_cod 73) 11 = .ok (.goto 4, 3) := by decide +kernel
theorem s73_11 (K : aK) : am_Snd K 73 11 := sn_goto i73_11 d73_11 rfl
theorem i73_14 : am_ins 73 14 = (0, 1, 0, 0, []) := by decide +kernel
theorem d73_14 : decode (am_cod 73) 14 = .ok (.iconst 0, 1) := by decide +kernel
theorem s73_14 (K : aK) : am_Snd K 73 14 := sn_const1 i73_14 d73_14 rfl
theorem i73_15 : am_ins 73 15 = (51, 0, 0, 0, []) := by decide +kernel
theorem d73_15 : decode (am_cod 73) 15 = .ok (.ireturn, 1) := by decide +kernel
theorem s73_15 : am_SndR 73 15 := sn_zret i73_15 d73_15 rfl
theorem al73_0 (K : aK) : ∀ q ∈ [0, 1, 4, 5, 7, 10, 11, 14, 15], am_All K 73 q := List.forall_mem_cons.mpr ⟨am_alS i73_0 (s73_0 K), List.forall_mem_cons.mpr ⟨am_alS i73_1 (s73_1 K), List.forall_mem_cons.mpr ⟨am_alS i73_4 (s73_4 K), List.forall_mem_cons.mpr ⟨am_alS i73_5 (s73_5 K), List.forall_mem_cons.mpr ⟨am_alS i73_7 (s73_7 K), List.forall_mem_cons.mpr ⟨am_alS i73_10 (s73_10 K), List.forall_mem_cons.mpr ⟨am_alS i73_11 (s73_11 K), List.forall_mem_cons.mpr ⟨am_alS i73_14 (s73_14 K), List.forall_mem_cons.mpr ⟨am_alR i73_15 s73_15, fun _ h => absurd h List.not_mem_nil⟩⟩⟩⟩⟩⟩⟩⟩⟩
set_option maxRecDepth 100000 in
theorem al73 (K : aK) : ∀ q ∈ (am_t73).map (fun z => z.1), am_All K 73 q := by
  have e : (am_t73).map (fun z => z.1) = [0, 1, 4, 5, 7, 10, 11, 14, 15] := rfl
  rw [e]
  exact al73_0 K
theorem i74_0 : am_ins 74 0 = (1, 0, 1, 0, []) := by decide +kernel
theorem d74_0 : decode (am_cod 74) 0 = .ok (.iload_n 0, 1) := by decide +kernel
theorem s74_0 (K : aK) : am_Snd K 74 0 := sn_iload_n i74_0 d74_0 rfl
theorem i74_1 : am_ins 74 1 = (12, 2, 14, 0, []) := by decide +kernel
theorem d74_1 : decode (am_cod 74) 1 = .ok (.ifCond .lt 13, 3) := by decide +kernel
theorem s74_1 (K : aK) : am_Snd K 74 1 := sn_if_lt i74_1 d74_1 rfl
theorem i74_4 : am_ins 74 4 = (1, 0, 1, 0, []) := by decide +kernel
theorem d74_4 : decode (am_cod 74) 4 = .ok (.iload_n 0, 1) := by decide +kernel
theorem s74_4 (K : aK) : am_Snd K 74 4 := sn_iload_n i74_4 d74_4 rfl
theorem i74_5 : am_ins 74 5 = (0, 2, 0, 8, []) := by decide +kernel
theorem d74_5 : decode (am_cod 74) 5 = .ok (.bipush 8, 2) := by decide +kernel
theorem s74_5 (K : aK) : am_Snd K 74 5 := sn_const2 i74_5 d74_5 (by decide +kernel)
theorem i74_7 : am_ins 74 7 = (13, 3, 14, 0, []) := by decide +kernel
theorem d74_7 : decode (am_cod 74) 7 = .ok (.if_icmp .ge 7, 3) := by decide +kernel
theorem s74_7 (K : aK) : am_Snd K 74 7 := sn_icmp_ge i74_7 d74_7 rfl
theorem i74_10 : am_ins 74 10 = (0, 1, 0, 1, []) := by decide +kernel
theorem d74_10 : decode (am_cod 74) 10 = .ok (.iconst 1, 1) := by decide +kernel
theorem s74_10 (K : aK) : am_Snd K 74 10 := sn_const1 i74_10 d74_10 rfl
theorem i74_11 : am_ins 74 11 = (14, 15, 0, 0, []) := by decide +kernel
theorem d74_11 : decode (am_cod 74) 11 = .ok (.goto 4, 3) := by decide +kernel
theorem s74_11 (K : aK) : am_Snd K 74 11 := sn_goto i74_11 d74_11 rfl
theorem i74_14 : am_ins 74 14 = (0, 1, 0, 0, []) := by decide +kernel
theorem d74_14 : decode (am_cod 74) 14 = .ok (.iconst 0, 1) := by decide +kernel
theorem s74_14 (K : aK) : am_Snd K 74 14 := sn_const1 i74_14 d74_14 rfl
theorem i74_15 : am_ins 74 15 = (51, 0, 0, 0, []) := by decide +kernel
theorem d74_15 : decode (am_cod 74) 15 = .ok (.ireturn, 1) := by decide +kernel
theorem s74_15 : am_SndR 74 15 := sn_zret i74_15 d74_15 rfl
theorem al74_0 (K : aK) : ∀ q ∈ [0, 1, 4, 5, 7, 10, 11, 14, 15], am_All K 74 q := List.forall_mem_cons.mpr ⟨am_alS i74_0 (s74_0 K), List.forall_mem_cons.mpr ⟨am_alS i74_1 (s74_1 K), List.forall_mem_cons.mpr ⟨am_alS i74_4 (s74_4 K), List.forall_mem_cons.mpr ⟨am_alS i74_5 (s74_5 K), List.forall_mem_cons.mpr ⟨am_alS i74_7 (s74_7 K), List.forall_mem_cons.mpr ⟨am_alS i74_10 (s74_10 K), List.forall_mem_cons.mpr ⟨am_alS i74_11 (s74_11 K), List.forall_mem_cons.mpr ⟨am_alS i74_14 (s74_14 K), List.forall_mem_cons.mpr ⟨am_alR i74_15 s74_15, fun _ h => absurd h List.not_mem_nil⟩⟩⟩⟩⟩⟩⟩⟩⟩
set_option maxRecDepth 100000 in
theorem al74 (K : aK) : ∀ q ∈ (am_t74).map (fun z => z.1), am_All K 74 q := by
  have e : (am_t74).map (fun z => z.1) = [0, 1, 4, 5, 7, 10, 11, 14, 15] := rfl
  rw [e]
  exact al74_0 K
theorem i75_0 : am_ins 75 0 = (1, 0, 1, 0, []) := by decide +kernel
theorem d75_0 : decode (am_cod 75) 0 = .ok (.iload_n 0, 1) := by decide +kernel
theorem s75_0 (K : aK) : am_Snd K 75 0 := sn_iload_n i75_0 d75_0 rfl
theorem i75_1 : am_ins 75 1 = (0, 1, 0, 2, []) := by decide +kernel
theorem d75_1 : decode (am_cod 75) 1 = .ok (.iconst 2, 1) := by decide +kernel
theorem s75_1 (K : aK) : am_Snd K 75 1 := sn_const1 i75_1 d75_1 rfl
theorem i75_2 : am_ins 75 2 = (5, 0, 0, 0, []) := by decide +kernel
theorem d75_2 : decode (am_cod 75) 2 = .ok (.idiv, 1) := by decide +kernel
theorem s75_2 (K : aK) : am_Snd K 75 2 := sn_div i75_2 d75_2 
theorem i75_3 : am_ins 75 3 = (50, 0, 0, 0, []) := by decide +kernel
theorem d75_3 : decode (am_cod 75) 3 = .ok (.ireturn, 1) := by decide +kernel
theorem s75_3 : am_SndR 75 3 := sn_iret i75_3 d75_3 rfl
theorem al75_0 (K : aK) : ∀ q ∈ [0, 1, 2, 3], am_All K 75 q := List.forall_mem_cons.mpr ⟨am_alS i75_0 (s75_0 K), List.forall_mem_cons.mpr ⟨am_alS i75_1 (s75_1 K), List.forall_mem_cons.mpr ⟨am_alS i75_2 (s75_2 K), List.forall_mem_cons.mpr ⟨am_alR i75_3 s75_3, fun _ h => absurd h List.not_mem_nil⟩⟩⟩⟩
set_option maxRecDepth 100000 in
theorem al75 (K : aK) : ∀ q ∈ (am_t75).map (fun z => z.1), am_All K 75 q := by
  have e : (am_t75).map (fun z => z.1) = [0, 1, 2, 3] := rfl
  rw [e]
  exact al75_0 K
theorem i76_0 : am_ins 76 0 = (1, 1, 1, 0, []) := by decide +kernel
theorem d76_0 : decode (am_cod 76) 0 = .ok (.iload_n 1, 1) := by decide +kernel
theorem s76_0 (K : aK) : am_Snd K 76 0 := sn_iload_n i76_0 d76_0 rfl
theorem i76_1 : am_ins 76 1 = (0, 1, 0, 2, []) := by decide +kernel
theorem d76_1 : decode (am_cod 76) 1 = .ok (.iconst 2, 1) := by decide +kernel
theorem s76_1 (K : aK) : am_Snd K 76 1 := sn_const1 i76_1 d76_1 rfl
theorem i76_2 : am_ins 76 2 = (6, 0, 0, 0, []) := by decide +kernel
theorem d76_2 : decode (am_cod 76) 2 = .ok (.irem, 1) := by decide +kernel
theorem s76_2 (K : aK) : am_Snd K 76 2 := sn_rem i76_2 d76_2 
theorem i76_3 : am_ins 76 3 = (1, 0, 1, 0, []) := by decide +kernel
theorem d76_3 : decode (am_cod 76) 3 = .ok (.iload_n 0, 1) := by decide +kernel
theorem s76_3 (K : aK) : am_Snd K 76 3 := sn_iload_n i76_3 d76_3 rfl
theorem i76_4 : am_ins 76 4 = (0, 1, 0, 2, []) := by decide +kernel
theorem d76_4 : decode (am_cod 76) 4 = .ok (.iconst 2, 1) := by decide +kernel
theorem s76_4 (K : aK) : am_Snd K 76 4 := sn_const1 i76_4 d76_4 rfl
theorem i76_5 : am_ins 76 5 = (6, 0, 0, 0, []) := by decide +kernel
theorem d76_5 : decode (am_cod 76) 5 = .ok (.irem, 1) := by decide +kernel
theorem s76_5 (K : aK) : am_Snd K 76 5 := sn_rem i76_5 d76_5 
theorem i76_6 : am_ins 76 6 = (13, 1, 13, 0, []) := by decide +kernel
theorem d76_6 : decode (am_cod 76) 6 = .ok (.if_icmp .ne 7, 3) := by decide +kernel
theorem s76_6 (K : aK) : am_Snd K 76 6 := sn_icmp_ne i76_6 d76_6 rfl
theorem i76_9 : am_ins 76 9 = (0, 1, 0, 1, []) := by decide +kernel
theorem d76_9 : decode (am_cod 76) 9 = .ok (.iconst 1, 1) := by decide +kernel
theorem s76_9 (K : aK) : am_Snd K 76 9 := sn_const1 i76_9 d76_9 rfl
theorem i76_10 : am_ins 76 10 = (14, 14, 0, 0, []) := by decide +kernel
theorem d76_10 : decode (am_cod 76) 10 = .ok (.goto 4, 3) := by decide +kernel
theorem s76_10 (K : aK) : am_Snd K 76 10 := sn_goto i76_10 d76_10 rfl
theorem i76_13 : am_ins 76 13 = (0, 1, 0, 0, []) := by decide +kernel
theorem d76_13 : decode (am_cod 76) 13 = .ok (.iconst 0, 1) := by decide +kernel
theorem s76_13 (K : aK) : am_Snd K 76 13 := sn_const1 i76_13 d76_13 rfl
theorem i76_14 : am_ins 76 14 = (51, 0, 0, 0, []) := by decide +kernel
theorem d76_14 : decode (am_cod 76) 14 = .ok (.ireturn, 1) := by decide +kernel
theorem s76_14 : am_SndR 76 14 := sn_zret i76_14 d76_14 rfl
theorem al76_0 (K : aK) : ∀ q ∈ [0, 1, 2, 3, 4, 5, 6, 9, 10, 13, 14], am_All K 76 q := List.forall_mem_cons.mpr ⟨am_alS i76_0 (s76_0 K), List.forall_mem_cons.mpr ⟨am_alS i76_1 (s76_1 K), List.forall_mem_cons.mpr ⟨am_alS i76_2 (s76_2 K), List.forall_mem_cons.mpr ⟨am_alS i76_3 (s76_3 K), List.forall_mem_cons.mpr ⟨am_alS i76_4 (s76_4 K), List.forall_mem_cons.mpr ⟨am_alS i76_5 (s76_5 K), List.forall_mem_cons.mpr ⟨am_alS i76_6 (s76_6 K), List.forall_mem_cons.mpr ⟨am_alS i76_9 (s76_9 K), List.forall_mem_cons.mpr ⟨am_alS i76_10 (s76_10 K), List.forall_mem_cons.mpr ⟨am_alS i76_13 (s76_13 K), List.forall_mem_cons.mpr ⟨am_alR i76_14 s76_14, fun _ h => absurd h List.not_mem_nil⟩⟩⟩⟩⟩⟩⟩⟩⟩⟩⟩
set_option maxRecDepth 100000 in
theorem al76 (K : aK) : ∀ q ∈ (am_t76).map (fun z => z.1), am_All K 76 q := by
  have e : (am_t76).map (fun z => z.1) = [0, 1, 2, 3, 4, 5, 6, 9, 10, 13, 14] := rfl
  rw [e]
  exact al76_0 K
theorem i77_0 : am_ins 77 0 = (1, 0, 1, 0, []) := by decide +kernel
theorem d77_0 : decode (am_cod 77) 0 = .ok (.iload_n 0, 1) := by decide +kernel
theorem s77_0 (K : aK) : am_Snd K 77 0 := sn_iload_n i77_0 d77_0 rfl
theorem i77_1 : am_ins 77 1 = (61, 73, 1, 0, []) := by decide +kernel
theorem d77_1 : decode (am_cod 77) 1 = .ok (.invokestatic 77, 3) := by decide +kernel
theorem s77_1 (K : aK) : am_SndC K 77 1 := sc_S i77_1 d77_1 co73 w_684 w_685 w_6 hd73
theorem i77_4 : am_ins 77 4 = (12, 0, 43, 0, []) := by decide +kernel
theorem d77_4 : decode (am_cod 77) 4 = .ok (.ifCond .eq 39, 3) := by decide +kernel
theorem s77_4 (K : aK) : am_Snd K 77 4 := sn_if_eq i77_4 d77_4 rfl
theorem i77_7 : am_ins 77 7 = (1, 1, 1, 0, []) := by decide +kernel
theorem d77_7 : decode (am_cod 77) 7 = .ok (.iload_n 1, 1) := by decide +kernel
theorem s77_7 (K : aK) : am_Snd K 77 7 := sn_iload_n i77_7 d77_7 rfl
theorem i77_8 : am_ins 77 8 = (61, 73, 1, 0, []) := by decide +kernel
theorem d77_8 : decode (am_cod 77) 8 = .ok (.invokestatic 77, 3) := by decide +kernel
theorem s77_8 (K : aK) : am_SndC K 77 8 := sc_S i77_8 d77_8 co73 w_684 w_685 w_6 hd73
theorem i77_11 : am_ins 77 11 = (12, 0, 43, 0, []) := by decide +kernel
theorem d77_11 : decode (am_cod 77) 11 = .ok (.ifCond .eq 32, 3) := by decide +kernel
theorem s77_11 (K : aK) : am_Snd K 77 11 := sn_if_eq i77_11 d77_11 rfl
theorem i77_14 : am_ins 77 14 = (1, 0, 1, 0, []) := by decide +kernel
theorem d77_14 : decode (am_cod 77) 14 = .ok (.iload_n 0, 1) := by decide +kernel
theorem s77_14 (K : aK) : am_Snd K 77 14 := sn_iload_n i77_14 d77_14 rfl
theorem i77_15 : am_ins 77 15 = (1, 1, 1, 0, []) := by decide +kernel
theorem d77_15 : decode (am_cod 77) 15 = .ok (.iload_n 1, 1) := by decide +kernel
theorem s77_15 (K : aK) : am_Snd K 77 15 := sn_iload_n i77_15 d77_15 rfl
theorem i77_16 : am_ins 77 16 = (13, 0, 43, 0, []) := by decide +kernel
theorem d77_16 : decode (am_cod 77) 16 = .ok (.if_icmp .eq 27, 3) := by decide +kernel
theorem s77_16 (K : aK) : am_Snd K 77 16 := sn_icmp_eq i77_16 d77_16 rfl
theorem i77_19 : am_ins 77 19 = (1, 0, 1, 0, []) := by decide +kernel
theorem d77_19 : decode (am_cod 77) 19 = .ok (.iload_n 0, 1) := by decide +kernel
theorem s77_19 (K : aK) : am_Snd K 77 19 := sn_iload_n i77_19 d77_19 rfl
theorem i77_20 : am_ins 77 20 = (61, 75, 1, 0, []) := by decide +kernel
theorem d77_20 : decode (am_cod 77) 20 = .ok (.invokestatic 81, 3) := by decide +kernel
theorem s77_20 (K : aK) : am_SndC K 77 20 := sc_S i77_20 d77_20 co75 w_673 w_674 w_6 hd75
theorem i77_23 : am_ins 77 23 = (1, 1, 1, 0, []) := by decide +kernel
theorem d77_23 : decode (am_cod 77) 23 = .ok (.iload_n 1, 1) := by decide +kernel
theorem s77_23 (K : aK) : am_Snd K 77 23 := sn_iload_n i77_23 d77_23 rfl
theorem i77_24 : am_ins 77 24 = (61, 75, 1, 0, []) := by decide +kernel
theorem d77_24 : decode (am_cod 77) 24 = .ok (.invokestatic 81, 3) := by decide +kernel
theorem s77_24 (K : aK) : am_SndC K 77 24 := sc_S i77_24 d77_24 co75 w_673 w_674 w_6 hd75
theorem i77_27 : am_ins 77 27 = (13, 0, 39, 0, []) := by decide +kernel
theorem d77_27 : decode (am_cod 77) 27 = .ok (.if_icmp .eq 12, 3) := by decide +kernel
theorem s77_27 (K : aK) : am_Snd K 77 27 := sn_icmp_eq i77_27 d77_27 rfl
theorem i77_30 : am_ins 77 30 = (1, 0, 1, 0, []) := by decide +kernel
theorem d77_30 : decode (am_cod 77) 30 = .ok (.iload_n 0, 1) := by decide +kernel
theorem s77_30 (K : aK) : am_Snd K 77 30 := sn_iload_n i77_30 d77_30 rfl
theorem i77_31 : am_ins 77 31 = (0, 1, 0, 2, []) := by decide +kernel
theorem d77_31 : decode (am_cod 77) 31 = .ok (.iconst 2, 1) := by decide +kernel
theorem s77_31 (K : aK) : am_Snd K 77 31 := sn_const1 i77_31 d77_31 rfl
theorem i77_32 : am_ins 77 32 = (6, 0, 0, 0, []) := by decide +kernel
theorem d77_32 : decode (am_cod 77) 32 = .ok (.irem, 1) := by decide +kernel
theorem s77_32 (K : aK) : am_Snd K 77 32 := sn_rem i77_32 d77_32 
theorem i77_33 : am_ins 77 33 = (1, 1, 1, 0, []) := by decide +kernel
theorem d77_33 : decode (am_cod 77) 33 = .ok (.iload_n 1, 1) := by decide +kernel
theorem s77_33 (K : aK) : am_Snd K 77 33 := sn_iload_n i77_33 d77_33 rfl
theorem i77_34 : am_ins 77 34 = (0, 1, 0, 2, []) := by decide +kernel
theorem d77_34 : decode (am_cod 77) 34 = .ok (.iconst 2, 1) := by decide +kernel
theorem s77_34 (K : aK) : am_Snd K 77 34 := sn_const1 i77_34 d77_34 rfl
theorem i77_35 : am_ins 77 35 = (6, 0, 0, 0, []) := by decide +kernel
theorem d77_35 : decode (am_cod 77) 35 = .ok (.irem, 1) := by decide +kernel
theorem s77_35 (K : aK) : am_Snd K 77 35 := sn_rem i77_35 d77_35 
theorem i77_36 : am_ins 77 36 = (13, 1, 43, 0, []) := by decide +kernel
theorem d77_36 : decode (am_cod 77) 36 = .ok (.if_icmp .ne 7, 3) := by decide +kernel
theorem s77_36 (K : aK) : am_Snd K 77 36 := sn_icmp_ne i77_36 d77_36 rfl
theorem i77_39 : am_ins 77 39 = (0, 1, 0, 1, []) := by decide +kernel
theorem d77_39 : decode (am_cod 77) 39 = .ok (.iconst 1, 1) := by decide +kernel
theorem s77_39 (K : aK) : am_Snd K 77 39 := sn_const1 i77_39 d77_39 rfl
theorem i77_40 : am_ins 77 40 = (14, 44, 0, 0, []) := by decide +kernel
theorem d77_40 : decode (am_cod 77) 40 = .ok (.goto 4, 3) := by decide +kernel
theorem s77_40 (K : aK) : am_Snd K 77 40 := sn_goto i77_40 d77_40 rfl
theorem i77_43 : am_ins 77 43 = (0, 1, 0, 0, []) := by decide +kernel
theorem d77_43 : decode (am_cod 77) 43 = .ok (.iconst 0, 1) := by decide +kernel
theorem s77_43 (K : aK) : am_Snd K 77 43 := sn_const1 i77_43 d77_43 rfl
theorem i77_44 : am_ins 77 44 = (51, 0, 0, 0, []) := by decide +kernel
theorem d77_44 : decode (am_cod 77) 44 = .ok (.ireturn, 1) := by decide +kernel
theorem s77_44 : am_SndR 77 44 := sn_zret i77_44 d77_44 rfl
theorem al77_0 (K : aK) : ∀ q ∈ [0, 1, 4, 7, 8, 11, 14, 15, 16, 19, 20, 23, 24, 27, 30, 31, 32, 33, 34, 35, 36, 39, 40, 43, 44], am_All K 77 q := List.forall_mem_cons.mpr ⟨am_alS i77_0 (s77_0 K), List.forall_mem_cons.mpr ⟨am_alC i77_1 (s77_1 K), List.forall_mem_cons.mpr ⟨am_alS i77_4 (s77_4 K), List.forall_mem_cons.mpr ⟨am_alS i77_7 (s77_7 K), List.forall_mem_cons.mpr ⟨am_alC i77_8 (s77_8 K), List.forall_mem_cons.mpr ⟨am_alS i77_11 (s77_11 K), List.forall_mem_cons.mpr ⟨am_alS i77_14 (s77_14 K), List.forall_mem_cons.mpr ⟨am_alS i77_15 (s77_15 K), List.forall_mem_cons.mpr ⟨am_alS i77_16 (s77_16 K), List.forall_mem_cons.mpr ⟨am_alS i77_19 (s77_19 K), List.forall_mem_cons.mpr ⟨am_alC i77_20 (s77_20 K), List.forall_mem_cons.mpr ⟨am_alS i77_23 (s77_23 K), List.forall_mem_cons.mpr ⟨am_alC i77_24 (s77_24 K), List.forall_mem_cons.mpr ⟨am_alS i77_27 (s77_27 K), List.forall_mem_cons.mpr ⟨am_alS i77_30 (s77_30 K), List.forall_mem_cons.mpr ⟨am_alS i77_31 (s77_31 K), List.forall_mem_cons.mpr ⟨am_alS i77_32 (s77_32 K), List.forall_mem_cons.mpr ⟨am_alS i77_33 (s77_33 K), List.forall_mem_cons.mpr ⟨am_alS i77_34 (s77_34 K), List.forall_mem_cons.mpr ⟨am_alS i77_35 (s77_35 K), List.forall_mem_cons.mpr ⟨am_alS i77_36 (s77_36 K), List.forall_mem_cons.mpr ⟨am_alS i77_39 (s77_39 K), List.forall_mem_cons.mpr ⟨am_alS i77_40 (s77_40 K), List.forall_mem_cons.mpr ⟨am_alS i77_43 (s77_43 K), List.forall_mem_cons.mpr ⟨am_alR i77_44 s77_44, fun _ h => absurd h List.not_mem_nil⟩⟩⟩⟩⟩⟩⟩⟩⟩⟩⟩⟩⟩⟩⟩⟩⟩⟩⟩⟩⟩⟩⟩⟩⟩
set_option maxRecDepth 100000 in
theorem al77 (K : aK) : ∀ q ∈ (am_t77).map (fun z => z.1), am_All K 77 q := by
  have e : (am_t77).map (fun z => z.1) = [0, 1, 4, 7, 8, 11, 14, 15, 16, 19, 20, 23, 24, 27, 30, 31, 32, 33, 34, 35, 36, 39, 40, 43, 44] := rfl
  rw [e]
  exact al77_0 K
theorem i78_0 : am_ins 78 0 = (33, 0, 1, 0, []) := by decide +kernel
theorem d78_0 : decode (am_cod 78) 0 = .ok (.aload_n 0, 1) := by decide +kernel
theorem s78_0 (K : aK) : am_Snd K 78 0 := sn_aload_n i78_0 d78_0 rfl
theorem i78_1 : am_ins 78 1 = (18, 7, 1, 0, []) := by decide +kernel
theorem d78_1 : decode (am_cod 78) 1 = .ok (.getfield 9, 3) := by decide +kernel
theorem s78_1 (K : aK) : am_Snd K 78 1 := sn_get (C0 := CN7) (T := FT7) (Nf := 24) i78_1 d78_1 rfl (by decide +kernel) fin7 w_510 rfl
theorem i78_4 : am_ins 78 4 = (1, 1, 1, 0, []) := by decide +kernel
theorem d78_4 : decode (am_cod 78) 4 = .ok (.iload_n 1, 1) := by decide +kernel
theorem s78_4 (K : aK) : am_Snd K 78 4 := sn_iload_n i78_4 d78_4 rfl
theorem i78_5 : am_ins 78 5 = (22, 0, 0, 0, []) := by decide +kernel
theorem d78_5 : decode (am_cod 78) 5 = .ok (.iaload, 1) := by decide +kernel
theorem s78_5 (K : aK) : am_Snd K 78 5 := sn_iald i78_5 d78_5 
theorem i78_6 : am_ins 78 6 = (0, 1, 0, 3, []) := by decide +kernel
theorem d78_6 : decode (am_cod 78) 6 = .ok (.iconst 3, 1) := by decide +kernel
theorem s78_6 (K : aK) : am_Snd K 78 6 := sn_const1 i78_6 d78_6 rfl
theorem i78_7 : am_ins 78 7 = (6, 0, 0, 0, []) := by decide +kernel
theorem d78_7 : decode (am_cod 78) 7 = .ok (.irem, 1) := by decide +kernel
theorem s78_7 (K : aK) : am_Snd K 78 7 := sn_rem i78_7 d78_7 
theorem i78_8 : am_ins 78 8 = (50, 0, 0, 0, []) := by decide +kernel
theorem d78_8 : decode (am_cod 78) 8 = .ok (.ireturn, 1) := by decide +kernel
theorem s78_8 : am_SndR 78 8 := sn_iret i78_8 d78_8 rfl
theorem al78_0 (K : aK) : ∀ q ∈ [0, 1, 4, 5, 6, 7, 8], am_All K 78 q := List.forall_mem_cons.mpr ⟨am_alS i78_0 (s78_0 K), List.forall_mem_cons.mpr ⟨am_alS i78_1 (s78_1 K), List.forall_mem_cons.mpr ⟨am_alS i78_4 (s78_4 K), List.forall_mem_cons.mpr ⟨am_alS i78_5 (s78_5 K), List.forall_mem_cons.mpr ⟨am_alS i78_6 (s78_6 K), List.forall_mem_cons.mpr ⟨am_alS i78_7 (s78_7 K), List.forall_mem_cons.mpr ⟨am_alR i78_8 s78_8, fun _ h => absurd h List.not_mem_nil⟩⟩⟩⟩⟩⟩⟩
set_option maxRecDepth 100000 in
theorem al78 (K : aK) : ∀ q ∈ (am_t78).map (fun z => z.1), am_All K 78 q := by
  have e : (am_t78).map (fun z => z.1) = [0, 1, 4, 5, 6, 7, 8] := rfl
  rw [e]
  exact al78_0 K
theorem i79_0 : am_ins 79 0 = (33, 0, 1, 0, []) := by decide +kernel
theorem d79_0 : decode (am_cod 79) 0 = .ok (.aload_n 0, 1) := by decide +kernel
theorem s79_0 (K : aK) : am_Snd K 79 0 := sn_aload_n i79_0 d79_0 rfl
theorem i79_1 : am_ins 79 1 = (18, 7, 4, 0, []) := by decide +kernel
theorem d79_1 : decode (am_cod 79) 1 = .ok (.getfield 19, 3) := by decide +kernel
theorem s79_1 (K : aK) : am_Snd K 79 1 := sn_get (C0 := CN7) (T := FT7) (Nf := 24) i79_1 d79_1 rfl (by decide +kernel) fin7 w_513 rfl
theorem i79_4 : am_ins 79 4 = (1, 1, 1, 0, []) := by decide +kernel
theorem d79_4 : decode (am_cod 79) 4 = .ok (.iload_n 1, 1) := by decide +kernel
theorem s79_4 (K : aK) : am_Snd K 79 4 := sn_iload_n i79_4 d79_4 rfl
theorem i79_5 : am_ins 79 5 = (22, 0, 0, 0, []) := by decide +kernel
theorem d79_5 : decode (am_cod 79) 5 = .ok (.iaload, 1) := by decide +kernel
theorem s79_5 (K : aK) : am_Snd K 79 5 := sn_iald i79_5 d79_5 
theorem i79_6 : am_ins 79 6 = (1, 2, 1, 0, []) := by decide +kernel
theorem d79_6 : decode (am_cod 79) 6 = .ok (.iload_n 2, 1) := by decide +kernel
theorem s79_6 (K : aK) : am_Snd K 79 6 := sn_iload_n i79_6 d79_6 rfl
theorem i79_7 : am_ins 79 7 = (4, 7, 0, 0, []) := by decide +kernel
theorem d79_7 : decode (am_cod 79) 7 = .ok (.ishr, 1) := by decide +kernel
theorem s79_7 (K : aK) : am_Snd K 79 7 := sn_shr i79_7 d79_7 
theorem i79_8 : am_ins 79 8 = (0, 1, 0, 1, []) := by decide +kernel
theorem d79_8 : decode (am_cod 79) 8 = .ok (.iconst 1, 1) := by decide +kernel
theorem s79_8 (K : aK) : am_Snd K 79 8 := sn_const1 i79_8 d79_8 rfl
theorem i79_9 : am_ins 79 9 = (4, 3, 0, 0, []) := by decide +kernel
theorem d79_9 : decode (am_cod 79) 9 = .ok (.iand, 1) := by decide +kernel
theorem s79_9 (K : aK) : am_Snd K 79 9 := sn_and i79_9 d79_9 
theorem i79_10 : am_ins 79 10 = (0, 1, 0, 1, []) := by decide +kernel
theorem d79_10 : decode (am_cod 79) 10 = .ok (.iconst 1, 1) := by decide +kernel
theorem s79_10 (K : aK) : am_Snd K 79 10 := sn_const1 i79_10 d79_10 rfl
theorem i79_11 : am_ins 79 11 = (13, 1, 18, 0, []) := by decide +kernel
theorem d79_11 : decode (am_cod 79) 11 = .ok (.if_icmp .ne 7, 3) := by decide +kernel
theorem s79_11 (K : aK) : am_Snd K 79 11 := sn_icmp_ne i79_11 d79_11 rfl
theorem i79_14 : am_ins 79 14 = (0, 1, 0, 1, []) := by decide +kernel
theorem d79_14 : decode (am_cod 79) 14 = .ok (.iconst 1, 1) := by decide +kernel
theorem s79_14 (K : aK) : am_Snd K 79 14 := sn_const1 i79_14 d79_14 rfl
theorem i79_15 : am_ins 79 15 = (14, 19, 0, 0, []) := by decide +kernel
theorem d79_15 : decode (am_cod 79) 15 = .ok (.goto 4, 3) := by decide +kernel
theorem s79_15 (K : aK) : am_Snd K 79 15 := sn_goto i79_15 d79_15 rfl
theorem i79_18 : am_ins 79 18 = (0, 1, 0, 0, []) := by decide +kernel
theorem d79_18 : decode (am_cod 79) 18 = .ok (.iconst 0, 1) := by decide +kernel
theorem s79_18 (K : aK) : am_Snd K 79 18 := sn_const1 i79_18 d79_18 rfl
theorem i79_19 : am_ins 79 19 = (51, 0, 0, 0, []) := by decide +kernel
theorem d79_19 : decode (am_cod 79) 19 = .ok (.ireturn, 1) := by decide +kernel
theorem s79_19 : am_SndR 79 19 := sn_zret i79_19 d79_19 rfl
theorem al79_0 (K : aK) : ∀ q ∈ [0, 1, 4, 5, 6, 7, 8, 9, 10, 11, 14, 15, 18, 19], am_All K 79 q := List.forall_mem_cons.mpr ⟨am_alS i79_0 (s79_0 K), List.forall_mem_cons.mpr ⟨am_alS i79_1 (s79_1 K), List.forall_mem_cons.mpr ⟨am_alS i79_4 (s79_4 K), List.forall_mem_cons.mpr ⟨am_alS i79_5 (s79_5 K), List.forall_mem_cons.mpr ⟨am_alS i79_6 (s79_6 K), List.forall_mem_cons.mpr ⟨am_alS i79_7 (s79_7 K), List.forall_mem_cons.mpr ⟨am_alS i79_8 (s79_8 K), List.forall_mem_cons.mpr ⟨am_alS i79_9 (s79_9 K), List.forall_mem_cons.mpr ⟨am_alS i79_10 (s79_10 K), List.forall_mem_cons.mpr ⟨am_alS i79_11 (s79_11 K), List.forall_mem_cons.mpr ⟨am_alS i79_14 (s79_14 K), List.forall_mem_cons.mpr ⟨am_alS i79_15 (s79_15 K), List.forall_mem_cons.mpr ⟨am_alS i79_18 (s79_18 K), List.forall_mem_cons.mpr ⟨am_alR i79_19 s79_19, fun _ h => absurd h List.not_mem_nil⟩⟩⟩⟩⟩⟩⟩⟩⟩⟩⟩⟩⟩⟩
set_option maxRecDepth 100000 in
theorem al79 (K : aK) : ∀ q ∈ (am_t79).map (fun z => z.1), am_All K 79 q := by
  have e : (am_t79).map (fun z => z.1) = [0, 1, 4, 5, 6, 7, 8, 9, 10, 11, 14, 15, 18, 19] := rfl
  rw [e]
  exact al79_0 K
theorem i80_0 : am_ins 80 0 = (33, 0, 1, 0, []) := by decide +kernel
theorem d80_0 : decode (am_cod 80) 0 = .ok (.aload_n 0, 1) := by decide +kernel
theorem s80_0 (K : aK) : am_Snd K 80 0 := sn_aload_n i80_0 d80_0 rfl
theorem i80_1 : am_ins 80 1 = (18, 7, 8, 0, []) := by decide +kernel
theorem d80_1 : decode (am_cod 80) 1 = .ok (.getfield 31, 3) := by decide +kernel
theorem s80_1 (K : aK) : am_Snd K 80 1 := sn_get (C0 := CN7) (T := FT7) (Nf := 24) i80_1 d80_1 rfl (by decide +kernel) fin7 w_517 rfl
theorem i80_4 : am_ins 80 4 = (1, 1, 1, 0, []) := by decide +kernel
theorem d80_4 : decode (am_cod 80) 4 = .ok (.iload_n 1, 1) := by decide +kernel
theorem s80_4 (K : aK) : am_Snd K 80 4 := sn_iload_n i80_4 d80_4 rfl
theorem i80_5 : am_ins 80 5 = (24, 0, 0, 0, []) := by decide +kernel
theorem d80_5 : decode (am_cod 80) 5 = .ok (.baload, 1) := by decide +kernel
theorem s80_5 (K : aK) : am_Snd K 80 5 := sn_zald i80_5 d80_5 
theorem i80_6 : am_ins 80 6 = (12, 0, 27, 0, []) := by decide +kernel
theorem d80_6 : decode (am_cod 80) 6 = .ok (.ifCond .eq 21, 3) := by decide +kernel
theorem s80_6 (K : aK) : am_Snd K 80 6 := sn_if_eq i80_6 d80_6 rfl
theorem i80_9 : am_ins 80 9 = (1, 2, 1, 0, []) := by decide +kernel
theorem d80_9 : decode (am_cod 80) 9 = .ok (.iload_n 2, 1) := by decide +kernel
theorem s80_9 (K : aK) : am_Snd K 80 9 := sn_iload_n i80_9 d80_9 rfl
theorem i80_10 : am_ins 80 10 = (33, 0, 1, 0, []) := by decide +kernel
theorem d80_10 : decode (am_cod 80) 10 = .ok (.aload_n 0, 1) := by decide +kernel
theorem s80_10 (K : aK) : am_Snd K 80 10 := sn_aload_n i80_10 d80_10 rfl
theorem i80_11 : am_ins 80 11 = (1, 1, 1, 0, []) := by decide +kernel
theorem d80_11 : decode (am_cod 80) 11 = .ok (.iload_n 1, 1) := by decide +kernel
theorem s80_11 (K : aK) : am_Snd K 80 11 := sn_iload_n i80_11 d80_11 rfl
theorem i80_12 : am_ins 80 12 = (60, 78, 1, 0, []) := by decide +kernel
theorem d80_12 : decode (am_cod 80) 12 = .ok (.invokevirtual 85, 3) := by decide +kernel
theorem s80_12 (K : aK) : am_SndC K 80 12 := sc_V i80_12 d80_12 co78 w_603 w_605 ws_15 w_6 rfl (rr := (CN7, FT7, 24)) rfl rfl hd78
theorem i80_15 : am_ins 80 15 = (13, 1, 27, 0, []) := by decide +kernel
theorem d80_15 : decode (am_cod 80) 15 = .ok (.if_icmp .ne 12, 3) := by decide +kernel
theorem s80_15 (K : aK) : am_Snd K 80 15 := sn_icmp_ne i80_15 d80_15 rfl
theorem i80_18 : am_ins 80 18 = (33, 0, 1, 0, []) := by decide +kernel
theorem d80_18 : decode (am_cod 80) 18 = .ok (.aload_n 0, 1) := by decide +kernel
theorem s80_18 (K : aK) : am_Snd K 80 18 := sn_aload_n i80_18 d80_18 rfl
theorem i80_19 : am_ins 80 19 = (18, 7, 9, 0, []) := by decide +kernel
theorem d80_19 : decode (am_cod 80) 19 = .ok (.getfield 35, 3) := by decide +kernel
theorem s80_19 (K : aK) : am_Snd K 80 19 := sn_get (C0 := CN7) (T := FT7) (Nf := 24) i80_19 d80_19 rfl (by decide +kernel) fin7 w_518 rfl
theorem i80_22 : am_ins 80 22 = (1, 1, 1, 0, []) := by decide +kernel
theorem d80_22 : decode (am_cod 80) 22 = .ok (.iload_n 1, 1) := by decide +kernel
theorem s80_22 (K : aK) : am_Snd K 80 22 := sn_iload_n i80_22 d80_22 rfl
theorem i80_23 : am_ins 80 23 = (22, 0, 0, 0, []) := by decide +kernel
theorem d80_23 : decode (am_cod 80) 23 = .ok (.iaload, 1) := by decide +kernel
theorem s80_23 (K : aK) : am_Snd K 80 23 := sn_iald i80_23 d80_23 
theorem i80_24 : am_ins 80 24 = (14, 37, 0, 0, []) := by decide +kernel
theorem d80_24 : decode (am_cod 80) 24 = .ok (.goto 13, 3) := by decide +kernel
theorem s80_24 (K : aK) : am_Snd K 80 24 := sn_goto i80_24 d80_24 rfl
theorem i80_27 : am_ins 80 27 = (33, 0, 1, 0, []) := by decide +kernel
theorem d80_27 : decode (am_cod 80) 27 = .ok (.aload_n 0, 1) := by decide +kernel
theorem s80_27 (K : aK) : am_Snd K 80 27 := sn_aload_n i80_27 d80_27 rfl
theorem i80_28 : am_ins 80 28 = (18, 7, 2, 0, []) := by decide +kernel
theorem d80_28 : decode (am_cod 80) 28 = .ok (.getfield 13, 3) := by decide +kernel
theorem s80_28 (K : aK) : am_Snd K 80 28 := sn_get (C0 := CN7) (T := FT7) (Nf := 24) i80_28 d80_28 rfl (by decide +kernel) fin7 w_511 rfl
theorem i80_31 : am_ins 80 31 = (0, 1, 0, 3, []) := by decide +kernel
theorem d80_31 : decode (am_cod 80) 31 = .ok (.iconst 3, 1) := by decide +kernel
theorem s80_31 (K : aK) : am_Snd K 80 31 := sn_const1 i80_31 d80_31 rfl
theorem i80_32 : am_ins 80 32 = (1, 1, 1, 0, []) := by decide +kernel
theorem d80_32 : decode (am_cod 80) 32 = .ok (.iload_n 1, 1) := by decide +kernel
theorem s80_32 (K : aK) : am_Snd K 80 32 := sn_iload_n i80_32 d80_32 rfl
theorem i80_33 : am_ins 80 33 = (4, 2, 0, 0, []) := by decide +kernel
theorem d80_33 : decode (am_cod 80) 33 = .ok (.imul, 1) := by decide +kernel
theorem s80_33 (K : aK) : am_Snd K 80 33 := sn_mul i80_33 d80_33 
theorem i80_34 : am_ins 80 34 = (1, 2, 1, 0, []) := by decide +kernel
theorem d80_34 : decode (am_cod 80) 34 = .ok (.iload_n 2, 1) := by decide +kernel
theorem s80_34 (K : aK) : am_Snd K 80 34 := sn_iload_n i80_34 d80_34 rfl
theorem i80_35 : am_ins 80 35 = (4, 0, 0, 0, []) := by decide +kernel
theorem d80_35 : decode (am_cod 80) 35 = .ok (.iadd, 1) := by decide +kernel
theorem s80_35 (K : aK) : am_Snd K 80 35 := sn_add i80_35 d80_35 
theorem i80_36 : am_ins 80 36 = (22, 0, 0, 0, []) := by decide +kernel
theorem d80_36 : decode (am_cod 80) 36 = .ok (.iaload, 1) := by decide +kernel
theorem s80_36 (K : aK) : am_Snd K 80 36 := sn_iald i80_36 d80_36 
theorem i80_37 : am_ins 80 37 = (50, 0, 0, 0, []) := by decide +kernel
theorem d80_37 : decode (am_cod 80) 37 = .ok (.ireturn, 1) := by decide +kernel
theorem s80_37 : am_SndR 80 37 := sn_iret i80_37 d80_37 rfl
theorem al80_0 (K : aK) : ∀ q ∈ [0, 1, 4, 5, 6, 9, 10, 11, 12, 15, 18, 19, 22, 23, 24, 27, 28, 31, 32, 33, 34, 35, 36, 37], am_All K 80 q := List.forall_mem_cons.mpr ⟨am_alS i80_0 (s80_0 K), List.forall_mem_cons.mpr ⟨am_alS i80_1 (s80_1 K), List.forall_mem_cons.mpr ⟨am_alS i80_4 (s80_4 K), List.forall_mem_cons.mpr ⟨am_alS i80_5 (s80_5 K), List.forall_mem_cons.mpr ⟨am_alS i80_6 (s80_6 K), List.forall_mem_cons.mpr ⟨am_alS i80_9 (s80_9 K), List.forall_mem_cons.mpr ⟨am_alS i80_10 (s80_10 K), List.forall_mem_cons.mpr ⟨am_alS i80_11 (s80_11 K), List.forall_mem_cons.mpr ⟨am_alC i80_12 (s80_12 K), List.forall_mem_cons.mpr ⟨am_alS i80_15 (s80_15 K), List.forall_mem_cons.mpr ⟨am_alS i80_18 (s80_18 K), List.forall_mem_cons.mpr ⟨am_alS i80_19 (s80_19 K), List.forall_mem_cons.mpr ⟨am_alS i80_22 (s80_22 K), List.forall_mem_cons.mpr ⟨am_alS i80_23 (s80_23 K), List.forall_mem_cons.mpr ⟨am_alS i80_24 (s80_24 K), List.forall_mem_cons.mpr ⟨am_alS i80_27 (s80_27 K), List.forall_mem_cons.mpr ⟨am_alS i80_28 (s80_28 K), List.forall_mem_cons.mpr ⟨am_alS i80_31 (s80_31 K), List.forall_mem_cons.mpr ⟨am_alS i80_32 (s80_32 K), List.forall_mem_cons.mpr ⟨am_alS i80_33 (s80_33 K), List.forall_mem_cons.mpr ⟨am_alS i80_34 (s80_34 K), List.forall_mem_cons.mpr ⟨am_alS i80_35 (s80_35 K), List.forall_mem_cons.mpr ⟨am_alS i80_36 (s80_36 K), List.forall_mem_cons.mpr ⟨am_alR i80_37 s80_37, fun _ h => absurd h List.not_mem_nil⟩⟩⟩⟩⟩⟩⟩⟩⟩⟩⟩⟩⟩⟩⟩⟩⟩⟩⟩⟩⟩⟩⟩⟩
set_option maxRecDepth 100000 in
theorem al80 (K : aK) : ∀ q ∈ (am_t80).map (fun z => z.1), am_All K 80 q := by
  have e : (am_t80).map (fun z => z.1) = [0, 1, 4, 5, 6, 9, 10, 11, 12, 15, 18, 19, 22, 23, 24, 27, 28, 31, 32, 33, 34, 35, 36, 37] := rfl
  rw [e]
  exact al80_0 K
theorem i81_0 : am_ins 81 0 = (0, 1, 0, 0, []) := by decide +kernel
theorem d81_0 : decode (am_cod 81) 0 = .ok (.iconst 0, 1) := by decide +kernel
theorem s81_0 (K : aK) : am_Snd K 81 0 := sn_const1 i81_0 d81_0 rfl
theorem i81_1 : am_ins 81 1 = (2, 3, 1, 0, []) := by decide +kernel
theorem d81_1 : decode (am_cod 81) 1 = .ok (.istore_n 3, 1) := by decide +kernel
theorem s81_1 (K : aK) : am_Snd K 81 1 := sn_istore_n i81_1 d81_1 rfl (by decide +kernel)
theorem i81_2 : am_ins 81 2 = (1, 3, 1, 0, []) := by decide +kernel
theorem d81_2 : decode (am_cod 81) 2 = .ok (.iload_n 3, 1) := by decide +kernel
theorem s81_2 (K : aK) : am_Snd K 81 2 := sn_iload_n i81_2 d81_2 rfl
theorem i81_3 : am_ins 81 3 = (0, 1, 0, 3, []) := by decide +kernel
theorem d81_3 : decode (am_cod 81) 3 = .ok (.iconst 3, 1) := by decide +kernel
theorem s81_3 (K : aK) : am_Snd K 81 3 := sn_const1 i81_3 d81_3 rfl
theorem i81_4 : am_ins 81 4 = (13, 3, 34, 0, []) := by decide +kernel
theorem d81_4 : decode (am_cod 81) 4 = .ok (.if_icmp .ge 30, 3) := by decide +kernel
theorem s81_4 (K : aK) : am_Snd K 81 4 := sn_icmp_ge i81_4 d81_4 rfl
theorem i81_7 : am_ins 81 7 = (33, 0, 1, 0, []) := by decide +kernel
theorem d81_7 : decode (am_cod 81) 7 = .ok (.aload_n 0, 1) := by decide +kernel
theorem s81_7 (K : aK) : am_Snd K 81 7 := sn_aload_n i81_7 d81_7 rfl
theorem i81_8 : am_ins 81 8 = (1, 1, 1, 0, []) := by decide +kernel
theorem d81_8 : decode (am_cod 81) 8 = .ok (.iload_n 1, 1) := by decide +kernel
theorem s81_8 (K : aK) : am_Snd K 81 8 := sn_iload_n i81_8 d81_8 rfl
theorem i81_9 : am_ins 81 9 = (1, 3, 1, 0, []) := by decide +kernel
theorem d81_9 : decode (am_cod 81) 9 = .ok (.iload_n 3, 1) := by decide +kernel
theorem s81_9 (K : aK) : am_Snd K 81 9 := sn_iload_n i81_9 d81_9 rfl
theorem i81_10 : am_ins 81 10 = (60, 80, 2, 0, []) := by decide +kernel
theorem d81_10 : decode (am_cod 81) 10 = .ok (.invokevirtual 88, 3) := by decide +kernel
theorem s81_10 (K : aK) : am_SndC K 81 10 := sc_V i81_10 d81_10 co80 w_599 w_601 ws_14 w_6 rfl (rr := (CN7, FT7, 24)) rfl rfl hd80
theorem i81_13 : am_ins 81 13 = (33, 0, 1, 0, []) := by decide +kernel
theorem d81_13 : decode (am_cod 81) 13 = .ok (.aload_n 0, 1) := by decide +kernel
theorem s81_13 (K : aK) : am_Snd K 81 13 := sn_aload_n i81_13 d81_13 rfl
theorem i81_14 : am_ins 81 14 = (18, 7, 17, 0, []) := by decide +kernel
theorem d81_14 : decode (am_cod 81) 14 = .ok (.getfield 59, 3) := by decide +kernel
theorem s81_14 (K : aK) : am_Snd K 81 14 := sn_get (C0 := CN7) (T := FT7) (Nf := 24) i81_14 d81_14 rfl (by decide +kernel) fin7 w_526 rfl
theorem i81_17 : am_ins 81 17 = (0, 1, 0, 3, []) := by decide +kernel
theorem d81_17 : decode (am_cod 81) 17 = .ok (.iconst 3, 1) := by decide +kernel
theorem s81_17 (K : aK) : am_Snd K 81 17 := sn_const1 i81_17 d81_17 rfl
theorem i81_18 : am_ins 81 18 = (1, 2, 1, 0, []) := by decide +kernel
theorem d81_18 : decode (am_cod 81) 18 = .ok (.iload_n 2, 1) := by decide +kernel
theorem s81_18 (K : aK) : am_Snd K 81 18 := sn_iload_n i81_18 d81_18 rfl
theorem i81_19 : am_ins 81 19 = (4, 2, 0, 0, []) := by decide +kernel
theorem d81_19 : decode (am_cod 81) 19 = .ok (.imul, 1) := by decide +kernel
theorem s81_19 (K : aK) : am_Snd K 81 19 := sn_mul i81_19 d81_19 
theorem i81_20 : am_ins 81 20 = (1, 3, 1, 0, []) := by decide +kernel
theorem d81_20 : decode (am_cod 81) 20 = .ok (.iload_n 3, 1) := by decide +kernel
theorem s81_20 (K : aK) : am_Snd K 81 20 := sn_iload_n i81_20 d81_20 rfl
theorem i81_21 : am_ins 81 21 = (4, 0, 0, 0, []) := by decide +kernel
theorem d81_21 : decode (am_cod 81) 21 = .ok (.iadd, 1) := by decide +kernel
theorem s81_21 (K : aK) : am_Snd K 81 21 := sn_add i81_21 d81_21 
theorem i81_22 : am_ins 81 22 = (22, 0, 0, 0, []) := by decide +kernel
theorem d81_22 : decode (am_cod 81) 22 = .ok (.iaload, 1) := by decide +kernel
theorem s81_22 (K : aK) : am_Snd K 81 22 := sn_iald i81_22 d81_22 
theorem i81_23 : am_ins 81 23 = (13, 5, 28, 0, []) := by decide +kernel
theorem d81_23 : decode (am_cod 81) 23 = .ok (.if_icmp .le 5, 3) := by decide +kernel
theorem s81_23 (K : aK) : am_Snd K 81 23 := sn_icmp_le i81_23 d81_23 rfl
theorem i81_26 : am_ins 81 26 = (0, 1, 0, 0, []) := by decide +kernel
theorem d81_26 : decode (am_cod 81) 26 = .ok (.iconst 0, 1) := by decide +kernel
theorem s81_26 (K : aK) : am_Snd K 81 26 := sn_const1 i81_26 d81_26 rfl
theorem i81_27 : am_ins 81 27 = (51, 0, 0, 0, []) := by decide +kernel
theorem d81_27 : decode (am_cod 81) 27 = .ok (.ireturn, 1) := by decide +kernel
theorem s81_27 : am_SndR 81 27 := sn_zret i81_27 d81_27 rfl
theorem i81_28 : am_ins 81 28 = (3, 3, 3, 1, []) := by decide +kernel
theorem d81_28 : decode (am_cod 81) 28 = .ok (.iinc 3 1, 3) := by decide +kernel
theorem s81_28 (K : aK) : am_Snd K 81 28 := sn_iinc i81_28 d81_28 rfl (by decide +kernel)
theorem i81_31 : am_ins 81 31 = (14, 2, 0, 0, []) := by decide +kernel
theorem d81_31 : decode (am_cod 81) 31 = .ok (.goto (-29), 3) := by decide +kernel
theorem s81_31 (K : aK) : am_Snd K 81 31 := sn_goto i81_31 d81_31 rfl
theorem i81_34 : am_ins 81 34 = (0, 1, 0, 1, []) := by decide +kernel
theorem d81_34 : decode (am_cod 81) 34 = .ok (.iconst 1, 1) := by decide +kernel
theorem s81_34 (K : aK) : am_Snd K 81 34 := sn_const1 i81_34 d81_34 rfl
theorem i81_35 : am_ins 81 35 = (51, 0, 0, 0, []) := by decide +kernel
theorem d81_35 : decode (am_cod 81) 35 = .ok (.ireturn, 1) := by decide +kernel
theorem s81_35 : am_SndR 81 35 := sn_zret i81_35 d81_35 rfl
theorem al81_0 (K : aK) : ∀ q ∈ [0, 1, 2, 3, 4, 7, 8, 9, 10, 13, 14, 17, 18, 19, 20, 21, 22, 23, 26, 27, 28, 31, 34, 35], am_All K 81 q := List.forall_mem_cons.mpr ⟨am_alS i81_0 (s81_0 K), List.forall_mem_cons.mpr ⟨am_alS i81_1 (s81_1 K), List.forall_mem_cons.mpr ⟨am_alS i81_2 (s81_2 K), List.forall_mem_cons.mpr ⟨am_alS i81_3 (s81_3 K), List.forall_mem_cons.mpr ⟨am_alS i81_4 (s81_4 K), List.forall_mem_cons.mpr ⟨am_alS i81_7 (s81_7 K), List.forall_mem_cons.mpr ⟨am_alS i81_8 (s81_8 K), List.forall_mem_cons.mpr ⟨am_alS i81_9 (s81_9 K), List.forall_mem_cons.mpr ⟨am_alC i81_10 (s81_10 K), List.forall_mem_cons.mpr ⟨am_alS i81_13 (s81_13 K), List.forall_mem_cons.mpr ⟨am_alS i81_14 (s81_14 K), List.forall_mem_cons.mpr ⟨am_alS i81_17 (s81_17 K), List.forall_mem_cons.mpr ⟨am_alS i81_18 (s81_18 K), List.forall_mem_cons.mpr ⟨am_alS i81_19 (s81_19 K), List.forall_mem_cons.mpr ⟨am_alS i81_20 (s81_20 K), List.forall_mem_cons.mpr ⟨am_alS i81_21 (s81_21 K), List.forall_mem_cons.mpr ⟨am_alS i81_22 (s81_22 K), List.forall_mem_cons.mpr ⟨am_alS i81_23 (s81_23 K), List.forall_mem_cons.mpr ⟨am_alS i81_26 (s81_26 K), List.forall_mem_cons.mpr ⟨am_alR i81_27 s81_27, List.forall_mem_cons.mpr ⟨am_alS i81_28 (s81_28 K), List.forall_mem_cons.mpr ⟨am_alS i81_31 (s81_31 K), List.forall_mem_cons.mpr ⟨am_alS i81_34 (s81_34 K), List.forall_mem_cons.mpr ⟨am_alR i81_35 s81_35, fun _ h => absurd h List.not_mem_nil⟩⟩⟩⟩⟩⟩⟩⟩⟩⟩⟩⟩⟩⟩⟩⟩⟩⟩⟩⟩⟩⟩⟩⟩
set_option maxRecDepth 100000 in
theorem al81 (K : aK) : ∀ q ∈ (am_t81).map (fun z => z.1), am_All K 81 q := by
  have e : (am_t81).map (fun z => z.1) = [0, 1, 2, 3, 4, 7, 8, 9, 10, 13, 14, 17, 18, 19, 20, 21, 22, 23, 26, 27, 28, 31, 34, 35] := rfl
  rw [e]
  exact al81_0 K
theorem i82_0 : am_ins 82 0 = (33, 0, 1, 0, []) := by decide +kernel
theorem d82_0 : decode (am_cod 82) 0 = .ok (.aload_n 0, 1) := by decide +kernel
theorem s82_0 (K : aK) : am_Snd K 82 0 := sn_aload_n i82_0 d82_0 rfl
theorem i82_1 : am_ins 82 1 = (18, 7, 9, 0, []) := by decide +kernel
theorem d82_1 : decode (am_cod 82) 1 = .ok (.getfield 35, 3) := by decide +kernel
theorem s82_1 (K : aK) : am_Snd K 82 1 := sn_get (C0 := CN7) (T := FT7) (Nf := 24) i82_1 d82_1 rfl (by decide +kernel) fin7 w_518 rfl
theorem i82_4 : am_ins 82 4 = (1, 1, 1, 0, []) := by decide +kernel
theorem d82_4 : decode (am_cod 82) 4 = .ok (.iload_n 1, 1) := by decide +kernel
theorem s82_4 (K : aK) : am_Snd K 82 4 := sn_iload_n i82_4 d82_4 rfl
theorem i82_5 : am_ins 82 5 = (22, 0, 0, 0, []) := by decide +kernel
theorem d82_5 : decode (am_cod 82) 5 = .ok (.iaload, 1) := by decide +kernel
theorem s82_5 (K : aK) : am_Snd K 82 5 := sn_iald i82_5 d82_5 
theorem i82_6 : am_ins 82 6 = (33, 0, 1, 0, []) := by decide +kernel
theorem d82_6 : decode (am_cod 82) 6 = .ok (.aload_n 0, 1) := by decide +kernel
theorem s82_6 (K : aK) : am_Snd K 82 6 := sn_aload_n i82_6 d82_6 rfl
theorem i82_7 : am_ins 82 7 = (18, 7, 9, 0, []) := by decide +kernel
theorem d82_7 : decode (am_cod 82) 7 = .ok (.getfield 35, 3) := by decide +kernel
theorem s82_7 (K : aK) : am_Snd K 82 7 := sn_get (C0 := CN7) (T := FT7) (Nf := 24) i82_7 d82_7 rfl (by decide +kernel) fin7 w_518 rfl
theorem i82_10 : am_ins 82 10 = (1, 2, 1, 0, []) := by decide +kernel
theorem d82_10 : decode (am_cod 82) 10 = .ok (.iload_n 2, 1) := by decide +kernel
theorem s82_10 (K : aK) : am_Snd K 82 10 := sn_iload_n i82_10 d82_10 rfl
theorem i82_11 : am_ins 82 11 = (22, 0, 0, 0, []) := by decide +kernel
theorem d82_11 : decode (am_cod 82) 11 = .ok (.iaload, 1) := by decide +kernel
theorem s82_11 (K : aK) : am_Snd K 82 11 := sn_iald i82_11 d82_11 
theorem i82_12 : am_ins 82 12 = (13, 0, 36, 0, []) := by decide +kernel
theorem d82_12 : decode (am_cod 82) 12 = .ok (.if_icmp .eq 24, 3) := by decide +kernel
theorem s82_12 (K : aK) : am_Snd K 82 12 := sn_icmp_eq i82_12 d82_12 rfl
theorem i82_15 : am_ins 82 15 = (33, 0, 1, 0, []) := by decide +kernel
theorem d82_15 : decode (am_cod 82) 15 = .ok (.aload_n 0, 1) := by decide +kernel
theorem s82_15 (K : aK) : am_Snd K 82 15 := sn_aload_n i82_15 d82_15 rfl
theorem i82_16 : am_ins 82 16 = (18, 7, 9, 0, []) := by decide +kernel
theorem d82_16 : decode (am_cod 82) 16 = .ok (.getfield 35, 3) := by decide +kernel
theorem s82_16 (K : aK) : am_Snd K 82 16 := sn_get (C0 := CN7) (T := FT7) (Nf := 24) i82_16 d82_16 rfl (by decide +kernel) fin7 w_518 rfl
theorem i82_19 : am_ins 82 19 = (1, 1, 1, 0, []) := by decide +kernel
theorem d82_19 : decode (am_cod 82) 19 = .ok (.iload_n 1, 1) := by decide +kernel
theorem s82_19 (K : aK) : am_Snd K 82 19 := sn_iload_n i82_19 d82_19 rfl
theorem i82_20 : am_ins 82 20 = (22, 0, 0, 0, []) := by decide +kernel
theorem d82_20 : decode (am_cod 82) 20 = .ok (.iaload, 1) := by decide +kernel
theorem s82_20 (K : aK) : am_Snd K 82 20 := sn_iald i82_20 d82_20 
theorem i82_21 : am_ins 82 21 = (33, 0, 1, 0, []) := by decide +kernel
theorem d82_21 : decode (am_cod 82) 21 = .ok (.aload_n 0, 1) := by decide +kernel
theorem s82_21 (K : aK) : am_Snd K 82 21 := sn_aload_n i82_21 d82_21 rfl
theorem i82_22 : am_ins 82 22 = (18, 7, 9, 0, []) := by decide +kernel
theorem d82_22 : decode (am_cod 82) 22 = .ok (.getfield 35, 3) := by decide +kernel
theorem s82_22 (K : aK) : am_Snd K 82 22 := sn_get (C0 := CN7) (T := FT7) (Nf := 24) i82_22 d82_22 rfl (by decide +kernel) fin7 w_518 rfl
theorem i82_25 : am_ins 82 25 = (1, 2, 1, 0, []) := by decide +kernel
theorem d82_25 : decode (am_cod 82) 25 = .ok (.iload_n 2, 1) := by decide +kernel
theorem s82_25 (K : aK) : am_Snd K 82 25 := sn_iload_n i82_25 d82_25 rfl
theorem i82_26 : am_ins 82 26 = (22, 0, 0, 0, []) := by decide +kernel
theorem d82_26 : decode (am_cod 82) 26 = .ok (.iaload, 1) := by decide +kernel
theorem s82_26 (K : aK) : am_Snd K 82 26 := sn_iald i82_26 d82_26 
theorem i82_27 : am_ins 82 27 = (13, 5, 34, 0, []) := by decide +kernel
theorem d82_27 : decode (am_cod 82) 27 = .ok (.if_icmp .le 7, 3) := by decide +kernel
theorem s82_27 (K : aK) : am_Snd K 82 27 := sn_icmp_le i82_27 d82_27 rfl
theorem i82_30 : am_ins 82 30 = (0, 1, 0, 1, []) := by decide +kernel
theorem d82_30 : decode (am_cod 82) 30 = .ok (.iconst 1, 1) := by decide +kernel
theorem s82_30 (K : aK) : am_Snd K 82 30 := sn_const1 i82_30 d82_30 rfl
theorem i82_31 : am_ins 82 31 = (14, 35, 0, 0, []) := by decide +kernel
theorem d82_31 : decode (am_cod 82) 31 = .ok (.goto 4, 3) := by decide +kernel
theorem s82_31 (K : aK) : am_Snd K 82 31 := sn_goto i82_31 d82_31 rfl
theorem i82_34 : am_ins 82 34 = (0, 1, 0, 0, []) := by decide +kernel
theorem d82_34 : decode (am_cod 82) 34 = .ok (.iconst 0, 1) := by decide +kernel
theorem s82_34 (K : aK) : am_Snd K 82 34 := sn_const1 i82_34 d82_34 rfl
theorem i82_35 : am_ins 82 35 = (51, 0, 0, 0, []) := by decide +kernel
theorem d82_35 : decode (am_cod 82) 35 = .ok (.ireturn, 1) := by decide +kernel
theorem s82_35 : am_SndR 82 35 := sn_zret i82_35 d82_35 rfl
theorem i82_36 : am_ins 82 36 = (33, 0, 1, 0, []) := by decide +kernel
theorem d82_36 : decode (am_cod 82) 36 = .ok (.aload_n 0, 1) := by decide +kernel
theorem s82_36 (K : aK) : am_Snd K 82 36 := sn_aload_n i82_36 d82_36 rfl
theorem i82_37 : am_ins 82 37 = (1, 1, 1, 0, []) := by decide +kernel
theorem d82_37 : decode (am_cod 82) 37 = .ok (.iload_n 1, 1) := by decide +kernel
theorem s82_37 (K : aK) : am_Snd K 82 37 := sn_iload_n i82_37 d82_37 rfl
theorem i82_38 : am_ins 82 38 = (60, 78, 1, 0, []) := by decide +kernel
theorem d82_38 : decode (am_cod 82) 38 = .ok (.invokevirtual 85, 3) := by decide +kernel
theorem s82_38 (K : aK) : am_SndC K 82 38 := sc_V i82_38 d82_38 co78 w_603 w_605 ws_15 w_6 rfl (rr := (CN7, FT7, 24)) rfl rfl hd78
theorem i82_41 : am_ins 82 41 = (33, 0, 1, 0, []) := by decide +kernel
theorem d82_41 : decode (am_cod 82) 41 = .ok (.aload_n 0, 1) := by decide +kernel
theorem s82_41 (K : aK) : am_Snd K 82 41 := sn_aload_n i82_41 d82_41 rfl
theorem i82_42 : am_ins 82 42 = (1, 2, 1, 0, []) := by decide +kernel
theorem d82_42 : decode (am_cod 82) 42 = .ok (.iload_n 2, 1) := by decide +kernel
theorem s82_42 (K : aK) : am_Snd K 82 42 := sn_iload_n i82_42 d82_42 rfl
theorem i82_43 : am_ins 82 43 = (60, 78, 1, 0, []) := by decide +kernel
theorem d82_43 : decode (am_cod 82) 43 = .ok (.invokevirtual 85, 3) := by decide +kernel
theorem s82_43 (K : aK) : am_SndC K 82 43 := sc_V i82_43 d82_43 co78 w_603 w_605 ws_15 w_6 rfl (rr := (CN7, FT7, 24)) rfl rfl hd78
theorem i82_46 : am_ins 82 46 = (13, 0, 68, 0, []) := by decide +kernel
theorem d82_46 : decode (am_cod 82) 46 = .ok (.if_icmp .eq 22, 3) := by decide +kernel
theorem s82_46 (K : aK) : am_Snd K 82 46 := sn_icmp_eq i82_46 d82_46 rfl
theorem i82_49 : am_ins 82 49 = (33, 0, 1, 0, []) := by decide +kernel
theorem d82_49 : decode (am_cod 82) 49 = .ok (.aload_n 0, 1) := by decide +kernel
theorem s82_49 (K : aK) : am_Snd K 82 49 := sn_aload_n i82_49 d82_49 rfl
theorem i82_50 : am_ins 82 50 = (1, 1, 1, 0, []) := by decide +kernel
theorem d82_50 : decode (am_cod 82) 50 = .ok (.iload_n 1, 1) := by decide +kernel
theorem s82_50 (K : aK) : am_Snd K 82 50 := sn_iload_n i82_50 d82_50 rfl
theorem i82_51 : am_ins 82 51 = (60, 78, 1, 0, []) := by decide +kernel
theorem d82_51 : decode (am_cod 82) 51 = .ok (.invokevirtual 85, 3) := by decide +kernel
theorem s82_51 (K : aK) : am_SndC K 82 51 := sc_V i82_51 d82_51 co78 w_603 w_605 ws_15 w_6 rfl (rr := (CN7, FT7, 24)) rfl rfl hd78
theorem i82_54 : am_ins 82 54 = (33, 0, 1, 0, []) := by decide +kernel
theorem d82_54 : decode (am_cod 82) 54 = .ok (.aload_n 0, 1) := by decide +kernel
theorem s82_54 (K : aK) : am_Snd K 82 54 := sn_aload_n i82_54 d82_54 rfl
theorem i82_55 : am_ins 82 55 = (1, 2, 1, 0, []) := by decide +kernel
theorem d82_55 : decode (am_cod 82) 55 = .ok (.iload_n 2, 1) := by decide +kernel
theorem s82_55 (K : aK) : am_Snd K 82 55 := sn_iload_n i82_55 d82_55 rfl
theorem i82_56 : am_ins 82 56 = (60, 78, 1, 0, []) := by decide +kernel
theorem d82_56 : decode (am_cod 82) 56 = .ok (.invokevirtual 85, 3) := by decide +kernel
theorem s82_56 (K : aK) : am_SndC K 82 56 := sc_V i82_56 d82_56 co78 w_603 w_605 ws_15 w_6 rfl (rr := (CN7, FT7, 24)) rfl rfl hd78
theorem i82_59 : am_ins 82 59 = (13, 5, 66, 0, []) := by decide +kernel
theorem d82_59 : decode (am_cod 82) 59 = .ok (.if_icmp .le 7, 3) := by decide +kernel
theorem s82_59 (K : aK) : am_Snd K 82 59 := sn_icmp_le i82_59 d82_59 rfl
theorem i82_62 : am_ins 82 62 = (0, 1, 0, 1, []) := by decide +kernel
theorem d82_62 : decode (am_cod 82) 62 = .ok (.iconst 1, 1) := by decide +kernel
theorem s82_62 (K : aK) : am_Snd K 82 62 := sn_const1 i82_62 d82_62 rfl
theorem i82_63 : am_ins 82 63 = (14, 67, 0, 0, []) := by decide +kernel
theorem d82_63 : decode (am_cod 82) 63 = .ok (.goto 4, 3) := by decide +kernel
theorem s82_63 (K : aK) : am_Snd K 82 63 := sn_goto i82_63 d82_63 rfl
theorem i82_66 : am_ins 82 66 = (0, 1, 0, 0, []) := by decide +kernel
theorem d82_66 : decode (am_cod 82) 66 = .ok (.iconst 0, 1) := by decide +kernel
theorem s82_66 (K : aK) : am_Snd K 82 66 := sn_const1 i82_66 d82_66 rfl
theorem i82_67 : am_ins 82 67 = (51, 0, 0, 0, []) := by decide +kernel
theorem d82_67 : decode (am_cod 82) 67 = .ok (.ireturn, 1) := by decide +kernel
theorem s82_67 : am_SndR 82 67 := sn_zret i82_67 d82_67 rfl
theorem i82_68 : am_ins 82 68 = (1, 1, 1, 0, []) := by decide +kernel
theorem d82_68 : decode (am_cod 82) 68 = .ok (.iload_n 1, 1) := by decide +kernel
theorem s82_68 (K : aK) : am_Snd K 82 68 := sn_iload_n i82_68 d82_68 rfl
theorem i82_69 : am_ins 82 69 = (1, 2, 1, 0, []) := by decide +kernel
theorem d82_69 : decode (am_cod 82) 69 = .ok (.iload_n 2, 1) := by decide +kernel
theorem s82_69 (K : aK) : am_Snd K 82 69 := sn_iload_n i82_69 d82_69 rfl
theorem i82_70 : am_ins 82 70 = (13, 5, 77, 0, []) := by decide +kernel
theorem d82_70 : decode (am_cod 82) 70 = .ok (.if_icmp .le 7, 3) := by decide +kernel
theorem s82_70 (K : aK) : am_Snd K 82 70 := sn_icmp_le i82_70 d82_70 rfl
theorem i82_73 : am_ins 82 73 = (0, 1, 0, 1, []) := by decide +kernel
theorem d82_73 : decode (am_cod 82) 73 = .ok (.iconst 1, 1) := by decide +kernel
theorem s82_73 (K : aK) : am_Snd K 82 73 := sn_const1 i82_73 d82_73 rfl
theorem i82_74 : am_ins 82 74 = (14, 78, 0, 0, []) := by decide +kernel
theorem d82_74 : decode (am_cod 82) 74 = .ok (.goto 4, 3) := by decide +kernel
theorem s82_74 (K : aK) : am_Snd K 82 74 := sn_goto i82_74 d82_74 rfl
theorem i82_77 : am_ins 82 77 = (0, 1, 0, 0, []) := by decide +kernel
theorem d82_77 : decode (am_cod 82) 77 = .ok (.iconst 0, 1) := by decide +kernel
theorem s82_77 (K : aK) : am_Snd K 82 77 := sn_const1 i82_77 d82_77 rfl
theorem i82_78 : am_ins 82 78 = (51, 0, 0, 0, []) := by decide +kernel
theorem d82_78 : decode (am_cod 82) 78 = .ok (.ireturn, 1) := by decide +kernel
theorem s82_78 : am_SndR 82 78 := sn_zret i82_78 d82_78 rfl
theorem al82_0 (K : aK) : ∀ q ∈ [0, 1, 4, 5, 6, 7, 10, 11, 12, 15, 16, 19, 20, 21, 22, 25, 26, 27, 30, 31, 34, 35, 36, 37, 38, 41, 42, 43, 46, 49], am_All K 82 q := List.forall_mem_cons.mpr ⟨am_alS i82_0 (s82_0 K), List.forall_mem_cons.mpr ⟨am_alS i82_1 (s82_1 K), List.forall_mem_cons.mpr ⟨am_alS i82_4 (s82_4 K), List.forall_mem_cons.mpr ⟨am_alS i82_5 (s82_5 K), List.forall_mem_cons.mpr ⟨am_alS i82_6 (s82_6 K), List.forall_mem_cons.mpr ⟨am_alS i82_7 (s82_7 K), List.forall_mem_cons.mpr ⟨am_alS i82_10 (s82_10 K), List.forall_mem_cons.mpr ⟨am_alS i82_11 (s82_11 K), List.forall_mem_cons.mpr ⟨am_alS i82_12 (s82_12 K), List.forall_mem_cons.mpr ⟨am_alS i82_15 (s82_15 K), List.forall_mem_cons.mpr ⟨am_alS i82_16 (s82_16 K), List.forall_mem_cons.mpr ⟨am_alS i82_19 (s82_19 K), List.forall_mem_cons.mpr ⟨am_alS i82_20 (s82_20 K), List.forall_mem_cons.mpr ⟨am_alS i82_21 (s82_21 K), List.forall_mem_cons.mpr ⟨am_alS i82_22 (s82_22 K), List.forall_mem_cons.mpr ⟨am_alS i82_25 (s82_25 K), List.forall_mem_cons.mpr ⟨am_alS i82_26 (s82_26 K), List.forall_mem_cons.mpr ⟨am_alS i82_27 (s82_27 K), List.forall_mem_cons.mpr ⟨am_alS i82_30 (s82_30 K), List.forall_mem_cons.mpr ⟨am_alS i82_31 (s82_31 K), List.forall_mem_cons.mpr ⟨am_alS i82_34 (s82_34 K), List.forall_mem_cons.mpr ⟨am_alR i82_35 s82_35, List.forall_mem_cons.mpr ⟨am_alS i82_36 (s82_36 K), List.forall_mem_cons.mpr ⟨am_alS i82_37 (s82_37 K), List.forall_mem_cons.mpr ⟨am_alC i82_38 (s82_38 K), List.forall_mem_cons.mpr ⟨am_alS i82_41 (s82_41 K), List.forall_mem_cons.mpr ⟨am_alS i82_42 (s82_42 K), List.forall_mem_cons.mpr ⟨am_alC i82_43 (s82_43 K), List.forall_mem_cons.mpr ⟨am_alS i82_46 (s82_46 K), List.forall_mem_cons.mpr ⟨am_alS i82_49 (s82_49 K), fun _ h => absurd h List.not_mem_nil⟩⟩⟩⟩⟩⟩⟩⟩⟩⟩⟩⟩⟩⟩⟩⟩⟩⟩⟩⟩⟩⟩⟩⟩⟩⟩⟩⟩⟩⟩
theorem al82_1 (K : aK) : ∀ q ∈ [50, 51, 54, 55, 56, 59, 62, 63, 66, 67, 68, 69, 70, 73, 74, 77, 78], am_All K 82 q := List.forall_mem_cons.mpr ⟨am_alS i82_50 (s82_50 K), List.forall_mem_cons.mpr ⟨am_alC i82_51 (s82_51 K), List.forall_mem_cons.mpr ⟨am_alS i82_54 (s82_54 K), List.forall_mem_cons.mpr ⟨am_alS i82_55 (s82_55 K), List.forall_mem_cons.mpr ⟨am_alC i82_56 (s82_56 K), List.forall_mem_cons.mpr ⟨am_alS i82_59 (s82_59 K), List.forall_mem_cons.mpr ⟨am_alS i82_62 (s82_62 K), List.forall_mem_cons.mpr ⟨am_alS i82_63 (s82_63 K), List.forall_mem_cons.mpr ⟨am_alS i82_66 (s82_66 K), List.forall_mem_cons.mpr ⟨am_alR i82_67 s82_67, List.forall_mem_cons.mpr ⟨am_alS i82_68 (s82_68 K), List.forall_mem_cons.mpr ⟨am_alS i82_69 (s82_69 K), List.forall_mem_cons.mpr ⟨am_alS i82_70 (s82_70 K), List.forall_mem_cons.mpr ⟨am_alS i82_73 (s82_73 K), List.forall_mem_cons.mpr ⟨am_alS i82_74 (s82_74 K), List.forall_mem_cons.mpr ⟨am_alS i82_77 (s82_77 K), List.forall_mem_cons.mpr ⟨am_alR i82_78 s82_78, fun _ h => absurd h List.not_mem_nil⟩⟩⟩⟩⟩⟩⟩⟩⟩⟩⟩⟩⟩⟩⟩⟩⟩
set_option maxRecDepth 100000 in
theorem al82 (K : aK) : ∀ q ∈ (am_t82).map (fun z => z.1), am_All K 82 q := by
  have e : (am_t82).map (fun z => z.1) = [0, 1, 4, 5, 6, 7, 10, 11, 12, 15, 16, 19, 20, 21, 22, 25, 26, 27, 30, 31, 34, 35, 36, 37, 38, 41, 42, 43, 46, 49] ++ ([50, 51, 54, 55, 56, 59, 62, 63, 66, 67, 68, 69, 70, 73, 74, 77, 78]) := rfl
  rw [e]
  exact List.forall_mem_append.mpr ⟨al82_0 K, al82_1 K⟩
theorem i83_0 : am_ins 83 0 = (33, 0, 1, 0, []) := by decide +kernel
theorem d83_0 : decode (am_cod 83) 0 = .ok (.aload_n 0, 1) := by decide +kernel
theorem s83_0 (K : aK) : am_Snd K 83 0 := sn_aload_n i83_0 d83_0 rfl
theorem i83_1 : am_ins 83 1 = (18, 7, 11, 0, []) := by decide +kernel
theorem d83_1 : decode (am_cod 83) 1 = .ok (.getfield 41, 3) := by decide +kernel
theorem s83_1 (K : aK) : am_Snd K 83 1 := sn_get (C0 := CN7) (T := FT7) (Nf := 24) i83_1 d83_1 rfl (by decide +kernel) fin7 w_520 rfl
theorem i83_4 : am_ins 83 4 = (0, 3, 0, 200, []) := by decide +kernel
theorem d83_4 : decode (am_cod 83) 4 = .ok (.sipush 200, 3) := by decide +kernel
theorem s83_4 (K : aK) : am_Snd K 83 4 := sn_const3 i83_4 d83_4 (by decide +kernel)
theorem i83_7 : am_ins 83 7 = (1, 1, 1, 0, []) := by decide +kernel
theorem d83_7 : decode (am_cod 83) 7 = .ok (.iload_n 1, 1) := by decide +kernel
theorem s83_7 (K : aK) : am_Snd K 83 7 := sn_iload_n i83_7 d83_7 rfl
theorem i83_8 : am_ins 83 8 = (4, 2, 0, 0, []) := by decide +kernel
theorem d83_8 : decode (am_cod 83) 8 = .ok (.imul, 1) := by decide +kernel
theorem s83_8 (K : aK) : am_Snd K 83 8 := sn_mul i83_8 d83_8 
theorem i83_9 : am_ins 83 9 = (1, 2, 1, 0, []) := by decide +kernel
theorem d83_9 : decode (am_cod 83) 9 = .ok (.iload_n 2, 1) := by decide +kernel
theorem s83_9 (K : aK) : am_Snd K 83 9 := sn_iload_n i83_9 d83_9 rfl
theorem i83_10 : am_ins 83 10 = (4, 0, 0, 0, []) := by decide +kernel
theorem d83_10 : decode (am_cod 83) 10 = .ok (.iadd, 1) := by decide +kernel
theorem s83_10 (K : aK) : am_Snd K 83 10 := sn_add i83_10 d83_10 
theorem i83_11 : am_ins 83 11 = (22, 0, 0, 0, []) := by decide +kernel
theorem d83_11 : decode (am_cod 83) 11 = .ok (.iaload, 1) := by decide +kernel
theorem s83_11 (K : aK) : am_Snd K 83 11 := sn_iald i83_11 d83_11 
theorem i83_12 : am_ins 83 12 = (0, 1, 0, 3, []) := by decide +kernel
theorem d83_12 : decode (am_cod 83) 12 = .ok (.iconst 3, 1) := by decide +kernel
theorem s83_12 (K : aK) : am_Snd K 83 12 := sn_const1 i83_12 d83_12 rfl
theorem i83_13 : am_ins 83 13 = (13, 1, 29, 0, []) := by decide +kernel
theorem d83_13 : decode (am_cod 83) 13 = .ok (.if_icmp .ne 16, 3) := by decide +kernel
theorem s83_13 (K : aK) : am_Snd K 83 13 := sn_icmp_ne i83_13 d83_13 rfl
theorem i83_16 : am_ins 83 16 = (33, 0, 1, 0, []) := by decide +kernel
theorem d83_16 : decode (am_cod 83) 16 = .ok (.aload_n 0, 1) := by decide +kernel
theorem s83_16 (K : aK) : am_Snd K 83 16 := sn_aload_n i83_16 d83_16 rfl
theorem i83_17 : am_ins 83 17 = (1, 2, 1, 0, []) := by decide +kernel
theorem d83_17 : decode (am_cod 83) 17 = .ok (.iload_n 2, 1) := by decide +kernel
theorem s83_17 (K : aK) : am_Snd K 83 17 := sn_iload_n i83_17 d83_17 rfl
theorem i83_18 : am_ins 83 18 = (1, 3, 1, 0, []) := by decide +kernel
theorem d83_18 : decode (am_cod 83) 18 = .ok (.iload_n 3, 1) := by decide +kernel
theorem s83_18 (K : aK) : am_Snd K 83 18 := sn_iload_n i83_18 d83_18 rfl
theorem i83_19 : am_ins 83 19 = (60, 79, 2, 0, []) := by decide +kernel
theorem d83_19 : decode (am_cod 83) 19 = .ok (.invokevirtual 92, 3) := by decide +kernel
theorem s83_19 (K : aK) : am_SndC K 83 19 := sc_V i83_19 d83_19 co79 w_618 w_620 ws_17 w_6 rfl (rr := (CN7, FT7, 24)) rfl rfl hd79
theorem i83_22 : am_ins 83 22 = (12, 0, 29, 0, []) := by decide +kernel
theorem d83_22 : decode (am_cod 83) 22 = .ok (.ifCond .eq 7, 3) := by decide +kernel
theorem s83_22 (K : aK) : am_Snd K 83 22 := sn_if_eq i83_22 d83_22 rfl
theorem i83_25 : am_ins 83 25 = (0, 1, 0, 1, []) := by decide +kernel
theorem d83_25 : decode (am_cod 83) 25 = .ok (.iconst 1, 1) := by decide +kernel
theorem s83_25 (K : aK) : am_Snd K 83 25 := sn_const1 i83_25 d83_25 rfl
theorem i83_26 : am_ins 83 26 = (14, 30, 0, 0, []) := by decide +kernel
theorem d83_26 : decode (am_cod 83) 26 = .ok (.goto 4, 3) := by decide +kernel
theorem s83_26 (K : aK) : am_Snd K 83 26 := sn_goto i83_26 d83_26 rfl
theorem i83_29 : am_ins 83 29 = (0, 1, 0, 0, []) := by decide +kernel
theorem d83_29 : decode (am_cod 83) 29 = .ok (.iconst 0, 1) := by decide +kernel
theorem s83_29 (K : aK) : am_Snd K 83 29 := sn_const1 i83_29 d83_29 rfl
theorem i83_30 : am_ins 83 30 = (51, 0, 0, 0, []) := by decide +kernel
theorem d83_30 : decode (am_cod 83) 30 = .ok (.ireturn, 1) := by decide +kernel
theorem s83_30 : am_SndR 83 30 := sn_zret i83_30 d83_30 rfl
theorem al83_0 (K : aK) : ∀ q ∈ [0, 1, 4, 7, 8, 9, 10, 11, 12, 13, 16, 17, 18, 19, 22, 25, 26, 29, 30], am_All K 83 q := List.forall_mem_cons.mpr ⟨am_alS i83_0 (s83_0 K), List.forall_mem_cons.mpr ⟨am_alS i83_1 (s83_1 K), List.forall_mem_cons.mpr ⟨am_alS i83_4 (s83_4 K), List.forall_mem_cons.mpr ⟨am_alS i83_7 (s83_7 K), List.forall_mem_cons.mpr ⟨am_alS i83_8 (s83_8 K), List.forall_mem_cons.mpr ⟨am_alS i83_9 (s83_9 K), List.forall_mem_cons.mpr ⟨am_alS i83_10 (s83_10 K), List.forall_mem_cons.mpr ⟨am_alS i83_11 (s83_11 K), List.forall_mem_cons.mpr ⟨am_alS i83_12 (s83_12 K), List.forall_mem_cons.mpr ⟨am_alS i83_13 (s83_13 K), List.forall_mem_cons.mpr ⟨am_alS i83_16 (s83_16 K), List.forall_mem_cons.mpr ⟨am_alS i83_17 (s83_17 K), List.forall_mem_cons.mpr ⟨am_alS i83_18 (s83_18 K), List.forall_mem_cons.mpr ⟨am_alC i83_19 (s83_19 K), List.forall_mem_cons.mpr ⟨am_alS i83_22 (s83_22 K), List.forall_mem_cons.mpr ⟨am_alS i83_25 (s83_25 K), List.forall_mem_cons.mpr ⟨am_alS i83_26 (s83_26 K), List.forall_mem_cons.mpr ⟨am_alS i83_29 (s83_29 K), List.forall_mem_cons.mpr ⟨am_alR i83_30 s83_30, fun _ h => absurd h List.not_mem_nil⟩⟩⟩⟩⟩⟩⟩⟩⟩⟩⟩⟩⟩⟩⟩⟩⟩⟩⟩
set_option maxRecDepth 100000 in
theorem al83 (K : aK) : ∀ q ∈ (am_t83).map (fun z => z.1), am_All K 83 q := by
  have e : (am_t83).map (fun z => z.1) = [0, 1, 4, 7, 8, 9, 10, 11, 12, 13, 16, 17, 18, 19, 22, 25, 26, 29, 30] := rfl
  rw [e]
  exact al83_0 K
theorem i84_0 : am_ins 84 0 = (0, 1, 0, 0, []) := by decide +kernel
theorem d84_0 : decode (am_cod 84) 0 = .ok (.iconst 0, 1) := by decide +kernel
theorem s84_0 (K : aK) : am_Snd K 84 0 := sn_const1 i84_0 d84_0 rfl
theorem i84_1 : am_ins 84 1 = (2, 3, 1, 0, []) := by decide +kernel
theorem d84_1 : decode (am_cod 84) 1 = .ok (.istore_n 3, 1) := by decide +kernel
theorem s84_1 (K : aK) : am_Snd K 84 1 := sn_istore_n i84_1 d84_1 rfl (by decide +kernel)
theorem i84_2 : am_ins 84 2 = (1, 3, 1, 0, []) := by decide +kernel
theorem d84_2 : decode (am_cod 84) 2 = .ok (.iload_n 3, 1) := by decide +kernel
theorem s84_2 (K : aK) : am_Snd K 84 2 := sn_iload_n i84_2 d84_2 rfl
theorem i84_3 : am_ins 84 3 = (0, 2, 0, 8, []) := by decide +kernel
theorem d84_3 : decode (am_cod 84) 3 = .ok (.bipush 8, 2) := by decide +kernel
theorem s84_3 (K : aK) : am_Snd K 84 3 := sn_const2 i84_3 d84_3 (by decide +kernel)
theorem i84_5 : am_ins 84 5 = (13, 3, 33, 0, []) := by decide +kernel
theorem d84_5 : decode (am_cod 84) 5 = .ok (.if_icmp .ge 28, 3) := by decide +kernel
theorem s84_5 (K : aK) : am_Snd K 84 5 := sn_icmp_ge i84_5 d84_5 rfl
theorem i84_8 : am_ins 84 8 = (33, 0, 1, 0, []) := by decide +kernel
theorem d84_8 : decode (am_cod 84) 8 = .ok (.aload_n 0, 1) := by decide +kernel
theorem s84_8 (K : aK) : am_Snd K 84 8 := sn_aload_n i84_8 d84_8 rfl
theorem i84_9 : am_ins 84 9 = (1, 1, 1, 0, []) := by decide +kernel
theorem d84_9 : decode (am_cod 84) 9 = .ok (.iload_n 1, 1) := by decide +kernel
theorem s84_9 (K : aK) : am_Snd K 84 9 := sn_iload_n i84_9 d84_9 rfl
theorem i84_10 : am_ins 84 10 = (1, 3, 1, 0, []) := by decide +kernel
theorem d84_10 : decode (am_cod 84) 10 = .ok (.iload_n 3, 1) := by decide +kernel
theorem s84_10 (K : aK) : am_Snd K 84 10 := sn_iload_n i84_10 d84_10 rfl
theorem i84_11 : am_ins 84 11 = (60, 79, 2, 0, []) := by decide +kernel
theorem d84_11 : decode (am_cod 84) 11 = .ok (.invokevirtual 92, 3) := by decide +kernel
theorem s84_11 (K : aK) : am_SndC K 84 11 := sc_V i84_11 d84_11 co79 w_618 w_620 ws_17 w_6 rfl (rr := (CN7, FT7, 24)) rfl rfl hd79
theorem i84_14 : am_ins 84 14 = (12, 0, 27, 0, []) := by decide +kernel
theorem d84_14 : decode (am_cod 84) 14 = .ok (.ifCond .eq 13, 3) := by decide +kernel
theorem s84_14 (K : aK) : am_Snd K 84 14 := sn_if_eq i84_14 d84_14 rfl
theorem i84_17 : am_ins 84 17 = (1, 2, 1, 0, []) := by decide +kernel
theorem d84_17 : decode (am_cod 84) 17 = .ok (.iload_n 2, 1) := by decide +kernel
theorem s84_17 (K : aK) : am_Snd K 84 17 := sn_iload_n i84_17 d84_17 rfl
theorem i84_18 : am_ins 84 18 = (1, 3, 1, 0, []) := by decide +kernel
theorem d84_18 : decode (am_cod 84) 18 = .ok (.iload_n 3, 1) := by decide +kernel
theorem s84_18 (K : aK) : am_Snd K 84 18 := sn_iload_n i84_18 d84_18 rfl
theorem i84_19 : am_ins 84 19 = (61, 76, 2, 0, []) := by decide +kernel
theorem d84_19 : decode (am_cod 84) 19 = .ok (.invokestatic 96, 3) := by decide +kernel
theorem s84_19 (K : aK) : am_SndC K 84 19 := sc_S i84_19 d84_19 co76 w_642 w_643 w_6 hd76
theorem i84_22 : am_ins 84 22 = (12, 0, 27, 0, []) := by decide +kernel
theorem d84_22 : decode (am_cod 84) 22 = .ok (.ifCond .eq 5, 3) := by decide +kernel
theorem s84_22 (K : aK) : am_Snd K 84 22 := sn_if_eq i84_22 d84_22 rfl
theorem i84_25 : am_ins 84 25 = (0, 1, 0, 1, []) := by decide +kernel
theorem d84_25 : decode (am_cod 84) 25 = .ok (.iconst 1, 1) := by decide +kernel
theorem s84_25 (K : aK) : am_Snd K 84 25 := sn_const1 i84_25 d84_25 rfl
theorem i84_26 : am_ins 84 26 = (51, 0, 0, 0, []) := by decide +kernel
theorem d84_26 : decode (am_cod 84) 26 = .ok (.ireturn, 1) := by decide +kernel
theorem s84_26 : am_SndR 84 26 := sn_zret i84_26 d84_26 rfl
theorem i84_27 : am_ins 84 27 = (3, 3, 3, 1, []) := by decide +kernel
theorem d84_27 : decode (am_cod 84) 27 = .ok (.iinc 3 1, 3) := by decide +kernel
theorem s84_27 (K : aK) : am_Snd K 84 27 := sn_iinc i84_27 d84_27 rfl (by decide +kernel)
theorem i84_30 : am_ins 84 30 = (14, 2, 0, 0, []) := by decide +kernel
theorem d84_30 : decode (am_cod 84) 30 = .ok (.goto (-28), 3) := by decide +kernel
theorem s84_30 (K : aK) : am_Snd K 84 30 := sn_goto i84_30 d84_30 rfl
theorem i84_33 : am_ins 84 33 = (0, 1, 0, 0, []) := by decide +kernel
theorem d84_33 : decode (am_cod 84) 33 = .ok (.iconst 0, 1) := by decide +kernel
theorem s84_33 (K : aK) : am_Snd K 84 33 := sn_const1 i84_33 d84_33 rfl
theorem i84_34 : am_ins 84 34 = (51, 0, 0, 0, []) := by decide +kernel
theorem d84_34 : decode (am_cod 84) 34 = .ok (.ireturn, 1) := by decide +kernel
theorem s84_34 : am_SndR 84 34 := sn_zret i84_34 d84_34 rfl
theorem al84_0 (K : aK) : ∀ q ∈ [0, 1, 2, 3, 5, 8, 9, 10, 11, 14, 17, 18, 19, 22, 25, 26, 27, 30, 33, 34], am_All K 84 q := List.forall_mem_cons.mpr ⟨am_alS i84_0 (s84_0 K), List.forall_mem_cons.mpr ⟨am_alS i84_1 (s84_1 K), List.forall_mem_cons.mpr ⟨am_alS i84_2 (s84_2 K), List.forall_mem_cons.mpr ⟨am_alS i84_3 (s84_3 K), List.forall_mem_cons.mpr ⟨am_alS i84_5 (s84_5 K), List.forall_mem_cons.mpr ⟨am_alS i84_8 (s84_8 K), List.forall_mem_cons.mpr ⟨am_alS i84_9 (s84_9 K), List.forall_mem_cons.mpr ⟨am_alS i84_10 (s84_10 K), List.forall_mem_cons.mpr ⟨am_alC i84_11 (s84_11 K), List.forall_mem_cons.mpr ⟨am_alS i84_14 (s84_14 K), List.forall_mem_cons.mpr ⟨am_alS i84_17 (s84_17 K), List.forall_mem_cons.mpr ⟨am_alS i84_18 (s84_18 K), List.forall_mem_cons.mpr ⟨am_alC i84_19 (s84_19 K), List.forall_mem_cons.mpr ⟨am_alS i84_22 (s84_22 K), List.forall_mem_cons.mpr ⟨am_alS i84_25 (s84_25 K), List.forall_mem_cons.mpr ⟨am_alR i84_26 s84_26, List.forall_mem_cons.mpr ⟨am_alS i84_27 (s84_27 K), List.forall_mem_cons.mpr ⟨am_alS i84_30 (s84_30 K), List.forall_mem_cons.mpr ⟨am_alS i84_33 (s84_33 K), List.forall_mem_cons.mpr ⟨am_alR i84_34 s84_34, fun _ h => absurd h List.not_mem_nil⟩⟩⟩⟩⟩⟩⟩⟩⟩⟩⟩⟩⟩⟩⟩⟩⟩⟩⟩⟩
set_option maxRecDepth 100000 in
theorem al84 (K : aK) : ∀ q ∈ (am_t84).map (fun z => z.1), am_All K 84 q := by
  have e : (am_t84).map (fun z => z.1) = [0, 1, 2, 3, 5, 8, 9, 10, 11, 14, 17, 18, 19, 22, 25, 26, 27, 30, 33, 34] := rfl
  rw [e]
  exact al84_0 K
theorem i85_0 : am_ins 85 0 = (1, 1, 1, 0, []) := by decide +kernel
theorem d85_0 : decode (am_cod 85) 0 = .ok (.iload_n 1, 1) := by decide +kernel
theorem s85_0 (K : aK) : am_Snd K 85 0 := sn_iload_n i85_0 d85_0 rfl
theorem i85_1 : am_ins 85 1 = (1, 2, 1, 0, []) := by decide +kernel
theorem d85_1 : decode (am_cod 85) 1 = .ok (.iload_n 2, 1) := by decide +kernel
theorem s85_1 (K : aK) : am_Snd K 85 1 := sn_iload_n i85_1 d85_1 rfl
theorem i85_2 : am_ins 85 2 = (13, 1, 21, 0, []) := by decide +kernel
theorem d85_2 : decode (am_cod 85) 2 = .ok (.if_icmp .ne 19, 3) := by decide +kernel
theorem s85_2 (K : aK) : am_Snd K 85 2 := sn_icmp_ne i85_2 d85_2 rfl
theorem i85_5 : am_ins 85 5 = (33, 0, 1, 0, []) := by decide +kernel
theorem d85_5 : decode (am_cod 85) 5 = .ok (.aload_n 0, 1) := by decide +kernel
theorem s85_5 (K : aK) : am_Snd K 85 5 := sn_aload_n i85_5 d85_5 rfl
theorem i85_6 : am_ins 85 6 = (1, 1, 1, 0, []) := by decide +kernel
theorem d85_6 : decode (am_cod 85) 6 = .ok (.iload_n 1, 1) := by decide +kernel
theorem s85_6 (K : aK) : am_Snd K 85 6 := sn_iload_n i85_6 d85_6 rfl
theorem i85_7 : am_ins 85 7 = (1, 2, 1, 0, []) := by decide +kernel
theorem d85_7 : decode (am_cod 85) 7 = .ok (.iload_n 2, 1) := by decide +kernel
theorem s85_7 (K : aK) : am_Snd K 85 7 := sn_iload_n i85_7 d85_7 rfl
theorem i85_8 : am_ins 85 8 = (1, 3, 1, 0, []) := by decide +kernel
theorem d85_8 : decode (am_cod 85) 8 = .ok (.iload_n 3, 1) := by decide +kernel
theorem s85_8 (K : aK) : am_Snd K 85 8 := sn_iload_n i85_8 d85_8 rfl
theorem i85_9 : am_ins 85 9 = (1, 4, 2, 0, []) := by decide +kernel
theorem d85_9 : decode (am_cod 85) 9 = .ok (.iload 4, 2) := by decide +kernel
theorem s85_9 (K : aK) : am_Snd K 85 9 := sn_iload i85_9 d85_9 
theorem i85_11 : am_ins 85 11 = (1, 5, 2, 0, []) := by decide +kernel
theorem d85_11 : decode (am_cod 85) 11 = .ok (.iload 5, 2) := by decide +kernel
theorem s85_11 (K : aK) : am_Snd K 85 11 := sn_iload i85_11 d85_11 
theorem i85_13 : am_ins 85 13 = (1, 6, 2, 0, []) := by decide +kernel
theorem d85_13 : decode (am_cod 85) 13 = .ok (.iload 6, 2) := by decide +kernel
theorem s85_13 (K : aK) : am_Snd K 85 13 := sn_iload i85_13 d85_13 
theorem i85_15 : am_ins 85 15 = (1, 7, 2, 0, []) := by decide +kernel
theorem d85_15 : decode (am_cod 85) 15 = .ok (.iload 7, 2) := by decide +kernel
theorem s85_15 (K : aK) : am_Snd K 85 15 := sn_iload i85_15 d85_15 
theorem i85_17 : am_ins 85 17 = (60, 87, 7, 0, []) := by decide +kernel
theorem d85_17 : decode (am_cod 85) 17 = .ok (.invokevirtual 99, 3) := by decide +kernel
theorem s85_17 (K : aK) : am_SndC K 85 17 := sc_V i85_17 d85_17 co87 w_649 w_651 ws_21 w_6 rfl (rr := (CN7, FT7, 24)) rfl rfl hd87
theorem i85_20 : am_ins 85 20 = (53, 0, 0, 0, []) := by decide +kernel
theorem d85_20 : decode (am_cod 85) 20 = .ok (.return_, 1) := by decide +kernel
theorem s85_20 : am_SndR 85 20 := sn_vret i85_20 d85_20 rfl
theorem i85_21 : am_ins 85 21 = (0, 2, 0, 7, []) := by decide +kernel
theorem d85_21 : decode (am_cod 85) 21 = .ok (.bipush 7, 2) := by decide +kernel
theorem s85_21 (K : aK) : am_Snd K 85 21 := sn_const2 i85_21 d85_21 (by decide +kernel)
theorem i85_23 : am_ins 85 23 = (33, 0, 1, 0, []) := by decide +kernel
theorem d85_23 : decode (am_cod 85) 23 = .ok (.aload_n 0, 1) := by decide +kernel
theorem s85_23 (K : aK) : am_Snd K 85 23 := sn_aload_n i85_23 d85_23 rfl
theorem i85_24 : am_ins 85 24 = (18, 7, 22, 0, []) := by decide +kernel
theorem d85_24 : decode (am_cod 85) 24 = .ok (.getfield 103, 3) := by decide +kernel
theorem s85_24 (K : aK) : am_Snd K 85 24 := sn_get (C0 := CN7) (T := FT7) (Nf := 24) i85_24 d85_24 rfl (by decide +kernel) fin7 w_531 rfl
theorem i85_27 : am_ins 85 27 = (0, 1, 0, 1, []) := by decide +kernel
theorem d85_27 : decode (am_cod 85) 27 = .ok (.iconst 1, 1) := by decide +kernel
theorem s85_27 (K : aK) : am_Snd K 85 27 := sn_const1 i85_27 d85_27 rfl
theorem i85_28 : am_ins 85 28 = (4, 0, 0, 0, []) := by decide +kernel
theorem d85_28 : decode (am_cod 85) 28 = .ok (.iadd, 1) := by decide +kernel
theorem s85_28 (K : aK) : am_Snd K 85 28 := sn_add i85_28 d85_28 
theorem i85_29 : am_ins 85 29 = (4, 2, 0, 0, []) := by decide +kernel
theorem d85_29 : decode (am_cod 85) 29 = .ok (.imul, 1) := by decide +kernel
theorem s85_29 (K : aK) : am_Snd K 85 29 := sn_mul i85_29 d85_29 
theorem i85_30 : am_ins 85 30 = (33, 0, 1, 0, []) := by decide +kernel
theorem d85_30 : decode (am_cod 85) 30 = .ok (.aload_n 0, 1) := by decide +kernel
theorem s85_30 (K : aK) : am_Snd K 85 30 := sn_aload_n i85_30 d85_30 rfl
theorem i85_31 : am_ins 85 31 = (18, 7, 23, 0, []) := by decide +kernel
theorem d85_31 : decode (am_cod 85) 31 = .ok (.getfield 74, 3) := by decide +kernel
theorem s85_31 (K : aK) : am_Snd K 85 31 := sn_get (C0 := CN7) (T := FT7) (Nf := 24) i85_31 d85_31 rfl (by decide +kernel) fin7 w_532 rfl
theorem i85_34 : am_ins 85 34 = (28, 0, 0, 0, []) := by decide +kernel
theorem d85_34 : decode (am_cod 85) 34 = .ok (.arraylength, 1) := by decide +kernel
theorem s85_34 (K : aK) : am_Snd K 85 34 := sn_alen i85_34 d85_34 
theorem i85_35 : am_ins 85 35 = (13, 5, 86, 0, []) := by decide +kernel
theorem d85_35 : decode (am_cod 85) 35 = .ok (.if_icmp .le 51, 3) := by decide +kernel
theorem s85_35 (K : aK) : am_Snd K 85 35 := sn_icmp_le i85_35 d85_35 rfl
theorem i85_38 : am_ins 85 38 = (0, 1, 0, 2, []) := by decide +kernel
theorem d85_38 : decode (am_cod 85) 38 = .ok (.iconst 2, 1) := by decide +kernel
theorem s85_38 (K : aK) : am_Snd K 85 38 := sn_const1 i85_38 d85_38 rfl
theorem i85_39 : am_ins 85 39 = (33, 0, 1, 0, []) := by decide +kernel
theorem d85_39 : decode (am_cod 85) 39 = .ok (.aload_n 0, 1) := by decide +kernel
theorem s85_39 (K : aK) : am_Snd K 85 39 := sn_aload_n i85_39 d85_39 rfl
theorem i85_40 : am_ins 85 40 = (18, 7, 23, 0, []) := by decide +kernel
theorem d85_40 : decode (am_cod 85) 40 = .ok (.getfield 74, 3) := by decide +kernel
theorem s85_40 (K : aK) : am_Snd K 85 40 := sn_get (C0 := CN7) (T := FT7) (Nf := 24) i85_40 d85_40 rfl (by decide +kernel) fin7 w_532 rfl
theorem i85_43 : am_ins 85 43 = (28, 0, 0, 0, []) := by decide +kernel
theorem d85_43 : decode (am_cod 85) 43 = .ok (.arraylength, 1) := by decide +kernel
theorem s85_43 (K : aK) : am_Snd K 85 43 := sn_alen i85_43 d85_43 
theorem i85_44 : am_ins 85 44 = (4, 2, 0, 0, []) := by decide +kernel
theorem d85_44 : decode (am_cod 85) 44 = .ok (.imul, 1) := by decide +kernel
theorem s85_44 (K : aK) : am_Snd K 85 44 := sn_mul i85_44 d85_44 
theorem i85_45 : am_ins 85 45 = (30, 0, 0, 0, []) := by decide +kernel
theorem d85_45 : decode (am_cod 85) 45 = .ok (.newarray .int, 2) := by decide +kernel
theorem s85_45 (K : aK) : am_Snd K 85 45 := sn_newI i85_45 d85_45 w_40
theorem i85_47 : am_ins 85 47 = (34, 8, 2, 0, []) := by decide +kernel
theorem d85_47 : decode (am_cod 85) 47 = .ok (.astore 8, 2) := by decide +kernel
theorem s85_47 (K : aK) : am_Snd K 85 47 := sn_astore i85_47 d85_47 (by decide +kernel)
theorem i85_49 : am_ins 85 49 = (0, 1, 0, 0, []) := by decide +kernel
theorem d85_49 : decode (am_cod 85) 49 = .ok (.iconst 0, 1) := by decide +kernel
theorem s85_49 (K : aK) : am_Snd K 85 49 := sn_const1 i85_49 d85_49 rfl
theorem i85_50 : am_ins 85 50 = (2, 9, 2, 0, []) := by decide +kernel
theorem d85_50 : decode (am_cod 85) 50 = .ok (.istore 9, 2) := by decide +kernel
theorem s85_50 (K : aK) : am_Snd K 85 50 := sn_istore i85_50 d85_50 (by decide +kernel)
theorem i85_52 : am_ins 85 52 = (1, 9, 2, 0, []) := by decide +kernel
theorem d85_52 : decode (am_cod 85) 52 = .ok (.iload 9, 2) := by decide +kernel
theorem s85_52 (K : aK) : am_Snd K 85 52 := sn_iload i85_52 d85_52 
theorem i85_54 : am_ins 85 54 = (33, 0, 1, 0, []) := by decide +kernel
theorem d85_54 : decode (am_cod 85) 54 = .ok (.aload_n 0, 1) := by decide +kernel
theorem s85_54 (K : aK) : am_Snd K 85 54 := sn_aload_n i85_54 d85_54 rfl
theorem i85_55 : am_ins 85 55 = (18, 7, 23, 0, []) := by decide +kernel
theorem d85_55 : decode (am_cod 85) 55 = .ok (.getfield 74, 3) := by decide +kernel
theorem s85_55 (K : aK) : am_Snd K 85 55 := sn_get (C0 := CN7) (T := FT7) (Nf := 24) i85_55 d85_55 rfl (by decide +kernel) fin7 w_532 rfl
theorem i85_58 : am_ins 85 58 = (28, 0, 0, 0, []) := by decide +kernel
theorem d85_58 : decode (am_cod 85) 58 = .ok (.arraylength, 1) := by decide +kernel
theorem s85_58 (K : aK) : am_Snd K 85 58 := sn_alen i85_58 d85_58 
theorem i85_59 : am_ins 85 59 = (13, 3, 80, 0, []) := by decide +kernel
theorem d85_59 : decode (am_cod 85) 59 = .ok (.if_icmp .ge 21, 3) := by decide +kernel
theorem s85_59 (K : aK) : am_Snd K 85 59 := sn_icmp_ge i85_59 d85_59 rfl
theorem i85_62 : am_ins 85 62 = (33, 8, 2, 0, []) := by decide +kernel
theorem d85_62 : decode (am_cod 85) 62 = .ok (.aload 8, 2) := by decide +kernel
theorem s85_62 (K : aK) : am_Snd K 85 62 := sn_aload i85_62 d85_62 
theorem i85_64 : am_ins 85 64 = (1, 9, 2, 0, []) := by decide +kernel
theorem d85_64 : decode (am_cod 85) 64 = .ok (.iload 9, 2) := by decide +kernel
theorem s85_64 (K : aK) : am_Snd K 85 64 := sn_iload i85_64 d85_64 
theorem i85_66 : am_ins 85 66 = (33, 0, 1, 0, []) := by decide +kernel
theorem d85_66 : decode (am_cod 85) 66 = .ok (.aload_n 0, 1) := by decide +kernel
theorem s85_66 (K : aK) : am_Snd K 85 66 := sn_aload_n i85_66 d85_66 rfl
theorem i85_67 : am_ins 85 67 = (18, 7, 23, 0, []) := by decide +kernel
theorem d85_67 : decode (am_cod 85) 67 = .ok (.getfield 74, 3) := by decide +kernel
theorem s85_67 (K : aK) : am_Snd K 85 67 := sn_get (C0 := CN7) (T := FT7) (Nf := 24) i85_67 d85_67 rfl (by decide +kernel) fin7 w_532 rfl
theorem i85_70 : am_ins 85 70 = (1, 9, 2, 0, []) := by decide +kernel
theorem d85_70 : decode (am_cod 85) 70 = .ok (.iload 9, 2) := by decide +kernel
theorem s85_70 (K : aK) : am_Snd K 85 70 := sn_iload i85_70 d85_70 
theorem i85_72 : am_ins 85 72 = (22, 0, 0, 0, []) := by decide +kernel
theorem d85_72 : decode (am_cod 85) 72 = .ok (.iaload, 1) := by decide +kernel
theorem s85_72 (K : aK) : am_Snd K 85 72 := sn_iald i85_72 d85_72 
theorem i85_73 : am_ins 85 73 = (23, 0, 0, 0, []) := by decide +kernel
theorem d85_73 : decode (am_cod 85) 73 = .ok (.iastore, 1) := by decide +kernel
theorem s85_73 (K : aK) : am_Snd K 85 73 := sn_iast i85_73 d85_73 
theorem i85_74 : am_ins 85 74 = (3, 9, 3, 1, []) := by decide +kernel
theorem d85_74 : decode (am_cod 85) 74 = .ok (.iinc 9 1, 3) := by decide +kernel
theorem s85_74 (K : aK) : am_Snd K 85 74 := sn_iinc i85_74 d85_74 rfl (by decide +kernel)
theorem i85_77 : am_ins 85 77 = (14, 52, 0, 0, []) := by decide +kernel
theorem d85_77 : decode (am_cod 85) 77 = .ok (.goto (-25), 3) := by decide +kernel
theorem s85_77 (K : aK) : am_Snd K 85 77 := sn_goto i85_77 d85_77 rfl
theorem i85_80 : am_ins 85 80 = (33, 0, 1, 0, []) := by decide +kernel
theorem d85_80 : decode (am_cod 85) 80 = .ok (.aload_n 0, 1) := by decide +kernel
theorem s85_80 (K : aK) : am_Snd K 85 80 := sn_aload_n i85_80 d85_80 rfl
theorem i85_81 : am_ins 85 81 = (33, 8, 2, 0, []) := by decide +kernel
theorem d85_81 : decode (am_cod 85) 81 = .ok (.aload 8, 2) := by decide +kernel
theorem s85_81 (K : aK) : am_Snd K 85 81 := sn_aload i85_81 d85_81 
theorem i85_83 : am_ins 85 83 = (21, 7, 23, 0, []) := by decide +kernel
theorem d85_83 : decode (am_cod 85) 83 = .ok (.putfield 74, 3) := by decide +kernel
theorem s85_83 (K : aK) : am_Snd K 85 83 := sn_putr (ty := .array .int) (C0 := CN7) (T := FT7) (Nf := 24) (tyf := FY7) i85_83 d85_83 rfl (by decide +kernel) fin7 ftyok7 fnm7 w_532 rfl rfl rfl rfl
theorem i85_86 : am_ins 85 86 = (0, 2, 0, 7, []) := by decide +kernel
theorem d85_86 : decode (am_cod 85) 86 = .ok (.bipush 7, 2) := by decide +kernel
theorem s85_86 (K : aK) : am_Snd K 85 86 := sn_const2 i85_86 d85_86 (by decide +kernel)
theorem i85_88 : am_ins 85 88 = (33, 0, 1, 0, []) := by decide +kernel
theorem d85_88 : decode (am_cod 85) 88 = .ok (.aload_n 0, 1) := by decide +kernel
theorem s85_88 (K : aK) : am_Snd K 85 88 := sn_aload_n i85_88 d85_88 rfl
theorem i85_89 : am_ins 85 89 = (18, 7, 22, 0, []) := by decide +kernel
theorem d85_89 : decode (am_cod 85) 89 = .ok (.getfield 103, 3) := by decide +kernel
theorem s85_89 (K : aK) : am_Snd K 85 89 := sn_get (C0 := CN7) (T := FT7) (Nf := 24) i85_89 d85_89 rfl (by decide +kernel) fin7 w_531 rfl
theorem i85_92 : am_ins 85 92 = (4, 2, 0, 0, []) := by decide +kernel
theorem d85_92 : decode (am_cod 85) 92 = .ok (.imul, 1) := by decide +kernel
theorem s85_92 (K : aK) : am_Snd K 85 92 := sn_mul i85_92 d85_92 
theorem i85_93 : am_ins 85 93 = (2, 8, 2, 0, []) := by decide +kernel
theorem d85_93 : decode (am_cod 85) 93 = .ok (.istore 8, 2) := by decide +kernel
theorem s85_93 (K : aK) : am_Snd K 85 93 := sn_istore i85_93 d85_93 (by decide +kernel)
theorem i85_95 : am_ins 85 95 = (33, 0, 1, 0, []) := by decide +kernel
theorem d85_95 : decode (am_cod 85) 95 = .ok (.aload_n 0, 1) := by decide +kernel
theorem s85_95 (K : aK) : am_Snd K 85 95 := sn_aload_n i85_95 d85_95 rfl
theorem i85_96 : am_ins 85 96 = (18, 7, 23, 0, []) := by decide +kernel
theorem d85_96 : decode (am_cod 85) 96 = .ok (.getfield 74, 3) := by decide +kernel
theorem s85_96 (K : aK) : am_Snd K 85 96 := sn_get (C0 := CN7) (T := FT7) (Nf := 24) i85_96 d85_96 rfl (by decide +kernel) fin7 w_532 rfl
theorem i85_99 : am_ins 85 99 = (1, 8, 2, 0, []) := by decide +kernel
theorem d85_99 : decode (am_cod 85) 99 = .ok (.iload 8, 2) := by decide +kernel
theorem s85_99 (K : aK) : am_Snd K 85 99 := sn_iload i85_99 d85_99 
theorem i85_101 : am_ins 85 101 = (1, 1, 1, 0, []) := by decide +kernel
theorem d85_101 : decode (am_cod 85) 101 = .ok (.iload_n 1, 1) := by decide +kernel
theorem s85_101 (K : aK) : am_Snd K 85 101 := sn_iload_n i85_101 d85_101 rfl
theorem i85_102 : am_ins 85 102 = (23, 0, 0, 0, []) := by decide +kernel
theorem d85_102 : decode (am_cod 85) 102 = .ok (.iastore, 1) := by decide +kernel
theorem s85_102 (K : aK) : am_Snd K 85 102 := sn_iast i85_102 d85_102 
theorem i85_103 : am_ins 85 103 = (33, 0, 1, 0, []) := by decide +kernel
theorem d85_103 : decode (am_cod 85) 103 = .ok (.aload_n 0, 1) := by decide +kernel
theorem s85_103 (K : aK) : am_Snd K 85 103 := sn_aload_n i85_103 d85_103 rfl
theorem i85_104 : am_ins 85 104 = (18, 7, 23, 0, []) := by decide +kernel
theorem d85_104 : decode (am_cod 85) 104 = .ok (.getfield 74, 3) := by decide +kernel
theorem s85_104 (K : aK) : am_Snd K 85 104 := sn_get (C0 := CN7) (T := FT7) (Nf := 24) i85_104 d85_104 rfl (by decide +kernel) fin7 w_532 rfl
theorem i85_107 : am_ins 85 107 = (1, 8, 2, 0, []) := by decide +kernel
theorem d85_107 : decode (am_cod 85) 107 = .ok (.iload 8, 2) := by decide +kernel
theorem s85_107 (K : aK) : am_Snd K 85 107 := sn_iload i85_107 d85_107 
theorem i85_109 : am_ins 85 109 = (0, 1, 0, 1, []) := by decide +kernel
theorem d85_109 : decode (am_cod 85) 109 = .ok (.iconst 1, 1) := by decide +kernel
theorem s85_109 (K : aK) : am_Snd K 85 109 := sn_const1 i85_109 d85_109 rfl
theorem i85_110 : am_ins 85 110 = (4, 0, 0, 0, []) := by decide +kernel
theorem d85_110 : decode (am_cod 85) 110 = .ok (.iadd, 1) := by decide +kernel
theorem s85_110 (K : aK) : am_Snd K 85 110 := sn_add i85_110 d85_110 
theorem i85_111 : am_ins 85 111 = (1, 2, 1, 0, []) := by decide +kernel
theorem d85_111 : decode (am_cod 85) 111 = .ok (.iload_n 2, 1) := by decide +kernel
theorem s85_111 (K : aK) : am_Snd K 85 111 := sn_iload_n i85_111 d85_111 rfl
theorem i85_112 : am_ins 85 112 = (23, 0, 0, 0, []) := by decide +kernel
theorem d85_112 : decode (am_cod 85) 112 = .ok (.iastore, 1) := by decide +kernel
theorem s85_112 (K : aK) : am_Snd K 85 112 := sn_iast i85_112 d85_112 
theorem i85_113 : am_ins 85 113 = (33, 0, 1, 0, []) := by decide +kernel
theorem d85_113 : decode (am_cod 85) 113 = .ok (.aload_n 0, 1) := by decide +kernel
theorem s85_113 (K : aK) : am_Snd K 85 113 := sn_aload_n i85_113 d85_113 rfl
theorem i85_114 : am_ins 85 114 = (18, 7, 23, 0, []) := by decide +kernel
theorem d85_114 : decode (am_cod 85) 114 = .ok (.getfield 74, 3) := by decide +kernel
theorem s85_114 (K : aK) : am_Snd K 85 114 := sn_get (C0 := CN7) (T := FT7) (Nf := 24) i85_114 d85_114 rfl (by decide +kernel) fin7 w_532 rfl
theorem i85_117 : am_ins 85 117 = (1, 8, 2, 0, []) := by decide +kernel
theorem d85_117 : decode (am_cod 85) 117 = .ok (.iload 8, 2) := by decide +kernel
theorem s85_117 (K : aK) : am_Snd K 85 117 := sn_iload i85_117 d85_117 
theorem i85_119 : am_ins 85 119 = (0, 1, 0, 2, []) := by decide +kernel
theorem d85_119 : decode (am_cod 85) 119 = .ok (.iconst 2, 1) := by decide +kernel
theorem s85_119 (K : aK) : am_Snd K 85 119 := sn_const1 i85_119 d85_119 rfl
theorem i85_120 : am_ins 85 120 = (4, 0, 0, 0, []) := by decide +kernel
theorem d85_120 : decode (am_cod 85) 120 = .ok (.iadd, 1) := by decide +kernel
theorem s85_120 (K : aK) : am_Snd K 85 120 := sn_add i85_120 d85_120 
theorem i85_121 : am_ins 85 121 = (1, 3, 1, 0, []) := by decide +kernel
theorem d85_121 : decode (am_cod 85) 121 = .ok (.iload_n 3, 1) := by decide +kernel
theorem s85_121 (K : aK) : am_Snd K 85 121 := sn_iload_n i85_121 d85_121 rfl
theorem i85_122 : am_ins 85 122 = (23, 0, 0, 0, []) := by decide +kernel
theorem d85_122 : decode (am_cod 85) 122 = .ok (.iastore, 1) := by decide +kernel
theorem s85_122 (K : aK) : am_Snd K 85 122 := sn_iast i85_122 d85_122 
theorem i85_123 : am_ins 85 123 = (33, 0, 1, 0, []) := by decide +kernel
theorem d85_123 : decode (am_cod 85) 123 = .ok (.aload_n 0, 1) := by decide +kernel
theorem s85_123 (K : aK) : am_Snd K 85 123 := sn_aload_n i85_123 d85_123 rfl
theorem i85_124 : am_ins 85 124 = (18, 7, 23, 0, []) := by decide +kernel
theorem d85_124 : decode (am_cod 85) 124 = .ok (.getfield 74, 3) := by decide +kernel
theorem s85_124 (K : aK) : am_Snd K 85 124 := sn_get (C0 := CN7) (T := FT7) (Nf := 24) i85_124 d85_124 rfl (by decide +kernel) fin7 w_532 rfl
theorem i85_127 : am_ins 85 127 = (1, 8, 2, 0, []) := by decide +kernel
theorem d85_127 : decode (am_cod 85) 127 = .ok (.iload 8, 2) := by decide +kernel
theorem s85_127 (K : aK) : am_Snd K 85 127 := sn_iload i85_127 d85_127 
theorem i85_129 : am_ins 85 129 = (0, 1, 0, 3, []) := by decide +kernel
theorem d85_129 : decode (am_cod 85) 129 = .ok (.iconst 3, 1) := by decide +kernel
theorem s85_129 (K : aK) : am_Snd K 85 129 := sn_const1 i85_129 d85_129 rfl
theorem i85_130 : am_ins 85 130 = (4, 0, 0, 0, []) := by decide +kernel
theorem d85_130 : decode (am_cod 85) 130 = .ok (.iadd, 1) := by decide +kernel
theorem s85_130 (K : aK) : am_Snd K 85 130 := sn_add i85_130 d85_130 
theorem i85_131 : am_ins 85 131 = (1, 4, 2, 0, []) := by decide +kernel
theorem d85_131 : decode (am_cod 85) 131 = .ok (.iload 4, 2) := by decide +kernel
theorem s85_131 (K : aK) : am_Snd K 85 131 := sn_iload i85_131 d85_131 
theorem i85_133 : am_ins 85 133 = (23, 0, 0, 0, []) := by decide +kernel
theorem d85_133 : decode (am_cod 85) 133 = .ok (.iastore, 1) := by decide +kernel
theorem s85_133 (K : aK) : am_Snd K 85 133 := sn_iast i85_133 d85_133 
theorem i85_134 : am_ins 85 134 = (33, 0, 1, 0, []) := by decide +kernel
theorem d85_134 : decode (am_cod 85) 134 = .ok (.aload_n 0, 1) := by decide +kernel
theorem s85_134 (K : aK) : am_Snd K 85 134 := sn_aload_n i85_134 d85_134 rfl
theorem i85_135 : am_ins 85 135 = (18, 7, 23, 0, []) := by decide +kernel
theorem d85_135 : decode (am_cod 85) 135 = .ok (.getfield 74, 3) := by decide +kernel
theorem s85_135 (K : aK) : am_Snd K 85 135 := sn_get (C0 := CN7) (T := FT7) (Nf := 24) i85_135 d85_135 rfl (by decide +kernel) fin7 w_532 rfl
theorem i85_138 : am_ins 85 138 = (1, 8, 2, 0, []) := by decide +kernel
theorem d85_138 : decode (am_cod 85) 138 = .ok (.iload 8, 2) := by decide +kernel
theorem s85_138 (K : aK) : am_Snd K 85 138 := sn_iload i85_138 d85_138 
theorem i85_140 : am_ins 85 140 = (0, 1, 0, 4, []) := by decide +kernel
theorem d85_140 : decode (am_cod 85) 140 = .ok (.iconst 4, 1) := by decide +kernel
theorem s85_140 (K : aK) : am_Snd K 85 140 := sn_const1 i85_140 d85_140 rfl
theorem i85_141 : am_ins 85 141 = (4, 0, 0, 0, []) := by decide +kernel
theorem d85_141 : decode (am_cod 85) 141 = .ok (.iadd, 1) := by decide +kernel
theorem s85_141 (K : aK) : am_Snd K 85 141 := sn_add i85_141 d85_141 
theorem i85_142 : am_ins 85 142 = (1, 5, 2, 0, []) := by decide +kernel
theorem d85_142 : decode (am_cod 85) 142 = .ok (.iload 5, 2) := by decide +kernel
theorem s85_142 (K : aK) : am_Snd K 85 142 := sn_iload i85_142 d85_142 
theorem i85_144 : am_ins 85 144 = (23, 0, 0, 0, []) := by decide +kernel
theorem d85_144 : decode (am_cod 85) 144 = .ok (.iastore, 1) := by decide +kernel
theorem s85_144 (K : aK) : am_Snd K 85 144 := sn_iast i85_144 d85_144 
theorem i85_145 : am_ins 85 145 = (33, 0, 1, 0, []) := by decide +kernel
theorem d85_145 : decode (am_cod 85) 145 = .ok (.aload_n 0, 1) := by decide +kernel
theorem s85_145 (K : aK) : am_Snd K 85 145 := sn_aload_n i85_145 d85_145 rfl
theorem i85_146 : am_ins 85 146 = (18, 7, 23, 0, []) := by decide +kernel
theorem d85_146 : decode (am_cod 85) 146 = .ok (.getfield 74, 3) := by decide +kernel
theorem s85_146 (K : aK) : am_Snd K 85 146 := sn_get (C0 := CN7) (T := FT7) (Nf := 24) i85_146 d85_146 rfl (by decide +kernel) fin7 w_532 rfl
theorem i85_149 : am_ins 85 149 = (1, 8, 2, 0, []) := by decide +kernel
theorem d85_149 : decode (am_cod 85) 149 = .ok (.iload 8, 2) := by decide +kernel
theorem s85_149 (K : aK) : am_Snd K 85 149 := sn_iload i85_149 d85_149 
theorem i85_151 : am_ins 85 151 = (0, 1, 0, 5, []) := by decide +kernel
theorem d85_151 : decode (am_cod 85) 151 = .ok (.iconst 5, 1) := by decide +kernel
theorem s85_151 (K : aK) : am_Snd K 85 151 := sn_const1 i85_151 d85_151 rfl
theorem i85_152 : am_ins 85 152 = (4, 0, 0, 0, []) := by decide +kernel
theorem d85_152 : decode (am_cod 85) 152 = .ok (.iadd, 1) := by decide +kernel
theorem s85_152 (K : aK) : am_Snd K 85 152 := sn_add i85_152 d85_152 
theorem i85_153 : am_ins 85 153 = (1, 6, 2, 0, []) := by decide +kernel
theorem d85_153 : decode (am_cod 85) 153 = .ok (.iload 6, 2) := by decide +kernel
theorem s85_153 (K : aK) : am_Snd K 85 153 := sn_iload i85_153 d85_153 
theorem i85_155 : am_ins 85 155 = (23, 0, 0, 0, []) := by decide +kernel
theorem d85_155 : decode (am_cod 85) 155 = .ok (.iastore, 1) := by decide +kernel
theorem s85_155 (K : aK) : am_Snd K 85 155 := sn_iast i85_155 d85_155 
theorem i85_156 : am_ins 85 156 = (33, 0, 1, 0, []) := by decide +kernel
theorem d85_156 : decode (am_cod 85) 156 = .ok (.aload_n 0, 1) := by decide +kernel
theorem s85_156 (K : aK) : am_Snd K 85 156 := sn_aload_n i85_156 d85_156 rfl
theorem i85_157 : am_ins 85 157 = (18, 7, 23, 0, []) := by decide +kernel
theorem d85_157 : decode (am_cod 85) 157 = .ok (.getfield 74, 3) := by decide +kernel
theorem s85_157 (K : aK) : am_Snd K 85 157 := sn_get (C0 := CN7) (T := FT7) (Nf := 24) i85_157 d85_157 rfl (by decide +kernel) fin7 w_532 rfl
theorem i85_160 : am_ins 85 160 = (1, 8, 2, 0, []) := by decide +kernel
theorem d85_160 : decode (am_cod 85) 160 = .ok (.iload 8, 2) := by decide +kernel
theorem s85_160 (K : aK) : am_Snd K 85 160 := sn_iload i85_160 d85_160 
theorem i85_162 : am_ins 85 162 = (0, 2, 0, 6, []) := by decide +kernel
theorem d85_162 : decode (am_cod 85) 162 = .ok (.bipush 6, 2) := by decide +kernel
theorem s85_162 (K : aK) : am_Snd K 85 162 := sn_const2 i85_162 d85_162 (by decide +kernel)
theorem i85_164 : am_ins 85 164 = (4, 0, 0, 0, []) := by decide +kernel
theorem d85_164 : decode (am_cod 85) 164 = .ok (.iadd, 1) := by decide +kernel
theorem s85_164 (K : aK) : am_Snd K 85 164 := sn_add i85_164 d85_164 
theorem i85_165 : am_ins 85 165 = (1, 7, 2, 0, []) := by decide +kernel
theorem d85_165 : decode (am_cod 85) 165 = .ok (.iload 7, 2) := by decide +kernel
theorem s85_165 (K : aK) : am_Snd K 85 165 := sn_iload i85_165 d85_165 
theorem i85_167 : am_ins 85 167 = (23, 0, 0, 0, []) := by decide +kernel
theorem d85_167 : decode (am_cod 85) 167 = .ok (.iastore, 1) := by decide +kernel
theorem s85_167 (K : aK) : am_Snd K 85 167 := sn_iast i85_167 d85_167 
theorem i85_168 : am_ins 85 168 = (33, 0, 1, 0, []) := by decide +kernel
theorem d85_168 : decode (am_cod 85) 168 = .ok (.aload_n 0, 1) := by decide +kernel
theorem s85_168 (K : aK) : am_Snd K 85 168 := sn_aload_n i85_168 d85_168 rfl
theorem i85_169 : am_ins 85 169 = (7, 0, 0, 0, []) := by decide +kernel
theorem d85_169 : decode (am_cod 85) 169 = .ok (.dup, 1) := by decide +kernel
theorem s85_169 (K : aK) : am_Snd K 85 169 := sn_dup i85_169 d85_169 
theorem i85_170 : am_ins 85 170 = (18, 7, 22, 0, []) := by decide +kernel
theorem d85_170 : decode (am_cod 85) 170 = .ok (.getfield 103, 3) := by decide +kernel
theorem s85_170 (K : aK) : am_Snd K 85 170 := sn_get (C0 := CN7) (T := FT7) (Nf := 24) i85_170 d85_170 rfl (by decide +kernel) fin7 w_531 rfl
theorem i85_173 : am_ins 85 173 = (0, 1, 0, 1, []) := by decide +kernel
theorem d85_173 : decode (am_cod 85) 173 = .ok (.iconst 1, 1) := by decide +kernel
theorem s85_173 (K : aK) : am_Snd K 85 173 := sn_const1 i85_173 d85_173 rfl
theorem i85_174 : am_ins 85 174 = (4, 0, 0, 0, []) := by decide +kernel
theorem d85_174 : decode (am_cod 85) 174 = .ok (.iadd, 1) := by decide +kernel
theorem s85_174 (K : aK) : am_Snd K 85 174 := sn_add i85_174 d85_174 
theorem i85_175 : am_ins 85 175 = (19, 7, 22, 0, []) := by decide +kernel
theorem d85_175 : decode (am_cod 85) 175 = .ok (.putfield 103, 3) := by decide +kernel
theorem s85_175 (K : aK) : am_Snd K 85 175 := sn_puti (ty := .int) (C0 := CN7) (T := FT7) (Nf := 24) (tyf := FY7) i85_175 d85_175 rfl (by decide +kernel) fin7 ftyok7 fnm7 w_531 rfl rfl rfl
theorem i85_178 : am_ins 85 178 = (53, 0, 0, 0, []) := by decide +kernel
theorem d85_178 : decode (am_cod 85) 178 = .ok (.return_, 1) := by decide +kernel
theorem s85_178 : am_SndR 85 178 := sn_vret i85_178 d85_178 rfl
theorem al85_0 (K : aK) : ∀ q ∈ [0, 1, 2, 5, 6, 7, 8, 9, 11, 13, 15, 17, 20, 21, 23, 24, 27, 28, 29, 30, 31, 34, 35, 38, 39, 40, 43, 44, 45, 47], am_All K 85 q := List.forall_mem_cons.mpr ⟨am_alS i85_0 (s85_0 K), List.forall_mem_cons.mpr ⟨am_alS i85_1 (s85_1 K), List.forall_mem_cons.mpr ⟨am_alS i85_2 (s85_2 K), List.forall_mem_cons.mpr ⟨am_alS i85_5 (s85_5 K), List.forall_mem_cons.mpr ⟨am_alS i85_6 (s85_6 K), List.forall_mem_cons.mpr ⟨am_alS i85_7 (s85_7 K), List.forall_mem_cons.mpr ⟨am_alS i85_8 (s85_8 K), List.forall_mem_cons.mpr ⟨am_alS i85_9 (s85_9 K), List.forall_mem_cons.mpr ⟨am_alS i85_11 (s85_11 K), List.forall_mem_cons.mpr ⟨am_alS i85_13 (s85_13 K), List.forall_mem_cons.mpr ⟨am_alS i85_15 (s85_15 K), List.forall_mem_cons.mpr ⟨am_alC i85_17 (s85_17 K), List.forall_mem_cons.mpr ⟨am_alR i85_20 s85_20, List.forall_mem_cons.mpr ⟨am_alS i85_21 (s85_21 K), List.forall_mem_cons.mpr ⟨am_alS i85_23 (s85_23 K), List.forall_mem_cons.mpr ⟨am_alS i85_24 (s85_24 K), List.forall_mem_cons.mpr ⟨am_alS i85_27 (s85_27 K), List.forall_mem_cons.mpr ⟨am_alS i85_28 (s85_28 K), List.forall_mem_cons.mpr ⟨am_alS i85_29 (s85_29 K), List.forall_mem_cons.mpr ⟨am_alS i85_30 (s85_30 K), List.forall_mem_cons.mpr ⟨am_alS i85_31 (s85_31 K), List.forall_mem_cons.mpr ⟨am_alS i85_34 (s85_34 K), List.forall_mem_cons.mpr ⟨am_alS i85_35 (s85_35 K), List.forall_mem_cons.mpr ⟨am_alS i85_38 (s85_38 K), List.forall_mem_cons.mpr ⟨am_alS i85_39 (s85_39 K), List.forall_mem_cons.mpr ⟨am_alS i85_40 (s85_40 K), List.forall_mem_cons.mpr ⟨am_alS i85_43 (s85_43 K), List.forall_mem_cons.mpr ⟨am_alS i85_44 (s85_44 K), List.forall_mem_cons.mpr ⟨am_alS i85_45 (s85_45 K), List.forall_mem_cons.mpr ⟨am_alS i85_47 (s85_47 K), fun _ h => absurd h List.not_mem_nil⟩⟩⟩⟩⟩⟩⟩⟩⟩⟩⟩⟩⟩⟩⟩⟩⟩⟩⟩⟩⟩⟩⟩⟩⟩⟩⟩⟩⟩⟩
theorem al85_1 (K : aK) : ∀ q ∈ [49, 50, 52, 54, 55, 58, 59, 62, 64, 66, 67, 70, 72, 73, 74, 77, 80, 81, 83, 86, 88, 89, 92, 93, 95, 96, 99, 101, 102, 103], am_All K 85 q := List.forall_mem_cons.mpr ⟨am_alS i85_49 (s85_49 K), List.forall_mem_cons.mpr ⟨am_alS i85_50 (s85_50 K), List.forall_mem_cons.mpr ⟨am_alS i85_52 (s85_52 K), List.forall_mem_cons.mpr ⟨am_alS i85_54 (s85_54 K), List.forall_mem_cons.mpr ⟨am_alS i85_55 (s85_55 K), List.forall_mem_cons.mpr ⟨am_alS i85_58 (s85_58 K), List.forall_mem_cons.mpr ⟨am_alS i85_59 (s85_59 K), List.forall_mem_cons.mpr ⟨am_alS i85_62 (s85_62 K), List.forall_mem_cons.mpr ⟨am_alS i85_64 (s85_64 K), List.forall_mem_cons.mpr ⟨am_alS i85_66 (s85_66 K), List.forall_mem_cons.mpr ⟨am_alS i85_67 (s85_67 K), List.forall_mem_cons.mpr ⟨am_alS i85_70 (s85_70 K), List.forall_mem_cons.mpr ⟨am_alS i85_72 (s85_72 K), List.forall_mem_cons.mpr ⟨am_alS i85_73 (s85_73 K), List.forall_mem_cons.mpr ⟨am_alS i85_74 (s85_74 K), List.forall_mem_cons.mpr ⟨am_alS i85_77 (s85_77 K), List.forall_mem_cons.mpr ⟨am_alS i85_80 (s85_80 K), List.forall_mem_cons.mpr ⟨am_alS i85_81 (s85_81 K), List.forall_mem_cons.mpr ⟨am_alS i85_83 (s85_83 K), List.forall_mem_cons.mpr ⟨am_alS i85_86 (s85_86 K), List.forall_mem_cons.mpr ⟨am_alS i85_88 (s85_88 K), List.forall_mem_cons.mpr ⟨am_alS i85_89 (s85_89 K), List.forall_mem_cons.mpr ⟨am_alS i85_92 (s85_92 K), List.forall_mem_cons.mpr ⟨am_alS i85_93 (s85_93 K), List.forall_mem_cons.mpr ⟨am_alS i85_95 (s85_95 K), List.forall_mem_cons.mpr ⟨am_alS i85_96 (s85_96 K), List.forall_mem_cons.mpr ⟨am_alS i85_99 (s85_99 K), List.forall_mem_cons.mpr ⟨am_alS i85_101 (s85_101 K), List.forall_mem_cons.mpr ⟨am_alS i85_102 (s85_102 K), List.forall_mem_cons.mpr ⟨am_alS i85_103 (s85_103 K), fun _ h => absurd h List.not_mem_nil⟩⟩⟩⟩⟩⟩⟩⟩⟩⟩⟩⟩⟩⟩⟩⟩⟩⟩⟩⟩⟩⟩⟩⟩⟩⟩⟩⟩⟩⟩
theorem al85_2 (K : aK) : ∀ q ∈ [104, 107, 109, 110, 111, 112, 113, 114, 117, 119, 120, 121, 122, 123, 124, 127, 129, 130, 131, 133, 134, 135, 138, 140, 141, 142, 144, 145, 146, 149], am_All K 85 q := List.forall_mem_cons.mpr ⟨am_alS i85_104 (s85_104 K), List.forall_mem_cons.mpr ⟨am_alS i85_107 (s85_107 K), List.forall_mem_cons.mpr ⟨am_alS i85_109 (s85_109 K), List.forall_mem_cons.mpr ⟨am_alS i85_110 (s85_110 K), List.forall_mem_cons.mpr ⟨am_alS i85_111 (s85_111 K), List.forall_mem_cons.mpr ⟨am_alS i85_112 (s85_112 K), List.forall_mem_cons.mpr ⟨am_alS i85_113 (s85_113 K), List.forall_mem_cons.mpr ⟨am_alS i85_114 (s85_114 K), List.forall_mem_cons.mpr ⟨am_alS i85_117 (s85_117 K), List.forall_mem_cons.mpr ⟨am_alS i85_119 (s85_119 K), List.forall_mem_cons.mpr ⟨am_alS i85_120 (s85_120 K), List.forall_mem_cons.mpr ⟨am_alS i85_121 (s85_121 K), List.forall_mem_cons.mpr ⟨am_alS i85_122 (s85_122 K), List.forall_mem_cons.mpr ⟨am_alS i85_123 (s85_123 K), List.forall_mem_cons.mpr ⟨am_alS i85_124 (s85_124 K), List.forall_mem_cons.mpr ⟨am_alS i85_127 (s85_127 K), List.forall_mem_cons.mpr ⟨am_alS i85_129 (s85_129 K), List.forall_mem_cons.mpr ⟨am_alS i85_130 (s85_130 K), List.forall_mem_cons.mpr ⟨am_alS i85_131 (s85_131 K), List.forall_mem_cons.mpr ⟨am_alS i85_133 (s85_133 K), List.forall_mem_cons.mpr ⟨am_alS i85_134 (s85_134 K), List.forall_mem_cons.mpr ⟨am_alS i85_135 (s85_135 K), List.forall_mem_cons.mpr ⟨am_alS i85_138 (s85_138 K), List.forall_mem_cons.mpr ⟨am_alS i85_140 (s85_140 K), List.forall_mem_cons.mpr ⟨am_alS i85_141 (s85_141 K), List.forall_mem_cons.mpr ⟨am_alS i85_142 (s85_142 K), List.forall_mem_cons.mpr ⟨am_alS i85_144 (s85_144 K), List.forall_mem_cons.mpr ⟨am_alS i85_145 (s85_145 K), List.forall_mem_cons.mpr ⟨am_alS i85_146 (s85_146 K), List.forall_mem_cons.mpr ⟨am_alS i85_149 (s85_149 K), fun _ h => absurd h List.not_mem_nil⟩⟩⟩⟩⟩⟩⟩⟩⟩⟩⟩⟩⟩⟩⟩⟩⟩⟩⟩⟩⟩⟩⟩⟩⟩⟩⟩⟩⟩⟩
theorem al85_3 (K : aK) : ∀ q ∈ [151, 152, 153, 155, 156, 157, 160, 162, 164, 165, 167, 168, 169, 170, 173, 174, 175, 178], am_All K 85 q := List.forall_mem_cons.mpr ⟨am_alS i85_151 (s85_151 K), List.forall_mem_cons.mpr ⟨am_alS i85_152 (s85_152 K), List.forall_mem_cons.mpr ⟨am_alS i85_153 (s85_153 K), List.forall_mem_cons.mpr ⟨am_alS i85_155 (s85_155 K), List.forall_mem_cons.mpr ⟨am_alS i85_156 (s85_156 K), List.forall_mem_cons.mpr ⟨am_alS i85_157 (s85_157 K), List.forall_mem_cons.mpr ⟨am_alS i85_160 (s85_160 K), List.forall_mem_cons.mpr ⟨am_alS i85_162 (s85_162 K), List.forall_mem_cons.mpr ⟨am_alS i85_164 (s85_164 K), List.forall_mem_cons.mpr ⟨am_alS i85_165 (s85_165 K), List.forall_mem_cons.mpr ⟨am_alS i85_167 (s85_167 K), List.forall_mem_cons.mpr ⟨am_alS i85_168 (s85_168 K), List.forall_mem_cons.mpr ⟨am_alS i85_169 (s85_169 K), List.forall_mem_cons.mpr ⟨am_alS i85_170 (s85_170 K), List.forall_mem_cons.mpr ⟨am_alS i85_173 (s85_173 K), List.forall_mem_cons.mpr ⟨am_alS i85_174 (s85_174 K), List.forall_mem_cons.mpr ⟨am_alS i85_175 (s85_175 K), List.forall_mem_cons.mpr ⟨am_alR i85_178 s85_178, fun _ h => absurd h List.not_mem_nil⟩⟩⟩⟩⟩⟩⟩⟩⟩⟩⟩⟩⟩⟩⟩⟩⟩⟩
set_option maxRecDepth 100000 in
theorem al85 (K : aK) : ∀ q ∈ (am_t85).map (fun z => z.1), am_All K 85 q := by
  have e : (am_t85).map (fun z => z.1) = [0, 1, 2, 5, 6, 7, 8, 9, 11, 13, 15, 17, 20, 21, 23, 24, 27, 28, 29, 30, 31, 34, 35, 38, 39, 40, 43, 44, 45, 47] ++ ([49, 50, 52, 54, 55, 58, 59, 62, 64, 66, 67, 70, 72, 73, 74, 77, 80, 81, 83, 86, 88, 89, 92, 93, 95, 96, 99, 101, 102, 103] ++ ([104, 107, 109, 110, 111, 112, 113, 114, 117, 119, 120, 121, 122, 123, 124, 127, 129, 130, 131, 133, 134, 135, 138, 140, 141, 142, 144, 145, 146, 149] ++ ([151, 152, 153, 155, 156, 157, 160, 162, 164, 165, 167, 168, 169, 170, 173, 174, 175, 178]))) := rfl
  rw [e]
  exact List.forall_mem_append.mpr ⟨al85_0 K, List.forall_mem_append.mpr ⟨al85_1 K, List.forall_mem_append.mpr ⟨al85_2 K, al85_3 K⟩⟩⟩
theorem i86_0 : am_ins 86 0 = (0, 1, 0, 0, []) := by decide +kernel
theorem d86_0 : decode (am_cod 86) 0 = .ok (.iconst 0, 1) := by decide +kernel
theorem s86_0 (K : aK) : am_Snd K 86 0 := sn_const1 i86_0 d86_0 rfl
theorem i86_1 : am_ins 86 1 = (2, 3, 1, 0, []) := by decide +kernel
theorem d86_1 : decode (am_cod 86) 1 = .ok (.istore_n 3, 1) := by decide +kernel
theorem s86_1 (K : aK) : am_Snd K 86 1 := sn_istore_n i86_1 d86_1 rfl (by decide +kernel)
theorem i86_2 : am_ins 86 2 = (1, 3, 1, 0, []) := by decide +kernel
theorem d86_2 : decode (am_cod 86) 2 = .ok (.iload_n 3, 1) := by decide +kernel
theorem s86_2 (K : aK) : am_Snd K 86 2 := sn_iload_n i86_2 d86_2 rfl
theorem i86_3 : am_ins 86 3 = (33, 0, 1, 0, []) := by decide +kernel
theorem d86_3 : decode (am_cod 86) 3 = .ok (.aload_n 0, 1) := by decide +kernel
theorem s86_3 (K : aK) : am_Snd K 86 3 := sn_aload_n i86_3 d86_3 rfl
theorem i86_4 : am_ins 86 4 = (18, 7, 22, 0, []) := by decide +kernel
theorem d86_4 : decode (am_cod 86) 4 = .ok (.getfield 103, 3) := by decide +kernel
theorem s86_4 (K : aK) : am_Snd K 86 4 := sn_get (C0 := CN7) (T := FT7) (Nf := 24) i86_4 d86_4 rfl (by decide +kernel) fin7 w_531 rfl
theorem i86_7 : am_ins 86 7 = (13, 3, 46, 0, []) := by decide +kernel
theorem d86_7 : decode (am_cod 86) 7 = .ok (.if_icmp .ge 39, 3) := by decide +kernel
theorem s86_7 (K : aK) : am_Snd K 86 7 := sn_icmp_ge i86_7 d86_7 rfl
theorem i86_10 : am_ins 86 10 = (33, 0, 1, 0, []) := by decide +kernel
theorem d86_10 : decode (am_cod 86) 10 = .ok (.aload_n 0, 1) := by decide +kernel
theorem s86_10 (K : aK) : am_Snd K 86 10 := sn_aload_n i86_10 d86_10 rfl
theorem i86_11 : am_ins 86 11 = (18, 7, 23, 0, []) := by decide +kernel
theorem d86_11 : decode (am_cod 86) 11 = .ok (.getfield 74, 3) := by decide +kernel
theorem s86_11 (K : aK) : am_Snd K 86 11 := sn_get (C0 := CN7) (T := FT7) (Nf := 24) i86_11 d86_11 rfl (by decide +kernel) fin7 w_532 rfl
theorem i86_14 : am_ins 86 14 = (0, 2, 0, 7, []) := by decide +kernel
theorem d86_14 : decode (am_cod 86) 14 = .ok (.bipush 7, 2) := by decide +kernel
theorem s86_14 (K : aK) : am_Snd K 86 14 := sn_const2 i86_14 d86_14 (by decide +kernel)
theorem i86_16 : am_ins 86 16 = (1, 3, 1, 0, []) := by decide +kernel
theorem d86_16 : decode (am_cod 86) 16 = .ok (.iload_n 3, 1) := by decide +kernel
theorem s86_16 (K : aK) : am_Snd K 86 16 := sn_iload_n i86_16 d86_16 rfl
theorem i86_17 : am_ins 86 17 = (4, 2, 0, 0, []) := by decide +kernel
theorem d86_17 : decode (am_cod 86) 17 = .ok (.imul, 1) := by decide +kernel
theorem s86_17 (K : aK) : am_Snd K 86 17 := sn_mul i86_17 d86_17 
theorem i86_18 : am_ins 86 18 = (22, 0, 0, 0, []) := by decide +kernel
theorem d86_18 : decode (am_cod 86) 18 = .ok (.iaload, 1) := by decide +kernel
theorem s86_18 (K : aK) : am_Snd K 86 18 := sn_iald i86_18 d86_18 
theorem i86_19 : am_ins 86 19 = (1, 1, 1, 0, []) := by decide +kernel
theorem d86_19 : decode (am_cod 86) 19 = .ok (.iload_n 1, 1) := by decide +kernel
theorem s86_19 (K : aK) : am_Snd K 86 19 := sn_iload_n i86_19 d86_19 rfl
theorem i86_20 : am_ins 86 20 = (13, 1, 40, 0, []) := by decide +kernel
theorem d86_20 : decode (am_cod 86) 20 = .ok (.if_icmp .ne 20, 3) := by decide +kernel
theorem s86_20 (K : aK) : am_Snd K 86 20 := sn_icmp_ne i86_20 d86_20 rfl
theorem i86_23 : am_ins 86 23 = (33, 0, 1, 0, []) := by decide +kernel
theorem d86_23 : decode (am_cod 86) 23 = .ok (.aload_n 0, 1) := by decide +kernel
theorem s86_23 (K : aK) : am_Snd K 86 23 := sn_aload_n i86_23 d86_23 rfl
theorem i86_24 : am_ins 86 24 = (18, 7, 23, 0, []) := by decide +kernel
theorem d86_24 : decode (am_cod 86) 24 = .ok (.getfield 74, 3) := by decide +kernel
theorem s86_24 (K : aK) : am_Snd K 86 24 := sn_get (C0 := CN7) (T := FT7) (Nf := 24) i86_24 d86_24 rfl (by decide +kernel) fin7 w_532 rfl
theorem i86_27 : am_ins 86 27 = (0, 2, 0, 7, []) := by decide +kernel
theorem d86_27 : decode (am_cod 86) 27 = .ok (.bipush 7, 2) := by decide +kernel
theorem s86_27 (K : aK) : am_Snd K 86 27 := sn_const2 i86_27 d86_27 (by decide +kernel)
theorem i86_29 : am_ins 86 29 = (1, 3, 1, 0, []) := by decide +kernel
theorem d86_29 : decode (am_cod 86) 29 = .ok (.iload_n 3, 1) := by decide +kernel
theorem s86_29 (K : aK) : am_Snd K 86 29 := sn_iload_n i86_29 d86_29 rfl
theorem i86_30 : am_ins 86 30 = (4, 2, 0, 0, []) := by decide +kernel
theorem d86_30 : decode (am_cod 86) 30 = .ok (.imul, 1) := by decide +kernel
theorem s86_30 (K : aK) : am_Snd K 86 30 := sn_mul i86_30 d86_30 
theorem i86_31 : am_ins 86 31 = (0, 1, 0, 1, []) := by decide +kernel
theorem d86_31 : decode (am_cod 86) 31 = .ok (.iconst 1, 1) := by decide +kernel
theorem s86_31 (K : aK) : am_Snd K 86 31 := sn_const1 i86_31 d86_31 rfl
theorem i86_32 : am_ins 86 32 = (4, 0, 0, 0, []) := by decide +kernel
theorem d86_32 : decode (am_cod 86) 32 = .ok (.iadd, 1) := by decide +kernel
theorem s86_32 (K : aK) : am_Snd K 86 32 := sn_add i86_32 d86_32 
theorem i86_33 : am_ins 86 33 = (22, 0, 0, 0, []) := by decide +kernel
theorem d86_33 : decode (am_cod 86) 33 = .ok (.iaload, 1) := by decide +kernel
theorem s86_33 (K : aK) : am_Snd K 86 33 := sn_iald i86_33 d86_33 
theorem i86_34 : am_ins 86 34 = (1, 2, 1, 0, []) := by decide +kernel
theorem d86_34 : decode (am_cod 86) 34 = .ok (.iload_n 2, 1) := by decide +kernel
theorem s86_34 (K : aK) : am_Snd K 86 34 := sn_iload_n i86_34 d86_34 rfl
theorem i86_35 : am_ins 86 35 = (13, 1, 40, 0, []) := by decide +kernel
theorem d86_35 : decode (am_cod 86) 35 = .ok (.if_icmp .ne 5, 3) := by decide +kernel
theorem s86_35 (K : aK) : am_Snd K 86 35 := sn_icmp_ne i86_35 d86_35 rfl
theorem i86_38 : am_ins 86 38 = (1, 3, 1, 0, []) := by decide +kernel
theorem d86_38 : decode (am_cod 86) 38 = .ok (.iload_n 3, 1) := by decide +kernel
theorem s86_38 (K : aK) : am_Snd K 86 38 := sn_iload_n i86_38 d86_38 rfl
theorem i86_39 : am_ins 86 39 = (50, 0, 0, 0, []) := by decide +kernel
theorem d86_39 : decode (am_cod 86) 39 = .ok (.ireturn, 1) := by decide +kernel
theorem s86_39 : am_SndR 86 39 := sn_iret i86_39 d86_39 rfl
theorem i86_40 : am_ins 86 40 = (3, 3, 3, 1, []) := by decide +kernel
theorem d86_40 : decode (am_cod 86) 40 = .ok (.iinc 3 1, 3) := by decide +kernel
theorem s86_40 (K : aK) : am_Snd K 86 40 := sn_iinc i86_40 d86_40 rfl (by decide +kernel)
theorem i86_43 : am_ins 86 43 = (14, 2, 0, 0, []) := by decide +kernel
theorem d86_43 : decode (am_cod 86) 43 = .ok (.goto (-41), 3) := by decide +kernel
theorem s86_43 (K : aK) : am_Snd K 86 43 := sn_goto i86_43 d86_43 rfl
theorem i86_46 : am_ins 86 46 = (0, 1, 0, (-1), []) := by decide +kernel
theorem d86_46 : decode (am_cod 86) 46 = .ok (.iconst (-1), 1) := by decide +kernel
theorem s86_46 (K : aK) : am_Snd K 86 46 := sn_const1 i86_46 d86_46 rfl
theorem i86_47 : am_ins 86 47 = (50, 0, 0, 0, []) := by decide +kernel
theorem d86_47 : decode (am_cod 86) 47 = .ok (.ireturn, 1) := by decide +kernel
theorem s86_47 : am_SndR 86 47 := sn_iret i86_47 d86_47 rfl
theorem al86_0 (K : aK) : ∀ q ∈ [0, 1, 2, 3, 4, 7, 10, 11, 14, 16, 17, 18, 19, 20, 23, 24, 27, 29, 30, 31, 32, 33, 34, 35, 38, 39, 40, 43, 46, 47], am_All K 86 q := List.forall_mem_cons.mpr ⟨am_alS i86_0 (s86_0 K), List.forall_mem_cons.mpr ⟨am_alS i86_1 (s86_1 K), List.forall_mem_cons.mpr ⟨am_alS i86_2 (s86_2 K), List.forall_mem_cons.mpr ⟨am_alS i86_3 (s86_3 K), List.forall_mem_cons.mpr ⟨am_alS i86_4 (s86_4 K), List.forall_mem_cons.mpr ⟨am_alS i86_7 (s86_7 K), List.forall_mem_cons.mpr ⟨am_alS i86_10 (s86_10 K), List.forall_mem_cons.mpr ⟨am_alS i86_11 (s86_11 K), List.forall_mem_cons.mpr ⟨am_alS i86_14 (s86_14 K), List.forall_mem_cons.mpr ⟨am_alS i86_16 (s86_16 K), List.forall_mem_cons.mpr ⟨am_alS i86_17 (s86_17 K), List.forall_mem_cons.mpr ⟨am_alS i86_18 (s86_18 K), List.forall_mem_cons.mpr ⟨am_alS i86_19 (s86_19 K), List.forall_mem_cons.mpr ⟨am_alS i86_20 (s86_20 K), List.forall_mem_cons.mpr ⟨am_alS i86_23 (s86_23 K), List.forall_mem_cons.mpr ⟨am_alS i86_24 (s86_24 K), List.forall_mem_cons.mpr ⟨am_alS i86_27 (s86_27 K), List.forall_mem_cons.mpr ⟨am_alS i86_29 (s86_29 K), List.forall_mem_cons.mpr ⟨am_alS i86_30 (s86_30 K), List.forall_mem_cons.mpr ⟨am_alS i86_31 (s86_31 K), List.forall_mem_cons.mpr ⟨am_alS i86_32 (s86_32 K), List.forall_mem_cons.mpr ⟨am_alS i86_33 (s86_33 K), List.forall_mem_cons.mpr ⟨am_alS i86_34 (s86_34 K), List.forall_mem_cons.mpr ⟨am_alS i86_35 (s86_35 K), List.forall_mem_cons.mpr ⟨am_alS i86_38 (s86_38 K), List.forall_mem_cons.mpr ⟨am_alR i86_39 s86_39, List.forall_mem_cons.mpr ⟨am_alS i86_40 (s86_40 K), List.forall_mem_cons.mpr ⟨am_alS i86_43 (s86_43 K), List.forall_mem_cons.mpr ⟨am_alS i86_46 (s86_46 K), List.forall_mem_cons.mpr ⟨am_alR i86_47 s86_47, fun _ h => absurd h List.not_mem_nil⟩⟩⟩⟩⟩⟩⟩⟩⟩⟩⟩⟩⟩⟩⟩⟩⟩⟩⟩⟩⟩⟩⟩⟩⟩⟩⟩⟩⟩⟩
set_option maxRecDepth 100000 in
theorem al86 (K : aK) : ∀ q ∈ (am_t86).map (fun z => z.1), am_All K 86 q := by
  have e : (am_t86).map (fun z => z.1) = [0, 1, 2, 3, 4, 7, 10, 11, 14, 16, 17, 18, 19, 20, 23, 24, 27, 29, 30, 31, 32, 33, 34, 35, 38, 39, 40, 43, 46, 47] := rfl
  rw [e]
  exact al86_0 K
theorem i87_0 : am_ins 87 0 = (1, 3, 1, 0, []) := by decide +kernel
theorem d87_0 : decode (am_cod 87) 0 = .ok (.iload_n 3, 1) := by decide +kernel
theorem s87_0 (K : aK) : am_Snd K 87 0 := sn_iload_n i87_0 d87_0 rfl
theorem i87_1 : am_ins 87 1 = (32, 106, 0, 0, [(1, 36), (2, 47), (3, 59), (4, 71), (5, 88)]) := by decide +kernel
theorem d87_1 : decode (am_cod 87) 1 = .ok (.tableswitch 105 1 5 #[35, 46, 58, 70, 87], 35) := by decide +kernel
theorem s87_1 (K : aK) : am_Snd K 87 1 := sn_tsw (ts := [36, 47, 59, 71, 88]) i87_1 d87_1 rfl (by decide) rfl (by decide)
theorem i87_36 : am_ins 87 36 = (33, 0, 1, 0, []) := by decide +kernel
theorem d87_36 : decode (am_cod 87) 36 = .ok (.aload_n 0, 1) := by decide +kernel
theorem s87_36 (K : aK) : am_Snd K 87 36 := sn_aload_n i87_36 d87_36 rfl
theorem i87_37 : am_ins 87 37 = (1, 2, 1, 0, []) := by decide +kernel
theorem d87_37 : decode (am_cod 87) 37 = .ok (.iload_n 2, 1) := by decide +kernel
theorem s87_37 (K : aK) : am_Snd K 87 37 := sn_iload_n i87_37 d87_37 rfl
theorem i87_38 : am_ins 87 38 = (1, 1, 1, 0, []) := by decide +kernel
theorem d87_38 : decode (am_cod 87) 38 = .ok (.iload_n 1, 1) := by decide +kernel
theorem s87_38 (K : aK) : am_Snd K 87 38 := sn_iload_n i87_38 d87_38 rfl
theorem i87_39 : am_ins 87 39 = (1, 4, 2, 0, []) := by decide +kernel
theorem d87_39 : decode (am_cod 87) 39 = .ok (.iload 4, 2) := by decide +kernel
theorem s87_39 (K : aK) : am_Snd K 87 39 := sn_iload i87_39 d87_39 
theorem i87_41 : am_ins 87 41 = (60, 88, 3, 0, []) := by decide +kernel
theorem d87_41 : decode (am_cod 87) 41 = .ok (.invokevirtual 107, 3) := by decide +kernel
theorem s87_41 (K : aK) : am_SndC K 87 41 := sc_V i87_41 d87_41 co88 w_653 w_655 ws_22 w_6 rfl (rr := (CN7, FT7, 24)) rfl rfl hd88
theorem i87_44 : am_ins 87 44 = (14, 140, 0, 0, []) := by decide +kernel
theorem d87_44 : decode (am_cod 87) 44 = .ok (.goto 96, 3) := by decide +kernel
theorem s87_44 (K : aK) : am_Snd K 87 44 := sn_goto i87_44 d87_44 rfl
theorem i87_47 : am_ins 87 47 = (33, 0, 1, 0, []) := by decide +kernel
theorem d87_47 : decode (am_cod 87) 47 = .ok (.aload_n 0, 1) := by decide +kernel
theorem s87_47 (K : aK) : am_Snd K 87 47 := sn_aload_n i87_47 d87_47 rfl
theorem i87_48 : am_ins 87 48 = (1, 2, 1, 0, []) := by decide +kernel
theorem d87_48 : decode (am_cod 87) 48 = .ok (.iload_n 2, 1) := by decide +kernel
theorem s87_48 (K : aK) : am_Snd K 87 48 := sn_iload_n i87_48 d87_48 rfl
theorem i87_49 : am_ins 87 49 = (1, 4, 2, 0, []) := by decide +kernel
theorem d87_49 : decode (am_cod 87) 49 = .ok (.iload 4, 2) := by decide +kernel
theorem s87_49 (K : aK) : am_Snd K 87 49 := sn_iload i87_49 d87_49 
theorem i87_51 : am_ins 87 51 = (1, 5, 2, 0, []) := by decide +kernel
theorem d87_51 : decode (am_cod 87) 51 = .ok (.iload 5, 2) := by decide +kernel
theorem s87_51 (K : aK) : am_Snd K 87 51 := sn_iload i87_51 d87_51 
theorem i87_53 : am_ins 87 53 = (60, 89, 3, 0, []) := by decide +kernel
theorem d87_53 : decode (am_cod 87) 53 = .ok (.invokevirtual 111, 3) := by decide +kernel
theorem s87_53 (K : aK) : am_SndC K 87 53 := sc_V i87_53 d87_53 co89 w_657 w_659 ws_23 w_6 rfl (rr := (CN7, FT7, 24)) rfl rfl hd89
theorem i87_56 : am_ins 87 56 = (14, 140, 0, 0, []) := by decide +kernel
theorem d87_56 : decode (am_cod 87) 56 = .ok (.goto 84, 3) := by decide +kernel
theorem s87_56 (K : aK) : am_Snd K 87 56 := sn_goto i87_56 d87_56 rfl
theorem i87_59 : am_ins 87 59 = (33, 0, 1, 0, []) := by decide +kernel
theorem d87_59 : decode (am_cod 87) 59 = .ok (.aload_n 0, 1) := by decide +kernel
theorem s87_59 (K : aK) : am_Snd K 87 59 := sn_aload_n i87_59 d87_59 rfl
theorem i87_60 : am_ins 87 60 = (1, 2, 1, 0, []) := by decide +kernel
theorem d87_60 : decode (am_cod 87) 60 = .ok (.iload_n 2, 1) := by decide +kernel
theorem s87_60 (K : aK) : am_Snd K 87 60 := sn_iload_n i87_60 d87_60 rfl
theorem i87_61 : am_ins 87 61 = (1, 4, 2, 0, []) := by decide +kernel
theorem d87_61 : decode (am_cod 87) 61 = .ok (.iload 4, 2) := by decide +kernel
theorem s87_61 (K : aK) : am_Snd K 87 61 := sn_iload i87_61 d87_61 
theorem i87_63 : am_ins 87 63 = (1, 5, 2, 0, []) := by decide +kernel
theorem d87_63 : decode (am_cod 87) 63 = .ok (.iload 5, 2) := by decide +kernel
theorem s87_63 (K : aK) : am_Snd K 87 63 := sn_iload i87_63 d87_63 
theorem i87_65 : am_ins 87 65 = (60, 90, 3, 0, []) := by decide +kernel
theorem d87_65 : decode (am_cod 87) 65 = .ok (.invokevirtual 114, 3) := by decide +kernel
theorem s87_65 (K : aK) : am_SndC K 87 65 := sc_V i87_65 d87_65 co90 w_661 w_663 ws_24 w_6 rfl (rr := (CN7, FT7, 24)) rfl rfl hd90
theorem i87_68 : am_ins 87 68 = (14, 140, 0, 0, []) := by decide +kernel
theorem d87_68 : decode (am_cod 87) 68 = .ok (.goto 72, 3) := by decide +kernel
theorem s87_68 (K : aK) : am_Snd K 87 68 := sn_goto i87_68 d87_68 rfl
theorem i87_71 : am_ins 87 71 = (33, 0, 1, 0, []) := by decide +kernel
theorem d87_71 : decode (am_cod 87) 71 = .ok (.aload_n 0, 1) := by decide +kernel
theorem s87_71 (K : aK) : am_Snd K 87 71 := sn_aload_n i87_71 d87_71 rfl
theorem i87_72 : am_ins 87 72 = (18, 7, 11, 0, []) := by decide +kernel
theorem d87_72 : decode (am_cod 87) 72 = .ok (.getfield 41, 3) := by decide +kernel
theorem s87_72 (K : aK) : am_Snd K 87 72 := sn_get (C0 := CN7) (T := FT7) (Nf := 24) i87_72 d87_72 rfl (by decide +kernel) fin7 w_520 rfl
theorem i87_75 : am_ins 87 75 = (0, 3, 0, 200, []) := by decide +kernel
theorem d87_75 : decode (am_cod 87) 75 = .ok (.sipush 200, 3) := by decide +kernel
theorem s87_75 (K : aK) : am_Snd K 87 75 := sn_const3 i87_75 d87_75 (by decide +kernel)
theorem i87_78 : am_ins 87 78 = (1, 2, 1, 0, []) := by decide +kernel
theorem d87_78 : decode (am_cod 87) 78 = .ok (.iload_n 2, 1) := by decide +kernel
theorem s87_78 (K : aK) : am_Snd K 87 78 := sn_iload_n i87_78 d87_78 rfl
theorem i87_79 : am_ins 87 79 = (4, 2, 0, 0, []) := by decide +kernel
theorem d87_79 : decode (am_cod 87) 79 = .ok (.imul, 1) := by decide +kernel
theorem s87_79 (K : aK) : am_Snd K 87 79 := sn_mul i87_79 d87_79 
theorem i87_80 : am_ins 87 80 = (1, 4, 2, 0, []) := by decide +kernel
theorem d87_80 : decode (am_cod 87) 80 = .ok (.iload 4, 2) := by decide +kernel
theorem s87_80 (K : aK) : am_Snd K 87 80 := sn_iload i87_80 d87_80 
theorem i87_82 : am_ins 87 82 = (4, 0, 0, 0, []) := by decide +kernel
theorem d87_82 : decode (am_cod 87) 82 = .ok (.iadd, 1) := by decide +kernel
theorem s87_82 (K : aK) : am_Snd K 87 82 := sn_add i87_82 d87_82 
theorem i87_83 : am_ins 87 83 = (0, 1, 0, 3, []) := by decide +kernel
theorem d87_83 : decode (am_cod 87) 83 = .ok (.iconst 3, 1) := by decide +kernel
theorem s87_83 (K : aK) : am_Snd K 87 83 := sn_const1 i87_83 d87_83 rfl
theorem i87_84 : am_ins 87 84 = (23, 0, 0, 0, []) := by decide +kernel
theorem d87_84 : decode (am_cod 87) 84 = .ok (.iastore, 1) := by decide +kernel
theorem s87_84 (K : aK) : am_Snd K 87 84 := sn_iast i87_84 d87_84 
theorem i87_85 : am_ins 87 85 = (14, 140, 0, 0, []) := by decide +kernel
theorem d87_85 : decode (am_cod 87) 85 = .ok (.goto 55, 3) := by decide +kernel
theorem s87_85 (K : aK) : am_Snd K 87 85 := sn_goto i87_85 d87_85 rfl
theorem i87_88 : am_ins 87 88 = (33, 0, 1, 0, []) := by decide +kernel
theorem d87_88 : decode (am_cod 87) 88 = .ok (.aload_n 0, 1) := by decide +kernel
theorem s87_88 (K : aK) : am_Snd K 87 88 := sn_aload_n i87_88 d87_88 rfl
theorem i87_89 : am_ins 87 89 = (18, 7, 13, 0, []) := by decide +kernel
theorem d87_89 : decode (am_cod 87) 89 = .ok (.getfield 47, 3) := by decide +kernel
theorem s87_89 (K : aK) : am_Snd K 87 89 := sn_get (C0 := CN7) (T := FT7) (Nf := 24) i87_89 d87_89 rfl (by decide +kernel) fin7 w_522 rfl
theorem i87_92 : am_ins 87 92 = (0, 1, 0, 3, []) := by decide +kernel
theorem d87_92 : decode (am_cod 87) 92 = .ok (.iconst 3, 1) := by decide +kernel
theorem s87_92 (K : aK) : am_Snd K 87 92 := sn_const1 i87_92 d87_92 rfl
theorem i87_93 : am_ins 87 93 = (1, 2, 1, 0, []) := by decide +kernel
theorem d87_93 : decode (am_cod 87) 93 = .ok (.iload_n 2, 1) := by decide +kernel
theorem s87_93 (K : aK) : am_Snd K 87 93 := sn_iload_n i87_93 d87_93 rfl
theorem i87_94 : am_ins 87 94 = (4, 2, 0, 0, []) := by decide +kernel
theorem d87_94 : decode (am_cod 87) 94 = .ok (.imul, 1) := by decide +kernel
theorem s87_94 (K : aK) : am_Snd K 87 94 := sn_mul i87_94 d87_94 
theorem i87_95 : am_ins 87 95 = (1, 1, 1, 0, []) := by decide +kernel
theorem d87_95 : decode (am_cod 87) 95 = .ok (.iload_n 1, 1) := by decide +kernel
theorem s87_95 (K : aK) : am_Snd K 87 95 := sn_iload_n i87_95 d87_95 rfl
theorem i87_96 : am_ins 87 96 = (61, 75, 1, 0, []) := by decide +kernel
theorem d87_96 : decode (am_cod 87) 96 = .ok (.invokestatic 81, 3) := by decide +kernel
theorem s87_96 (K : aK) : am_SndC K 87 96 := sc_S i87_96 d87_96 co75 w_673 w_674 w_6 hd75
theorem i87_99 : am_ins 87 99 = (4, 0, 0, 0, []) := by decide +kernel
theorem d87_99 : decode (am_cod 87) 99 = .ok (.iadd, 1) := by decide +kernel
theorem s87_99 (K : aK) : am_Snd K 87 99 := sn_add i87_99 d87_99 
theorem i87_100 : am_ins 87 100 = (1, 4, 2, 0, []) := by decide +kernel
theorem d87_100 : decode (am_cod 87) 100 = .ok (.iload 4, 2) := by decide +kernel
theorem s87_100 (K : aK) : am_Snd K 87 100 := sn_iload i87_100 d87_100 
theorem i87_102 : am_ins 87 102 = (23, 0, 0, 0, []) := by decide +kernel
theorem d87_102 : decode (am_cod 87) 102 = .ok (.iastore, 1) := by decide +kernel
theorem s87_102 (K : aK) : am_Snd K 87 102 := sn_iast i87_102 d87_102 
theorem i87_103 : am_ins 87 103 = (14, 140, 0, 0, []) := by decide +kernel
theorem d87_103 : decode (am_cod 87) 103 = .ok (.goto 37, 3) := by decide +kernel
theorem s87_103 (K : aK) : am_Snd K 87 103 := sn_goto i87_103 d87_103 rfl
theorem i87_106 : am_ins 87 106 = (33, 0, 1, 0, []) := by decide +kernel
theorem d87_106 : decode (am_cod 87) 106 = .ok (.aload_n 0, 1) := by decide +kernel
theorem s87_106 (K : aK) : am_Snd K 87 106 := sn_aload_n i87_106 d87_106 rfl
theorem i87_107 : am_ins 87 107 = (18, 7, 14, 0, []) := by decide +kernel
theorem d87_107 : decode (am_cod 87) 107 = .ok (.getfield 50, 3) := by decide +kernel
theorem s87_107 (K : aK) : am_Snd K 87 107 := sn_get (C0 := CN7) (T := FT7) (Nf := 24) i87_107 d87_107 rfl (by decide +kernel) fin7 w_523 rfl
theorem i87_110 : am_ins 87 110 = (0, 1, 0, 3, []) := by decide +kernel
theorem d87_110 : decode (am_cod 87) 110 = .ok (.iconst 3, 1) := by decide +kernel
theorem s87_110 (K : aK) : am_Snd K 87 110 := sn_const1 i87_110 d87_110 rfl
theorem i87_111 : am_ins 87 111 = (1, 2, 1, 0, []) := by decide +kernel
theorem d87_111 : decode (am_cod 87) 111 = .ok (.iload_n 2, 1) := by decide +kernel
theorem s87_111 (K : aK) : am_Snd K 87 111 := sn_iload_n i87_111 d87_111 rfl
theorem i87_112 : am_ins 87 112 = (4, 2, 0, 0, []) := by decide +kernel
theorem d87_112 : decode (am_cod 87) 112 = .ok (.imul, 1) := by decide +kernel
theorem s87_112 (K : aK) : am_Snd K 87 112 := sn_mul i87_112 d87_112 
theorem i87_113 : am_ins 87 113 = (1, 5, 2, 0, []) := by decide +kernel
theorem d87_113 : decode (am_cod 87) 113 = .ok (.iload 5, 2) := by decide +kernel
theorem s87_113 (K : aK) : am_Snd K 87 113 := sn_iload i87_113 d87_113 
theorem i87_115 : am_ins 87 115 = (23, 0, 0, 0, []) := by decide +kernel
theorem d87_115 : decode (am_cod 87) 115 = .ok (.iastore, 1) := by decide +kernel
theorem s87_115 (K : aK) : am_Snd K 87 115 := sn_iast i87_115 d87_115 
theorem i87_116 : am_ins 87 116 = (33, 0, 1, 0, []) := by decide +kernel
theorem d87_116 : decode (am_cod 87) 116 = .ok (.aload_n 0, 1) := by decide +kernel
theorem s87_116 (K : aK) : am_Snd K 87 116 := sn_aload_n i87_116 d87_116 rfl
theorem i87_117 : am_ins 87 117 = (18, 7, 14, 0, []) := by decide +kernel
theorem d87_117 : decode (am_cod 87) 117 = .ok (.getfield 50, 3) := by decide +kernel
theorem s87_117 (K : aK) : am_Snd K 87 117 := sn_get (C0 := CN7) (T := FT7) (Nf := 24) i87_117 d87_117 rfl (by decide +kernel) fin7 w_523 rfl
theorem i87_120 : am_ins 87 120 = (0, 1, 0, 3, []) := by decide +kernel
theorem d87_120 : decode (am_cod 87) 120 = .ok (.iconst 3, 1) := by decide +kernel
theorem s87_120 (K : aK) : am_Snd K 87 120 := sn_const1 i87_120 d87_120 rfl
theorem i87_121 : am_ins 87 121 = (1, 2, 1, 0, []) := by decide +kernel
theorem d87_121 : decode (am_cod 87) 121 = .ok (.iload_n 2, 1) := by decide +kernel
theorem s87_121 (K : aK) : am_Snd K 87 121 := sn_iload_n i87_121 d87_121 rfl
theorem i87_122 : am_ins 87 122 = (4, 2, 0, 0, []) := by decide +kernel
theorem d87_122 : decode (am_cod 87) 122 = .ok (.imul, 1) := by decide +kernel
theorem s87_122 (K : aK) : am_Snd K 87 122 := sn_mul i87_122 d87_122 
theorem i87_123 : am_ins 87 123 = (0, 1, 0, 1, []) := by decide +kernel
theorem d87_123 : decode (am_cod 87) 123 = .ok (.iconst 1, 1) := by decide +kernel
theorem s87_123 (K : aK) : am_Snd K 87 123 := sn_const1 i87_123 d87_123 rfl
theorem i87_124 : am_ins 87 124 = (4, 0, 0, 0, []) := by decide +kernel
theorem d87_124 : decode (am_cod 87) 124 = .ok (.iadd, 1) := by decide +kernel
theorem s87_124 (K : aK) : am_Snd K 87 124 := sn_add i87_124 d87_124 
theorem i87_125 : am_ins 87 125 = (1, 6, 2, 0, []) := by decide +kernel
theorem d87_125 : decode (am_cod 87) 125 = .ok (.iload 6, 2) := by decide +kernel
theorem s87_125 (K : aK) : am_Snd K 87 125 := sn_iload i87_125 d87_125 
theorem i87_127 : am_ins 87 127 = (23, 0, 0, 0, []) := by decide +kernel
theorem d87_127 : decode (am_cod 87) 127 = .ok (.iastore, 1) := by decide +kernel
theorem s87_127 (K : aK) : am_Snd K 87 127 := sn_iast i87_127 d87_127 
theorem i87_128 : am_ins 87 128 = (33, 0, 1, 0, []) := by decide +kernel
theorem d87_128 : decode (am_cod 87) 128 = .ok (.aload_n 0, 1) := by decide +kernel
theorem s87_128 (K : aK) : am_Snd K 87 128 := sn_aload_n i87_128 d87_128 rfl
theorem i87_129 : am_ins 87 129 = (18, 7, 14, 0, []) := by decide +kernel
theorem d87_129 : decode (am_cod 87) 129 = .ok (.getfield 50, 3) := by decide +kernel
theorem s87_129 (K : aK) : am_Snd K 87 129 := sn_get (C0 := CN7) (T := FT7) (Nf := 24) i87_129 d87_129 rfl (by decide +kernel) fin7 w_523 rfl
theorem i87_132 : am_ins 87 132 = (0, 1, 0, 3, []) := by decide +kernel
theorem d87_132 : decode (am_cod 87) 132 = .ok (.iconst 3, 1) := by decide +kernel
theorem s87_132 (K : aK) : am_Snd K 87 132 := sn_const1 i87_132 d87_132 rfl
theorem i87_133 : am_ins 87 133 = (1, 2, 1, 0, []) := by decide +kernel
theorem d87_133 : decode (am_cod 87) 133 = .ok (.iload_n 2, 1) := by decide +kernel
theorem s87_133 (K : aK) : am_Snd K 87 133 := sn_iload_n i87_133 d87_133 rfl
theorem i87_134 : am_ins 87 134 = (4, 2, 0, 0, []) := by decide +kernel
theorem d87_134 : decode (am_cod 87) 134 = .ok (.imul, 1) := by decide +kernel
theorem s87_134 (K : aK) : am_Snd K 87 134 := sn_mul i87_134 d87_134 
theorem i87_135 : am_ins 87 135 = (0, 1, 0, 2, []) := by decide +kernel
theorem d87_135 : decode (am_cod 87) 135 = .ok (.iconst 2, 1) := by decide +kernel
theorem s87_135 (K : aK) : am_Snd K 87 135 := sn_const1 i87_135 d87_135 rfl
theorem i87_136 : am_ins 87 136 = (4, 0, 0, 0, []) := by decide +kernel
theorem d87_136 : decode (am_cod 87) 136 = .ok (.iadd, 1) := by decide +kernel
theorem s87_136 (K : aK) : am_Snd K 87 136 := sn_add i87_136 d87_136 
theorem i87_137 : am_ins 87 137 = (1, 7, 2, 0, []) := by decide +kernel
theorem d87_137 : decode (am_cod 87) 137 = .ok (.iload 7, 2) := by decide +kernel
theorem s87_137 (K : aK) : am_Snd K 87 137 := sn_iload i87_137 d87_137 
theorem i87_139 : am_ins 87 139 = (23, 0, 0, 0, []) := by decide +kernel
theorem d87_139 : decode (am_cod 87) 139 = .ok (.iastore, 1) := by decide +kernel
theorem s87_139 (K : aK) : am_Snd K 87 139 := sn_iast i87_139 d87_139 
theorem i87_140 : am_ins 87 140 = (53, 0, 0, 0, []) := by decide +kernel
theorem d87_140 : decode (am_cod 87) 140 = .ok (.return_, 1) := by decide +kernel
theorem s87_140 : am_SndR 87 140 := sn_vret i87_140 d87_140 rfl
theorem al87_0 (K : aK) : ∀ q ∈ [0, 1, 36, 37, 38, 39, 41, 44, 47, 48, 49, 51, 53, 56, 59, 60, 61, 63, 65, 68, 71, 72, 75, 78, 79, 80, 82, 83, 84, 85], am_All K 87 q := List.forall_mem_cons.mpr ⟨am_alS i87_0 (s87_0 K), List.forall_mem_cons.mpr ⟨am_alS i87_1 (s87_1 K), List.forall_mem_cons.mpr ⟨am_alS i87_36 (s87_36 K), List.forall_mem_cons.mpr ⟨am_alS i87_37 (s87_37 K), List.forall_mem_cons.mpr ⟨am_alS i87_38 (s87_38 K), List.forall_mem_cons.mpr ⟨am_alS i87_39 (s87_39 K), List.forall_mem_cons.mpr ⟨am_alC i87_41 (s87_41 K), List.forall_mem_cons.mpr ⟨am_alS i87_44 (s87_44 K), List.forall_mem_cons.mpr ⟨am_alS i87_47 (s87_47 K), List.forall_mem_cons.mpr ⟨am_alS i87_48 (s87_48 K), List.forall_mem_cons.mpr ⟨am_alS i87_49 (s87_49 K), List.forall_mem_cons.mpr ⟨am_alS i87_51 (s87_51 K), List.forall_mem_cons.mpr ⟨am_alC i87_53 (s87_53 K), List.forall_mem_cons.mpr ⟨am_alS i87_56 (s87_56 K), List.forall_mem_cons.mpr ⟨am_alS i87_59 (s87_59 K), List.forall_mem_cons.mpr ⟨am_alS i87_60 (s87_60 K), List.forall_mem_cons.mpr ⟨am_alS i87_61 (s87_61 K), List.forall_mem_cons.mpr ⟨am_alS i87_63 (s87_63 K), List.forall_mem_cons.mpr ⟨am_alC i87_65 (s87_65 K), List.forall_mem_cons.mpr ⟨am_alS i87_68 (s87_68 K), List.forall_mem_cons.mpr ⟨am_alS i87_71 (s87_71 K), List.forall_mem_cons.mpr ⟨am_alS i87_72 (s87_72 K), List.forall_mem_cons.mpr ⟨am_alS i87_75 (s87_75 K), List.forall_mem_cons.mpr ⟨am_alS i87_78 (s87_78 K), List.forall_mem_cons.mpr ⟨am_alS i87_79 (s87_79 K), List.forall_mem_cons.mpr ⟨am_alS i87_80 (s87_80 K), List.forall_mem_cons.mpr ⟨am_alS i87_82 (s87_82 K), List.forall_mem_cons.mpr ⟨am_alS i87_83 (s87_83 K), List.forall_mem_cons.mpr ⟨am_alS i87_84 (s87_84 K), List.forall_mem_cons.mpr ⟨am_alS i87_85 (s87_85 K), fun _ h => absurd h List.not_mem_nil⟩⟩⟩⟩⟩⟩⟩⟩⟩⟩⟩⟩⟩⟩⟩⟩⟩⟩⟩⟩⟩⟩⟩⟩⟩⟩⟩⟩⟩⟩
theorem al87_1 (K : aK) : ∀ q ∈ [88, 89, 92, 93, 94, 95, 96, 99, 100, 102, 103, 106, 107, 110, 111, 112, 113, 115, 116, 117, 120, 121, 122, 123, 124, 125, 127, 128, 129, 132], am_All K 87 q := List.forall_mem_cons.mpr ⟨am_alS i87_88 (s87_88 K), List.forall_mem_cons.mpr ⟨am_alS i87_89 (s87_89 K), List.forall_mem_cons.mpr ⟨am_alS i87_92 (s87_92 K), List.forall_mem_cons.mpr ⟨am_alS i87_93 (s87_93 K), List.forall_mem_cons.mpr ⟨am_alS i87_94 (s87_94 K), List.forall_mem_cons.mpr ⟨am_alS i87_95 (s87_95 K), List.forall_mem_cons.mpr ⟨am_alC i87_96 (s87_96 K), List.forall_mem_cons.mpr ⟨am_alS i87_99 (s87_99 K), List.forall_mem_cons.mpr ⟨am_alS i87_100 (s87_100 K), List.forall_mem_cons.mpr ⟨am_alS i87_102 (s87_102 K), List.forall_mem_cons.mpr ⟨am_alS i87_103 (s87_103 K), List.forall_mem_cons.mpr ⟨am_alS i87_106 (s87_106 K), List.forall_mem_cons.mpr ⟨am_alS i87_107 (s87_107 K), List.forall_mem_cons.mpr ⟨am_alS i87_110 (s87_110 K), List.forall_mem_cons.mpr ⟨am_alS i87_111 (s87_111 K), List.forall_mem_cons.mpr ⟨am_alS i87_112 (s87_112 K), List.forall_mem_cons.mpr ⟨am_alS i87_113 (s87_113 K), List.forall_mem_cons.mpr ⟨am_alS i87_115 (s87_115 K), List.forall_mem_cons.mpr ⟨am_alS i87_116 (s87_116 K), List.forall_mem_cons.mpr ⟨am_alS i87_117 (s87_117 K), List.forall_mem_cons.mpr ⟨am_alS i87_120 (s87_120 K), List.forall_mem_cons.mpr ⟨am_alS i87_121 (s87_121 K), List.forall_mem_cons.mpr ⟨am_alS i87_122 (s87_122 K), List.forall_mem_cons.mpr ⟨am_alS i87_123 (s87_123 K), List.forall_mem_cons.mpr ⟨am_alS i87_124 (s87_124 K), List.forall_mem_cons.mpr ⟨am_alS i87_125 (s87_125 K), List.forall_mem_cons.mpr ⟨am_alS i87_127 (s87_127 K), List.forall_mem_cons.mpr ⟨am_alS i87_128 (s87_128 K), List.forall_mem_cons.mpr ⟨am_alS i87_129 (s87_129 K), List.forall_mem_cons.mpr ⟨am_alS i87_132 (s87_132 K), fun _ h => absurd h List.not_mem_nil⟩⟩⟩⟩⟩⟩⟩⟩⟩⟩⟩⟩⟩⟩⟩⟩⟩⟩⟩⟩⟩⟩⟩⟩⟩⟩⟩⟩⟩⟩
theorem al87_2 (K : aK) : ∀ q ∈ [133, 134, 135, 136, 137, 139, 140], am_All K 87 q := List.forall_mem_cons.mpr ⟨am_alS i87_133 (s87_133 K), List.forall_mem_cons.mpr ⟨am_alS i87_134 (s87_134 K), List.forall_mem_cons.mpr ⟨am_alS i87_135 (s87_135 K), List.forall_mem_cons.mpr ⟨am_alS i87_136 (s87_136 K), List.forall_mem_cons.mpr ⟨am_alS i87_137 (s87_137 K), List.forall_mem_cons.mpr ⟨am_alS i87_139 (s87_139 K), List.forall_mem_cons.mpr ⟨am_alR i87_140 s87_140, fun _ h => absurd h List.not_mem_nil⟩⟩⟩⟩⟩⟩⟩
set_option maxRecDepth 100000 in
theorem al87 (K : aK) : ∀ q ∈ (am_t87).map (fun z => z.1), am_All K 87 q := by
  have e : (am_t87).map (fun z => z.1) = [0, 1, 36, 37, 38, 39, 41, 44, 47, 48, 49, 51, 53, 56, 59, 60, 61, 63, 65, 68, 71, 72, 75, 78, 79, 80, 82, 83, 84, 85] ++ ([88, 89, 92, 93, 94, 95, 96, 99, 100, 102, 103, 106, 107, 110, 111, 112, 113, 115, 116, 117, 120, 121, 122, 123, 124, 125, 127, 128, 129, 132] ++ ([133, 134, 135, 136, 137, 139, 140])) := rfl
  rw [e]
  exact List.forall_mem_append.mpr ⟨al87_0 K, List.forall_mem_append.mpr ⟨al87_1 K, al87_2 K⟩⟩
theorem i88_0 : am_ins 88 0 = (33, 0, 1, 0, []) := by decide +kernel
theorem d88_0 : decode (am_cod 88) 0 = .ok (.aload_n 0, 1) := by decide +kernel
theorem s88_0 (K : aK) : am_Snd K 88 0 := sn_aload_n i88_0 d88_0 rfl
theorem i88_1 : am_ins 88 1 = (18, 7, 10, 0, []) := by decide +kernel
theorem d88_1 : decode (am_cod 88) 1 = .ok (.getfield 38, 3) := by decide +kernel
theorem s88_1 (K : aK) : am_Snd K 88 1 := sn_get (C0 := CN7) (T := FT7) (Nf := 24) i88_1 d88_1 rfl (by decide +kernel) fin7 w_519 rfl
theorem i88_4 : am_ins 88 4 = (1, 1, 1, 0, []) := by decide +kernel
theorem d88_4 : decode (am_cod 88) 4 = .ok (.iload_n 1, 1) := by decide +kernel
theorem s88_4 (K : aK) : am_Snd K 88 4 := sn_iload_n i88_4 d88_4 rfl
theorem i88_5 : am_ins 88 5 = (22, 0, 0, 0, []) := by decide +kernel
theorem d88_5 : decode (am_cod 88) 5 = .ok (.iaload, 1) := by decide +kernel
theorem s88_5 (K : aK) : am_Snd K 88 5 := sn_iald i88_5 d88_5 
theorem i88_6 : am_ins 88 6 = (33, 0, 1, 0, []) := by decide +kernel
theorem d88_6 : decode (am_cod 88) 6 = .ok (.aload_n 0, 1) := by decide +kernel
theorem s88_6 (K : aK) : am_Snd K 88 6 := sn_aload_n i88_6 d88_6 rfl
theorem i88_7 : am_ins 88 7 = (18, 7, 3, 0, []) := by decide +kernel
theorem d88_7 : decode (am_cod 88) 7 = .ok (.getfield 16, 3) := by decide +kernel
theorem s88_7 (K : aK) : am_Snd K 88 7 := sn_get (C0 := CN7) (T := FT7) (Nf := 24) i88_7 d88_7 rfl (by decide +kernel) fin7 w_512 rfl
theorem i88_10 : am_ins 88 10 = (1, 3, 1, 0, []) := by decide +kernel
theorem d88_10 : decode (am_cod 88) 10 = .ok (.iload_n 3, 1) := by decide +kernel
theorem s88_10 (K : aK) : am_Snd K 88 10 := sn_iload_n i88_10 d88_10 rfl
theorem i88_11 : am_ins 88 11 = (22, 0, 0, 0, []) := by decide +kernel
theorem d88_11 : decode (am_cod 88) 11 = .ok (.iaload, 1) := by decide +kernel
theorem s88_11 (K : aK) : am_Snd K 88 11 := sn_iald i88_11 d88_11 
theorem i88_12 : am_ins 88 12 = (36, 0, 0, 0, []) := by decide +kernel
theorem d88_12 : decode (am_cod 88) 12 = .ok (.invokestatic 117, 3) := by decide +kernel
theorem s88_12 (K : aK) : am_Snd K 88 12 := sn_max i88_12 d88_12 w_594 w_184 w_7 w_185
theorem i88_15 : am_ins 88 15 = (2, 4, 2, 0, []) := by decide +kernel
theorem d88_15 : decode (am_cod 88) 15 = .ok (.istore 4, 2) := by decide +kernel
theorem s88_15 (K : aK) : am_Snd K 88 15 := sn_istore i88_15 d88_15 (by decide +kernel)
theorem i88_17 : am_ins 88 17 = (0, 1, 0, 0, []) := by decide +kernel
theorem d88_17 : decode (am_cod 88) 17 = .ok (.iconst 0, 1) := by decide +kernel
theorem s88_17 (K : aK) : am_Snd K 88 17 := sn_const1 i88_17 d88_17 rfl
theorem i88_18 : am_ins 88 18 = (2, 5, 2, 0, []) := by decide +kernel
theorem d88_18 : decode (am_cod 88) 18 = .ok (.istore 5, 2) := by decide +kernel
theorem s88_18 (K : aK) : am_Snd K 88 18 := sn_istore i88_18 d88_18 (by decide +kernel)
theorem i88_20 : am_ins 88 20 = (1, 5, 2, 0, []) := by decide +kernel
theorem d88_20 : decode (am_cod 88) 20 = .ok (.iload 5, 2) := by decide +kernel
theorem s88_20 (K : aK) : am_Snd K 88 20 := sn_iload i88_20 d88_20 
theorem i88_22 : am_ins 88 22 = (0, 1, 0, 3, []) := by decide +kernel
theorem d88_22 : decode (am_cod 88) 22 = .ok (.iconst 3, 1) := by decide +kernel
theorem s88_22 (K : aK) : am_Snd K 88 22 := sn_const1 i88_22 d88_22 rfl
theorem i88_23 : am_ins 88 23 = (13, 3, 50, 0, []) := by decide +kernel
theorem d88_23 : decode (am_cod 88) 23 = .ok (.if_icmp .ge 27, 3) := by decide +kernel
theorem s88_23 (K : aK) : am_Snd K 88 23 := sn_icmp_ge i88_23 d88_23 rfl
theorem i88_26 : am_ins 88 26 = (1, 4, 2, 0, []) := by decide +kernel
theorem d88_26 : decode (am_cod 88) 26 = .ok (.iload 4, 2) := by decide +kernel
theorem s88_26 (K : aK) : am_Snd K 88 26 := sn_iload i88_26 d88_26 
theorem i88_28 : am_ins 88 28 = (33, 0, 1, 0, []) := by decide +kernel
theorem d88_28 : decode (am_cod 88) 28 = .ok (.aload_n 0, 1) := by decide +kernel
theorem s88_28 (K : aK) : am_Snd K 88 28 := sn_aload_n i88_28 d88_28 rfl
theorem i88_29 : am_ins 88 29 = (18, 7, 2, 0, []) := by decide +kernel
theorem d88_29 : decode (am_cod 88) 29 = .ok (.getfield 13, 3) := by decide +kernel
theorem s88_29 (K : aK) : am_Snd K 88 29 := sn_get (C0 := CN7) (T := FT7) (Nf := 24) i88_29 d88_29 rfl (by decide +kernel) fin7 w_511 rfl
theorem i88_32 : am_ins 88 32 = (0, 1, 0, 3, []) := by decide +kernel
theorem d88_32 : decode (am_cod 88) 32 = .ok (.iconst 3, 1) := by decide +kernel
theorem s88_32 (K : aK) : am_Snd K 88 32 := sn_const1 i88_32 d88_32 rfl
theorem i88_33 : am_ins 88 33 = (1, 3, 1, 0, []) := by decide +kernel
theorem d88_33 : decode (am_cod 88) 33 = .ok (.iload_n 3, 1) := by decide +kernel
theorem s88_33 (K : aK) : am_Snd K 88 33 := sn_iload_n i88_33 d88_33 rfl
theorem i88_34 : am_ins 88 34 = (4, 2, 0, 0, []) := by decide +kernel
theorem d88_34 : decode (am_cod 88) 34 = .ok (.imul, 1) := by decide +kernel
theorem s88_34 (K : aK) : am_Snd K 88 34 := sn_mul i88_34 d88_34 
theorem i88_35 : am_ins 88 35 = (1, 5, 2, 0, []) := by decide +kernel
theorem d88_35 : decode (am_cod 88) 35 = .ok (.iload 5, 2) := by decide +kernel
theorem s88_35 (K : aK) : am_Snd K 88 35 := sn_iload i88_35 d88_35 
theorem i88_37 : am_ins 88 37 = (4, 0, 0, 0, []) := by decide +kernel
theorem d88_37 : decode (am_cod 88) 37 = .ok (.iadd, 1) := by decide +kernel
theorem s88_37 (K : aK) : am_Snd K 88 37 := sn_add i88_37 d88_37 
theorem i88_38 : am_ins 88 38 = (22, 0, 0, 0, []) := by decide +kernel
theorem d88_38 : decode (am_cod 88) 38 = .ok (.iaload, 1) := by decide +kernel
theorem s88_38 (K : aK) : am_Snd K 88 38 := sn_iald i88_38 d88_38 
theorem i88_39 : am_ins 88 39 = (36, 0, 0, 0, []) := by decide +kernel
theorem d88_39 : decode (am_cod 88) 39 = .ok (.invokestatic 117, 3) := by decide +kernel
theorem s88_39 (K : aK) : am_Snd K 88 39 := sn_max i88_39 d88_39 w_594 w_184 w_7 w_185
theorem i88_42 : am_ins 88 42 = (2, 4, 2, 0, []) := by decide +kernel
theorem d88_42 : decode (am_cod 88) 42 = .ok (.istore 4, 2) := by decide +kernel
theorem s88_42 (K : aK) : am_Snd K 88 42 := sn_istore i88_42 d88_42 (by decide +kernel)
theorem i88_44 : am_ins 88 44 = (3, 5, 3, 1, []) := by decide +kernel
theorem d88_44 : decode (am_cod 88) 44 = .ok (.iinc 5 1, 3) := by decide +kernel
theorem s88_44 (K : aK) : am_Snd K 88 44 := sn_iinc i88_44 d88_44 rfl (by decide +kernel)
theorem i88_47 : am_ins 88 47 = (14, 20, 0, 0, []) := by decide +kernel
theorem d88_47 : decode (am_cod 88) 47 = .ok (.goto (-27), 3) := by decide +kernel
theorem s88_47 (K : aK) : am_Snd K 88 47 := sn_goto i88_47 d88_47 rfl
theorem i88_50 : am_ins 88 50 = (33, 0, 1, 0, []) := by decide +kernel
theorem d88_50 : decode (am_cod 88) 50 = .ok (.aload_n 0, 1) := by decide +kernel
theorem s88_50 (K : aK) : am_Snd K 88 50 := sn_aload_n i88_50 d88_50 rfl
theorem i88_51 : am_ins 88 51 = (18, 7, 10, 0, []) := by decide +kernel
theorem d88_51 : decode (am_cod 88) 51 = .ok (.getfield 38, 3) := by decide +kernel
theorem s88_51 (K : aK) : am_Snd K 88 51 := sn_get (C0 := CN7) (T := FT7) (Nf := 24) i88_51 d88_51 rfl (by decide +kernel) fin7 w_519 rfl
theorem i88_54 : am_ins 88 54 = (1, 1, 1, 0, []) := by decide +kernel
theorem d88_54 : decode (am_cod 88) 54 = .ok (.iload_n 1, 1) := by decide +kernel
theorem s88_54 (K : aK) : am_Snd K 88 54 := sn_iload_n i88_54 d88_54 rfl
theorem i88_55 : am_ins 88 55 = (1, 4, 2, 0, []) := by decide +kernel
theorem d88_55 : decode (am_cod 88) 55 = .ok (.iload 4, 2) := by decide +kernel
theorem s88_55 (K : aK) : am_Snd K 88 55 := sn_iload i88_55 d88_55 
theorem i88_57 : am_ins 88 57 = (0, 1, 0, 1, []) := by decide +kernel
theorem d88_57 : decode (am_cod 88) 57 = .ok (.iconst 1, 1) := by decide +kernel
theorem s88_57 (K : aK) : am_Snd K 88 57 := sn_const1 i88_57 d88_57 rfl
theorem i88_58 : am_ins 88 58 = (4, 0, 0, 0, []) := by decide +kernel
theorem d88_58 : decode (am_cod 88) 58 = .ok (.iadd, 1) := by decide +kernel
theorem s88_58 (K : aK) : am_Snd K 88 58 := sn_add i88_58 d88_58 
theorem i88_59 : am_ins 88 59 = (23, 0, 0, 0, []) := by decide +kernel
theorem d88_59 : decode (am_cod 88) 59 = .ok (.iastore, 1) := by decide +kernel
theorem s88_59 (K : aK) : am_Snd K 88 59 := sn_iast i88_59 d88_59 
theorem i88_60 : am_ins 88 60 = (33, 0, 1, 0, []) := by decide +kernel
theorem d88_60 : decode (am_cod 88) 60 = .ok (.aload_n 0, 1) := by decide +kernel
theorem s88_60 (K : aK) : am_Snd K 88 60 := sn_aload_n i88_60 d88_60 rfl
theorem i88_61 : am_ins 88 61 = (18, 7, 11, 0, []) := by decide +kernel
theorem d88_61 : decode (am_cod 88) 61 = .ok (.getfield 41, 3) := by decide +kernel
theorem s88_61 (K : aK) : am_Snd K 88 61 := sn_get (C0 := CN7) (T := FT7) (Nf := 24) i88_61 d88_61 rfl (by decide +kernel) fin7 w_520 rfl
theorem i88_64 : am_ins 88 64 = (0, 3, 0, 200, []) := by decide +kernel
theorem d88_64 : decode (am_cod 88) 64 = .ok (.sipush 200, 3) := by decide +kernel
theorem s88_64 (K : aK) : am_Snd K 88 64 := sn_const3 i88_64 d88_64 (by decide +kernel)
theorem i88_67 : am_ins 88 67 = (1, 1, 1, 0, []) := by decide +kernel
theorem d88_67 : decode (am_cod 88) 67 = .ok (.iload_n 1, 1) := by decide +kernel
theorem s88_67 (K : aK) : am_Snd K 88 67 := sn_iload_n i88_67 d88_67 rfl
theorem i88_68 : am_ins 88 68 = (4, 2, 0, 0, []) := by decide +kernel
theorem d88_68 : decode (am_cod 88) 68 = .ok (.imul, 1) := by decide +kernel
theorem s88_68 (K : aK) : am_Snd K 88 68 := sn_mul i88_68 d88_68 
theorem i88_69 : am_ins 88 69 = (1, 3, 1, 0, []) := by decide +kernel
theorem d88_69 : decode (am_cod 88) 69 = .ok (.iload_n 3, 1) := by decide +kernel
theorem s88_69 (K : aK) : am_Snd K 88 69 := sn_iload_n i88_69 d88_69 rfl
theorem i88_70 : am_ins 88 70 = (4, 0, 0, 0, []) := by decide +kernel
theorem d88_70 : decode (am_cod 88) 70 = .ok (.iadd, 1) := by decide +kernel
theorem s88_70 (K : aK) : am_Snd K 88 70 := sn_add i88_70 d88_70 
theorem i88_71 : am_ins 88 71 = (0, 1, 0, 1, []) := by decide +kernel
theorem d88_71 : decode (am_cod 88) 71 = .ok (.iconst 1, 1) := by decide +kernel
theorem s88_71 (K : aK) : am_Snd K 88 71 := sn_const1 i88_71 d88_71 rfl
theorem i88_72 : am_ins 88 72 = (23, 0, 0, 0, []) := by decide +kernel
theorem d88_72 : decode (am_cod 88) 72 = .ok (.iastore, 1) := by decide +kernel
theorem s88_72 (K : aK) : am_Snd K 88 72 := sn_iast i88_72 d88_72 
theorem i88_73 : am_ins 88 73 = (33, 0, 1, 0, []) := by decide +kernel
theorem d88_73 : decode (am_cod 88) 73 = .ok (.aload_n 0, 1) := by decide +kernel
theorem s88_73 (K : aK) : am_Snd K 88 73 := sn_aload_n i88_73 d88_73 rfl
theorem i88_74 : am_ins 88 74 = (18, 7, 12, 0, []) := by decide +kernel
theorem d88_74 : decode (am_cod 88) 74 = .ok (.getfield 44, 3) := by decide +kernel
theorem s88_74 (K : aK) : am_Snd K 88 74 := sn_get (C0 := CN7) (T := FT7) (Nf := 24) i88_74 d88_74 rfl (by decide +kernel) fin7 w_521 rfl
theorem i88_77 : am_ins 88 77 = (0, 3, 0, 200, []) := by decide +kernel
theorem d88_77 : decode (am_cod 88) 77 = .ok (.sipush 200, 3) := by decide +kernel
theorem s88_77 (K : aK) : am_Snd K 88 77 := sn_const3 i88_77 d88_77 (by decide +kernel)
theorem i88_80 : am_ins 88 80 = (1, 1, 1, 0, []) := by decide +kernel
theorem d88_80 : decode (am_cod 88) 80 = .ok (.iload_n 1, 1) := by decide +kernel
theorem s88_80 (K : aK) : am_Snd K 88 80 := sn_iload_n i88_80 d88_80 rfl
theorem i88_81 : am_ins 88 81 = (4, 2, 0, 0, []) := by decide +kernel
theorem d88_81 : decode (am_cod 88) 81 = .ok (.imul, 1) := by decide +kernel
theorem s88_81 (K : aK) : am_Snd K 88 81 := sn_mul i88_81 d88_81 
theorem i88_82 : am_ins 88 82 = (1, 3, 1, 0, []) := by decide +kernel
theorem d88_82 : decode (am_cod 88) 82 = .ok (.iload_n 3, 1) := by decide +kernel
theorem s88_82 (K : aK) : am_Snd K 88 82 := sn_iload_n i88_82 d88_82 rfl
theorem i88_83 : am_ins 88 83 = (4, 0, 0, 0, []) := by decide +kernel
theorem d88_83 : decode (am_cod 88) 83 = .ok (.iadd, 1) := by decide +kernel
theorem s88_83 (K : aK) : am_Snd K 88 83 := sn_add i88_83 d88_83 
theorem i88_84 : am_ins 88 84 = (1, 4, 2, 0, []) := by decide +kernel
theorem d88_84 : decode (am_cod 88) 84 = .ok (.iload 4, 2) := by decide +kernel
theorem s88_84 (K : aK) : am_Snd K 88 84 := sn_iload i88_84 d88_84 
theorem i88_86 : am_ins 88 86 = (0, 1, 0, 1, []) := by decide +kernel
theorem d88_86 : decode (am_cod 88) 86 = .ok (.iconst 1, 1) := by decide +kernel
theorem s88_86 (K : aK) : am_Snd K 88 86 := sn_const1 i88_86 d88_86 rfl
theorem i88_87 : am_ins 88 87 = (4, 0, 0, 0, []) := by decide +kernel
theorem d88_87 : decode (am_cod 88) 87 = .ok (.iadd, 1) := by decide +kernel
theorem s88_87 (K : aK) : am_Snd K 88 87 := sn_add i88_87 d88_87 
theorem i88_88 : am_ins 88 88 = (23, 0, 0, 0, []) := by decide +kernel
theorem d88_88 : decode (am_cod 88) 88 = .ok (.iastore, 1) := by decide +kernel
theorem s88_88 (K : aK) : am_Snd K 88 88 := sn_iast i88_88 d88_88 
theorem i88_89 : am_ins 88 89 = (33, 0, 1, 0, []) := by decide +kernel
theorem d88_89 : decode (am_cod 88) 89 = .ok (.aload_n 0, 1) := by decide +kernel
theorem s88_89 (K : aK) : am_Snd K 88 89 := sn_aload_n i88_89 d88_89 rfl
theorem i88_90 : am_ins 88 90 = (1, 1, 1, 0, []) := by decide +kernel
theorem d88_90 : decode (am_cod 88) 90 = .ok (.iload_n 1, 1) := by decide +kernel
theorem s88_90 (K : aK) : am_Snd K 88 90 := sn_iload_n i88_90 d88_90 rfl
theorem i88_91 : am_ins 88 91 = (1, 2, 1, 0, []) := by decide +kernel
theorem d88_91 : decode (am_cod 88) 91 = .ok (.iload_n 2, 1) := by decide +kernel
theorem s88_91 (K : aK) : am_Snd K 88 91 := sn_iload_n i88_91 d88_91 rfl
theorem i88_92 : am_ins 88 92 = (0, 1, 0, 2, []) := by decide +kernel
theorem d88_92 : decode (am_cod 88) 92 = .ok (.iconst 2, 1) := by decide +kernel
theorem s88_92 (K : aK) : am_Snd K 88 92 := sn_const1 i88_92 d88_92 rfl
theorem i88_93 : am_ins 88 93 = (1, 3, 1, 0, []) := by decide +kernel
theorem d88_93 : decode (am_cod 88) 93 = .ok (.iload_n 3, 1) := by decide +kernel
theorem s88_93 (K : aK) : am_Snd K 88 93 := sn_iload_n i88_93 d88_93 rfl
theorem i88_94 : am_ins 88 94 = (1, 4, 2, 0, []) := by decide +kernel
theorem d88_94 : decode (am_cod 88) 94 = .ok (.iload 4, 2) := by decide +kernel
theorem s88_94 (K : aK) : am_Snd K 88 94 := sn_iload i88_94 d88_94 
theorem i88_96 : am_ins 88 96 = (0, 1, 0, 1, []) := by decide +kernel
theorem d88_96 : decode (am_cod 88) 96 = .ok (.iconst 1, 1) := by decide +kernel
theorem s88_96 (K : aK) : am_Snd K 88 96 := sn_const1 i88_96 d88_96 rfl
theorem i88_97 : am_ins 88 97 = (4, 0, 0, 0, []) := by decide +kernel
theorem d88_97 : decode (am_cod 88) 97 = .ok (.iadd, 1) := by decide +kernel
theorem s88_97 (K : aK) : am_Snd K 88 97 := sn_add i88_97 d88_97 
theorem i88_98 : am_ins 88 98 = (0, 1, 0, 0, []) := by decide +kernel
theorem d88_98 : decode (am_cod 88) 98 = .ok (.iconst 0, 1) := by decide +kernel
theorem s88_98 (K : aK) : am_Snd K 88 98 := sn_const1 i88_98 d88_98 rfl
theorem i88_99 : am_ins 88 99 = (0, 1, 0, 0, []) := by decide +kernel
theorem d88_99 : decode (am_cod 88) 99 = .ok (.iconst 0, 1) := by decide +kernel
theorem s88_99 (K : aK) : am_Snd K 88 99 := sn_const1 i88_99 d88_99 rfl
theorem i88_100 : am_ins 88 100 = (60, 85, 7, 0, []) := by decide +kernel
theorem d88_100 : decode (am_cod 88) 100 = .ok (.invokevirtual 122, 3) := by decide +kernel
theorem s88_100 (K : aK) : am_SndC K 88 100 := sc_V i88_100 d88_100 co85 w_645 w_647 ws_20 w_6 rfl (rr := (CN7, FT7, 24)) rfl rfl hd85
theorem i88_103 : am_ins 88 103 = (53, 0, 0, 0, []) := by decide +kernel
theorem d88_103 : decode (am_cod 88) 103 = .ok (.return_, 1) := by decide +kernel
theorem s88_103 : am_SndR 88 103 := sn_vret i88_103 d88_103 rfl
theorem al88_0 (K : aK) : ∀ q ∈ [0, 1, 4, 5, 6, 7, 10, 11, 12, 15, 17, 18, 20, 22, 23, 26, 28, 29, 32, 33, 34, 35, 37, 38, 39, 42, 44, 47, 50, 51], am_All K 88 q := List.forall_mem_cons.mpr ⟨am_alS i88_0 (s88_0 K), List.forall_mem_cons.mpr ⟨am_alS i88_1 (s88_1 K), List.forall_mem_cons.mpr ⟨am_alS i88_4 (s88_4 K), List.forall_mem_cons.mpr ⟨am_alS i88_5 (s88_5 K), List.forall_mem_cons.mpr ⟨am_alS i88_6 (s88_6 K), List.forall_mem_cons.mpr ⟨am_alS i88_7 (s88_7 K), List.forall_mem_cons.mpr ⟨am_alS i88_10 (s88_10 K), List.forall_mem_cons.mpr ⟨am_alS i88_11 (s88_11 K), List.forall_mem_cons.mpr ⟨am_alS i88_12 (s88_12 K), List.forall_mem_cons.mpr ⟨am_alS i88_15 (s88_15 K), List.forall_mem_cons.mpr ⟨am_alS i88_17 (s88_17 K), List.forall_mem_cons.mpr ⟨am_alS i88_18 (s88_18 K), List.forall_mem_cons.mpr ⟨am_alS i88_20 (s88_20 K), List.forall_mem_cons.mpr ⟨am_alS i88_22 (s88_22 K), List.forall_mem_cons.mpr ⟨am_alS i88_23 (s88_23 K), List.forall_mem_cons.mpr ⟨am_alS i88_26 (s88_26 K), List.forall_mem_cons.mpr ⟨am_alS i88_28 (s88_28 K), List.forall_mem_cons.mpr ⟨am_alS i88_29 (s88_29 K), List.forall_mem_cons.mpr ⟨am_alS i88_32 (s88_32 K), List.forall_mem_cons.mpr ⟨am_alS i88_33 (s88_33 K), List.forall_mem_cons.mpr ⟨am_alS i88_34 (s88_34 K), List.forall_mem_cons.mpr ⟨am_alS i88_35 (s88_35 K), List.forall_mem_cons.mpr ⟨am_alS i88_37 (s88_37 K), List.forall_mem_cons.mpr ⟨am_alS i88_38 (s88_38 K), List.forall_mem_cons.mpr ⟨am_alS i88_39 (s88_39 K), List.forall_mem_cons.mpr ⟨am_alS i88_42 (s88_42 K), List.forall_mem_cons.mpr ⟨am_alS i88_44 (s88_44 K), List.forall_mem_cons.mpr ⟨am_alS i88_47 (s88_47 K), List.forall_mem_cons.mpr ⟨am_alS i88_50 (s88_50 K), List.forall_mem_cons.mpr ⟨am_alS i88_51 (s88_51 K), fun _ h => absurd h List.not_mem_nil⟩⟩⟩⟩⟩⟩⟩⟩⟩⟩⟩⟩⟩⟩⟩⟩⟩⟩⟩⟩⟩⟩⟩⟩⟩⟩⟩⟩⟩⟩
theorem al88_1 (K : aK) : ∀ q ∈ [54, 55, 57, 58, 59, 60, 61, 64, 67, 68, 69, 70, 71, 72, 73, 74, 77, 80, 81, 82, 83, 84, 86, 87, 88, 89, 90, 91, 92, 93], am_All K 88 q := List.forall_mem_cons.mpr ⟨am_alS i88_54 (s88_54 K), List.forall_mem_cons.mpr ⟨am_alS i88_55 (s88_55 K), List.forall_mem_cons.mpr ⟨am_alS i88_57 (s88_57 K), List.forall_mem_cons.mpr ⟨am_alS i88_58 (s88_58 K), List.forall_mem_cons.mpr ⟨am_alS i88_59 (s88_59 K), List.forall_mem_cons.mpr ⟨am_alS i88_60 (s88_60 K), List.forall_mem_cons.mpr ⟨am_alS i88_61 (s88_61 K), List.forall_mem_cons.mpr ⟨am_alS i88_64 (s88_64 K), List.forall_mem_cons.mpr ⟨am_alS i88_67 (s88_67 K), List.forall_mem_cons.mpr ⟨am_alS i88_68 (s88_68 K), List.forall_mem_cons.mpr ⟨am_alS i88_69 (s88_69 K), List.forall_mem_cons.mpr ⟨am_alS i88_70 (s88_70 K), List.forall_mem_cons.mpr ⟨am_alS i88_71 (s88_71 K), List.forall_mem_cons.mpr ⟨am_alS i88_72 (s88_72 K), List.forall_mem_cons.mpr ⟨am_alS i88_73 (s88_73 K), List.forall_mem_cons.mpr ⟨am_alS i88_74 (s88_74 K), List.forall_mem_cons.mpr ⟨am_alS i88_77 (s88_77 K), List.forall_mem_cons.mpr ⟨am_alS i88_80 (s88_80 K), List.forall_mem_cons.mpr ⟨am_alS i88_81 (s88_81 K), List.forall_mem_cons.mpr ⟨am_alS i88_82 (s88_82 K), List.forall_mem_cons.mpr ⟨am_alS i88_83 (s88_83 K), List.forall_mem_cons.mpr ⟨am_alS i88_84 (s88_84 K), List.forall_mem_cons.mpr ⟨am_alS i88_86 (s88_86 K), List.forall_mem_cons.mpr ⟨am_alS i88_87 (s88_87 K), List.forall_mem_cons.mpr ⟨am_alS i88_88 (s88_88 K), List.forall_mem_cons.mpr ⟨am_alS i88_89 (s88_89 K), List.forall_mem_cons.mpr ⟨am_alS i88_90 (s88_90 K), List.forall_mem_cons.mpr ⟨am_alS i88_91 (s88_91 K), List.forall_mem_cons.mpr ⟨am_alS i88_92 (s88_92 K), List.forall_mem_cons.mpr ⟨am_alS i88_93 (s88_93 K), fun _ h => absurd h List.not_mem_nil⟩⟩⟩⟩⟩⟩⟩⟩⟩⟩⟩⟩⟩⟩⟩⟩⟩⟩⟩⟩⟩⟩⟩⟩⟩⟩⟩⟩⟩⟩
theorem al88_2 (K : aK) : ∀ q ∈ [94, 96, 97, 98, 99, 100, 103], am_All K 88 q := List.forall_mem_cons.mpr ⟨am_alS i88_94 (s88_94 K), List.forall_mem_cons.mpr ⟨am_alS i88_96 (s88_96 K), List.forall_mem_cons.mpr ⟨am_alS i88_97 (s88_97 K), List.forall_mem_cons.mpr ⟨am_alS i88_98 (s88_98 K), List.forall_mem_cons.mpr ⟨am_alS i88_99 (s88_99 K), List.forall_mem_cons.mpr ⟨am_alC i88_100 (s88_100 K), List.forall_mem_cons.mpr ⟨am_alR i88_103 s88_103, fun _ h => absurd h List.not_mem_nil⟩⟩⟩⟩⟩⟩⟩
set_option maxRecDepth 100000 in
theorem al88 (K : aK) : ∀ q ∈ (am_t88).map (fun z => z.1), am_All K 88 q := by
  have e : (am_t88).map (fun z => z.1) = [0, 1, 4, 5, 6, 7, 10, 11, 12, 15, 17, 18, 20, 22, 23, 26, 28, 29, 32, 33, 34, 35, 37, 38, 39, 42, 44, 47, 50, 51] ++ ([54, 55, 57, 58, 59, 60, 61, 64, 67, 68, 69, 70, 71, 72, 73, 74, 77, 80, 81, 82, 83, 84, 86, 87, 88, 89, 90, 91, 92, 93] ++ ([94, 96, 97, 98, 99, 100, 103])) := rfl
  rw [e]
  exact List.forall_mem_append.mpr ⟨al88_0 K, List.forall_mem_append.mpr ⟨al88_1 K, al88_2 K⟩⟩
theorem i89_0 : am_ins 89 0 = (33, 0, 1, 0, []) := by decide +kernel
theorem d89_0 : decode (am_cod 89) 0 = .ok (.aload_n 0, 1) := by decide +kernel
theorem s89_0 (K : aK) : am_Snd K 89 0 := sn_aload_n i89_0 d89_0 rfl
theorem i89_1 : am_ins 89 1 = (18, 7, 7, 0, []) := by decide +kernel
theorem d89_1 : decode (am_cod 89) 1 = .ok (.getfield 28, 3) := by decide +kernel
theorem s89_1 (K : aK) : am_Snd K 89 1 := sn_get (C0 := CN7) (T := FT7) (Nf := 24) i89_1 d89_1 rfl (by decide +kernel) fin7 w_516 rfl
theorem i89_4 : am_ins 89 4 = (1, 2, 1, 0, []) := by decide +kernel
theorem d89_4 : decode (am_cod 89) 4 = .ok (.iload_n 2, 1) := by decide +kernel
theorem s89_4 (K : aK) : am_Snd K 89 4 := sn_iload_n i89_4 d89_4 rfl
theorem i89_5 : am_ins 89 5 = (33, 0, 1, 0, []) := by decide +kernel
theorem d89_5 : decode (am_cod 89) 5 = .ok (.aload_n 0, 1) := by decide +kernel
theorem s89_5 (K : aK) : am_Snd K 89 5 := sn_aload_n i89_5 d89_5 rfl
theorem i89_6 : am_ins 89 6 = (18, 7, 7, 0, []) := by decide +kernel
theorem d89_6 : decode (am_cod 89) 6 = .ok (.getfield 28, 3) := by decide +kernel
theorem s89_6 (K : aK) : am_Snd K 89 6 := sn_get (C0 := CN7) (T := FT7) (Nf := 24) i89_6 d89_6 rfl (by decide +kernel) fin7 w_516 rfl
theorem i89_9 : am_ins 89 9 = (1, 2, 1, 0, []) := by decide +kernel
theorem d89_9 : decode (am_cod 89) 9 = .ok (.iload_n 2, 1) := by decide +kernel
theorem s89_9 (K : aK) : am_Snd K 89 9 := sn_iload_n i89_9 d89_9 rfl
theorem i89_10 : am_ins 89 10 = (22, 0, 0, 0, []) := by decide +kernel
theorem d89_10 : decode (am_cod 89) 10 = .ok (.iaload, 1) := by decide +kernel
theorem s89_10 (K : aK) : am_Snd K 89 10 := sn_iald i89_10 d89_10 
theorem i89_11 : am_ins 89 11 = (1, 3, 1, 0, []) := by decide +kernel
theorem d89_11 : decode (am_cod 89) 11 = .ok (.iload_n 3, 1) := by decide +kernel
theorem s89_11 (K : aK) : am_Snd K 89 11 := sn_iload_n i89_11 d89_11 rfl
theorem i89_12 : am_ins 89 12 = (36, 0, 0, 0, []) := by decide +kernel
theorem d89_12 : decode (am_cod 89) 12 = .ok (.invokestatic 117, 3) := by decide +kernel
theorem s89_12 (K : aK) : am_Snd K 89 12 := sn_max i89_12 d89_12 w_594 w_184 w_7 w_185
theorem i89_15 : am_ins 89 15 = (23, 0, 0, 0, []) := by decide +kernel
theorem d89_15 : decode (am_cod 89) 15 = .ok (.iastore, 1) := by decide +kernel
theorem s89_15 (K : aK) : am_Snd K 89 15 := sn_iast i89_15 d89_15 
theorem i89_16 : am_ins 89 16 = (33, 0, 1, 0, []) := by decide +kernel
theorem d89_16 : decode (am_cod 89) 16 = .ok (.aload_n 0, 1) := by decide +kernel
theorem s89_16 (K : aK) : am_Snd K 89 16 := sn_aload_n i89_16 d89_16 rfl
theorem i89_17 : am_ins 89 17 = (18, 7, 6, 0, []) := by decide +kernel
theorem d89_17 : decode (am_cod 89) 17 = .ok (.getfield 25, 3) := by decide +kernel
theorem s89_17 (K : aK) : am_Snd K 89 17 := sn_get (C0 := CN7) (T := FT7) (Nf := 24) i89_17 d89_17 rfl (by decide +kernel) fin7 w_515 rfl
theorem i89_20 : am_ins 89 20 = (1, 2, 1, 0, []) := by decide +kernel
theorem d89_20 : decode (am_cod 89) 20 = .ok (.iload_n 2, 1) := by decide +kernel
theorem s89_20 (K : aK) : am_Snd K 89 20 := sn_iload_n i89_20 d89_20 rfl
theorem i89_21 : am_ins 89 21 = (10, 0, 0, 0, []) := by decide +kernel
theorem d89_21 : decode (am_cod 89) 21 = .ok (.dup2, 1) := by decide +kernel
theorem s89_21 (K : aK) : am_Snd K 89 21 := sn_dup2 i89_21 d89_21 
theorem i89_22 : am_ins 89 22 = (22, 0, 0, 0, []) := by decide +kernel
theorem d89_22 : decode (am_cod 89) 22 = .ok (.iaload, 1) := by decide +kernel
theorem s89_22 (K : aK) : am_Snd K 89 22 := sn_iald i89_22 d89_22 
theorem i89_23 : am_ins 89 23 = (0, 1, 0, 1, []) := by decide +kernel
theorem d89_23 : decode (am_cod 89) 23 = .ok (.iconst 1, 1) := by decide +kernel
theorem s89_23 (K : aK) : am_Snd K 89 23 := sn_const1 i89_23 d89_23 rfl
theorem i89_24 : am_ins 89 24 = (4, 1, 0, 0, []) := by decide +kernel
theorem d89_24 : decode (am_cod 89) 24 = .ok (.isub, 1) := by decide +kernel
theorem s89_24 (K : aK) : am_Snd K 89 24 := sn_sub i89_24 d89_24 
theorem i89_25 : am_ins 89 25 = (23, 0, 0, 0, []) := by decide +kernel
theorem d89_25 : decode (am_cod 89) 25 = .ok (.iastore, 1) := by decide +kernel
theorem s89_25 (K : aK) : am_Snd K 89 25 := sn_iast i89_25 d89_25 
theorem i89_26 : am_ins 89 26 = (33, 0, 1, 0, []) := by decide +kernel
theorem d89_26 : decode (am_cod 89) 26 = .ok (.aload_n 0, 1) := by decide +kernel
theorem s89_26 (K : aK) : am_Snd K 89 26 := sn_aload_n i89_26 d89_26 rfl
theorem i89_27 : am_ins 89 27 = (18, 7, 6, 0, []) := by decide +kernel
theorem d89_27 : decode (am_cod 89) 27 = .ok (.getfield 25, 3) := by decide +kernel
theorem s89_27 (K : aK) : am_Snd K 89 27 := sn_get (C0 := CN7) (T := FT7) (Nf := 24) i89_27 d89_27 rfl (by decide +kernel) fin7 w_515 rfl
theorem i89_30 : am_ins 89 30 = (1, 2, 1, 0, []) := by decide +kernel
theorem d89_30 : decode (am_cod 89) 30 = .ok (.iload_n 2, 1) := by decide +kernel
theorem s89_30 (K : aK) : am_Snd K 89 30 := sn_iload_n i89_30 d89_30 rfl
theorem i89_31 : am_ins 89 31 = (22, 0, 0, 0, []) := by decide +kernel
theorem d89_31 : decode (am_cod 89) 31 = .ok (.iaload, 1) := by decide +kernel
theorem s89_31 (K : aK) : am_Snd K 89 31 := sn_iald i89_31 d89_31 
theorem i89_32 : am_ins 89 32 = (12, 5, 36, 0, []) := by decide +kernel
theorem d89_32 : decode (am_cod 89) 32 = .ok (.ifCond .le 4, 3) := by decide +kernel
theorem s89_32 (K : aK) : am_Snd K 89 32 := sn_if_le i89_32 d89_32 rfl
theorem i89_35 : am_ins 89 35 = (53, 0, 0, 0, []) := by decide +kernel
theorem d89_35 : decode (am_cod 89) 35 = .ok (.return_, 1) := by decide +kernel
theorem s89_35 : am_SndR 89 35 := sn_vret i89_35 d89_35 rfl
theorem i89_36 : am_ins 89 36 = (33, 0, 1, 0, []) := by decide +kernel
theorem d89_36 : decode (am_cod 89) 36 = .ok (.aload_n 0, 1) := by decide +kernel
theorem s89_36 (K : aK) : am_Snd K 89 36 := sn_aload_n i89_36 d89_36 rfl
theorem i89_37 : am_ins 89 37 = (18, 7, 8, 0, []) := by decide +kernel
theorem d89_37 : decode (am_cod 89) 37 = .ok (.getfield 31, 3) := by decide +kernel
theorem s89_37 (K : aK) : am_Snd K 89 37 := sn_get (C0 := CN7) (T := FT7) (Nf := 24) i89_37 d89_37 rfl (by decide +kernel) fin7 w_517 rfl
theorem i89_40 : am_ins 89 40 = (1, 2, 1, 0, []) := by decide +kernel
theorem d89_40 : decode (am_cod 89) 40 = .ok (.iload_n 2, 1) := by decide +kernel
theorem s89_40 (K : aK) : am_Snd K 89 40 := sn_iload_n i89_40 d89_40 rfl
theorem i89_41 : am_ins 89 41 = (0, 1, 0, 1, []) := by decide +kernel
theorem d89_41 : decode (am_cod 89) 41 = .ok (.iconst 1, 1) := by decide +kernel
theorem s89_41 (K : aK) : am_Snd K 89 41 := sn_const1 i89_41 d89_41 rfl
theorem i89_42 : am_ins 89 42 = (25, 0, 0, 0, []) := by decide +kernel
theorem d89_42 : decode (am_cod 89) 42 = .ok (.bastore, 1) := by decide +kernel
theorem s89_42 (K : aK) : am_Snd K 89 42 := sn_zast i89_42 d89_42 
theorem i89_43 : am_ins 89 43 = (33, 0, 1, 0, []) := by decide +kernel
theorem d89_43 : decode (am_cod 89) 43 = .ok (.aload_n 0, 1) := by decide +kernel
theorem s89_43 (K : aK) : am_Snd K 89 43 := sn_aload_n i89_43 d89_43 rfl
theorem i89_44 : am_ins 89 44 = (18, 7, 9, 0, []) := by decide +kernel
theorem d89_44 : decode (am_cod 89) 44 = .ok (.getfield 35, 3) := by decide +kernel
theorem s89_44 (K : aK) : am_Snd K 89 44 := sn_get (C0 := CN7) (T := FT7) (Nf := 24) i89_44 d89_44 rfl (by decide +kernel) fin7 w_518 rfl
theorem i89_47 : am_ins 89 47 = (1, 2, 1, 0, []) := by decide +kernel
theorem d89_47 : decode (am_cod 89) 47 = .ok (.iload_n 2, 1) := by decide +kernel
theorem s89_47 (K : aK) : am_Snd K 89 47 := sn_iload_n i89_47 d89_47 rfl
theorem i89_48 : am_ins 89 48 = (33, 0, 1, 0, []) := by decide +kernel
theorem d89_48 : decode (am_cod 89) 48 = .ok (.aload_n 0, 1) := by decide +kernel
theorem s89_48 (K : aK) : am_Snd K 89 48 := sn_aload_n i89_48 d89_48 rfl
theorem i89_49 : am_ins 89 49 = (18, 7, 7, 0, []) := by decide +kernel
theorem d89_49 : decode (am_cod 89) 49 = .ok (.getfield 28, 3) := by decide +kernel
theorem s89_49 (K : aK) : am_Snd K 89 49 := sn_get (C0 := CN7) (T := FT7) (Nf := 24) i89_49 d89_49 rfl (by decide +kernel) fin7 w_516 rfl
theorem i89_52 : am_ins 89 52 = (1, 2, 1, 0, []) := by decide +kernel
theorem d89_52 : decode (am_cod 89) 52 = .ok (.iload_n 2, 1) := by decide +kernel
theorem s89_52 (K : aK) : am_Snd K 89 52 := sn_iload_n i89_52 d89_52 rfl
theorem i89_53 : am_ins 89 53 = (22, 0, 0, 0, []) := by decide +kernel
theorem d89_53 : decode (am_cod 89) 53 = .ok (.iaload, 1) := by decide +kernel
theorem s89_53 (K : aK) : am_Snd K 89 53 := sn_iald i89_53 d89_53 
theorem i89_54 : am_ins 89 54 = (23, 0, 0, 0, []) := by decide +kernel
theorem d89_54 : decode (am_cod 89) 54 = .ok (.iastore, 1) := by decide +kernel
theorem s89_54 (K : aK) : am_Snd K 89 54 := sn_iast i89_54 d89_54 
theorem i89_55 : am_ins 89 55 = (33, 0, 1, 0, []) := by decide +kernel
theorem d89_55 : decode (am_cod 89) 55 = .ok (.aload_n 0, 1) := by decide +kernel
theorem s89_55 (K : aK) : am_Snd K 89 55 := sn_aload_n i89_55 d89_55 rfl
theorem i89_56 : am_ins 89 56 = (18, 7, 1, 0, []) := by decide +kernel
theorem d89_56 : decode (am_cod 89) 56 = .ok (.getfield 9, 3) := by decide +kernel
theorem s89_56 (K : aK) : am_Snd K 89 56 := sn_get (C0 := CN7) (T := FT7) (Nf := 24) i89_56 d89_56 rfl (by decide +kernel) fin7 w_510 rfl
theorem i89_59 : am_ins 89 59 = (1, 2, 1, 0, []) := by decide +kernel
theorem d89_59 : decode (am_cod 89) 59 = .ok (.iload_n 2, 1) := by decide +kernel
theorem s89_59 (K : aK) : am_Snd K 89 59 := sn_iload_n i89_59 d89_59 rfl
theorem i89_60 : am_ins 89 60 = (22, 0, 0, 0, []) := by decide +kernel
theorem d89_60 : decode (am_cod 89) 60 = .ok (.iaload, 1) := by decide +kernel
theorem s89_60 (K : aK) : am_Snd K 89 60 := sn_iald i89_60 d89_60 
theorem i89_61 : am_ins 89 61 = (2, 4, 2, 0, []) := by decide +kernel
theorem d89_61 : decode (am_cod 89) 61 = .ok (.istore 4, 2) := by decide +kernel
theorem s89_61 (K : aK) : am_Snd K 89 61 := sn_istore i89_61 d89_61 (by decide +kernel)
theorem i89_63 : am_ins 89 63 = (33, 0, 1, 0, []) := by decide +kernel
theorem d89_63 : decode (am_cod 89) 63 = .ok (.aload_n 0, 1) := by decide +kernel
theorem s89_63 (K : aK) : am_Snd K 89 63 := sn_aload_n i89_63 d89_63 rfl
theorem i89_64 : am_ins 89 64 = (18, 7, 15, 0, []) := by decide +kernel
theorem d89_64 : decode (am_cod 89) 64 = .ok (.getfield 53, 3) := by decide +kernel
theorem s89_64 (K : aK) : am_Snd K 89 64 := sn_get (C0 := CN7) (T := FT7) (Nf := 24) i89_64 d89_64 rfl (by decide +kernel) fin7 w_524 rfl
theorem i89_67 : am_ins 89 67 = (1, 4, 2, 0, []) := by decide +kernel
theorem d89_67 : decode (am_cod 89) 67 = .ok (.iload 4, 2) := by decide +kernel
theorem s89_67 (K : aK) : am_Snd K 89 67 := sn_iload i89_67 d89_67 
theorem i89_69 : am_ins 89 69 = (0, 1, 0, 0, []) := by decide +kernel
theorem d89_69 : decode (am_cod 89) 69 = .ok (.iconst 0, 1) := by decide +kernel
theorem s89_69 (K : aK) : am_Snd K 89 69 := sn_const1 i89_69 d89_69 rfl
theorem i89_70 : am_ins 89 70 = (23, 0, 0, 0, []) := by decide +kernel
theorem d89_70 : decode (am_cod 89) 70 = .ok (.iastore, 1) := by decide +kernel
theorem s89_70 (K : aK) : am_Snd K 89 70 := sn_iast i89_70 d89_70 
theorem i89_71 : am_ins 89 71 = (33, 0, 1, 0, []) := by decide +kernel
theorem d89_71 : decode (am_cod 89) 71 = .ok (.aload_n 0, 1) := by decide +kernel
theorem s89_71 (K : aK) : am_Snd K 89 71 := sn_aload_n i89_71 d89_71 rfl
theorem i89_72 : am_ins 89 72 = (18, 7, 16, 0, []) := by decide +kernel
theorem d89_72 : decode (am_cod 89) 72 = .ok (.getfield 56, 3) := by decide +kernel
theorem s89_72 (K : aK) : am_Snd K 89 72 := sn_get (C0 := CN7) (T := FT7) (Nf := 24) i89_72 d89_72 rfl (by decide +kernel) fin7 w_525 rfl
theorem i89_75 : am_ins 89 75 = (1, 4, 2, 0, []) := by decide +kernel
theorem d89_75 : decode (am_cod 89) 75 = .ok (.iload 4, 2) := by decide +kernel
theorem s89_75 (K : aK) : am_Snd K 89 75 := sn_iload i89_75 d89_75 
theorem i89_77 : am_ins 89 77 = (33, 0, 1, 0, []) := by decide +kernel
theorem d89_77 : decode (am_cod 89) 77 = .ok (.aload_n 0, 1) := by decide +kernel
theorem s89_77 (K : aK) : am_Snd K 89 77 := sn_aload_n i89_77 d89_77 rfl
theorem i89_78 : am_ins 89 78 = (18, 7, 9, 0, []) := by decide +kernel
theorem d89_78 : decode (am_cod 89) 78 = .ok (.getfield 35, 3) := by decide +kernel
theorem s89_78 (K : aK) : am_Snd K 89 78 := sn_get (C0 := CN7) (T := FT7) (Nf := 24) i89_78 d89_78 rfl (by decide +kernel) fin7 w_518 rfl
theorem i89_81 : am_ins 89 81 = (1, 2, 1, 0, []) := by decide +kernel
theorem d89_81 : decode (am_cod 89) 81 = .ok (.iload_n 2, 1) := by decide +kernel
theorem s89_81 (K : aK) : am_Snd K 89 81 := sn_iload_n i89_81 d89_81 rfl
theorem i89_82 : am_ins 89 82 = (22, 0, 0, 0, []) := by decide +kernel
theorem d89_82 : decode (am_cod 89) 82 = .ok (.iaload, 1) := by decide +kernel
theorem s89_82 (K : aK) : am_Snd K 89 82 := sn_iald i89_82 d89_82 
theorem i89_83 : am_ins 89 83 = (23, 0, 0, 0, []) := by decide +kernel
theorem d89_83 : decode (am_cod 89) 83 = .ok (.iastore, 1) := by decide +kernel
theorem s89_83 (K : aK) : am_Snd K 89 83 := sn_iast i89_83 d89_83 
theorem i89_84 : am_ins 89 84 = (0, 1, 0, 0, []) := by decide +kernel
theorem d89_84 : decode (am_cod 89) 84 = .ok (.iconst 0, 1) := by decide +kernel
theorem s89_84 (K : aK) : am_Snd K 89 84 := sn_const1 i89_84 d89_84 rfl
theorem i89_85 : am_ins 89 85 = (2, 5, 2, 0, []) := by decide +kernel
theorem d89_85 : decode (am_cod 89) 85 = .ok (.istore 5, 2) := by decide +kernel
theorem s89_85 (K : aK) : am_Snd K 89 85 := sn_istore i89_85 d89_85 (by decide +kernel)
theorem i89_87 : am_ins 89 87 = (1, 5, 2, 0, []) := by decide +kernel
theorem d89_87 : decode (am_cod 89) 87 = .ok (.iload 5, 2) := by decide +kernel
theorem s89_87 (K : aK) : am_Snd K 89 87 := sn_iload i89_87 d89_87 
theorem i89_89 : am_ins 89 89 = (0, 2, 0, 8, []) := by decide +kernel
theorem d89_89 : decode (am_cod 89) 89 = .ok (.bipush 8, 2) := by decide +kernel
theorem s89_89 (K : aK) : am_Snd K 89 89 := sn_const2 i89_89 d89_89 (by decide +kernel)
theorem i89_91 : am_ins 89 91 = (13, 3, 124, 0, []) := by decide +kernel
theorem d89_91 : decode (am_cod 89) 91 = .ok (.if_icmp .ge 33, 3) := by decide +kernel
theorem s89_91 (K : aK) : am_Snd K 89 91 := sn_icmp_ge i89_91 d89_91 rfl
theorem i89_94 : am_ins 89 94 = (33, 0, 1, 0, []) := by decide +kernel
theorem d89_94 : decode (am_cod 89) 94 = .ok (.aload_n 0, 1) := by decide +kernel
theorem s89_94 (K : aK) : am_Snd K 89 94 := sn_aload_n i89_94 d89_94 rfl
theorem i89_95 : am_ins 89 95 = (1, 2, 1, 0, []) := by decide +kernel
theorem d89_95 : decode (am_cod 89) 95 = .ok (.iload_n 2, 1) := by decide +kernel
theorem s89_95 (K : aK) : am_Snd K 89 95 := sn_iload_n i89_95 d89_95 rfl
theorem i89_96 : am_ins 89 96 = (1, 5, 2, 0, []) := by decide +kernel
theorem d89_96 : decode (am_cod 89) 96 = .ok (.iload 5, 2) := by decide +kernel
theorem s89_96 (K : aK) : am_Snd K 89 96 := sn_iload i89_96 d89_96 
theorem i89_98 : am_ins 89 98 = (60, 79, 2, 0, []) := by decide +kernel
theorem d89_98 : decode (am_cod 89) 98 = .ok (.invokevirtual 92, 3) := by decide +kernel
theorem s89_98 (K : aK) : am_SndC K 89 98 := sc_V i89_98 d89_98 co79 w_618 w_620 ws_17 w_6 rfl (rr := (CN7, FT7, 24)) rfl rfl hd79
theorem i89_101 : am_ins 89 101 = (12, 0, 118, 0, []) := by decide +kernel
theorem d89_101 : decode (am_cod 89) 101 = .ok (.ifCond .eq 17, 3) := by decide +kernel
theorem s89_101 (K : aK) : am_Snd K 89 101 := sn_if_eq i89_101 d89_101 rfl
theorem i89_104 : am_ins 89 104 = (33, 0, 1, 0, []) := by decide +kernel
theorem d89_104 : decode (am_cod 89) 104 = .ok (.aload_n 0, 1) := by decide +kernel
theorem s89_104 (K : aK) : am_Snd K 89 104 := sn_aload_n i89_104 d89_104 rfl
theorem i89_105 : am_ins 89 105 = (18, 7, 18, 0, []) := by decide +kernel
theorem d89_105 : decode (am_cod 89) 105 = .ok (.getfield 62, 3) := by decide +kernel
theorem s89_105 (K : aK) : am_Snd K 89 105 := sn_get (C0 := CN7) (T := FT7) (Nf := 24) i89_105 d89_105 rfl (by decide +kernel) fin7 w_527 rfl
theorem i89_108 : am_ins 89 108 = (0, 2, 0, 8, []) := by decide +kernel
theorem d89_108 : decode (am_cod 89) 108 = .ok (.bipush 8, 2) := by decide +kernel
theorem s89_108 (K : aK) : am_Snd K 89 108 := sn_const2 i89_108 d89_108 (by decide +kernel)
theorem i89_110 : am_ins 89 110 = (1, 4, 2, 0, []) := by decide +kernel
theorem d89_110 : decode (am_cod 89) 110 = .ok (.iload 4, 2) := by decide +kernel
theorem s89_110 (K : aK) : am_Snd K 89 110 := sn_iload i89_110 d89_110 
theorem i89_112 : am_ins 89 112 = (4, 2, 0, 0, []) := by decide +kernel
theorem d89_112 : decode (am_cod 89) 112 = .ok (.imul, 1) := by decide +kernel
theorem s89_112 (K : aK) : am_Snd K 89 112 := sn_mul i89_112 d89_112 
theorem i89_113 : am_ins 89 113 = (1, 5, 2, 0, []) := by decide +kernel
theorem d89_113 : decode (am_cod 89) 113 = .ok (.iload 5, 2) := by decide +kernel
theorem s89_113 (K : aK) : am_Snd K 89 113 := sn_iload i89_113 d89_113 
theorem i89_115 : am_ins 89 115 = (4, 0, 0, 0, []) := by decide +kernel
theorem d89_115 : decode (am_cod 89) 115 = .ok (.iadd, 1) := by decide +kernel
theorem s89_115 (K : aK) : am_Snd K 89 115 := sn_add i89_115 d89_115 
theorem i89_116 : am_ins 89 116 = (1, 2, 1, 0, []) := by decide +kernel
theorem d89_116 : decode (am_cod 89) 116 = .ok (.iload_n 2, 1) := by decide +kernel
theorem s89_116 (K : aK) : am_Snd K 89 116 := sn_iload_n i89_116 d89_116 rfl
theorem i89_117 : am_ins 89 117 = (23, 0, 0, 0, []) := by decide +kernel
theorem d89_117 : decode (am_cod 89) 117 = .ok (.iastore, 1) := by decide +kernel
theorem s89_117 (K : aK) : am_Snd K 89 117 := sn_iast i89_117 d89_117 
theorem i89_118 : am_ins 89 118 = (3, 5, 3, 1, []) := by decide +kernel
theorem d89_118 : decode (am_cod 89) 118 = .ok (.iinc 5 1, 3) := by decide +kernel
theorem s89_118 (K : aK) : am_Snd K 89 118 := sn_iinc i89_118 d89_118 rfl (by decide +kernel)
theorem i89_121 : am_ins 89 121 = (14, 87, 0, 0, []) := by decide +kernel
theorem d89_121 : decode (am_cod 89) 121 = .ok (.goto (-34), 3) := by decide +kernel
theorem s89_121 (K : aK) : am_Snd K 89 121 := sn_goto i89_121 d89_121 rfl
theorem i89_124 : am_ins 89 124 = (1, 1, 1, 0, []) := by decide +kernel
theorem d89_124 : decode (am_cod 89) 124 = .ok (.iload_n 1, 1) := by decide +kernel
theorem s89_124 (K : aK) : am_Snd K 89 124 := sn_iload_n i89_124 d89_124 rfl
theorem i89_125 : am_ins 89 125 = (2, 5, 2, 0, []) := by decide +kernel
theorem d89_125 : decode (am_cod 89) 125 = .ok (.istore 5, 2) := by decide +kernel
theorem s89_125 (K : aK) : am_Snd K 89 125 := sn_istore i89_125 d89_125 (by decide +kernel)
theorem i89_127 : am_ins 89 127 = (1, 5, 2, 0, []) := by decide +kernel
theorem d89_127 : decode (am_cod 89) 127 = .ok (.iload 5, 2) := by decide +kernel
theorem s89_127 (K : aK) : am_Snd K 89 127 := sn_iload i89_127 d89_127 
theorem i89_129 : am_ins 89 129 = (1, 1, 1, 0, []) := by decide +kernel
theorem d89_129 : decode (am_cod 89) 129 = .ok (.iload_n 1, 1) := by decide +kernel
theorem s89_129 (K : aK) : am_Snd K 89 129 := sn_iload_n i89_129 d89_129 rfl
theorem i89_130 : am_ins 89 130 = (0, 1, 0, 2, []) := by decide +kernel
theorem d89_130 : decode (am_cod 89) 130 = .ok (.iconst 2, 1) := by decide +kernel
theorem s89_130 (K : aK) : am_Snd K 89 130 := sn_const1 i89_130 d89_130 rfl
theorem i89_131 : am_ins 89 131 = (4, 0, 0, 0, []) := by decide +kernel
theorem d89_131 : decode (am_cod 89) 131 = .ok (.iadd, 1) := by decide +kernel
theorem s89_131 (K : aK) : am_Snd K 89 131 := sn_add i89_131 d89_131 
theorem i89_132 : am_ins 89 132 = (13, 3, 168, 0, []) := by decide +kernel
theorem d89_132 : decode (am_cod 89) 132 = .ok (.if_icmp .ge 36, 3) := by decide +kernel
theorem s89_132 (K : aK) : am_Snd K 89 132 := sn_icmp_ge i89_132 d89_132 rfl
theorem i89_135 : am_ins 89 135 = (33, 0, 1, 0, []) := by decide +kernel
theorem d89_135 : decode (am_cod 89) 135 = .ok (.aload_n 0, 1) := by decide +kernel
theorem s89_135 (K : aK) : am_Snd K 89 135 := sn_aload_n i89_135 d89_135 rfl
theorem i89_136 : am_ins 89 136 = (1, 2, 1, 0, []) := by decide +kernel
theorem d89_136 : decode (am_cod 89) 136 = .ok (.iload_n 2, 1) := by decide +kernel
theorem s89_136 (K : aK) : am_Snd K 89 136 := sn_iload_n i89_136 d89_136 rfl
theorem i89_137 : am_ins 89 137 = (1, 5, 2, 0, []) := by decide +kernel
theorem d89_137 : decode (am_cod 89) 137 = .ok (.iload 5, 2) := by decide +kernel
theorem s89_137 (K : aK) : am_Snd K 89 137 := sn_iload i89_137 d89_137 
theorem i89_139 : am_ins 89 139 = (60, 84, 2, 0, []) := by decide +kernel
theorem d89_139 : decode (am_cod 89) 139 = .ok (.invokevirtual 125, 3) := by decide +kernel
theorem s89_139 (K : aK) : am_SndC K 89 139 := sc_V i89_139 d89_139 co84 w_638 w_640 ws_19 w_6 rfl (rr := (CN7, FT7, 24)) rfl rfl hd84
theorem i89_142 : am_ins 89 142 = (12, 0, 162, 0, []) := by decide +kernel
theorem d89_142 : decode (am_cod 89) 142 = .ok (.ifCond .eq 20, 3) := by decide +kernel
theorem s89_142 (K : aK) : am_Snd K 89 142 := sn_if_eq i89_142 d89_142 rfl
theorem i89_145 : am_ins 89 145 = (33, 0, 1, 0, []) := by decide +kernel
theorem d89_145 : decode (am_cod 89) 145 = .ok (.aload_n 0, 1) := by decide +kernel
theorem s89_145 (K : aK) : am_Snd K 89 145 := sn_aload_n i89_145 d89_145 rfl
theorem i89_146 : am_ins 89 146 = (1, 1, 1, 0, []) := by decide +kernel
theorem d89_146 : decode (am_cod 89) 146 = .ok (.iload_n 1, 1) := by decide +kernel
theorem s89_146 (K : aK) : am_Snd K 89 146 := sn_iload_n i89_146 d89_146 rfl
theorem i89_147 : am_ins 89 147 = (1, 5, 2, 0, []) := by decide +kernel
theorem d89_147 : decode (am_cod 89) 147 = .ok (.iload 5, 2) := by decide +kernel
theorem s89_147 (K : aK) : am_Snd K 89 147 := sn_iload i89_147 d89_147 
theorem i89_149 : am_ins 89 149 = (0, 1, 0, 3, []) := by decide +kernel
theorem d89_149 : decode (am_cod 89) 149 = .ok (.iconst 3, 1) := by decide +kernel
theorem s89_149 (K : aK) : am_Snd K 89 149 := sn_const1 i89_149 d89_149 rfl
theorem i89_150 : am_ins 89 150 = (1, 2, 1, 0, []) := by decide +kernel
theorem d89_150 : decode (am_cod 89) 150 = .ok (.iload_n 2, 1) := by decide +kernel
theorem s89_150 (K : aK) : am_Snd K 89 150 := sn_iload_n i89_150 d89_150 rfl
theorem i89_151 : am_ins 89 151 = (33, 0, 1, 0, []) := by decide +kernel
theorem d89_151 : decode (am_cod 89) 151 = .ok (.aload_n 0, 1) := by decide +kernel
theorem s89_151 (K : aK) : am_Snd K 89 151 := sn_aload_n i89_151 d89_151 rfl
theorem i89_152 : am_ins 89 152 = (18, 7, 9, 0, []) := by decide +kernel
theorem d89_152 : decode (am_cod 89) 152 = .ok (.getfield 35, 3) := by decide +kernel
theorem s89_152 (K : aK) : am_Snd K 89 152 := sn_get (C0 := CN7) (T := FT7) (Nf := 24) i89_152 d89_152 rfl (by decide +kernel) fin7 w_518 rfl
theorem i89_155 : am_ins 89 155 = (1, 2, 1, 0, []) := by decide +kernel
theorem d89_155 : decode (am_cod 89) 155 = .ok (.iload_n 2, 1) := by decide +kernel
theorem s89_155 (K : aK) : am_Snd K 89 155 := sn_iload_n i89_155 d89_155 rfl
theorem i89_156 : am_ins 89 156 = (22, 0, 0, 0, []) := by decide +kernel
theorem d89_156 : decode (am_cod 89) 156 = .ok (.iaload, 1) := by decide +kernel
theorem s89_156 (K : aK) : am_Snd K 89 156 := sn_iald i89_156 d89_156 
theorem i89_157 : am_ins 89 157 = (0, 1, 0, 0, []) := by decide +kernel
theorem d89_157 : decode (am_cod 89) 157 = .ok (.iconst 0, 1) := by decide +kernel
theorem s89_157 (K : aK) : am_Snd K 89 157 := sn_const1 i89_157 d89_157 rfl
theorem i89_158 : am_ins 89 158 = (0, 1, 0, 0, []) := by decide +kernel
theorem d89_158 : decode (am_cod 89) 158 = .ok (.iconst 0, 1) := by decide +kernel
theorem s89_158 (K : aK) : am_Snd K 89 158 := sn_const1 i89_158 d89_158 rfl
theorem i89_159 : am_ins 89 159 = (60, 85, 7, 0, []) := by decide +kernel
theorem d89_159 : decode (am_cod 89) 159 = .ok (.invokevirtual 122, 3) := by decide +kernel
theorem s89_159 (K : aK) : am_SndC K 89 159 := sc_V i89_159 d89_159 co85 w_645 w_647 ws_20 w_6 rfl (rr := (CN7, FT7, 24)) rfl rfl hd85
theorem i89_162 : am_ins 89 162 = (3, 5, 3, 1, []) := by decide +kernel
theorem d89_162 : decode (am_cod 89) 162 = .ok (.iinc 5 1, 3) := by decide +kernel
theorem s89_162 (K : aK) : am_Snd K 89 162 := sn_iinc i89_162 d89_162 rfl (by decide +kernel)
theorem i89_165 : am_ins 89 165 = (14, 127, 0, 0, []) := by decide +kernel
theorem d89_165 : decode (am_cod 89) 165 = .ok (.goto (-38), 3) := by decide +kernel
theorem s89_165 (K : aK) : am_Snd K 89 165 := sn_goto i89_165 d89_165 rfl
theorem i89_168 : am_ins 89 168 = (53, 0, 0, 0, []) := by decide +kernel
theorem d89_168 : decode (am_cod 89) 168 = .ok (.return_, 1) := by decide +kernel
theorem s89_168 : am_SndR 89 168 := sn_vret i89_168 d89_168 rfl
theorem al89_0 (K : aK) : ∀ q ∈ [0, 1, 4, 5, 6, 9, 10, 11, 12, 15, 16, 17, 20, 21, 22, 23, 24, 25, 26, 27, 30, 31, 32, 35, 36, 37, 40, 41, 42, 43], am_All K 89 q := List.forall_mem_cons.mpr ⟨am_alS i89_0 (s89_0 K), List.forall_mem_cons.mpr ⟨am_alS i89_1 (s89_1 K), List.forall_mem_cons.mpr ⟨am_alS i89_4 (s89_4 K), List.forall_mem_cons.mpr ⟨am_alS i89_5 (s89_5 K), List.forall_mem_cons.mpr ⟨am_alS i89_6 (s89_6 K), List.forall_mem_cons.mpr ⟨am_alS i89_9 (s89_9 K), List.forall_mem_cons.mpr ⟨am_alS i89_10 (s89_10 K), List.forall_mem_cons.mpr ⟨am_alS i89_11 (s89_11 K), List.forall_mem_cons.mpr ⟨am_alS i89_12 (s89_12 K), List.forall_mem_cons.mpr ⟨am_alS i89_15 (s89_15 K), List.forall_mem_cons.mpr ⟨am_alS i89_16 (s89_16 K), List.forall_mem_cons.mpr ⟨am_alS i89_17 (s89_17 K), List.forall_mem_cons.mpr ⟨am_alS i89_20 (s89_20 K), List.forall_mem_cons.mpr ⟨am_alS i89_21 (s89_21 K), List.forall_mem_cons.mpr ⟨am_alS i89_22 (s89_22 K), List.forall_mem_cons.mpr ⟨am_alS i89_23 (s89_23 K), List.forall_mem_cons.mpr ⟨am_alS i89_24 (s89_24 K), List.forall_mem_cons.mpr ⟨am_alS i89_25 (s89_25 K), List.forall_mem_cons.mpr ⟨am_alS i89_26 (s89_26 K), List.forall_mem_cons.mpr ⟨am_alS i89_27 (s89_27 K), List.forall_mem_cons.mpr ⟨am_alS i89_30 (s89_30 K), List.forall_mem_cons.mpr ⟨am_alS i89_31 (s89_31 K), List.forall_mem_cons.mpr ⟨am_alS i89_32 (s89_32 K), List.forall_mem_cons.mpr ⟨am_alR i89_35 s89_35, List.forall_mem_cons.mpr ⟨am_alS i89_36 (s89_36 K), List.forall_mem_cons.mpr ⟨am_alS i89_37 (s89_37 K), List.forall_mem_cons.mpr ⟨am_alS i89_40 (s89_40 K), List.forall_mem_cons.mpr ⟨am_alS i89_41 (s89_41 K), List.forall_mem_cons.mpr ⟨am_alS i89_42 (s89_42 K), List.forall_mem_cons.mpr ⟨am_alS i89_43 (s89_43 K), fun _ h => absurd h List.not_mem_nil⟩⟩⟩⟩⟩⟩⟩⟩⟩⟩⟩⟩⟩⟩⟩⟩⟩⟩⟩⟩⟩⟩⟩⟩⟩⟩⟩⟩⟩⟩
theorem al89_1 (K : aK) : ∀ q ∈ [44, 47, 48, 49, 52, 53, 54, 55, 56, 59, 60, 61, 63, 64, 67, 69, 70, 71, 72, 75, 77, 78, 81, 82, 83, 84, 85, 87, 89, 91], am_All K 89 q := List.forall_mem_cons.mpr ⟨am_alS i89_44 (s89_44 K), List.forall_mem_cons.mpr ⟨am_alS i89_47 (s89_47 K), List.forall_mem_cons.mpr ⟨am_alS i89_48 (s89_48 K), List.forall_mem_cons.mpr ⟨am_alS i89_49 (s89_49 K), List.forall_mem_cons.mpr ⟨am_alS i89_52 (s89_52 K), List.forall_mem_cons.mpr ⟨am_alS i89_53 (s89_53 K), List.forall_mem_cons.mpr ⟨am_alS i89_54 (s89_54 K), List.forall_mem_cons.mpr ⟨am_alS i89_55 (s89_55 K), List.forall_mem_cons.mpr ⟨am_alS i89_56 (s89_56 K), List.forall_mem_cons.mpr ⟨am_alS i89_59 (s89_59 K), List.forall_mem_cons.mpr ⟨am_alS i89_60 (s89_60 K), List.forall_mem_cons.mpr ⟨am_alS i89_61 (s89_61 K), List.forall_mem_cons.mpr ⟨am_alS i89_63 (s89_63 K), List.forall_mem_cons.mpr ⟨am_alS i89_64 (s89_64 K), List.forall_mem_cons.mpr ⟨am_alS i89_67 (s89_67 K), List.forall_mem_cons.mpr ⟨am_alS i89_69 (s89_69 K), List.forall_mem_cons.mpr ⟨am_alS i89_70 (s89_70 K), List.forall_mem_cons.mpr ⟨am_alS i89_71 (s89_71 K), List.forall_mem_cons.mpr ⟨am_alS i89_72 (s89_72 K), List.forall_mem_cons.mpr ⟨am_alS i89_75 (s89_75 K), List.forall_mem_cons.mpr ⟨am_alS i89_77 (s89_77 K), List.forall_mem_cons.mpr ⟨am_alS i89_78 (s89_78 K), List.forall_mem_cons.mpr ⟨am_alS i89_81 (s89_81 K), List.forall_mem_cons.mpr ⟨am_alS i89_82 (s89_82 K), List.forall_mem_cons.mpr ⟨am_alS i89_83 (s89_83 K), List.forall_mem_cons.mpr ⟨am_alS i89_84 (s89_84 K), List.forall_mem_cons.mpr ⟨am_alS i89_85 (s89_85 K), List.forall_mem_cons.mpr ⟨am_alS i89_87 (s89_87 K), List.forall_mem_cons.mpr ⟨am_alS i89_89 (s89_89 K), List.forall_mem_cons.mpr ⟨am_alS i89_91 (s89_91 K), fun _ h => absurd h List.not_mem_nil⟩⟩⟩⟩⟩⟩⟩⟩⟩⟩⟩⟩⟩⟩⟩⟩⟩⟩⟩⟩⟩⟩⟩⟩⟩⟩⟩⟩⟩⟩
theorem al89_2 (K : aK) : ∀ q ∈ [94, 95, 96, 98, 101, 104, 105, 108, 110, 112, 113, 115, 116, 117, 118, 121, 124, 125, 127, 129, 130, 131, 132, 135, 136, 137, 139, 142, 145, 146], am_All K 89 q := List.forall_mem_cons.mpr ⟨am_alS i89_94 (s89_94 K), List.forall_mem_cons.mpr ⟨am_alS i89_95 (s89_95 K), List.forall_mem_cons.mpr ⟨am_alS i89_96 (s89_96 K), List.forall_mem_cons.mpr ⟨am_alC i89_98 (s89_98 K), List.forall_mem_cons.mpr ⟨am_alS i89_101 (s89_101 K), List.forall_mem_cons.mpr ⟨am_alS i89_104 (s89_104 K), List.forall_mem_cons.mpr ⟨am_alS i89_105 (s89_105 K), List.forall_mem_cons.mpr ⟨am_alS i89_108 (s89_108 K), List.forall_mem_cons.mpr ⟨am_alS i89_110 (s89_110 K), List.forall_mem_cons.mpr ⟨am_alS i89_112 (s89_112 K), List.forall_mem_cons.mpr ⟨am_alS i89_113 (s89_113 K), List.forall_mem_cons.mpr ⟨am_alS i89_115 (s89_115 K), List.forall_mem_cons.mpr ⟨am_alS i89_116 (s89_116 K), List.forall_mem_cons.mpr ⟨am_alS i89_117 (s89_117 K), List.forall_mem_cons.mpr ⟨am_alS i89_118 (s89_118 K), List.forall_mem_cons.mpr ⟨am_alS i89_121 (s89_121 K), List.forall_mem_cons.mpr ⟨am_alS i89_124 (s89_124 K), List.forall_mem_cons.mpr ⟨am_alS i89_125 (s89_125 K), List.forall_mem_cons.mpr ⟨am_alS i89_127 (s89_127 K), List.forall_mem_cons.mpr ⟨am_alS i89_129 (s89_129 K), List.forall_mem_cons.mpr ⟨am_alS i89_130 (s89_130 K), List.forall_mem_cons.mpr ⟨am_alS i89_131 (s89_131 K), List.forall_mem_cons.mpr ⟨am_alS i89_132 (s89_132 K), List.forall_mem_cons.mpr ⟨am_alS i89_135 (s89_135 K), List.forall_mem_cons.mpr ⟨am_alS i89_136 (s89_136 K), List.forall_mem_cons.mpr ⟨am_alS i89_137 (s89_137 K), List.forall_mem_cons.mpr ⟨am_alC i89_139 (s89_139 K), List.forall_mem_cons.mpr ⟨am_alS i89_142 (s89_142 K), List.forall_mem_cons.mpr ⟨am_alS i89_145 (s89_145 K), List.forall_mem_cons.mpr ⟨am_alS i89_146 (s89_146 K), fun _ h => absurd h List.not_mem_nil⟩⟩⟩⟩⟩⟩⟩⟩⟩⟩⟩⟩⟩⟩⟩⟩⟩⟩⟩⟩⟩⟩⟩⟩⟩⟩⟩⟩⟩⟩
theorem al89_3 (K : aK) : ∀ q ∈ [147, 149, 150, 151, 152, 155, 156, 157, 158, 159, 162, 165, 168], am_All K 89 q := List.forall_mem_cons.mpr ⟨am_alS i89_147 (s89_147 K), List.forall_mem_cons.mpr ⟨am_alS i89_149 (s89_149 K), List.forall_mem_cons.mpr ⟨am_alS i89_150 (s89_150 K), List.forall_mem_cons.mpr ⟨am_alS i89_151 (s89_151 K), List.forall_mem_cons.mpr ⟨am_alS i89_152 (s89_152 K), List.forall_mem_cons.mpr ⟨am_alS i89_155 (s89_155 K), List.forall_mem_cons.mpr ⟨am_alS i89_156 (s89_156 K), List.forall_mem_cons.mpr ⟨am_alS i89_157 (s89_157 K), List.forall_mem_cons.mpr ⟨am_alS i89_158 (s89_158 K), List.forall_mem_cons.mpr ⟨am_alC i89_159 (s89_159 K), List.forall_mem_cons.mpr ⟨am_alS i89_162 (s89_162 K), List.forall_mem_cons.mpr ⟨am_alS i89_165 (s89_165 K), List.forall_mem_cons.mpr ⟨am_alR i89_168 s89_168, fun _ h => absurd h List.not_mem_nil⟩⟩⟩⟩⟩⟩⟩⟩⟩⟩⟩⟩⟩
set_option maxRecDepth 100000 in
theorem al89 (K : aK) : ∀ q ∈ (am_t89).map (fun z => z.1), am_All K 89 q := by
  have e : (am_t89).map (fun z => z.1) = [0, 1, 4, 5, 6, 9, 10, 11, 12, 15, 16, 17, 20, 21, 22, 23, 24, 25, 26, 27, 30, 31, 32, 35, 36, 37, 40, 41, 42, 43] ++ ([44, 47, 48, 49, 52, 53, 54, 55, 56, 59, 60, 61, 63, 64, 67, 69, 70, 71, 72, 75, 77, 78, 81, 82, 83, 84, 85, 87, 89, 91] ++ ([94, 95, 96, 98, 101, 104, 105, 108, 110, 112, 113, 115, 116, 117, 118, 121, 124, 125, 127, 129, 130, 131, 132, 135, 136, 137, 139, 142, 145, 146] ++ ([147, 149, 150, 151, 152, 155, 156, 157, 158, 159, 162, 165, 168]))) := rfl
  rw [e]
  exact List.forall_mem_append.mpr ⟨al89_0 K, List.forall_mem_append.mpr ⟨al89_1 K, List.forall_mem_append.mpr ⟨al89_2 K, al89_3 K⟩⟩⟩
