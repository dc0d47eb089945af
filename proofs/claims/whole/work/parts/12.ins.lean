theorem i35_0 : am_ins 35 0 = (0, 1, 0, 0, []) := by decide +kernel
theorem d35_0 : decode (am_cod 35) 0 = .ok (.iconst 0, 1) := by decide +kernel
theorem s35_0 (K : aK) : am_Snd K 35 0 := sn_const1 i35_0 d35_0 rfl
theorem i35_1 : am_ins 35 1 = (2, 1, 1, 0, []) := by decide +kernel
theorem d35_1 : decode (am_cod 35) 1 = .ok (.istore_n 1, 1) := by decide +kernel
theorem s35_1 (K : aK) : am_Snd K 35 1 := sn_istore_n i35_1 d35_1 rfl (by decide +kernel)
theorem i35_2 : am_ins 35 2 = (1, 1, 1, 0, []) := by decide +kernel
theorem d35_2 : decode (am_cod 35) 2 = .ok (.iload_n 1, 1) := by decide +kernel
theorem s35_2 (K : aK) : am_Snd K 35 2 := sn_iload_n i35_2 d35_2 rfl
theorem i35_3 : am_ins 35 3 = (0, 2, 0, 8, []) := by decide +kernel
theorem d35_3 : decode (am_cod 35) 3 = .ok (.bipush 8, 2) := by decide +kernel
theorem s35_3 (K : aK) : am_Snd K 35 3 := sn_const2 i35_3 d35_3 (by decide +kernel)
theorem i35_5 : am_ins 35 5 = (13, 3, 43, 0, []) := by decide +kernel
theorem d35_5 : decode (am_cod 35) 5 = .ok (.if_icmp .ge 38, 3) := by decide +kernel
theorem s35_5 (K : aK) : am_Snd K 35 5 := sn_icmp_ge i35_5 d35_5 rfl
theorem i35_8 : am_ins 35 8 = (33, 0, 1, 0, []) := by decide +kernel
theorem d35_8 : decode (am_cod 35) 8 = .ok (.aload_n 0, 1) := by decide +kernel
theorem s35_8 (K : aK) : am_Snd K 35 8 := sn_aload_n i35_8 d35_8 rfl
theorem i35_9 : am_ins 35 9 = (18, 1, 2, 0, []) := by decide +kernel
theorem d35_9 : decode (am_cod 35) 9 = .ok (.getfield 17, 3) := by decide +kernel
theorem s35_9 (K : aK) : am_Snd K 35 9 := sn_get (C0 := CN1) (T := FT1) (Nf := 7) i35_9 d35_9 rfl (by decide +kernel) fin1 w_48 rfl
theorem i35_12 : am_ins 35 12 = (1, 1, 1, 0, []) := by decide +kernel
theorem d35_12 : decode (am_cod 35) 12 = .ok (.iload_n 1, 1) := by decide +kernel
theorem s35_12 (K : aK) : am_Snd K 35 12 := sn_iload_n i35_12 d35_12 rfl
theorem i35_13 : am_ins 35 13 = (26, 0, 0, 0, []) := by decide +kernel
theorem d35_13 : decode (am_cod 35) 13 = .ok (.aaload, 1) := by decide +kernel
theorem s35_13 (K : aK) : am_Snd K 35 13 := sn_aald i35_13 d35_13 
theorem i35_14 : am_ins 35 14 = (34, 2, 1, 0, []) := by decide +kernel
theorem d35_14 : decode (am_cod 35) 14 = .ok (.astore_n 2, 1) := by decide +kernel
theorem s35_14 (K : aK) : am_Snd K 35 14 := sn_astore_n i35_14 d35_14 rfl (by decide +kernel)
theorem i35_15 : am_ins 35 15 = (33, 2, 1, 0, []) := by decide +kernel
theorem d35_15 : decode (am_cod 35) 15 = .ok (.aload_n 2, 1) := by decide +kernel
theorem s35_15 (K : aK) : am_Snd K 35 15 := sn_aload_n i35_15 d35_15 rfl
theorem i35_16 : am_ins 35 16 = (15, 37, 0, 0, []) := by decide +kernel
theorem d35_16 : decode (am_cod 35) 16 = .ok (.ifnull 21, 3) := by decide +kernel
theorem s35_16 (K : aK) : am_Snd K 35 16 := sn_ifnull i35_16 d35_16 rfl
theorem i35_19 : am_ins 35 19 = (33, 2, 1, 0, []) := by decide +kernel
theorem d35_19 : decode (am_cod 35) 19 = .ok (.aload_n 2, 1) := by decide +kernel
theorem s35_19 (K : aK) : am_Snd K 35 19 := sn_aload_n i35_19 d35_19 rfl
theorem i35_20 : am_ins 35 20 = (33, 0, 1, 0, []) := by decide +kernel
theorem d35_20 : decode (am_cod 35) 20 = .ok (.aload_n 0, 1) := by decide +kernel
theorem s35_20 (K : aK) : am_Snd K 35 20 := sn_aload_n i35_20 d35_20 rfl
theorem i35_21 : am_ins 35 21 = (18, 1, 1, 0, []) := by decide +kernel
theorem d35_21 : decode (am_cod 35) 21 = .ok (.getfield 9, 3) := by decide +kernel
theorem s35_21 (K : aK) : am_Snd K 35 21 := sn_get (C0 := CN1) (T := FT1) (Nf := 7) i35_21 d35_21 rfl (by decide +kernel) fin1 w_45 rfl
theorem i35_24 : am_ins 35 24 = (60, 61, 1, 0, []) := by decide +kernel
theorem d35_24 : decode (am_cod 35) 24 = .ok (.invokevirtual 44, 3) := by decide +kernel
theorem s35_24 (K : aK) : am_SndC K 35 24 := sc_V i35_24 d35_24 co61 w_190 w_191 w_192 w_8 rfl (rr := (CN5, FT5, 8)) rfl rfl hd61
theorem i35_27 : am_ins 35 27 = (12, 0, 37, 0, []) := by decide +kernel
theorem d35_27 : decode (am_cod 35) 27 = .ok (.ifCond .eq 10, 3) := by decide +kernel
theorem s35_27 (K : aK) : am_Snd K 35 27 := sn_if_eq i35_27 d35_27 rfl
theorem i35_30 : am_ins 35 30 = (33, 0, 1, 0, []) := by decide +kernel
theorem d35_30 : decode (am_cod 35) 30 = .ok (.aload_n 0, 1) := by decide +kernel
theorem s35_30 (K : aK) : am_Snd K 35 30 := sn_aload_n i35_30 d35_30 rfl
theorem i35_31 : am_ins 35 31 = (18, 1, 2, 0, []) := by decide +kernel
theorem d35_31 : decode (am_cod 35) 31 = .ok (.getfield 17, 3) := by decide +kernel
theorem s35_31 (K : aK) : am_Snd K 35 31 := sn_get (C0 := CN1) (T := FT1) (Nf := 7) i35_31 d35_31 rfl (by decide +kernel) fin1 w_48 rfl
theorem i35_34 : am_ins 35 34 = (1, 1, 1, 0, []) := by decide +kernel
theorem d35_34 : decode (am_cod 35) 34 = .ok (.iload_n 1, 1) := by decide +kernel
theorem s35_34 (K : aK) : am_Snd K 35 34 := sn_iload_n i35_34 d35_34 rfl
theorem i35_35 : am_ins 35 35 = (17, 0, 0, 0, []) := by decide +kernel
theorem d35_35 : decode (am_cod 35) 35 = .ok (.aconst_null, 1) := by decide +kernel
theorem s35_35 (K : aK) : am_Snd K 35 35 := sn_null i35_35 d35_35 
theorem i35_36 : am_ins 35 36 = (27, 0, 0, 0, []) := by decide +kernel
theorem d35_36 : decode (am_cod 35) 36 = .ok (.aastore, 1) := by decide +kernel
theorem s35_36 (K : aK) : am_Snd K 35 36 := sn_aast i35_36 d35_36 
theorem i35_37 : am_ins 35 37 = (3, 1, 3, 1, []) := by decide +kernel
theorem d35_37 : decode (am_cod 35) 37 = .ok (.iinc 1 1, 3) := by decide +kernel
theorem s35_37 (K : aK) : am_Snd K 35 37 := sn_iinc i35_37 d35_37 rfl (by decide +kernel)
theorem i35_40 : am_ins 35 40 = (14, 2, 0, 0, []) := by decide +kernel
theorem d35_40 : decode (am_cod 35) 40 = .ok (.goto (-38), 3) := by decide +kernel
theorem s35_40 (K : aK) : am_Snd K 35 40 := sn_goto i35_40 d35_40 rfl
theorem i35_43 : am_ins 35 43 = (53, 0, 0, 0, []) := by decide +kernel
theorem d35_43 : decode (am_cod 35) 43 = .ok (.return_, 1) := by decide +kernel
theorem s35_43 : am_SndR 35 43 := sn_vret i35_43 d35_43 rfl
theorem al35_0 (K : aK) : ∀ q ∈ [0, 1, 2, 3, 5, 8, 9, 12, 13, 14, 15, 16, 19, 20, 21, 24, 27, 30, 31, 34, 35, 36, 37, 40, 43], am_All K 35 q := List.forall_mem_cons.mpr ⟨am_alS i35_0 (s35_0 K), List.forall_mem_cons.mpr ⟨am_alS i35_1 (s35_1 K), List.forall_mem_cons.mpr ⟨am_alS i35_2 (s35_2 K), List.forall_mem_cons.mpr ⟨am_alS i35_3 (s35_3 K), List.forall_mem_cons.mpr ⟨am_alS i35_5 (s35_5 K), List.forall_mem_cons.mpr ⟨am_alS i35_8 (s35_8 K), List.forall_mem_cons.mpr ⟨am_alS i35_9 (s35_9 K), List.forall_mem_cons.mpr ⟨am_alS i35_12 (s35_12 K), List.forall_mem_cons.mpr ⟨am_alS i35_13 (s35_13 K), List.forall_mem_cons.mpr ⟨am_alS i35_14 (s35_14 K), List.forall_mem_cons.mpr ⟨am_alS i35_15 (s35_15 K), List.forall_mem_cons.mpr ⟨am_alS i35_16 (s35_16 K), List.forall_mem_cons.mpr ⟨am_alS i35_19 (s35_19 K), List.forall_mem_cons.mpr ⟨am_alS i35_20 (s35_20 K), List.forall_mem_cons.mpr ⟨am_alS i35_21 (s35_21 K), List.forall_mem_cons.mpr ⟨am_alC i35_24 (s35_24 K), List.forall_mem_cons.mpr ⟨am_alS i35_27 (s35_27 K), List.forall_mem_cons.mpr ⟨am_alS i35_30 (s35_30 K), List.forall_mem_cons.mpr ⟨am_alS i35_31 (s35_31 K), List.forall_mem_cons.mpr ⟨am_alS i35_34 (s35_34 K), List.forall_mem_cons.mpr ⟨am_alS i35_35 (s35_35 K), List.forall_mem_cons.mpr ⟨am_alS i35_36 (s35_36 K), List.forall_mem_cons.mpr ⟨am_alS i35_37 (s35_37 K), List.forall_mem_cons.mpr ⟨am_alS i35_40 (s35_40 K), List.forall_mem_cons.mpr ⟨am_alR i35_43 s35_43, fun _ h => absurd h List.not_mem_nil⟩⟩⟩⟩⟩⟩⟩⟩⟩⟩⟩⟩⟩⟩⟩⟩⟩⟩⟩⟩⟩⟩⟩⟩⟩
set_option maxRecDepth 100000 in
theorem al35 (K : aK) : ∀ q ∈ (am_t35).map (fun z => z.1), am_All K 35 q := by
  have e : (am_t35).map (fun z => z.1) = [0, 1, 2, 3, 5, 8, 9, 12, 13, 14, 15, 16, 19, 20, 21, 24, 27, 30, 31, 34, 35, 36, 37, 40, 43] := rfl
  rw [e]
  exact al35_0 K
theorem i36_0 : am_ins 36 0 = (33, 0, 1, 0, []) := by decide +kernel
theorem d36_0 : decode (am_cod 36) 0 = .ok (.aload_n 0, 1) := by decide +kernel
theorem s36_0 (K : aK) : am_Snd K 36 0 := sn_aload_n i36_0 d36_0 rfl
theorem i36_1 : am_ins 36 1 = (0, 1, 0, 0, []) := by decide +kernel
theorem d36_1 : decode (am_cod 36) 1 = .ok (.iconst 0, 1) := by decide +kernel
theorem s36_1 (K : aK) : am_Snd K 36 1 := sn_const1 i36_1 d36_1 rfl
theorem i36_2 : am_ins 36 2 = (19, 1, 4, 0, []) := by decide +kernel
theorem d36_2 : decode (am_cod 36) 2 = .ok (.putfield 48, 3) := by decide +kernel
theorem s36_2 (K : aK) : am_Snd K 36 2 := sn_puti (ty := .int) (C0 := CN1) (T := FT1) (Nf := 7) (tyf := FY1) i36_2 d36_2 rfl (by decide +kernel) fin1 ftyok1 fnm1 w_53 rfl rfl rfl
theorem i36_5 : am_ins 36 5 = (33, 0, 1, 0, []) := by decide +kernel
theorem d36_5 : decode (am_cod 36) 5 = .ok (.aload_n 0, 1) := by decide +kernel
theorem s36_5 (K : aK) : am_Snd K 36 5 := sn_aload_n i36_5 d36_5 rfl
theorem i36_6 : am_ins 36 6 = (33, 1, 1, 0, []) := by decide +kernel
theorem d36_6 : decode (am_cod 36) 6 = .ok (.aload_n 1, 1) := by decide +kernel
theorem s36_6 (K : aK) : am_Snd K 36 6 := sn_aload_n i36_6 d36_6 rfl
theorem i36_7 : am_ins 36 7 = (18, 5, 6, 0, []) := by decide +kernel
theorem d36_7 : decode (am_cod 36) 7 = .ok (.getfield 51, 3) := by decide +kernel
theorem s36_7 (K : aK) : am_Snd K 36 7 := sn_get (C0 := CN5) (T := FT5) (Nf := 8) i36_7 d36_7 rfl (by decide +kernel) fin5 w_293 rfl
theorem i36_10 : am_ins 36 10 = (19, 1, 5, 0, []) := by decide +kernel
theorem d36_10 : decode (am_cod 36) 10 = .ok (.putfield 54, 3) := by decide +kernel
theorem s36_10 (K : aK) : am_Snd K 36 10 := sn_puti (ty := .int) (C0 := CN1) (T := FT1) (Nf := 7) (tyf := FY1) i36_10 d36_10 rfl (by decide +kernel) fin1 ftyok1 fnm1 w_55 rfl rfl rfl
theorem i36_13 : am_ins 36 13 = (0, 1, 0, 0, []) := by decide +kernel
theorem d36_13 : decode (am_cod 36) 13 = .ok (.iconst 0, 1) := by decide +kernel
theorem s36_13 (K : aK) : am_Snd K 36 13 := sn_const1 i36_13 d36_13 rfl
theorem i36_14 : am_ins 36 14 = (2, 2, 1, 0, []) := by decide +kernel
theorem d36_14 : decode (am_cod 36) 14 = .ok (.istore_n 2, 1) := by decide +kernel
theorem s36_14 (K : aK) : am_Snd K 36 14 := sn_istore_n i36_14 d36_14 rfl (by decide +kernel)
theorem i36_15 : am_ins 36 15 = (1, 2, 1, 0, []) := by decide +kernel
theorem d36_15 : decode (am_cod 36) 15 = .ok (.iload_n 2, 1) := by decide +kernel
theorem s36_15 (K : aK) : am_Snd K 36 15 := sn_iload_n i36_15 d36_15 rfl
theorem i36_16 : am_ins 36 16 = (0, 2, 0, 8, []) := by decide +kernel
theorem d36_16 : decode (am_cod 36) 16 = .ok (.bipush 8, 2) := by decide +kernel
theorem s36_16 (K : aK) : am_Snd K 36 16 := sn_const2 i36_16 d36_16 (by decide +kernel)
theorem i36_18 : am_ins 36 18 = (13, 3, 45, 0, []) := by decide +kernel
theorem d36_18 : decode (am_cod 36) 18 = .ok (.if_icmp .ge 27, 3) := by decide +kernel
theorem s36_18 (K : aK) : am_Snd K 36 18 := sn_icmp_ge i36_18 d36_18 rfl
theorem i36_21 : am_ins 36 21 = (33, 1, 1, 0, []) := by decide +kernel
theorem d36_21 : decode (am_cod 36) 21 = .ok (.aload_n 1, 1) := by decide +kernel
theorem s36_21 (K : aK) : am_Snd K 36 21 := sn_aload_n i36_21 d36_21 rfl
theorem i36_22 : am_ins 36 22 = (18, 5, 5, 0, []) := by decide +kernel
theorem d36_22 : decode (am_cod 36) 22 = .ok (.getfield 57, 3) := by decide +kernel
theorem s36_22 (K : aK) : am_Snd K 36 22 := sn_get (C0 := CN5) (T := FT5) (Nf := 8) i36_22 d36_22 rfl (by decide +kernel) fin5 w_290 rfl
theorem i36_25 : am_ins 36 25 = (1, 2, 1, 0, []) := by decide +kernel
theorem d36_25 : decode (am_cod 36) 25 = .ok (.iload_n 2, 1) := by decide +kernel
theorem s36_25 (K : aK) : am_Snd K 36 25 := sn_iload_n i36_25 d36_25 rfl
theorem i36_26 : am_ins 36 26 = (60, 67, 1, 0, []) := by decide +kernel
theorem d36_26 : decode (am_cod 36) 26 = .ok (.invokevirtual 58, 3) := by decide +kernel
theorem s36_26 (K : aK) : am_SndC K 36 26 := sc_V i36_26 d36_26 co67 w_420 w_211 w_212 w_3 rfl (rr := (CN6, FT6, 2)) rfl rfl hd67
theorem i36_29 : am_ins 36 29 = (12, 0, 39, 0, []) := by decide +kernel
theorem d36_29 : decode (am_cod 36) 29 = .ok (.ifCond .eq 10, 3) := by decide +kernel
theorem s36_29 (K : aK) : am_Snd K 36 29 := sn_if_eq i36_29 d36_29 rfl
theorem i36_32 : am_ins 36 32 = (33, 0, 1, 0, []) := by decide +kernel
theorem d36_32 : decode (am_cod 36) 32 = .ok (.aload_n 0, 1) := by decide +kernel
theorem s36_32 (K : aK) : am_Snd K 36 32 := sn_aload_n i36_32 d36_32 rfl
theorem i36_33 : am_ins 36 33 = (18, 1, 2, 0, []) := by decide +kernel
theorem d36_33 : decode (am_cod 36) 33 = .ok (.getfield 17, 3) := by decide +kernel
theorem s36_33 (K : aK) : am_Snd K 36 33 := sn_get (C0 := CN1) (T := FT1) (Nf := 7) i36_33 d36_33 rfl (by decide +kernel) fin1 w_48 rfl
theorem i36_36 : am_ins 36 36 = (1, 2, 1, 0, []) := by decide +kernel
theorem d36_36 : decode (am_cod 36) 36 = .ok (.iload_n 2, 1) := by decide +kernel
theorem s36_36 (K : aK) : am_Snd K 36 36 := sn_iload_n i36_36 d36_36 rfl
theorem i36_37 : am_ins 36 37 = (33, 1, 1, 0, []) := by decide +kernel
theorem d36_37 : decode (am_cod 36) 37 = .ok (.aload_n 1, 1) := by decide +kernel
theorem s36_37 (K : aK) : am_Snd K 36 37 := sn_aload_n i36_37 d36_37 rfl
theorem i36_38 : am_ins 36 38 = (27, 0, 0, 0, []) := by decide +kernel
theorem d36_38 : decode (am_cod 36) 38 = .ok (.aastore, 1) := by decide +kernel
theorem s36_38 (K : aK) : am_Snd K 36 38 := sn_aast i36_38 d36_38 
theorem i36_39 : am_ins 36 39 = (3, 2, 3, 1, []) := by decide +kernel
theorem d36_39 : decode (am_cod 36) 39 = .ok (.iinc 2 1, 3) := by decide +kernel
theorem s36_39 (K : aK) : am_Snd K 36 39 := sn_iinc i36_39 d36_39 rfl (by decide +kernel)
theorem i36_42 : am_ins 36 42 = (14, 15, 0, 0, []) := by decide +kernel
theorem d36_42 : decode (am_cod 36) 42 = .ok (.goto (-27), 3) := by decide +kernel
theorem s36_42 (K : aK) : am_Snd K 36 42 := sn_goto i36_42 d36_42 rfl
theorem i36_45 : am_ins 36 45 = (53, 0, 0, 0, []) := by decide +kernel
theorem d36_45 : decode (am_cod 36) 45 = .ok (.return_, 1) := by decide +kernel
theorem s36_45 : am_SndR 36 45 := sn_vret i36_45 d36_45 rfl
theorem al36_0 (K : aK) : ∀ q ∈ [0, 1, 2, 5, 6, 7, 10, 13, 14, 15, 16, 18, 21, 22, 25, 26, 29, 32, 33, 36, 37, 38, 39, 42, 45], am_All K 36 q := List.forall_mem_cons.mpr ⟨am_alS i36_0 (s36_0 K), List.forall_mem_cons.mpr ⟨am_alS i36_1 (s36_1 K), List.forall_mem_cons.mpr ⟨am_alS i36_2 (s36_2 K), List.forall_mem_cons.mpr ⟨am_alS i36_5 (s36_5 K), List.forall_mem_cons.mpr ⟨am_alS i36_6 (s36_6 K), List.forall_mem_cons.mpr ⟨am_alS i36_7 (s36_7 K), List.forall_mem_cons.mpr ⟨am_alS i36_10 (s36_10 K), List.forall_mem_cons.mpr ⟨am_alS i36_13 (s36_13 K), List.forall_mem_cons.mpr ⟨am_alS i36_14 (s36_14 K), List.forall_mem_cons.mpr ⟨am_alS i36_15 (s36_15 K), List.forall_mem_cons.mpr ⟨am_alS i36_16 (s36_16 K), List.forall_mem_cons.mpr ⟨am_alS i36_18 (s36_18 K), List.forall_mem_cons.mpr ⟨am_alS i36_21 (s36_21 K), List.forall_mem_cons.mpr ⟨am_alS i36_22 (s36_22 K), List.forall_mem_cons.mpr ⟨am_alS i36_25 (s36_25 K), List.forall_mem_cons.mpr ⟨am_alC i36_26 (s36_26 K), List.forall_mem_cons.mpr ⟨am_alS i36_29 (s36_29 K), List.forall_mem_cons.mpr ⟨am_alS i36_32 (s36_32 K), List.forall_mem_cons.mpr ⟨am_alS i36_33 (s36_33 K), List.forall_mem_cons.mpr ⟨am_alS i36_36 (s36_36 K), List.forall_mem_cons.mpr ⟨am_alS i36_37 (s36_37 K), List.forall_mem_cons.mpr ⟨am_alS i36_38 (s36_38 K), List.forall_mem_cons.mpr ⟨am_alS i36_39 (s36_39 K), List.forall_mem_cons.mpr ⟨am_alS i36_42 (s36_42 K), List.forall_mem_cons.mpr ⟨am_alR i36_45 s36_45, fun _ h => absurd h List.not_mem_nil⟩⟩⟩⟩⟩⟩⟩⟩⟩⟩⟩⟩⟩⟩⟩⟩⟩⟩⟩⟩⟩⟩⟩⟩⟩
set_option maxRecDepth 100000 in
theorem al36 (K : aK) : ∀ q ∈ (am_t36).map (fun z => z.1), am_All K 36 q := by
  have e : (am_t36).map (fun z => z.1) = [0, 1, 2, 5, 6, 7, 10, 13, 14, 15, 16, 18, 21, 22, 25, 26, 29, 32, 33, 36, 37, 38, 39, 42, 45] := rfl
  rw [e]
  exact al36_0 K
theorem i37_0 : am_ins 37 0 = (1, 1, 1, 0, []) := by decide +kernel
theorem d37_0 : decode (am_cod 37) 0 = .ok (.iload_n 1, 1) := by decide +kernel
theorem s37_0 (K : aK) : am_Snd K 37 0 := sn_iload_n i37_0 d37_0 rfl
theorem i37_1 : am_ins 37 1 = (61, 22, 1, 0, []) := by decide +kernel
theorem d37_1 : decode (am_cod 37) 1 = .ok (.invokestatic 62, 3) := by decide +kernel
theorem s37_1 (K : aK) : am_SndC K 37 1 := sc_SN i37_1 d37_1 co22 nw_228 w_208 w_1 hd22
theorem i37_4 : am_ins 37 4 = (12, 0, 16, 0, []) := by decide +kernel
theorem d37_4 : decode (am_cod 37) 4 = .ok (.ifCond .eq 12, 3) := by decide +kernel
theorem s37_4 (K : aK) : am_Snd K 37 4 := sn_if_eq i37_4 d37_4 rfl
theorem i37_7 : am_ins 37 7 = (33, 0, 1, 0, []) := by decide +kernel
theorem d37_7 : decode (am_cod 37) 7 = .ok (.aload_n 0, 1) := by decide +kernel
theorem s37_7 (K : aK) : am_Snd K 37 7 := sn_aload_n i37_7 d37_7 rfl
theorem i37_8 : am_ins 37 8 = (18, 1, 2, 0, []) := by decide +kernel
theorem d37_8 : decode (am_cod 37) 8 = .ok (.getfield 17, 3) := by decide +kernel
theorem s37_8 (K : aK) : am_Snd K 37 8 := sn_get (C0 := CN1) (T := FT1) (Nf := 7) i37_8 d37_8 rfl (by decide +kernel) fin1 w_48 rfl
theorem i37_11 : am_ins 37 11 = (1, 1, 1, 0, []) := by decide +kernel
theorem d37_11 : decode (am_cod 37) 11 = .ok (.iload_n 1, 1) := by decide +kernel
theorem s37_11 (K : aK) : am_Snd K 37 11 := sn_iload_n i37_11 d37_11 rfl
theorem i37_12 : am_ins 37 12 = (26, 0, 0, 0, []) := by decide +kernel
theorem d37_12 : decode (am_cod 37) 12 = .ok (.aaload, 1) := by decide +kernel
theorem s37_12 (K : aK) : am_Snd K 37 12 := sn_aald i37_12 d37_12 
theorem i37_13 : am_ins 37 13 = (14, 17, 0, 0, []) := by decide +kernel
theorem d37_13 : decode (am_cod 37) 13 = .ok (.goto 4, 3) := by decide +kernel
theorem s37_13 (K : aK) : am_Snd K 37 13 := sn_goto i37_13 d37_13 rfl
theorem i37_16 : am_ins 37 16 = (17, 0, 0, 0, []) := by decide +kernel
theorem d37_16 : decode (am_cod 37) 16 = .ok (.aconst_null, 1) := by decide +kernel
theorem s37_16 (K : aK) : am_Snd K 37 16 := sn_null i37_16 d37_16 
theorem i37_17 : am_ins 37 17 = (52, 0, 0, 0, []) := by decide +kernel
theorem d37_17 : decode (am_cod 37) 17 = .ok (.areturn, 1) := by decide +kernel
theorem s37_17 : am_SndR 37 17 := sn_aret i37_17 d37_17 rfl (Or.inl ⟨_, rfl⟩)
theorem al37_0 (K : aK) : ∀ q ∈ [0, 1, 4, 7, 8, 11, 12, 13, 16, 17], am_All K 37 q := List.forall_mem_cons.mpr ⟨am_alS i37_0 (s37_0 K), List.forall_mem_cons.mpr ⟨am_alC i37_1 (s37_1 K), List.forall_mem_cons.mpr ⟨am_alS i37_4 (s37_4 K), List.forall_mem_cons.mpr ⟨am_alS i37_7 (s37_7 K), List.forall_mem_cons.mpr ⟨am_alS i37_8 (s37_8 K), List.forall_mem_cons.mpr ⟨am_alS i37_11 (s37_11 K), List.forall_mem_cons.mpr ⟨am_alS i37_12 (s37_12 K), List.forall_mem_cons.mpr ⟨am_alS i37_13 (s37_13 K), List.forall_mem_cons.mpr ⟨am_alS i37_16 (s37_16 K), List.forall_mem_cons.mpr ⟨am_alR i37_17 s37_17, fun _ h => absurd h List.not_mem_nil⟩⟩⟩⟩⟩⟩⟩⟩⟩⟩
set_option maxRecDepth 100000 in
theorem al37 (K : aK) : ∀ q ∈ (am_t37).map (fun z => z.1), am_All K 37 q := by
  have e : (am_t37).map (fun z => z.1) = [0, 1, 4, 7, 8, 11, 12, 13, 16, 17] := rfl
  rw [e]
  exact al37_0 K
theorem i38_0 : am_ins 38 0 = (0, 1, 0, 0, []) := by decide +kernel
theorem d38_0 : decode (am_cod 38) 0 = .ok (.iconst 0, 1) := by decide +kernel
theorem s38_0 (K : aK) : am_Snd K 38 0 := sn_const1 i38_0 d38_0 rfl
theorem i38_1 : am_ins 38 1 = (2, 1, 1, 0, []) := by decide +kernel
theorem d38_1 : decode (am_cod 38) 1 = .ok (.istore_n 1, 1) := by decide +kernel
theorem s38_1 (K : aK) : am_Snd K 38 1 := sn_istore_n i38_1 d38_1 rfl (by decide +kernel)
theorem i38_2 : am_ins 38 2 = (0, 1, 0, 0, []) := by decide +kernel
theorem d38_2 : decode (am_cod 38) 2 = .ok (.iconst 0, 1) := by decide +kernel
theorem s38_2 (K : aK) : am_Snd K 38 2 := sn_const1 i38_2 d38_2 rfl
theorem i38_3 : am_ins 38 3 = (2, 2, 1, 0, []) := by decide +kernel
theorem d38_3 : decode (am_cod 38) 3 = .ok (.istore_n 2, 1) := by decide +kernel
theorem s38_3 (K : aK) : am_Snd K 38 3 := sn_istore_n i38_3 d38_3 rfl (by decide +kernel)
theorem i38_4 : am_ins 38 4 = (1, 2, 1, 0, []) := by decide +kernel
theorem d38_4 : decode (am_cod 38) 4 = .ok (.iload_n 2, 1) := by decide +kernel
theorem s38_4 (K : aK) : am_Snd K 38 4 := sn_iload_n i38_4 d38_4 rfl
theorem i38_5 : am_ins 38 5 = (0, 2, 0, 8, []) := by decide +kernel
theorem d38_5 : decode (am_cod 38) 5 = .ok (.bipush 8, 2) := by decide +kernel
theorem s38_5 (K : aK) : am_Snd K 38 5 := sn_const2 i38_5 d38_5 (by decide +kernel)
theorem i38_7 : am_ins 38 7 = (13, 3, 28, 0, []) := by decide +kernel
theorem d38_7 : decode (am_cod 38) 7 = .ok (.if_icmp .ge 21, 3) := by decide +kernel
theorem s38_7 (K : aK) : am_Snd K 38 7 := sn_icmp_ge i38_7 d38_7 rfl
theorem i38_10 : am_ins 38 10 = (33, 0, 1, 0, []) := by decide +kernel
theorem d38_10 : decode (am_cod 38) 10 = .ok (.aload_n 0, 1) := by decide +kernel
theorem s38_10 (K : aK) : am_Snd K 38 10 := sn_aload_n i38_10 d38_10 rfl
theorem i38_11 : am_ins 38 11 = (18, 1, 2, 0, []) := by decide +kernel
theorem d38_11 : decode (am_cod 38) 11 = .ok (.getfield 17, 3) := by decide +kernel
theorem s38_11 (K : aK) : am_Snd K 38 11 := sn_get (C0 := CN1) (T := FT1) (Nf := 7) i38_11 d38_11 rfl (by decide +kernel) fin1 w_48 rfl
theorem i38_14 : am_ins 38 14 = (1, 2, 1, 0, []) := by decide +kernel
theorem d38_14 : decode (am_cod 38) 14 = .ok (.iload_n 2, 1) := by decide +kernel
theorem s38_14 (K : aK) : am_Snd K 38 14 := sn_iload_n i38_14 d38_14 rfl
theorem i38_15 : am_ins 38 15 = (26, 0, 0, 0, []) := by decide +kernel
theorem d38_15 : decode (am_cod 38) 15 = .ok (.aaload, 1) := by decide +kernel
theorem s38_15 (K : aK) : am_Snd K 38 15 := sn_aald i38_15 d38_15 
theorem i38_16 : am_ins 38 16 = (15, 22, 0, 0, []) := by decide +kernel
theorem d38_16 : decode (am_cod 38) 16 = .ok (.ifnull 6, 3) := by decide +kernel
theorem s38_16 (K : aK) : am_Snd K 38 16 := sn_ifnull i38_16 d38_16 rfl
theorem i38_19 : am_ins 38 19 = (3, 1, 3, 1, []) := by decide +kernel
theorem d38_19 : decode (am_cod 38) 19 = .ok (.iinc 1 1, 3) := by decide +kernel
theorem s38_19 (K : aK) : am_Snd K 38 19 := sn_iinc i38_19 d38_19 rfl (by decide +kernel)
theorem i38_22 : am_ins 38 22 = (3, 2, 3, 1, []) := by decide +kernel
theorem d38_22 : decode (am_cod 38) 22 = .ok (.iinc 2 1, 3) := by decide +kernel
theorem s38_22 (K : aK) : am_Snd K 38 22 := sn_iinc i38_22 d38_22 rfl (by decide +kernel)
theorem i38_25 : am_ins 38 25 = (14, 4, 0, 0, []) := by decide +kernel
theorem d38_25 : decode (am_cod 38) 25 = .ok (.goto (-21), 3) := by decide +kernel
theorem s38_25 (K : aK) : am_Snd K 38 25 := sn_goto i38_25 d38_25 rfl
theorem i38_28 : am_ins 38 28 = (1, 1, 1, 0, []) := by decide +kernel
theorem d38_28 : decode (am_cod 38) 28 = .ok (.iload_n 1, 1) := by decide +kernel
theorem s38_28 (K : aK) : am_Snd K 38 28 := sn_iload_n i38_28 d38_28 rfl
theorem i38_29 : am_ins 38 29 = (50, 0, 0, 0, []) := by decide +kernel
theorem d38_29 : decode (am_cod 38) 29 = .ok (.ireturn, 1) := by decide +kernel
theorem s38_29 : am_SndR 38 29 := sn_iret i38_29 d38_29 rfl
theorem al38_0 (K : aK) : ∀ q ∈ [0, 1, 2, 3, 4, 5, 7, 10, 11, 14, 15, 16, 19, 22, 25, 28, 29], am_All K 38 q := List.forall_mem_cons.mpr ⟨am_alS i38_0 (s38_0 K), List.forall_mem_cons.mpr ⟨am_alS i38_1 (s38_1 K), List.forall_mem_cons.mpr ⟨am_alS i38_2 (s38_2 K), List.forall_mem_cons.mpr ⟨am_alS i38_3 (s38_3 K), List.forall_mem_cons.mpr ⟨am_alS i38_4 (s38_4 K), List.forall_mem_cons.mpr ⟨am_alS i38_5 (s38_5 K), List.forall_mem_cons.mpr ⟨am_alS i38_7 (s38_7 K), List.forall_mem_cons.mpr ⟨am_alS i38_10 (s38_10 K), List.forall_mem_cons.mpr ⟨am_alS i38_11 (s38_11 K), List.forall_mem_cons.mpr ⟨am_alS i38_14 (s38_14 K), List.forall_mem_cons.mpr ⟨am_alS i38_15 (s38_15 K), List.forall_mem_cons.mpr ⟨am_alS i38_16 (s38_16 K), List.forall_mem_cons.mpr ⟨am_alS i38_19 (s38_19 K), List.forall_mem_cons.mpr ⟨am_alS i38_22 (s38_22 K), List.forall_mem_cons.mpr ⟨am_alS i38_25 (s38_25 K), List.forall_mem_cons.mpr ⟨am_alS i38_28 (s38_28 K), List.forall_mem_cons.mpr ⟨am_alR i38_29 s38_29, fun _ h => absurd h List.not_mem_nil⟩⟩⟩⟩⟩⟩⟩⟩⟩⟩⟩⟩⟩⟩⟩⟩⟩
set_option maxRecDepth 100000 in
theorem al38 (K : aK) : ∀ q ∈ (am_t38).map (fun z => z.1), am_All K 38 q := by
  have e : (am_t38).map (fun z => z.1) = [0, 1, 2, 3, 4, 5, 7, 10, 11, 14, 15, 16, 19, 22, 25, 28, 29] := rfl
  rw [e]
  exact al38_0 K
theorem i39_0 : am_ins 39 0 = (33, 0, 1, 0, []) := by decide +kernel
theorem d39_0 : decode (am_cod 39) 0 = .ok (.aload_n 0, 1) := by decide +kernel
theorem s39_0 (K : aK) : am_Snd K 39 0 := sn_aload_n i39_0 d39_0 rfl
theorem i39_1 : am_ins 39 1 = (35, 0, 0, 0, []) := by decide +kernel
theorem d39_1 : decode (am_cod 39) 1 = .ok (.invokespecial 3, 3) := by decide +kernel
theorem s39_1 (K : aK) : am_Snd K 39 1 := sn_oinit i39_1 d39_1 w_124 w_16 w_17
theorem i39_4 : am_ins 39 4 = (53, 0, 0, 0, []) := by decide +kernel
theorem d39_4 : decode (am_cod 39) 4 = .ok (.return_, 1) := by decide +kernel
theorem s39_4 : am_SndR 39 4 := sn_vret i39_4 d39_4 rfl
theorem al39_0 (K : aK) : ∀ q ∈ [0, 1, 4], am_All K 39 q := List.forall_mem_cons.mpr ⟨am_alS i39_0 (s39_0 K), List.forall_mem_cons.mpr ⟨am_alS i39_1 (s39_1 K), List.forall_mem_cons.mpr ⟨am_alR i39_4 s39_4, fun _ h => absurd h List.not_mem_nil⟩⟩⟩
set_option maxRecDepth 100000 in
theorem al39 (K : aK) : ∀ q ∈ (am_t39).map (fun z => z.1), am_All K 39 q := by
  have e : (am_t39).map (fun z => z.1) = [0, 1, 4] := rfl
  rw [e]
  exact al39_0 K
theorem i40_0 : am_ins 40 0 = (33, 0, 1, 0, []) := by decide +kernel
theorem d40_0 : decode (am_cod 40) 0 = .ok (.aload_n 0, 1) := by decide +kernel
theorem s40_0 (K : aK) : am_Snd K 40 0 := sn_aload_n i40_0 d40_0 rfl
theorem i40_1 : am_ins 40 1 = (18, 2, 2, 0, []) := by decide +kernel
theorem d40_1 : decode (am_cod 40) 1 = .ok (.getfield 9, 3) := by decide +kernel
theorem s40_1 (K : aK) : am_Snd K 40 1 := sn_get (C0 := CN2) (T := FT2) (Nf := 3) i40_1 d40_1 rfl (by decide +kernel) fin2 w_128 rfl
theorem i40_4 : am_ins 40 4 = (0, 3, 0, 512, []) := by decide +kernel
theorem d40_4 : decode (am_cod 40) 4 = .ok (.sipush 512, 3) := by decide +kernel
theorem s40_4 (K : aK) : am_Snd K 40 4 := sn_const3 i40_4 d40_4 (by decide +kernel)
theorem i40_7 : am_ins 40 7 = (13, 2, 11, 0, []) := by decide +kernel
theorem d40_7 : decode (am_cod 40) 7 = .ok (.if_icmp .lt 4, 3) := by decide +kernel
theorem s40_7 (K : aK) : am_Snd K 40 7 := sn_icmp_lt i40_7 d40_7 rfl
theorem i40_10 : am_ins 40 10 = (53, 0, 0, 0, []) := by decide +kernel
theorem d40_10 : decode (am_cod 40) 10 = .ok (.return_, 1) := by decide +kernel
theorem s40_10 : am_SndR 40 10 := sn_vret i40_10 d40_10 rfl
theorem i40_11 : am_ins 40 11 = (33, 0, 1, 0, []) := by decide +kernel
theorem d40_11 : decode (am_cod 40) 11 = .ok (.aload_n 0, 1) := by decide +kernel
theorem s40_11 (K : aK) : am_Snd K 40 11 := sn_aload_n i40_11 d40_11 rfl
theorem i40_12 : am_ins 40 12 = (18, 2, 1, 0, []) := by decide +kernel
theorem d40_12 : decode (am_cod 40) 12 = .ok (.getfield 15, 3) := by decide +kernel
theorem s40_12 (K : aK) : am_Snd K 40 12 := sn_get (C0 := CN2) (T := FT2) (Nf := 3) i40_12 d40_12 rfl (by decide +kernel) fin2 w_127 rfl
theorem i40_15 : am_ins 40 15 = (16, 26, 0, 0, []) := by decide +kernel
theorem d40_15 : decode (am_cod 40) 15 = .ok (.ifnonnull 11, 3) := by decide +kernel
theorem s40_15 (K : aK) : am_Snd K 40 15 := sn_ifnonnull i40_15 d40_15 rfl
theorem i40_18 : am_ins 40 18 = (33, 0, 1, 0, []) := by decide +kernel
theorem d40_18 : decode (am_cod 40) 18 = .ok (.aload_n 0, 1) := by decide +kernel
theorem s40_18 (K : aK) : am_Snd K 40 18 := sn_aload_n i40_18 d40_18 rfl
theorem i40_19 : am_ins 40 19 = (33, 1, 1, 0, []) := by decide +kernel
theorem d40_19 : decode (am_cod 40) 19 = .ok (.aload_n 1, 1) := by decide +kernel
theorem s40_19 (K : aK) : am_Snd K 40 19 := sn_aload_n i40_19 d40_19 rfl
theorem i40_20 : am_ins 40 20 = (21, 2, 0, 0, []) := by decide +kernel
theorem d40_20 : decode (am_cod 40) 20 = .ok (.putfield 19, 3) := by decide +kernel
theorem s40_20 (K : aK) : am_Snd K 40 20 := sn_putr (ty := .object "CausalPlaces$Message") (C0 := CN2) (T := FT2) (Nf := 3) (tyf := FY2) i40_20 d40_20 rfl (by decide +kernel) fin2 ftyok2 fnm2 w_125 rfl rfl rfl rfl
theorem i40_23 : am_ins 40 23 = (14, 34, 0, 0, []) := by decide +kernel
theorem d40_23 : decode (am_cod 40) 23 = .ok (.goto 11, 3) := by decide +kernel
theorem s40_23 (K : aK) : am_Snd K 40 23 := sn_goto i40_23 d40_23 rfl
theorem i40_26 : am_ins 40 26 = (33, 0, 1, 0, []) := by decide +kernel
theorem d40_26 : decode (am_cod 40) 26 = .ok (.aload_n 0, 1) := by decide +kernel
theorem s40_26 (K : aK) : am_Snd K 40 26 := sn_aload_n i40_26 d40_26 rfl
theorem i40_27 : am_ins 40 27 = (18, 2, 1, 0, []) := by decide +kernel
theorem d40_27 : decode (am_cod 40) 27 = .ok (.getfield 15, 3) := by decide +kernel
theorem s40_27 (K : aK) : am_Snd K 40 27 := sn_get (C0 := CN2) (T := FT2) (Nf := 3) i40_27 d40_27 rfl (by decide +kernel) fin2 w_127 rfl
theorem i40_30 : am_ins 40 30 = (33, 1, 1, 0, []) := by decide +kernel
theorem d40_30 : decode (am_cod 40) 30 = .ok (.aload_n 1, 1) := by decide +kernel
theorem s40_30 (K : aK) : am_Snd K 40 30 := sn_aload_n i40_30 d40_30 rfl
theorem i40_31 : am_ins 40 31 = (21, 3, 4, 0, []) := by decide +kernel
theorem d40_31 : decode (am_cod 40) 31 = .ok (.putfield 22, 3) := by decide +kernel
theorem s40_31 (K : aK) : am_Snd K 40 31 := sn_putr (ty := .object "CausalPlaces$Message") (C0 := CN3) (T := FT3) (Nf := 5) (tyf := FY3) i40_31 d40_31 rfl (by decide +kernel) fin3 ftyok3 fnm3 w_360 rfl rfl rfl rfl
theorem i40_34 : am_ins 40 34 = (33, 0, 1, 0, []) := by decide +kernel
theorem d40_34 : decode (am_cod 40) 34 = .ok (.aload_n 0, 1) := by decide +kernel
theorem s40_34 (K : aK) : am_Snd K 40 34 := sn_aload_n i40_34 d40_34 rfl
theorem i40_35 : am_ins 40 35 = (33, 1, 1, 0, []) := by decide +kernel
theorem d40_35 : decode (am_cod 40) 35 = .ok (.aload_n 1, 1) := by decide +kernel
theorem s40_35 (K : aK) : am_Snd K 40 35 := sn_aload_n i40_35 d40_35 rfl
theorem i40_36 : am_ins 40 36 = (21, 2, 1, 0, []) := by decide +kernel
theorem d40_36 : decode (am_cod 40) 36 = .ok (.putfield 15, 3) := by decide +kernel
theorem s40_36 (K : aK) : am_Snd K 40 36 := sn_putr (ty := .object "CausalPlaces$Message") (C0 := CN2) (T := FT2) (Nf := 3) (tyf := FY2) i40_36 d40_36 rfl (by decide +kernel) fin2 ftyok2 fnm2 w_127 rfl rfl rfl rfl
theorem i40_39 : am_ins 40 39 = (33, 0, 1, 0, []) := by decide +kernel
theorem d40_39 : decode (am_cod 40) 39 = .ok (.aload_n 0, 1) := by decide +kernel
theorem s40_39 (K : aK) : am_Snd K 40 39 := sn_aload_n i40_39 d40_39 rfl
theorem i40_40 : am_ins 40 40 = (7, 0, 0, 0, []) := by decide +kernel
theorem d40_40 : decode (am_cod 40) 40 = .ok (.dup, 1) := by decide +kernel
theorem s40_40 (K : aK) : am_Snd K 40 40 := sn_dup i40_40 d40_40 
theorem i40_41 : am_ins 40 41 = (18, 2, 2, 0, []) := by decide +kernel
theorem d40_41 : decode (am_cod 40) 41 = .ok (.getfield 9, 3) := by decide +kernel
theorem s40_41 (K : aK) : am_Snd K 40 41 := sn_get (C0 := CN2) (T := FT2) (Nf := 3) i40_41 d40_41 rfl (by decide +kernel) fin2 w_128 rfl
theorem i40_44 : am_ins 40 44 = (0, 1, 0, 1, []) := by decide +kernel
theorem d40_44 : decode (am_cod 40) 44 = .ok (.iconst 1, 1) := by decide +kernel
theorem s40_44 (K : aK) : am_Snd K 40 44 := sn_const1 i40_44 d40_44 rfl
theorem i40_45 : am_ins 40 45 = (4, 0, 0, 0, []) := by decide +kernel
theorem d40_45 : decode (am_cod 40) 45 = .ok (.iadd, 1) := by decide +kernel
theorem s40_45 (K : aK) : am_Snd K 40 45 := sn_add i40_45 d40_45 
theorem i40_46 : am_ins 40 46 = (19, 2, 2, 0, []) := by decide +kernel
theorem d40_46 : decode (am_cod 40) 46 = .ok (.putfield 9, 3) := by decide +kernel
theorem s40_46 (K : aK) : am_Snd K 40 46 := sn_puti (ty := .int) (C0 := CN2) (T := FT2) (Nf := 3) (tyf := FY2) i40_46 d40_46 rfl (by decide +kernel) fin2 ftyok2 fnm2 w_128 rfl rfl rfl
theorem i40_49 : am_ins 40 49 = (53, 0, 0, 0, []) := by decide +kernel
theorem d40_49 : decode (am_cod 40) 49 = .ok (.return_, 1) := by decide +kernel
theorem s40_49 : am_SndR 40 49 := sn_vret i40_49 d40_49 rfl
theorem al40_0 (K : aK) : ∀ q ∈ [0, 1, 4, 7, 10, 11, 12, 15, 18, 19, 20, 23, 26, 27, 30, 31, 34, 35, 36, 39, 40, 41, 44, 45, 46, 49], am_All K 40 q := List.forall_mem_cons.mpr ⟨am_alS i40_0 (s40_0 K), List.forall_mem_cons.mpr ⟨am_alS i40_1 (s40_1 K), List.forall_mem_cons.mpr ⟨am_alS i40_4 (s40_4 K), List.forall_mem_cons.mpr ⟨am_alS i40_7 (s40_7 K), List.forall_mem_cons.mpr ⟨am_alR i40_10 s40_10, List.forall_mem_cons.mpr ⟨am_alS i40_11 (s40_11 K), List.forall_mem_cons.mpr ⟨am_alS i40_12 (s40_12 K), List.forall_mem_cons.mpr ⟨am_alS i40_15 (s40_15 K), List.forall_mem_cons.mpr ⟨am_alS i40_18 (s40_18 K), List.forall_mem_cons.mpr ⟨am_alS i40_19 (s40_19 K), List.forall_mem_cons.mpr ⟨am_alS i40_20 (s40_20 K), List.forall_mem_cons.mpr ⟨am_alS i40_23 (s40_23 K), List.forall_mem_cons.mpr ⟨am_alS i40_26 (s40_26 K), List.forall_mem_cons.mpr ⟨am_alS i40_27 (s40_27 K), List.forall_mem_cons.mpr ⟨am_alS i40_30 (s40_30 K), List.forall_mem_cons.mpr ⟨am_alS i40_31 (s40_31 K), List.forall_mem_cons.mpr ⟨am_alS i40_34 (s40_34 K), List.forall_mem_cons.mpr ⟨am_alS i40_35 (s40_35 K), List.forall_mem_cons.mpr ⟨am_alS i40_36 (s40_36 K), List.forall_mem_cons.mpr ⟨am_alS i40_39 (s40_39 K), List.forall_mem_cons.mpr ⟨am_alS i40_40 (s40_40 K), List.forall_mem_cons.mpr ⟨am_alS i40_41 (s40_41 K), List.forall_mem_cons.mpr ⟨am_alS i40_44 (s40_44 K), List.forall_mem_cons.mpr ⟨am_alS i40_45 (s40_45 K), List.forall_mem_cons.mpr ⟨am_alS i40_46 (s40_46 K), List.forall_mem_cons.mpr ⟨am_alR i40_49 s40_49, fun _ h => absurd h List.not_mem_nil⟩⟩⟩⟩⟩⟩⟩⟩⟩⟩⟩⟩⟩⟩⟩⟩⟩⟩⟩⟩⟩⟩⟩⟩⟩⟩
set_option maxRecDepth 100000 in
theorem al40 (K : aK) : ∀ q ∈ (am_t40).map (fun z => z.1), am_All K 40 q := by
  have e : (am_t40).map (fun z => z.1) = [0, 1, 4, 7, 10, 11, 12, 15, 18, 19, 20, 23, 26, 27, 30, 31, 34, 35, 36, 39, 40, 41, 44, 45, 46, 49] := rfl
  rw [e]
  exact al40_0 K
theorem i41_0 : am_ins 41 0 = (33, 0, 1, 0, []) := by decide +kernel
theorem d41_0 : decode (am_cod 41) 0 = .ok (.aload_n 0, 1) := by decide +kernel
theorem s41_0 (K : aK) : am_Snd K 41 0 := sn_aload_n i41_0 d41_0 rfl
theorem i41_1 : am_ins 41 1 = (18, 2, 0, 0, []) := by decide +kernel
theorem d41_1 : decode (am_cod 41) 1 = .ok (.getfield 19, 3) := by decide +kernel
theorem s41_1 (K : aK) : am_Snd K 41 1 := sn_get (C0 := CN2) (T := FT2) (Nf := 3) i41_1 d41_1 rfl (by decide +kernel) fin2 w_125 rfl
theorem i41_4 : am_ins 41 4 = (34, 1, 1, 0, []) := by decide +kernel
theorem d41_4 : decode (am_cod 41) 4 = .ok (.astore_n 1, 1) := by decide +kernel
theorem s41_4 (K : aK) : am_Snd K 41 4 := sn_astore_n i41_4 d41_4 rfl (by decide +kernel)
theorem i41_5 : am_ins 41 5 = (33, 1, 1, 0, []) := by decide +kernel
theorem d41_5 : decode (am_cod 41) 5 = .ok (.aload_n 1, 1) := by decide +kernel
theorem s41_5 (K : aK) : am_Snd K 41 5 := sn_aload_n i41_5 d41_5 rfl
theorem i41_6 : am_ins 41 6 = (16, 11, 0, 0, []) := by decide +kernel
theorem d41_6 : decode (am_cod 41) 6 = .ok (.ifnonnull 5, 3) := by decide +kernel
theorem s41_6 (K : aK) : am_Snd K 41 6 := sn_ifnonnull i41_6 d41_6 rfl
theorem i41_9 : am_ins 41 9 = (17, 0, 0, 0, []) := by decide +kernel
theorem d41_9 : decode (am_cod 41) 9 = .ok (.aconst_null, 1) := by decide +kernel
theorem s41_9 (K : aK) : am_Snd K 41 9 := sn_null i41_9 d41_9 
theorem i41_10 : am_ins 41 10 = (52, 0, 0, 0, []) := by decide +kernel
theorem d41_10 : decode (am_cod 41) 10 = .ok (.areturn, 1) := by decide +kernel
theorem s41_10 : am_SndR 41 10 := sn_aret i41_10 d41_10 rfl (Or.inl ⟨_, rfl⟩)
theorem i41_11 : am_ins 41 11 = (33, 0, 1, 0, []) := by decide +kernel
theorem d41_11 : decode (am_cod 41) 11 = .ok (.aload_n 0, 1) := by decide +kernel
theorem s41_11 (K : aK) : am_Snd K 41 11 := sn_aload_n i41_11 d41_11 rfl
theorem i41_12 : am_ins 41 12 = (33, 1, 1, 0, []) := by decide +kernel
theorem d41_12 : decode (am_cod 41) 12 = .ok (.aload_n 1, 1) := by decide +kernel
theorem s41_12 (K : aK) : am_Snd K 41 12 := sn_aload_n i41_12 d41_12 rfl
theorem i41_13 : am_ins 41 13 = (18, 3, 4, 0, []) := by decide +kernel
theorem d41_13 : decode (am_cod 41) 13 = .ok (.getfield 22, 3) := by decide +kernel
theorem s41_13 (K : aK) : am_Snd K 41 13 := sn_get (C0 := CN3) (T := FT3) (Nf := 5) i41_13 d41_13 rfl (by decide +kernel) fin3 w_360 rfl
theorem i41_16 : am_ins 41 16 = (21, 2, 0, 0, []) := by decide +kernel
theorem d41_16 : decode (am_cod 41) 16 = .ok (.putfield 19, 3) := by decide +kernel
theorem s41_16 (K : aK) : am_Snd K 41 16 := sn_putr (ty := .object "CausalPlaces$Message") (C0 := CN2) (T := FT2) (Nf := 3) (tyf := FY2) i41_16 d41_16 rfl (by decide +kernel) fin2 ftyok2 fnm2 w_125 rfl rfl rfl rfl
theorem i41_19 : am_ins 41 19 = (33, 0, 1, 0, []) := by decide +kernel
theorem d41_19 : decode (am_cod 41) 19 = .ok (.aload_n 0, 1) := by decide +kernel
theorem s41_19 (K : aK) : am_Snd K 41 19 := sn_aload_n i41_19 d41_19 rfl
theorem i41_20 : am_ins 41 20 = (18, 2, 0, 0, []) := by decide +kernel
theorem d41_20 : decode (am_cod 41) 20 = .ok (.getfield 19, 3) := by decide +kernel
theorem s41_20 (K : aK) : am_Snd K 41 20 := sn_get (C0 := CN2) (T := FT2) (Nf := 3) i41_20 d41_20 rfl (by decide +kernel) fin2 w_125 rfl
theorem i41_23 : am_ins 41 23 = (16, 31, 0, 0, []) := by decide +kernel
theorem d41_23 : decode (am_cod 41) 23 = .ok (.ifnonnull 8, 3) := by decide +kernel
theorem s41_23 (K : aK) : am_Snd K 41 23 := sn_ifnonnull i41_23 d41_23 rfl
theorem i41_26 : am_ins 41 26 = (33, 0, 1, 0, []) := by decide +kernel
theorem d41_26 : decode (am_cod 41) 26 = .ok (.aload_n 0, 1) := by decide +kernel
theorem s41_26 (K : aK) : am_Snd K 41 26 := sn_aload_n i41_26 d41_26 rfl
theorem i41_27 : am_ins 41 27 = (17, 0, 0, 0, []) := by decide +kernel
theorem d41_27 : decode (am_cod 41) 27 = .ok (.aconst_null, 1) := by decide +kernel
theorem s41_27 (K : aK) : am_Snd K 41 27 := sn_null i41_27 d41_27 
theorem i41_28 : am_ins 41 28 = (21, 2, 1, 0, []) := by decide +kernel
theorem d41_28 : decode (am_cod 41) 28 = .ok (.putfield 15, 3) := by decide +kernel
theorem s41_28 (K : aK) : am_Snd K 41 28 := sn_putr (ty := .object "CausalPlaces$Message") (C0 := CN2) (T := FT2) (Nf := 3) (tyf := FY2) i41_28 d41_28 rfl (by decide +kernel) fin2 ftyok2 fnm2 w_127 rfl rfl rfl rfl
theorem i41_31 : am_ins 41 31 = (33, 0, 1, 0, []) := by decide +kernel
theorem d41_31 : decode (am_cod 41) 31 = .ok (.aload_n 0, 1) := by decide +kernel
theorem s41_31 (K : aK) : am_Snd K 41 31 := sn_aload_n i41_31 d41_31 rfl
theorem i41_32 : am_ins 41 32 = (7, 0, 0, 0, []) := by decide +kernel
theorem d41_32 : decode (am_cod 41) 32 = .ok (.dup, 1) := by decide +kernel
theorem s41_32 (K : aK) : am_Snd K 41 32 := sn_dup i41_32 d41_32 
theorem i41_33 : am_ins 41 33 = (18, 2, 2, 0, []) := by decide +kernel
theorem d41_33 : decode (am_cod 41) 33 = .ok (.getfield 9, 3) := by decide +kernel
theorem s41_33 (K : aK) : am_Snd K 41 33 := sn_get (C0 := CN2) (T := FT2) (Nf := 3) i41_33 d41_33 rfl (by decide +kernel) fin2 w_128 rfl
theorem i41_36 : am_ins 41 36 = (0, 1, 0, 1, []) := by decide +kernel
theorem d41_36 : decode (am_cod 41) 36 = .ok (.iconst 1, 1) := by decide +kernel
theorem s41_36 (K : aK) : am_Snd K 41 36 := sn_const1 i41_36 d41_36 rfl
theorem i41_37 : am_ins 41 37 = (4, 1, 0, 0, []) := by decide +kernel
theorem d41_37 : decode (am_cod 41) 37 = .ok (.isub, 1) := by decide +kernel
theorem s41_37 (K : aK) : am_Snd K 41 37 := sn_sub i41_37 d41_37 
theorem i41_38 : am_ins 41 38 = (19, 2, 2, 0, []) := by decide +kernel
theorem d41_38 : decode (am_cod 41) 38 = .ok (.putfield 9, 3) := by decide +kernel
theorem s41_38 (K : aK) : am_Snd K 41 38 := sn_puti (ty := .int) (C0 := CN2) (T := FT2) (Nf := 3) (tyf := FY2) i41_38 d41_38 rfl (by decide +kernel) fin2 ftyok2 fnm2 w_128 rfl rfl rfl
theorem i41_41 : am_ins 41 41 = (33, 1, 1, 0, []) := by decide +kernel
theorem d41_41 : decode (am_cod 41) 41 = .ok (.aload_n 1, 1) := by decide +kernel
theorem s41_41 (K : aK) : am_Snd K 41 41 := sn_aload_n i41_41 d41_41 rfl
theorem i41_42 : am_ins 41 42 = (52, 0, 0, 0, []) := by decide +kernel
theorem d41_42 : decode (am_cod 41) 42 = .ok (.areturn, 1) := by decide +kernel
theorem s41_42 : am_SndR 41 42 := sn_aret i41_42 d41_42 rfl (Or.inl ⟨_, rfl⟩)
theorem al41_0 (K : aK) : ∀ q ∈ [0, 1, 4, 5, 6, 9, 10, 11, 12, 13, 16, 19, 20, 23, 26, 27, 28, 31, 32, 33, 36, 37, 38, 41, 42], am_All K 41 q := List.forall_mem_cons.mpr ⟨am_alS i41_0 (s41_0 K), List.forall_mem_cons.mpr ⟨am_alS i41_1 (s41_1 K), List.forall_mem_cons.mpr ⟨am_alS i41_4 (s41_4 K), List.forall_mem_cons.mpr ⟨am_alS i41_5 (s41_5 K), List.forall_mem_cons.mpr ⟨am_alS i41_6 (s41_6 K), List.forall_mem_cons.mpr ⟨am_alS i41_9 (s41_9 K), List.forall_mem_cons.mpr ⟨am_alR i41_10 s41_10, List.forall_mem_cons.mpr ⟨am_alS i41_11 (s41_11 K), List.forall_mem_cons.mpr ⟨am_alS i41_12 (s41_12 K), List.forall_mem_cons.mpr ⟨am_alS i41_13 (s41_13 K), List.forall_mem_cons.mpr ⟨am_alS i41_16 (s41_16 K), List.forall_mem_cons.mpr ⟨am_alS i41_19 (s41_19 K), List.forall_mem_cons.mpr ⟨am_alS i41_20 (s41_20 K), List.forall_mem_cons.mpr ⟨am_alS i41_23 (s41_23 K), List.forall_mem_cons.mpr ⟨am_alS i41_26 (s41_26 K), List.forall_mem_cons.mpr ⟨am_alS i41_27 (s41_27 K), List.forall_mem_cons.mpr ⟨am_alS i41_28 (s41_28 K), List.forall_mem_cons.mpr ⟨am_alS i41_31 (s41_31 K), List.forall_mem_cons.mpr ⟨am_alS i41_32 (s41_32 K), List.forall_mem_cons.mpr ⟨am_alS i41_33 (s41_33 K), List.forall_mem_cons.mpr ⟨am_alS i41_36 (s41_36 K), List.forall_mem_cons.mpr ⟨am_alS i41_37 (s41_37 K), List.forall_mem_cons.mpr ⟨am_alS i41_38 (s41_38 K), List.forall_mem_cons.mpr ⟨am_alS i41_41 (s41_41 K), List.forall_mem_cons.mpr ⟨am_alR i41_42 s41_42, fun _ h => absurd h List.not_mem_nil⟩⟩⟩⟩⟩⟩⟩⟩⟩⟩⟩⟩⟩⟩⟩⟩⟩⟩⟩⟩⟩⟩⟩⟩⟩
set_option maxRecDepth 100000 in
theorem al41 (K : aK) : ∀ q ∈ (am_t41).map (fun z => z.1), am_All K 41 q := by
  have e : (am_t41).map (fun z => z.1) = [0, 1, 4, 5, 6, 9, 10, 11, 12, 13, 16, 19, 20, 23, 26, 27, 28, 31, 32, 33, 36, 37, 38, 41, 42] := rfl
  rw [e]
  exact al41_0 K
theorem i42_0 : am_ins 42 0 = (33, 0, 1, 0, []) := by decide +kernel
theorem d42_0 : decode (am_cod 42) 0 = .ok (.aload_n 0, 1) := by decide +kernel
theorem s42_0 (K : aK) : am_Snd K 42 0 := sn_aload_n i42_0 d42_0 rfl
theorem i42_1 : am_ins 42 1 = (35, 0, 0, 0, []) := by decide +kernel
theorem d42_1 : decode (am_cod 42) 1 = .ok (.invokespecial 1, 3) := by decide +kernel
theorem s42_1 (K : aK) : am_Snd K 42 1 := sn_oinit i42_1 d42_1 w_351 w_16 w_17
theorem i42_4 : am_ins 42 4 = (33, 0, 1, 0, []) := by decide +kernel
theorem d42_4 : decode (am_cod 42) 4 = .ok (.aload_n 0, 1) := by decide +kernel
theorem s42_4 (K : aK) : am_Snd K 42 4 := sn_aload_n i42_4 d42_4 rfl
theorem i42_5 : am_ins 42 5 = (1, 1, 1, 0, []) := by decide +kernel
theorem d42_5 : decode (am_cod 42) 5 = .ok (.iload_n 1, 1) := by decide +kernel
theorem s42_5 (K : aK) : am_Snd K 42 5 := sn_iload_n i42_5 d42_5 rfl
theorem i42_6 : am_ins 42 6 = (19, 3, 0, 0, []) := by decide +kernel
theorem d42_6 : decode (am_cod 42) 6 = .ok (.putfield 7, 3) := by decide +kernel
theorem s42_6 (K : aK) : am_Snd K 42 6 := sn_putiF (ty := .int) (C0 := CN3) (T := FT3) (Nf := 5) (tyf := FY3) i42_6 d42_6 rfl (by decide +kernel) fin3 ftyok3 fnm3 w_352 rfl rfl rfl rfl rfl
theorem i42_9 : am_ins 42 9 = (33, 0, 1, 0, []) := by decide +kernel
theorem d42_9 : decode (am_cod 42) 9 = .ok (.aload_n 0, 1) := by decide +kernel
theorem s42_9 (K : aK) : am_Snd K 42 9 := sn_aload_n i42_9 d42_9 rfl
theorem i42_10 : am_ins 42 10 = (1, 2, 1, 0, []) := by decide +kernel
theorem d42_10 : decode (am_cod 42) 10 = .ok (.iload_n 2, 1) := by decide +kernel
theorem s42_10 (K : aK) : am_Snd K 42 10 := sn_iload_n i42_10 d42_10 rfl
theorem i42_11 : am_ins 42 11 = (19, 3, 1, 0, []) := by decide +kernel
theorem d42_11 : decode (am_cod 42) 11 = .ok (.putfield 13, 3) := by decide +kernel
theorem s42_11 (K : aK) : am_Snd K 42 11 := sn_putiF (ty := .int) (C0 := CN3) (T := FT3) (Nf := 5) (tyf := FY3) i42_11 d42_11 rfl (by decide +kernel) fin3 ftyok3 fnm3 w_354 rfl rfl rfl rfl rfl
theorem i42_14 : am_ins 42 14 = (33, 0, 1, 0, []) := by decide +kernel
theorem d42_14 : decode (am_cod 42) 14 = .ok (.aload_n 0, 1) := by decide +kernel
theorem s42_14 (K : aK) : am_Snd K 42 14 := sn_aload_n i42_14 d42_14 rfl
theorem i42_15 : am_ins 42 15 = (1, 3, 1, 0, []) := by decide +kernel
theorem d42_15 : decode (am_cod 42) 15 = .ok (.iload_n 3, 1) := by decide +kernel
theorem s42_15 (K : aK) : am_Snd K 42 15 := sn_iload_n i42_15 d42_15 rfl
theorem i42_16 : am_ins 42 16 = (19, 3, 2, 0, []) := by decide +kernel
theorem d42_16 : decode (am_cod 42) 16 = .ok (.putfield 16, 3) := by decide +kernel
theorem s42_16 (K : aK) : am_Snd K 42 16 := sn_putiF (ty := .int) (C0 := CN3) (T := FT3) (Nf := 5) (tyf := FY3) i42_16 d42_16 rfl (by decide +kernel) fin3 ftyok3 fnm3 w_356 rfl rfl rfl rfl rfl
theorem i42_19 : am_ins 42 19 = (33, 0, 1, 0, []) := by decide +kernel
theorem d42_19 : decode (am_cod 42) 19 = .ok (.aload_n 0, 1) := by decide +kernel
theorem s42_19 (K : aK) : am_Snd K 42 19 := sn_aload_n i42_19 d42_19 rfl
theorem i42_20 : am_ins 42 20 = (33, 4, 2, 0, []) := by decide +kernel
theorem d42_20 : decode (am_cod 42) 20 = .ok (.aload 4, 2) := by decide +kernel
theorem s42_20 (K : aK) : am_Snd K 42 20 := sn_aload i42_20 d42_20 
theorem i42_22 : am_ins 42 22 = (21, 3, 3, 0, []) := by decide +kernel
theorem d42_22 : decode (am_cod 42) 22 = .ok (.putfield 19, 3) := by decide +kernel
theorem s42_22 (K : aK) : am_Snd K 42 22 := sn_putrF (ty := .array .int) (C0 := CN3) (T := FT3) (Nf := 5) (tyf := FY3) i42_22 d42_22 rfl (by decide +kernel) fin3 ftyok3 fnm3 w_358 rfl rfl rfl rfl rfl rfl
theorem i42_25 : am_ins 42 25 = (53, 0, 0, 0, []) := by decide +kernel
theorem d42_25 : decode (am_cod 42) 25 = .ok (.return_, 1) := by decide +kernel
theorem s42_25 : am_SndR 42 25 := sn_vret i42_25 d42_25 rfl
theorem al42_0 (K : aK) : ∀ q ∈ [0, 1, 4, 5, 6, 9, 10, 11, 14, 15, 16, 19, 20, 22, 25], am_All K 42 q := List.forall_mem_cons.mpr ⟨am_alS i42_0 (s42_0 K), List.forall_mem_cons.mpr ⟨am_alS i42_1 (s42_1 K), List.forall_mem_cons.mpr ⟨am_alS i42_4 (s42_4 K), List.forall_mem_cons.mpr ⟨am_alS i42_5 (s42_5 K), List.forall_mem_cons.mpr ⟨am_alS i42_6 (s42_6 K), List.forall_mem_cons.mpr ⟨am_alS i42_9 (s42_9 K), List.forall_mem_cons.mpr ⟨am_alS i42_10 (s42_10 K), List.forall_mem_cons.mpr ⟨am_alS i42_11 (s42_11 K), List.forall_mem_cons.mpr ⟨am_alS i42_14 (s42_14 K), List.forall_mem_cons.mpr ⟨am_alS i42_15 (s42_15 K), List.forall_mem_cons.mpr ⟨am_alS i42_16 (s42_16 K), List.forall_mem_cons.mpr ⟨am_alS i42_19 (s42_19 K), List.forall_mem_cons.mpr ⟨am_alS i42_20 (s42_20 K), List.forall_mem_cons.mpr ⟨am_alS i42_22 (s42_22 K), List.forall_mem_cons.mpr ⟨am_alR i42_25 s42_25, fun _ h => absurd h List.not_mem_nil⟩⟩⟩⟩⟩⟩⟩⟩⟩⟩⟩⟩⟩⟩⟩
set_option maxRecDepth 100000 in
theorem al42 (K : aK) : ∀ q ∈ (am_t42).map (fun z => z.1), am_All K 42 q := by
  have e : (am_t42).map (fun z => z.1) = [0, 1, 4, 5, 6, 9, 10, 11, 14, 15, 16, 19, 20, 22, 25] := rfl
  rw [e]
  exact al42_0 K
theorem i43_0 : am_ins 43 0 = (33, 0, 1, 0, []) := by decide +kernel
theorem d43_0 : decode (am_cod 43) 0 = .ok (.aload_n 0, 1) := by decide +kernel
theorem s43_0 (K : aK) : am_Snd K 43 0 := sn_aload_n i43_0 d43_0 rfl
theorem i43_1 : am_ins 43 1 = (35, 0, 0, 0, []) := by decide +kernel
theorem d43_1 : decode (am_cod 43) 1 = .ok (.invokespecial 3, 3) := by decide +kernel
theorem s43_1 (K : aK) : am_Snd K 43 1 := sn_oinit i43_1 d43_1 w_79 w_16 w_17
theorem i43_4 : am_ins 43 4 = (33, 0, 1, 0, []) := by decide +kernel
theorem d43_4 : decode (am_cod 43) 4 = .ok (.aload_n 0, 1) := by decide +kernel
theorem s43_4 (K : aK) : am_Snd K 43 4 := sn_aload_n i43_4 d43_4 rfl
theorem i43_5 : am_ins 43 5 = (0, 1, 0, 3, []) := by decide +kernel
theorem d43_5 : decode (am_cod 43) 5 = .ok (.iconst 3, 1) := by decide +kernel
theorem s43_5 (K : aK) : am_Snd K 43 5 := sn_const1 i43_5 d43_5 rfl
theorem i43_6 : am_ins 43 6 = (30, 0, 0, 0, []) := by decide +kernel
theorem d43_6 : decode (am_cod 43) 6 = .ok (.newarray .int, 2) := by decide +kernel
theorem s43_6 (K : aK) : am_Snd K 43 6 := sn_newI i43_6 d43_6 w_40
theorem i43_8 : am_ins 43 8 = (21, 4, 2, 0, []) := by decide +kernel
theorem d43_8 : decode (am_cod 43) 8 = .ok (.putfield 9, 3) := by decide +kernel
theorem s43_8 (K : aK) : am_Snd K 43 8 := sn_putrF (ty := .array .int) (C0 := CN4) (T := FT4) (Nf := 9) (tyf := FY4) i43_8 d43_8 rfl (by decide +kernel) fin4 ftyok4 fnm4 w_85 rfl rfl rfl rfl rfl rfl
theorem i43_11 : am_ins 43 11 = (33, 0, 1, 0, []) := by decide +kernel
theorem d43_11 : decode (am_cod 43) 11 = .ok (.aload_n 0, 1) := by decide +kernel
theorem s43_11 (K : aK) : am_Snd K 43 11 := sn_aload_n i43_11 d43_11 rfl
theorem i43_12 : am_ins 43 12 = (0, 1, 0, 3, []) := by decide +kernel
theorem d43_12 : decode (am_cod 43) 12 = .ok (.iconst 3, 1) := by decide +kernel
theorem s43_12 (K : aK) : am_Snd K 43 12 := sn_const1 i43_12 d43_12 rfl
theorem i43_13 : am_ins 43 13 = (30, 0, 0, 0, []) := by decide +kernel
theorem d43_13 : decode (am_cod 43) 13 = .ok (.newarray .int, 2) := by decide +kernel
theorem s43_13 (K : aK) : am_Snd K 43 13 := sn_newI i43_13 d43_13 w_40
theorem i43_15 : am_ins 43 15 = (21, 4, 3, 0, []) := by decide +kernel
theorem d43_15 : decode (am_cod 43) 15 = .ok (.putfield 15, 3) := by decide +kernel
theorem s43_15 (K : aK) : am_Snd K 43 15 := sn_putrF (ty := .array .int) (C0 := CN4) (T := FT4) (Nf := 9) (tyf := FY4) i43_15 d43_15 rfl (by decide +kernel) fin4 ftyok4 fnm4 w_87 rfl rfl rfl rfl rfl rfl
theorem i43_18 : am_ins 43 18 = (33, 0, 1, 0, []) := by decide +kernel
theorem d43_18 : decode (am_cod 43) 18 = .ok (.aload_n 0, 1) := by decide +kernel
theorem s43_18 (K : aK) : am_Snd K 43 18 := sn_aload_n i43_18 d43_18 rfl
theorem i43_19 : am_ins 43 19 = (0, 3, 0, 200, []) := by decide +kernel
theorem d43_19 : decode (am_cod 43) 19 = .ok (.sipush 200, 3) := by decide +kernel
theorem s43_19 (K : aK) : am_Snd K 43 19 := sn_const3 i43_19 d43_19 (by decide +kernel)
theorem i43_22 : am_ins 43 22 = (30, 0, 0, 0, []) := by decide +kernel
theorem d43_22 : decode (am_cod 43) 22 = .ok (.newarray .int, 2) := by decide +kernel
theorem s43_22 (K : aK) : am_Snd K 43 22 := sn_newI i43_22 d43_22 w_40
theorem i43_24 : am_ins 43 24 = (21, 4, 4, 0, []) := by decide +kernel
theorem d43_24 : decode (am_cod 43) 24 = .ok (.putfield 18, 3) := by decide +kernel
theorem s43_24 (K : aK) : am_Snd K 43 24 := sn_putrF (ty := .array .int) (C0 := CN4) (T := FT4) (Nf := 9) (tyf := FY4) i43_24 d43_24 rfl (by decide +kernel) fin4 ftyok4 fnm4 w_89 rfl rfl rfl rfl rfl rfl
theorem i43_27 : am_ins 43 27 = (33, 0, 1, 0, []) := by decide +kernel
theorem d43_27 : decode (am_cod 43) 27 = .ok (.aload_n 0, 1) := by decide +kernel
theorem s43_27 (K : aK) : am_Snd K 43 27 := sn_aload_n i43_27 d43_27 rfl
theorem i43_28 : am_ins 43 28 = (0, 3, 0, 200, []) := by decide +kernel
theorem d43_28 : decode (am_cod 43) 28 = .ok (.sipush 200, 3) := by decide +kernel
theorem s43_28 (K : aK) : am_Snd K 43 28 := sn_const3 i43_28 d43_28 (by decide +kernel)
theorem i43_31 : am_ins 43 31 = (30, 0, 0, 0, []) := by decide +kernel
theorem d43_31 : decode (am_cod 43) 31 = .ok (.newarray .int, 2) := by decide +kernel
theorem s43_31 (K : aK) : am_Snd K 43 31 := sn_newI i43_31 d43_31 w_40
theorem i43_33 : am_ins 43 33 = (21, 4, 5, 0, []) := by decide +kernel
theorem d43_33 : decode (am_cod 43) 33 = .ok (.putfield 21, 3) := by decide +kernel
theorem s43_33 (K : aK) : am_Snd K 43 33 := sn_putrF (ty := .array .int) (C0 := CN4) (T := FT4) (Nf := 9) (tyf := FY4) i43_33 d43_33 rfl (by decide +kernel) fin4 ftyok4 fnm4 w_90 rfl rfl rfl rfl rfl rfl
theorem i43_36 : am_ins 43 36 = (33, 0, 1, 0, []) := by decide +kernel
theorem d43_36 : decode (am_cod 43) 36 = .ok (.aload_n 0, 1) := by decide +kernel
theorem s43_36 (K : aK) : am_Snd K 43 36 := sn_aload_n i43_36 d43_36 rfl
theorem i43_37 : am_ins 43 37 = (0, 3, 0, 200, []) := by decide +kernel
theorem d43_37 : decode (am_cod 43) 37 = .ok (.sipush 200, 3) := by decide +kernel
theorem s43_37 (K : aK) : am_Snd K 43 37 := sn_const3 i43_37 d43_37 (by decide +kernel)
theorem i43_40 : am_ins 43 40 = (31, 5, 0, 0, []) := by decide +kernel
theorem d43_40 : decode (am_cod 43) 40 = .ok (.anewarray 24, 3) := by decide +kernel
theorem s43_40 (K : aK) : am_Snd K 43 40 := sn_anew (C0 := CN5) i43_40 d43_40 w_80 nwAO5 rfl (by decide +kernel)
theorem i43_43 : am_ins 43 43 = (21, 4, 6, 0, []) := by decide +kernel
theorem d43_43 : decode (am_cod 43) 43 = .ok (.putfield 26, 3) := by decide +kernel
theorem s43_43 (K : aK) : am_Snd K 43 43 := sn_putrF (ty := .array (.object "CausalPlaces$Transaction")) (C0 := CN4) (T := FT4) (Nf := 9) (tyf := FY4) i43_43 d43_43 rfl (by decide +kernel) fin4 ftyok4 fnm4 w_91 rfl rfl rfl rfl rfl rfl
theorem i43_46 : am_ins 43 46 = (33, 0, 1, 0, []) := by decide +kernel
theorem d43_46 : decode (am_cod 43) 46 = .ok (.aload_n 0, 1) := by decide +kernel
theorem s43_46 (K : aK) : am_Snd K 43 46 := sn_aload_n i43_46 d43_46 rfl
theorem i43_47 : am_ins 43 47 = (1, 1, 1, 0, []) := by decide +kernel
theorem d43_47 : decode (am_cod 43) 47 = .ok (.iload_n 1, 1) := by decide +kernel
theorem s43_47 (K : aK) : am_Snd K 43 47 := sn_iload_n i43_47 d43_47 rfl
theorem i43_48 : am_ins 43 48 = (19, 4, 0, 0, []) := by decide +kernel
theorem d43_48 : decode (am_cod 43) 48 = .ok (.putfield 30, 3) := by decide +kernel
theorem s43_48 (K : aK) : am_Snd K 43 48 := sn_putiF (ty := .int) (C0 := CN4) (T := FT4) (Nf := 9) (tyf := FY4) i43_48 d43_48 rfl (by decide +kernel) fin4 ftyok4 fnm4 w_81 rfl rfl rfl rfl rfl
theorem i43_51 : am_ins 43 51 = (33, 0, 1, 0, []) := by decide +kernel
theorem d43_51 : decode (am_cod 43) 51 = .ok (.aload_n 0, 1) := by decide +kernel
theorem s43_51 (K : aK) : am_Snd K 43 51 := sn_aload_n i43_51 d43_51 rfl
theorem i43_52 : am_ins 43 52 = (1, 1, 1, 0, []) := by decide +kernel
theorem d43_52 : decode (am_cod 43) 52 = .ok (.iload_n 1, 1) := by decide +kernel
theorem s43_52 (K : aK) : am_Snd K 43 52 := sn_iload_n i43_52 d43_52 rfl
theorem i43_53 : am_ins 43 53 = (0, 1, 0, 2, []) := by decide +kernel
theorem d43_53 : decode (am_cod 43) 53 = .ok (.iconst 2, 1) := by decide +kernel
theorem s43_53 (K : aK) : am_Snd K 43 53 := sn_const1 i43_53 d43_53 rfl
theorem i43_54 : am_ins 43 54 = (5, 0, 0, 0, []) := by decide +kernel
theorem d43_54 : decode (am_cod 43) 54 = .ok (.idiv, 1) := by decide +kernel
theorem s43_54 (K : aK) : am_Snd K 43 54 := sn_div i43_54 d43_54 
theorem i43_55 : am_ins 43 55 = (19, 4, 1, 0, []) := by decide +kernel
theorem d43_55 : decode (am_cod 43) 55 = .ok (.putfield 34, 3) := by decide +kernel
theorem s43_55 (K : aK) : am_Snd K 43 55 := sn_putiF (ty := .int) (C0 := CN4) (T := FT4) (Nf := 9) (tyf := FY4) i43_55 d43_55 rfl (by decide +kernel) fin4 ftyok4 fnm4 w_83 rfl rfl rfl rfl rfl
theorem i43_58 : am_ins 43 58 = (53, 0, 0, 0, []) := by decide +kernel
theorem d43_58 : decode (am_cod 43) 58 = .ok (.return_, 1) := by decide +kernel
theorem s43_58 : am_SndR 43 58 := sn_vret i43_58 d43_58 rfl
theorem al43_0 (K : aK) : ∀ q ∈ [0, 1, 4, 5, 6, 8, 11, 12, 13, 15, 18, 19, 22, 24, 27, 28, 31, 33, 36, 37, 40, 43, 46, 47, 48, 51, 52, 53, 54, 55], am_All K 43 q := List.forall_mem_cons.mpr ⟨am_alS i43_0 (s43_0 K), List.forall_mem_cons.mpr ⟨am_alS i43_1 (s43_1 K), List.forall_mem_cons.mpr ⟨am_alS i43_4 (s43_4 K), List.forall_mem_cons.mpr ⟨am_alS i43_5 (s43_5 K), List.forall_mem_cons.mpr ⟨am_alS i43_6 (s43_6 K), List.forall_mem_cons.mpr ⟨am_alS i43_8 (s43_8 K), List.forall_mem_cons.mpr ⟨am_alS i43_11 (s43_11 K), List.forall_mem_cons.mpr ⟨am_alS i43_12 (s43_12 K), List.forall_mem_cons.mpr ⟨am_alS i43_13 (s43_13 K), List.forall_mem_cons.mpr ⟨am_alS i43_15 (s43_15 K), List.forall_mem_cons.mpr ⟨am_alS i43_18 (s43_18 K), List.forall_mem_cons.mpr ⟨am_alS i43_19 (s43_19 K), List.forall_mem_cons.mpr ⟨am_alS i43_22 (s43_22 K), List.forall_mem_cons.mpr ⟨am_alS i43_24 (s43_24 K), List.forall_mem_cons.mpr ⟨am_alS i43_27 (s43_27 K), List.forall_mem_cons.mpr ⟨am_alS i43_28 (s43_28 K), List.forall_mem_cons.mpr ⟨am_alS i43_31 (s43_31 K), List.forall_mem_cons.mpr ⟨am_alS i43_33 (s43_33 K), List.forall_mem_cons.mpr ⟨am_alS i43_36 (s43_36 K), List.forall_mem_cons.mpr ⟨am_alS i43_37 (s43_37 K), List.forall_mem_cons.mpr ⟨am_alS i43_40 (s43_40 K), List.forall_mem_cons.mpr ⟨am_alS i43_43 (s43_43 K), List.forall_mem_cons.mpr ⟨am_alS i43_46 (s43_46 K), List.forall_mem_cons.mpr ⟨am_alS i43_47 (s43_47 K), List.forall_mem_cons.mpr ⟨am_alS i43_48 (s43_48 K), List.forall_mem_cons.mpr ⟨am_alS i43_51 (s43_51 K), List.forall_mem_cons.mpr ⟨am_alS i43_52 (s43_52 K), List.forall_mem_cons.mpr ⟨am_alS i43_53 (s43_53 K), List.forall_mem_cons.mpr ⟨am_alS i43_54 (s43_54 K), List.forall_mem_cons.mpr ⟨am_alS i43_55 (s43_55 K), fun _ h => absurd h List.not_mem_nil⟩⟩⟩⟩⟩⟩⟩⟩⟩⟩⟩⟩⟩⟩⟩⟩⟩⟩⟩⟩⟩⟩⟩⟩⟩⟩⟩⟩⟩⟩
theorem al43_1 (K : aK) : ∀ q ∈ [58], am_All K 43 q := List.forall_mem_cons.mpr ⟨am_alR i43_58 s43_58, fun _ h => absurd h List.not_mem_nil⟩
set_option maxRecDepth 100000 in
theorem al43 (K : aK) : ∀ q ∈ (am_t43).map (fun z => z.1), am_All K 43 q := by
  have e : (am_t43).map (fun z => z.1) = [0, 1, 4, 5, 6, 8, 11, 12, 13, 15, 18, 19, 22, 24, 27, 28, 31, 33, 36, 37, 40, 43, 46, 47, 48, 51, 52, 53, 54, 55] ++ ([58]) := rfl
  rw [e]
  exact List.forall_mem_append.mpr ⟨al43_0 K, al43_1 K⟩
theorem i44_0 : am_ins 44 0 = (1, 1, 1, 0, []) := by decide +kernel
theorem d44_0 : decode (am_cod 44) 0 = .ok (.iload_n 1, 1) := by decide +kernel
theorem s44_0 (K : aK) : am_Snd K 44 0 := sn_iload_n i44_0 d44_0 rfl
theorem i44_1 : am_ins 44 1 = (61, 22, 1, 0, []) := by decide +kernel
theorem d44_1 : decode (am_cod 44) 1 = .ok (.invokestatic 37, 3) := by decide +kernel
theorem s44_1 (K : aK) : am_SndC K 44 1 := sc_SN i44_1 d44_1 co22 nw_331 w_208 w_1 hd22
theorem i44_4 : am_ins 44 4 = (12, 0, 23, 0, []) := by decide +kernel
theorem d44_4 : decode (am_cod 44) 4 = .ok (.ifCond .eq 19, 3) := by decide +kernel
theorem s44_4 (K : aK) : am_Snd K 44 4 := sn_if_eq i44_4 d44_4 rfl
theorem i44_7 : am_ins 44 7 = (1, 1, 1, 0, []) := by decide +kernel
theorem d44_7 : decode (am_cod 44) 7 = .ok (.iload_n 1, 1) := by decide +kernel
theorem s44_7 (K : aK) : am_Snd K 44 7 := sn_iload_n i44_7 d44_7 rfl
theorem i44_8 : am_ins 44 8 = (0, 1, 0, 2, []) := by decide +kernel
theorem d44_8 : decode (am_cod 44) 8 = .ok (.iconst 2, 1) := by decide +kernel
theorem s44_8 (K : aK) : am_Snd K 44 8 := sn_const1 i44_8 d44_8 rfl
theorem i44_9 : am_ins 44 9 = (6, 0, 0, 0, []) := by decide +kernel
theorem d44_9 : decode (am_cod 44) 9 = .ok (.irem, 1) := by decide +kernel
theorem s44_9 (K : aK) : am_Snd K 44 9 := sn_rem i44_9 d44_9 
theorem i44_10 : am_ins 44 10 = (33, 0, 1, 0, []) := by decide +kernel
theorem d44_10 : decode (am_cod 44) 10 = .ok (.aload_n 0, 1) := by decide +kernel
theorem s44_10 (K : aK) : am_Snd K 44 10 := sn_aload_n i44_10 d44_10 rfl
theorem i44_11 : am_ins 44 11 = (18, 4, 0, 0, []) := by decide +kernel
theorem d44_11 : decode (am_cod 44) 11 = .ok (.getfield 30, 3) := by decide +kernel
theorem s44_11 (K : aK) : am_Snd K 44 11 := sn_get (C0 := CN4) (T := FT4) (Nf := 9) i44_11 d44_11 rfl (by decide +kernel) fin4 w_81 rfl
theorem i44_14 : am_ins 44 14 = (0, 1, 0, 2, []) := by decide +kernel
theorem d44_14 : decode (am_cod 44) 14 = .ok (.iconst 2, 1) := by decide +kernel
theorem s44_14 (K : aK) : am_Snd K 44 14 := sn_const1 i44_14 d44_14 rfl
theorem i44_15 : am_ins 44 15 = (6, 0, 0, 0, []) := by decide +kernel
theorem d44_15 : decode (am_cod 44) 15 = .ok (.irem, 1) := by decide +kernel
theorem s44_15 (K : aK) : am_Snd K 44 15 := sn_rem i44_15 d44_15 
theorem i44_16 : am_ins 44 16 = (13, 1, 23, 0, []) := by decide +kernel
theorem d44_16 : decode (am_cod 44) 16 = .ok (.if_icmp .ne 7, 3) := by decide +kernel
theorem s44_16 (K : aK) : am_Snd K 44 16 := sn_icmp_ne i44_16 d44_16 rfl
theorem i44_19 : am_ins 44 19 = (0, 1, 0, 1, []) := by decide +kernel
theorem d44_19 : decode (am_cod 44) 19 = .ok (.iconst 1, 1) := by decide +kernel
theorem s44_19 (K : aK) : am_Snd K 44 19 := sn_const1 i44_19 d44_19 rfl
theorem i44_20 : am_ins 44 20 = (14, 24, 0, 0, []) := by decide +kernel
theorem d44_20 : decode (am_cod 44) 20 = .ok (.goto 4, 3) := by decide +kernel
theorem s44_20 (K : aK) : am_Snd K 44 20 := sn_goto i44_20 d44_20 rfl
theorem i44_23 : am_ins 44 23 = (0, 1, 0, 0, []) := by decide +kernel
theorem d44_23 : decode (am_cod 44) 23 = .ok (.iconst 0, 1) := by decide +kernel
theorem s44_23 (K : aK) : am_Snd K 44 23 := sn_const1 i44_23 d44_23 rfl
theorem i44_24 : am_ins 44 24 = (51, 0, 0, 0, []) := by decide +kernel
theorem d44_24 : decode (am_cod 44) 24 = .ok (.ireturn, 1) := by decide +kernel
theorem s44_24 : am_SndR 44 24 := sn_zret i44_24 d44_24 rfl
theorem al44_0 (K : aK) : ∀ q ∈ [0, 1, 4, 7, 8, 9, 10, 11, 14, 15, 16, 19, 20, 23, 24], am_All K 44 q := List.forall_mem_cons.mpr ⟨am_alS i44_0 (s44_0 K), List.forall_mem_cons.mpr ⟨am_alC i44_1 (s44_1 K), List.forall_mem_cons.mpr ⟨am_alS i44_4 (s44_4 K), List.forall_mem_cons.mpr ⟨am_alS i44_7 (s44_7 K), List.forall_mem_cons.mpr ⟨am_alS i44_8 (s44_8 K), List.forall_mem_cons.mpr ⟨am_alS i44_9 (s44_9 K), List.forall_mem_cons.mpr ⟨am_alS i44_10 (s44_10 K), List.forall_mem_cons.mpr ⟨am_alS i44_11 (s44_11 K), List.forall_mem_cons.mpr ⟨am_alS i44_14 (s44_14 K), List.forall_mem_cons.mpr ⟨am_alS i44_15 (s44_15 K), List.forall_mem_cons.mpr ⟨am_alS i44_16 (s44_16 K), List.forall_mem_cons.mpr ⟨am_alS i44_19 (s44_19 K), List.forall_mem_cons.mpr ⟨am_alS i44_20 (s44_20 K), List.forall_mem_cons.mpr ⟨am_alS i44_23 (s44_23 K), List.forall_mem_cons.mpr ⟨am_alR i44_24 s44_24, fun _ h => absurd h List.not_mem_nil⟩⟩⟩⟩⟩⟩⟩⟩⟩⟩⟩⟩⟩⟩⟩
set_option maxRecDepth 100000 in
theorem al44 (K : aK) : ∀ q ∈ (am_t44).map (fun z => z.1), am_All K 44 q := by
  have e : (am_t44).map (fun z => z.1) = [0, 1, 4, 7, 8, 9, 10, 11, 14, 15, 16, 19, 20, 23, 24] := rfl
  rw [e]
  exact al44_0 K
theorem i45_0 : am_ins 45 0 = (33, 0, 1, 0, []) := by decide +kernel
theorem d45_0 : decode (am_cod 45) 0 = .ok (.aload_n 0, 1) := by decide +kernel
theorem s45_0 (K : aK) : am_Snd K 45 0 := sn_aload_n i45_0 d45_0 rfl
theorem i45_1 : am_ins 45 1 = (18, 4, 0, 0, []) := by decide +kernel
theorem d45_1 : decode (am_cod 45) 1 = .ok (.getfield 30, 3) := by decide +kernel
theorem s45_1 (K : aK) : am_Snd K 45 1 := sn_get (C0 := CN4) (T := FT4) (Nf := 9) i45_1 d45_1 rfl (by decide +kernel) fin4 w_81 rfl
theorem i45_4 : am_ins 45 4 = (0, 1, 0, 2, []) := by decide +kernel
theorem d45_4 : decode (am_cod 45) 4 = .ok (.iconst 2, 1) := by decide +kernel
theorem s45_4 (K : aK) : am_Snd K 45 4 := sn_const1 i45_4 d45_4 rfl
theorem i45_5 : am_ins 45 5 = (6, 0, 0, 0, []) := by decide +kernel
theorem d45_5 : decode (am_cod 45) 5 = .ok (.irem, 1) := by decide +kernel
theorem s45_5 (K : aK) : am_Snd K 45 5 := sn_rem i45_5 d45_5 
theorem i45_6 : am_ins 45 6 = (12, 1, 18, 0, []) := by decide +kernel
theorem d45_6 : decode (am_cod 45) 6 = .ok (.ifCond .ne 12, 3) := by decide +kernel
theorem s45_6 (K : aK) : am_Snd K 45 6 := sn_if_ne i45_6 d45_6 rfl
theorem i45_9 : am_ins 45 9 = (33, 0, 1, 0, []) := by decide +kernel
theorem d45_9 : decode (am_cod 45) 9 = .ok (.aload_n 0, 1) := by decide +kernel
theorem s45_9 (K : aK) : am_Snd K 45 9 := sn_aload_n i45_9 d45_9 rfl
theorem i45_10 : am_ins 45 10 = (18, 4, 0, 0, []) := by decide +kernel
theorem d45_10 : decode (am_cod 45) 10 = .ok (.getfield 30, 3) := by decide +kernel
theorem s45_10 (K : aK) : am_Snd K 45 10 := sn_get (C0 := CN4) (T := FT4) (Nf := 9) i45_10 d45_10 rfl (by decide +kernel) fin4 w_81 rfl
theorem i45_13 : am_ins 45 13 = (0, 1, 0, 1, []) := by decide +kernel
theorem d45_13 : decode (am_cod 45) 13 = .ok (.iconst 1, 1) := by decide +kernel
theorem s45_13 (K : aK) : am_Snd K 45 13 := sn_const1 i45_13 d45_13 rfl
theorem i45_14 : am_ins 45 14 = (4, 0, 0, 0, []) := by decide +kernel
theorem d45_14 : decode (am_cod 45) 14 = .ok (.iadd, 1) := by decide +kernel
theorem s45_14 (K : aK) : am_Snd K 45 14 := sn_add i45_14 d45_14 
theorem i45_15 : am_ins 45 15 = (14, 24, 0, 0, []) := by decide +kernel
theorem d45_15 : decode (am_cod 45) 15 = .ok (.goto 9, 3) := by decide +kernel
theorem s45_15 (K : aK) : am_Snd K 45 15 := sn_goto i45_15 d45_15 rfl
theorem i45_18 : am_ins 45 18 = (33, 0, 1, 0, []) := by decide +kernel
theorem d45_18 : decode (am_cod 45) 18 = .ok (.aload_n 0, 1) := by decide +kernel
theorem s45_18 (K : aK) : am_Snd K 45 18 := sn_aload_n i45_18 d45_18 rfl
theorem i45_19 : am_ins 45 19 = (18, 4, 0, 0, []) := by decide +kernel
theorem d45_19 : decode (am_cod 45) 19 = .ok (.getfield 30, 3) := by decide +kernel
theorem s45_19 (K : aK) : am_Snd K 45 19 := sn_get (C0 := CN4) (T := FT4) (Nf := 9) i45_19 d45_19 rfl (by decide +kernel) fin4 w_81 rfl
theorem i45_22 : am_ins 45 22 = (0, 1, 0, 1, []) := by decide +kernel
theorem d45_22 : decode (am_cod 45) 22 = .ok (.iconst 1, 1) := by decide +kernel
theorem s45_22 (K : aK) : am_Snd K 45 22 := sn_const1 i45_22 d45_22 rfl
theorem i45_23 : am_ins 45 23 = (4, 1, 0, 0, []) := by decide +kernel
theorem d45_23 : decode (am_cod 45) 23 = .ok (.isub, 1) := by decide +kernel
theorem s45_23 (K : aK) : am_Snd K 45 23 := sn_sub i45_23 d45_23 
theorem i45_24 : am_ins 45 24 = (50, 0, 0, 0, []) := by decide +kernel
theorem d45_24 : decode (am_cod 45) 24 = .ok (.ireturn, 1) := by decide +kernel
theorem s45_24 : am_SndR 45 24 := sn_iret i45_24 d45_24 rfl
theorem al45_0 (K : aK) : ∀ q ∈ [0, 1, 4, 5, 6, 9, 10, 13, 14, 15, 18, 19, 22, 23, 24], am_All K 45 q := List.forall_mem_cons.mpr ⟨am_alS i45_0 (s45_0 K), List.forall_mem_cons.mpr ⟨am_alS i45_1 (s45_1 K), List.forall_mem_cons.mpr ⟨am_alS i45_4 (s45_4 K), List.forall_mem_cons.mpr ⟨am_alS i45_5 (s45_5 K), List.forall_mem_cons.mpr ⟨am_alS i45_6 (s45_6 K), List.forall_mem_cons.mpr ⟨am_alS i45_9 (s45_9 K), List.forall_mem_cons.mpr ⟨am_alS i45_10 (s45_10 K), List.forall_mem_cons.mpr ⟨am_alS i45_13 (s45_13 K), List.forall_mem_cons.mpr ⟨am_alS i45_14 (s45_14 K), List.forall_mem_cons.mpr ⟨am_alS i45_15 (s45_15 K), List.forall_mem_cons.mpr ⟨am_alS i45_18 (s45_18 K), List.forall_mem_cons.mpr ⟨am_alS i45_19 (s45_19 K), List.forall_mem_cons.mpr ⟨am_alS i45_22 (s45_22 K), List.forall_mem_cons.mpr ⟨am_alS i45_23 (s45_23 K), List.forall_mem_cons.mpr ⟨am_alR i45_24 s45_24, fun _ h => absurd h List.not_mem_nil⟩⟩⟩⟩⟩⟩⟩⟩⟩⟩⟩⟩⟩⟩⟩
set_option maxRecDepth 100000 in
theorem al45 (K : aK) : ∀ q ∈ (am_t45).map (fun z => z.1), am_All K 45 q := by
  have e : (am_t45).map (fun z => z.1) = [0, 1, 4, 5, 6, 9, 10, 13, 14, 15, 18, 19, 22, 23, 24] := rfl
  rw [e]
  exact al45_0 K
theorem i46_0 : am_ins 46 0 = (33, 0, 1, 0, []) := by decide +kernel
theorem d46_0 : decode (am_cod 46) 0 = .ok (.aload_n 0, 1) := by decide +kernel
theorem s46_0 (K : aK) : am_Snd K 46 0 := sn_aload_n i46_0 d46_0 rfl
theorem i46_1 : am_ins 46 1 = (18, 4, 2, 0, []) := by decide +kernel
theorem d46_1 : decode (am_cod 46) 1 = .ok (.getfield 9, 3) := by decide +kernel
theorem s46_1 (K : aK) : am_Snd K 46 1 := sn_get (C0 := CN4) (T := FT4) (Nf := 9) i46_1 d46_1 rfl (by decide +kernel) fin4 w_85 rfl
theorem i46_4 : am_ins 46 4 = (1, 1, 1, 0, []) := by decide +kernel
theorem d46_4 : decode (am_cod 46) 4 = .ok (.iload_n 1, 1) := by decide +kernel
theorem s46_4 (K : aK) : am_Snd K 46 4 := sn_iload_n i46_4 d46_4 rfl
theorem i46_5 : am_ins 46 5 = (61, 25, 2, 0, []) := by decide +kernel
theorem d46_5 : decode (am_cod 46) 5 = .ok (.invokestatic 41, 3) := by decide +kernel
theorem s46_5 (K : aK) : am_SndC K 46 5 := sc_SN i46_5 d46_5 co25 nw_177 w_178 w_1 hd25
theorem i46_8 : am_ins 46 8 = (33, 0, 1, 0, []) := by decide +kernel
theorem d46_8 : decode (am_cod 46) 8 = .ok (.aload_n 0, 1) := by decide +kernel
theorem s46_8 (K : aK) : am_Snd K 46 8 := sn_aload_n i46_8 d46_8 rfl
theorem i46_9 : am_ins 46 9 = (18, 4, 3, 0, []) := by decide +kernel
theorem d46_9 : decode (am_cod 46) 9 = .ok (.getfield 15, 3) := by decide +kernel
theorem s46_9 (K : aK) : am_Snd K 46 9 := sn_get (C0 := CN4) (T := FT4) (Nf := 9) i46_9 d46_9 rfl (by decide +kernel) fin4 w_87 rfl
theorem i46_12 : am_ins 46 12 = (1, 1, 1, 0, []) := by decide +kernel
theorem d46_12 : decode (am_cod 46) 12 = .ok (.iload_n 1, 1) := by decide +kernel
theorem s46_12 (K : aK) : am_Snd K 46 12 := sn_iload_n i46_12 d46_12 rfl
theorem i46_13 : am_ins 46 13 = (61, 25, 2, 0, []) := by decide +kernel
theorem d46_13 : decode (am_cod 46) 13 = .ok (.invokestatic 41, 3) := by decide +kernel
theorem s46_13 (K : aK) : am_SndC K 46 13 := sc_SN i46_13 d46_13 co25 nw_177 w_178 w_1 hd25
theorem i46_16 : am_ins 46 16 = (37, 0, 0, 0, []) := by decide +kernel
theorem d46_16 : decode (am_cod 46) 16 = .ok (.invokestatic 45, 3) := by decide +kernel
theorem s46_16 (K : aK) : am_Snd K 46 16 := sn_min i46_16 d46_16 w_180 w_181 w_7 w_182
theorem i46_19 : am_ins 46 19 = (50, 0, 0, 0, []) := by decide +kernel
theorem d46_19 : decode (am_cod 46) 19 = .ok (.ireturn, 1) := by decide +kernel
theorem s46_19 : am_SndR 46 19 := sn_iret i46_19 d46_19 rfl
theorem al46_0 (K : aK) : ∀ q ∈ [0, 1, 4, 5, 8, 9, 12, 13, 16, 19], am_All K 46 q := List.forall_mem_cons.mpr ⟨am_alS i46_0 (s46_0 K), List.forall_mem_cons.mpr ⟨am_alS i46_1 (s46_1 K), List.forall_mem_cons.mpr ⟨am_alS i46_4 (s46_4 K), List.forall_mem_cons.mpr ⟨am_alC i46_5 (s46_5 K), List.forall_mem_cons.mpr ⟨am_alS i46_8 (s46_8 K), List.forall_mem_cons.mpr ⟨am_alS i46_9 (s46_9 K), List.forall_mem_cons.mpr ⟨am_alS i46_12 (s46_12 K), List.forall_mem_cons.mpr ⟨am_alC i46_13 (s46_13 K), List.forall_mem_cons.mpr ⟨am_alS i46_16 (s46_16 K), List.forall_mem_cons.mpr ⟨am_alR i46_19 s46_19, fun _ h => absurd h List.not_mem_nil⟩⟩⟩⟩⟩⟩⟩⟩⟩⟩
set_option maxRecDepth 100000 in
theorem al46 (K : aK) : ∀ q ∈ (am_t46).map (fun z => z.1), am_All K 46 q := by
  have e : (am_t46).map (fun z => z.1) = [0, 1, 4, 5, 8, 9, 12, 13, 16, 19] := rfl
  rw [e]
  exact al46_0 K
theorem i47_0 : am_ins 47 0 = (1, 1, 1, 0, []) := by decide +kernel
theorem d47_0 : decode (am_cod 47) 0 = .ok (.iload_n 1, 1) := by decide +kernel
theorem s47_0 (K : aK) : am_Snd K 47 0 := sn_iload_n i47_0 d47_0 rfl
theorem i47_1 : am_ins 47 1 = (61, 21, 1, 0, []) := by decide +kernel
theorem d47_1 : decode (am_cod 47) 1 = .ok (.invokestatic 51, 3) := by decide +kernel
theorem s47_1 (K : aK) : am_SndC K 47 1 := sc_SN i47_1 d47_1 co21 nw_437 w_438 w_1 hd21
theorem i47_4 : am_ins 47 4 = (12, 0, 14, 0, []) := by decide +kernel
theorem d47_4 : decode (am_cod 47) 4 = .ok (.ifCond .eq 10, 3) := by decide +kernel
theorem s47_4 (K : aK) : am_Snd K 47 4 := sn_if_eq i47_4 d47_4 rfl
theorem i47_7 : am_ins 47 7 = (33, 0, 1, 0, []) := by decide +kernel
theorem d47_7 : decode (am_cod 47) 7 = .ok (.aload_n 0, 1) := by decide +kernel
theorem s47_7 (K : aK) : am_Snd K 47 7 := sn_aload_n i47_7 d47_7 rfl
theorem i47_8 : am_ins 47 8 = (18, 4, 2, 0, []) := by decide +kernel
theorem d47_8 : decode (am_cod 47) 8 = .ok (.getfield 9, 3) := by decide +kernel
theorem s47_8 (K : aK) : am_Snd K 47 8 := sn_get (C0 := CN4) (T := FT4) (Nf := 9) i47_8 d47_8 rfl (by decide +kernel) fin4 w_85 rfl
theorem i47_11 : am_ins 47 11 = (1, 1, 1, 0, []) := by decide +kernel
theorem d47_11 : decode (am_cod 47) 11 = .ok (.iload_n 1, 1) := by decide +kernel
theorem s47_11 (K : aK) : am_Snd K 47 11 := sn_iload_n i47_11 d47_11 rfl
theorem i47_12 : am_ins 47 12 = (1, 2, 1, 0, []) := by decide +kernel
theorem d47_12 : decode (am_cod 47) 12 = .ok (.iload_n 2, 1) := by decide +kernel
theorem s47_12 (K : aK) : am_Snd K 47 12 := sn_iload_n i47_12 d47_12 rfl
theorem i47_13 : am_ins 47 13 = (23, 0, 0, 0, []) := by decide +kernel
theorem d47_13 : decode (am_cod 47) 13 = .ok (.iastore, 1) := by decide +kernel
theorem s47_13 (K : aK) : am_Snd K 47 13 := sn_iast i47_13 d47_13 
theorem i47_14 : am_ins 47 14 = (53, 0, 0, 0, []) := by decide +kernel
theorem d47_14 : decode (am_cod 47) 14 = .ok (.return_, 1) := by decide +kernel
theorem s47_14 : am_SndR 47 14 := sn_vret i47_14 d47_14 rfl
theorem al47_0 (K : aK) : ∀ q ∈ [0, 1, 4, 7, 8, 11, 12, 13, 14], am_All K 47 q := List.forall_mem_cons.mpr ⟨am_alS i47_0 (s47_0 K), List.forall_mem_cons.mpr ⟨am_alC i47_1 (s47_1 K), List.forall_mem_cons.mpr ⟨am_alS i47_4 (s47_4 K), List.forall_mem_cons.mpr ⟨am_alS i47_7 (s47_7 K), List.forall_mem_cons.mpr ⟨am_alS i47_8 (s47_8 K), List.forall_mem_cons.mpr ⟨am_alS i47_11 (s47_11 K), List.forall_mem_cons.mpr ⟨am_alS i47_12 (s47_12 K), List.forall_mem_cons.mpr ⟨am_alS i47_13 (s47_13 K), List.forall_mem_cons.mpr ⟨am_alR i47_14 s47_14, fun _ h => absurd h List.not_mem_nil⟩⟩⟩⟩⟩⟩⟩⟩⟩
set_option maxRecDepth 100000 in
theorem al47 (K : aK) : ∀ q ∈ (am_t47).map (fun z => z.1), am_All K 47 q := by
  have e : (am_t47).map (fun z => z.1) = [0, 1, 4, 7, 8, 11, 12, 13, 14] := rfl
  rw [e]
  exact al47_0 K
theorem i48_0 : am_ins 48 0 = (33, 1, 1, 0, []) := by decide +kernel
theorem d48_0 : decode (am_cod 48) 0 = .ok (.aload_n 1, 1) := by decide +kernel
theorem s48_0 (K : aK) : am_Snd K 48 0 := sn_aload_n i48_0 d48_0 rfl
theorem i48_1 : am_ins 48 1 = (16, 5, 0, 0, []) := by decide +kernel
theorem d48_1 : decode (am_cod 48) 1 = .ok (.ifnonnull 4, 3) := by decide +kernel
theorem s48_1 (K : aK) : am_Snd K 48 1 := sn_ifnonnull i48_1 d48_1 rfl
theorem i48_4 : am_ins 48 4 = (53, 0, 0, 0, []) := by decide +kernel
theorem d48_4 : decode (am_cod 48) 4 = .ok (.return_, 1) := by decide +kernel
theorem s48_4 : am_SndR 48 4 := sn_vret i48_4 d48_4 rfl
theorem i48_5 : am_ins 48 5 = (0, 1, 0, 0, []) := by decide +kernel
theorem d48_5 : decode (am_cod 48) 5 = .ok (.iconst 0, 1) := by decide +kernel
theorem s48_5 (K : aK) : am_Snd K 48 5 := sn_const1 i48_5 d48_5 rfl
theorem i48_6 : am_ins 48 6 = (2, 2, 1, 0, []) := by decide +kernel
theorem d48_6 : decode (am_cod 48) 6 = .ok (.istore_n 2, 1) := by decide +kernel
theorem s48_6 (K : aK) : am_Snd K 48 6 := sn_istore_n i48_6 d48_6 rfl (by decide +kernel)
theorem i48_7 : am_ins 48 7 = (1, 2, 1, 0, []) := by decide +kernel
theorem d48_7 : decode (am_cod 48) 7 = .ok (.iload_n 2, 1) := by decide +kernel
theorem s48_7 (K : aK) : am_Snd K 48 7 := sn_iload_n i48_7 d48_7 rfl
theorem i48_8 : am_ins 48 8 = (0, 1, 0, 3, []) := by decide +kernel
theorem d48_8 : decode (am_cod 48) 8 = .ok (.iconst 3, 1) := by decide +kernel
theorem s48_8 (K : aK) : am_Snd K 48 8 := sn_const1 i48_8 d48_8 rfl
theorem i48_9 : am_ins 48 9 = (13, 3, 29, 0, []) := by decide +kernel
theorem d48_9 : decode (am_cod 48) 9 = .ok (.if_icmp .ge 20, 3) := by decide +kernel
theorem s48_9 (K : aK) : am_Snd K 48 9 := sn_icmp_ge i48_9 d48_9 rfl
theorem i48_12 : am_ins 48 12 = (33, 0, 1, 0, []) := by decide +kernel
theorem d48_12 : decode (am_cod 48) 12 = .ok (.aload_n 0, 1) := by decide +kernel
theorem s48_12 (K : aK) : am_Snd K 48 12 := sn_aload_n i48_12 d48_12 rfl
theorem i48_13 : am_ins 48 13 = (18, 4, 3, 0, []) := by decide +kernel
theorem d48_13 : decode (am_cod 48) 13 = .ok (.getfield 15, 3) := by decide +kernel
theorem s48_13 (K : aK) : am_Snd K 48 13 := sn_get (C0 := CN4) (T := FT4) (Nf := 9) i48_13 d48_13 rfl (by decide +kernel) fin4 w_87 rfl
theorem i48_16 : am_ins 48 16 = (1, 2, 1, 0, []) := by decide +kernel
theorem d48_16 : decode (am_cod 48) 16 = .ok (.iload_n 2, 1) := by decide +kernel
theorem s48_16 (K : aK) : am_Snd K 48 16 := sn_iload_n i48_16 d48_16 rfl
theorem i48_17 : am_ins 48 17 = (33, 1, 1, 0, []) := by decide +kernel
theorem d48_17 : decode (am_cod 48) 17 = .ok (.aload_n 1, 1) := by decide +kernel
theorem s48_17 (K : aK) : am_Snd K 48 17 := sn_aload_n i48_17 d48_17 rfl
theorem i48_18 : am_ins 48 18 = (1, 2, 1, 0, []) := by decide +kernel
theorem d48_18 : decode (am_cod 48) 18 = .ok (.iload_n 2, 1) := by decide +kernel
theorem s48_18 (K : aK) : am_Snd K 48 18 := sn_iload_n i48_18 d48_18 rfl
theorem i48_19 : am_ins 48 19 = (61, 25, 2, 0, []) := by decide +kernel
theorem d48_19 : decode (am_cod 48) 19 = .ok (.invokestatic 41, 3) := by decide +kernel
theorem s48_19 (K : aK) : am_SndC K 48 19 := sc_SN i48_19 d48_19 co25 nw_177 w_178 w_1 hd25
theorem i48_22 : am_ins 48 22 = (23, 0, 0, 0, []) := by decide +kernel
theorem d48_22 : decode (am_cod 48) 22 = .ok (.iastore, 1) := by decide +kernel
theorem s48_22 (K : aK) : am_Snd K 48 22 := sn_iast i48_22 d48_22 
theorem i48_23 : am_ins 48 23 = (3, 2, 3, 1, []) := by decide +kernel
theorem d48_23 : decode (am_cod 48) 23 = .ok (.iinc 2 1, 3) := by decide +kernel
theorem s48_23 (K : aK) : am_Snd K 48 23 := sn_iinc i48_23 d48_23 rfl (by decide +kernel)
theorem i48_26 : am_ins 48 26 = (14, 7, 0, 0, []) := by decide +kernel
theorem d48_26 : decode (am_cod 48) 26 = .ok (.goto (-19), 3) := by decide +kernel
theorem s48_26 (K : aK) : am_Snd K 48 26 := sn_goto i48_26 d48_26 rfl
theorem i48_29 : am_ins 48 29 = (53, 0, 0, 0, []) := by decide +kernel
theorem d48_29 : decode (am_cod 48) 29 = .ok (.return_, 1) := by decide +kernel
theorem s48_29 : am_SndR 48 29 := sn_vret i48_29 d48_29 rfl
theorem al48_0 (K : aK) : ∀ q ∈ [0, 1, 4, 5, 6, 7, 8, 9, 12, 13, 16, 17, 18, 19, 22, 23, 26, 29], am_All K 48 q := List.forall_mem_cons.mpr ⟨am_alS i48_0 (s48_0 K), List.forall_mem_cons.mpr ⟨am_alS i48_1 (s48_1 K), List.forall_mem_cons.mpr ⟨am_alR i48_4 s48_4, List.forall_mem_cons.mpr ⟨am_alS i48_5 (s48_5 K), List.forall_mem_cons.mpr ⟨am_alS i48_6 (s48_6 K), List.forall_mem_cons.mpr ⟨am_alS i48_7 (s48_7 K), List.forall_mem_cons.mpr ⟨am_alS i48_8 (s48_8 K), List.forall_mem_cons.mpr ⟨am_alS i48_9 (s48_9 K), List.forall_mem_cons.mpr ⟨am_alS i48_12 (s48_12 K), List.forall_mem_cons.mpr ⟨am_alS i48_13 (s48_13 K), List.forall_mem_cons.mpr ⟨am_alS i48_16 (s48_16 K), List.forall_mem_cons.mpr ⟨am_alS i48_17 (s48_17 K), List.forall_mem_cons.mpr ⟨am_alS i48_18 (s48_18 K), List.forall_mem_cons.mpr ⟨am_alC i48_19 (s48_19 K), List.forall_mem_cons.mpr ⟨am_alS i48_22 (s48_22 K), List.forall_mem_cons.mpr ⟨am_alS i48_23 (s48_23 K), List.forall_mem_cons.mpr ⟨am_alS i48_26 (s48_26 K), List.forall_mem_cons.mpr ⟨am_alR i48_29 s48_29, fun _ h => absurd h List.not_mem_nil⟩⟩⟩⟩⟩⟩⟩⟩⟩⟩⟩⟩⟩⟩⟩⟩⟩⟩
set_option maxRecDepth 100000 in
theorem al48 (K : aK) : ∀ q ∈ (am_t48).map (fun z => z.1), am_All K 48 q := by
  have e : (am_t48).map (fun z => z.1) = [0, 1, 4, 5, 6, 7, 8, 9, 12, 13, 16, 17, 18, 19, 22, 23, 26, 29] := rfl
  rw [e]
  exact al48_0 K
theorem i49_0 : am_ins 49 0 = (33, 0, 1, 0, []) := by decide +kernel
theorem d49_0 : decode (am_cod 49) 0 = .ok (.aload_n 0, 1) := by decide +kernel
theorem s49_0 (K : aK) : am_Snd K 49 0 := sn_aload_n i49_0 d49_0 rfl
theorem i49_1 : am_ins 49 1 = (18, 4, 8, 0, []) := by decide +kernel
theorem d49_1 : decode (am_cod 49) 1 = .ok (.getfield 54, 3) := by decide +kernel
theorem s49_1 (K : aK) : am_Snd K 49 1 := sn_get (C0 := CN4) (T := FT4) (Nf := 9) i49_1 d49_1 rfl (by decide +kernel) fin4 w_94 rfl
theorem i49_4 : am_ins 49 4 = (33, 1, 1, 0, []) := by decide +kernel
theorem d49_4 : decode (am_cod 49) 4 = .ok (.aload_n 1, 1) := by decide +kernel
theorem s49_4 (K : aK) : am_Snd K 49 4 := sn_aload_n i49_4 d49_4 rfl
theorem i49_5 : am_ins 49 5 = (18, 5, 3, 0, []) := by decide +kernel
theorem d49_5 : decode (am_cod 49) 5 = .ok (.getfield 57, 3) := by decide +kernel
theorem s49_5 (K : aK) : am_Snd K 49 5 := sn_get (C0 := CN5) (T := FT5) (Nf := 8) i49_5 d49_5 rfl (by decide +kernel) fin5 w_285 rfl
theorem i49_8 : am_ins 49 8 = (36, 0, 0, 0, []) := by decide +kernel
theorem d49_8 : decode (am_cod 49) 8 = .ok (.invokestatic 60, 3) := by decide +kernel
theorem s49_8 (K : aK) : am_Snd K 49 8 := sn_max i49_8 d49_8 w_336 w_184 w_7 w_185
theorem i49_11 : am_ins 49 11 = (2, 2, 1, 0, []) := by decide +kernel
theorem d49_11 : decode (am_cod 49) 11 = .ok (.istore_n 2, 1) := by decide +kernel
theorem s49_11 (K : aK) : am_Snd K 49 11 := sn_istore_n i49_11 d49_11 rfl (by decide +kernel)
theorem i49_12 : am_ins 49 12 = (0, 1, 0, 0, []) := by decide +kernel
theorem d49_12 : decode (am_cod 49) 12 = .ok (.iconst 0, 1) := by decide +kernel
theorem s49_12 (K : aK) : am_Snd K 49 12 := sn_const1 i49_12 d49_12 rfl
theorem i49_13 : am_ins 49 13 = (2, 3, 1, 0, []) := by decide +kernel
theorem d49_13 : decode (am_cod 49) 13 = .ok (.istore_n 3, 1) := by decide +kernel
theorem s49_13 (K : aK) : am_Snd K 49 13 := sn_istore_n i49_13 d49_13 rfl (by decide +kernel)
theorem i49_14 : am_ins 49 14 = (1, 3, 1, 0, []) := by decide +kernel
theorem d49_14 : decode (am_cod 49) 14 = .ok (.iload_n 3, 1) := by decide +kernel
theorem s49_14 (K : aK) : am_Snd K 49 14 := sn_iload_n i49_14 d49_14 rfl
theorem i49_15 : am_ins 49 15 = (0, 1, 0, 3, []) := by decide +kernel
theorem d49_15 : decode (am_cod 49) 15 = .ok (.iconst 3, 1) := by decide +kernel
theorem s49_15 (K : aK) : am_Snd K 49 15 := sn_const1 i49_15 d49_15 rfl
theorem i49_16 : am_ins 49 16 = (13, 3, 38, 0, []) := by decide +kernel
theorem d49_16 : decode (am_cod 49) 16 = .ok (.if_icmp .ge 22, 3) := by decide +kernel
theorem s49_16 (K : aK) : am_Snd K 49 16 := sn_icmp_ge i49_16 d49_16 rfl
theorem i49_19 : am_ins 49 19 = (1, 2, 1, 0, []) := by decide +kernel
theorem d49_19 : decode (am_cod 49) 19 = .ok (.iload_n 2, 1) := by decide +kernel
theorem s49_19 (K : aK) : am_Snd K 49 19 := sn_iload_n i49_19 d49_19 rfl
theorem i49_20 : am_ins 49 20 = (33, 1, 1, 0, []) := by decide +kernel
theorem d49_20 : decode (am_cod 49) 20 = .ok (.aload_n 1, 1) := by decide +kernel
theorem s49_20 (K : aK) : am_Snd K 49 20 := sn_aload_n i49_20 d49_20 rfl
theorem i49_21 : am_ins 49 21 = (18, 5, 4, 0, []) := by decide +kernel
theorem d49_21 : decode (am_cod 49) 21 = .ok (.getfield 63, 3) := by decide +kernel
theorem s49_21 (K : aK) : am_Snd K 49 21 := sn_get (C0 := CN5) (T := FT5) (Nf := 8) i49_21 d49_21 rfl (by decide +kernel) fin5 w_287 rfl
theorem i49_24 : am_ins 49 24 = (1, 3, 1, 0, []) := by decide +kernel
theorem d49_24 : decode (am_cod 49) 24 = .ok (.iload_n 3, 1) := by decide +kernel
theorem s49_24 (K : aK) : am_Snd K 49 24 := sn_iload_n i49_24 d49_24 rfl
theorem i49_25 : am_ins 49 25 = (61, 25, 2, 0, []) := by decide +kernel
theorem d49_25 : decode (am_cod 49) 25 = .ok (.invokestatic 41, 3) := by decide +kernel
theorem s49_25 (K : aK) : am_SndC K 49 25 := sc_SN i49_25 d49_25 co25 nw_177 w_178 w_1 hd25
theorem i49_28 : am_ins 49 28 = (36, 0, 0, 0, []) := by decide +kernel
theorem d49_28 : decode (am_cod 49) 28 = .ok (.invokestatic 60, 3) := by decide +kernel
theorem s49_28 (K : aK) : am_Snd K 49 28 := sn_max i49_28 d49_28 w_336 w_184 w_7 w_185
theorem i49_31 : am_ins 49 31 = (2, 2, 1, 0, []) := by decide +kernel
theorem d49_31 : decode (am_cod 49) 31 = .ok (.istore_n 2, 1) := by decide +kernel
theorem s49_31 (K : aK) : am_Snd K 49 31 := sn_istore_n i49_31 d49_31 rfl (by decide +kernel)
theorem i49_32 : am_ins 49 32 = (3, 3, 3, 1, []) := by decide +kernel
theorem d49_32 : decode (am_cod 49) 32 = .ok (.iinc 3 1, 3) := by decide +kernel
theorem s49_32 (K : aK) : am_Snd K 49 32 := sn_iinc i49_32 d49_32 rfl (by decide +kernel)
theorem i49_35 : am_ins 49 35 = (14, 14, 0, 0, []) := by decide +kernel
theorem d49_35 : decode (am_cod 49) 35 = .ok (.goto (-21), 3) := by decide +kernel
theorem s49_35 (K : aK) : am_Snd K 49 35 := sn_goto i49_35 d49_35 rfl
theorem i49_38 : am_ins 49 38 = (33, 0, 1, 0, []) := by decide +kernel
theorem d49_38 : decode (am_cod 49) 38 = .ok (.aload_n 0, 1) := by decide +kernel
theorem s49_38 (K : aK) : am_Snd K 49 38 := sn_aload_n i49_38 d49_38 rfl
theorem i49_39 : am_ins 49 39 = (1, 2, 1, 0, []) := by decide +kernel
theorem d49_39 : decode (am_cod 49) 39 = .ok (.iload_n 2, 1) := by decide +kernel
theorem s49_39 (K : aK) : am_Snd K 49 39 := sn_iload_n i49_39 d49_39 rfl
theorem i49_40 : am_ins 49 40 = (0, 1, 0, 1, []) := by decide +kernel
theorem d49_40 : decode (am_cod 49) 40 = .ok (.iconst 1, 1) := by decide +kernel
theorem s49_40 (K : aK) : am_Snd K 49 40 := sn_const1 i49_40 d49_40 rfl
theorem i49_41 : am_ins 49 41 = (4, 0, 0, 0, []) := by decide +kernel
theorem d49_41 : decode (am_cod 49) 41 = .ok (.iadd, 1) := by decide +kernel
theorem s49_41 (K : aK) : am_Snd K 49 41 := sn_add i49_41 d49_41 
theorem i49_42 : am_ins 49 42 = (19, 4, 8, 0, []) := by decide +kernel
theorem d49_42 : decode (am_cod 49) 42 = .ok (.putfield 54, 3) := by decide +kernel
theorem s49_42 (K : aK) : am_Snd K 49 42 := sn_puti (ty := .int) (C0 := CN4) (T := FT4) (Nf := 9) (tyf := FY4) i49_42 d49_42 rfl (by decide +kernel) fin4 ftyok4 fnm4 w_94 rfl rfl rfl
theorem i49_45 : am_ins 49 45 = (33, 0, 1, 0, []) := by decide +kernel
theorem d49_45 : decode (am_cod 49) 45 = .ok (.aload_n 0, 1) := by decide +kernel
theorem s49_45 (K : aK) : am_Snd K 49 45 := sn_aload_n i49_45 d49_45 rfl
theorem i49_46 : am_ins 49 46 = (33, 1, 1, 0, []) := by decide +kernel
theorem d49_46 : decode (am_cod 49) 46 = .ok (.aload_n 1, 1) := by decide +kernel
theorem s49_46 (K : aK) : am_Snd K 49 46 := sn_aload_n i49_46 d49_46 rfl
theorem i49_47 : am_ins 49 47 = (18, 5, 0, 0, []) := by decide +kernel
theorem d49_47 : decode (am_cod 49) 47 = .ok (.getfield 66, 3) := by decide +kernel
theorem s49_47 (K : aK) : am_Snd K 49 47 := sn_get (C0 := CN5) (T := FT5) (Nf := 8) i49_47 d49_47 rfl (by decide +kernel) fin5 w_279 rfl
theorem i49_50 : am_ins 49 50 = (0, 1, 0, 1, []) := by decide +kernel
theorem d49_50 : decode (am_cod 49) 50 = .ok (.iconst 1, 1) := by decide +kernel
theorem s49_50 (K : aK) : am_Snd K 49 50 := sn_const1 i49_50 d49_50 rfl
theorem i49_51 : am_ins 49 51 = (33, 0, 1, 0, []) := by decide +kernel
theorem d49_51 : decode (am_cod 49) 51 = .ok (.aload_n 0, 1) := by decide +kernel
theorem s49_51 (K : aK) : am_Snd K 49 51 := sn_aload_n i49_51 d49_51 rfl
theorem i49_52 : am_ins 49 52 = (18, 4, 8, 0, []) := by decide +kernel
theorem d49_52 : decode (am_cod 49) 52 = .ok (.getfield 54, 3) := by decide +kernel
theorem s49_52 (K : aK) : am_Snd K 49 52 := sn_get (C0 := CN4) (T := FT4) (Nf := 9) i49_52 d49_52 rfl (by decide +kernel) fin4 w_94 rfl
theorem i49_55 : am_ins 49 55 = (60, 50, 3, 0, []) := by decide +kernel
theorem d49_55 : decode (am_cod 49) 55 = .ok (.invokevirtual 67, 3) := by decide +kernel
theorem s49_55 (K : aK) : am_SndC K 49 55 := sc_V i49_55 d49_55 co50 w_337 w_338 w_339 w_4 rfl (rr := (CN4, FT4, 9)) rfl rfl hd50
theorem i49_58 : am_ins 49 58 = (33, 0, 1, 0, []) := by decide +kernel
theorem d49_58 : decode (am_cod 49) 58 = .ok (.aload_n 0, 1) := by decide +kernel
theorem s49_58 (K : aK) : am_Snd K 49 58 := sn_aload_n i49_58 d49_58 rfl
theorem i49_59 : am_ins 49 59 = (18, 4, 8, 0, []) := by decide +kernel
theorem d49_59 : decode (am_cod 49) 59 = .ok (.getfield 54, 3) := by decide +kernel
theorem s49_59 (K : aK) : am_Snd K 49 59 := sn_get (C0 := CN4) (T := FT4) (Nf := 9) i49_59 d49_59 rfl (by decide +kernel) fin4 w_94 rfl
theorem i49_62 : am_ins 49 62 = (50, 0, 0, 0, []) := by decide +kernel
theorem d49_62 : decode (am_cod 49) 62 = .ok (.ireturn, 1) := by decide +kernel
theorem s49_62 : am_SndR 49 62 := sn_iret i49_62 d49_62 rfl
theorem al49_0 (K : aK) : ∀ q ∈ [0, 1, 4, 5, 8, 11, 12, 13, 14, 15, 16, 19, 20, 21, 24, 25, 28, 31, 32, 35, 38, 39, 40, 41, 42, 45, 46, 47, 50, 51], am_All K 49 q := List.forall_mem_cons.mpr ⟨am_alS i49_0 (s49_0 K), List.forall_mem_cons.mpr ⟨am_alS i49_1 (s49_1 K), List.forall_mem_cons.mpr ⟨am_alS i49_4 (s49_4 K), List.forall_mem_cons.mpr ⟨am_alS i49_5 (s49_5 K), List.forall_mem_cons.mpr ⟨am_alS i49_8 (s49_8 K), List.forall_mem_cons.mpr ⟨am_alS i49_11 (s49_11 K), List.forall_mem_cons.mpr ⟨am_alS i49_12 (s49_12 K), List.forall_mem_cons.mpr ⟨am_alS i49_13 (s49_13 K), List.forall_mem_cons.mpr ⟨am_alS i49_14 (s49_14 K), List.forall_mem_cons.mpr ⟨am_alS i49_15 (s49_15 K), List.forall_mem_cons.mpr ⟨am_alS i49_16 (s49_16 K), List.forall_mem_cons.mpr ⟨am_alS i49_19 (s49_19 K), List.forall_mem_cons.mpr ⟨am_alS i49_20 (s49_20 K), List.forall_mem_cons.mpr ⟨am_alS i49_21 (s49_21 K), List.forall_mem_cons.mpr ⟨am_alS i49_24 (s49_24 K), List.forall_mem_cons.mpr ⟨am_alC i49_25 (s49_25 K), List.forall_mem_cons.mpr ⟨am_alS i49_28 (s49_28 K), List.forall_mem_cons.mpr ⟨am_alS i49_31 (s49_31 K), List.forall_mem_cons.mpr ⟨am_alS i49_32 (s49_32 K), List.forall_mem_cons.mpr ⟨am_alS i49_35 (s49_35 K), List.forall_mem_cons.mpr ⟨am_alS i49_38 (s49_38 K), List.forall_mem_cons.mpr ⟨am_alS i49_39 (s49_39 K), List.forall_mem_cons.mpr ⟨am_alS i49_40 (s49_40 K), List.forall_mem_cons.mpr ⟨am_alS i49_41 (s49_41 K), List.forall_mem_cons.mpr ⟨am_alS i49_42 (s49_42 K), List.forall_mem_cons.mpr ⟨am_alS i49_45 (s49_45 K), List.forall_mem_cons.mpr ⟨am_alS i49_46 (s49_46 K), List.forall_mem_cons.mpr ⟨am_alS i49_47 (s49_47 K), List.forall_mem_cons.mpr ⟨am_alS i49_50 (s49_50 K), List.forall_mem_cons.mpr ⟨am_alS i49_51 (s49_51 K), fun _ h => absurd h List.not_mem_nil⟩⟩⟩⟩⟩⟩⟩⟩⟩⟩⟩⟩⟩⟩⟩⟩⟩⟩⟩⟩⟩⟩⟩⟩⟩⟩⟩⟩⟩⟩
theorem al49_1 (K : aK) : ∀ q ∈ [52, 55, 58, 59, 62], am_All K 49 q := List.forall_mem_cons.mpr ⟨am_alS i49_52 (s49_52 K), List.forall_mem_cons.mpr ⟨am_alC i49_55 (s49_55 K), List.forall_mem_cons.mpr ⟨am_alS i49_58 (s49_58 K), List.forall_mem_cons.mpr ⟨am_alS i49_59 (s49_59 K), List.forall_mem_cons.mpr ⟨am_alR i49_62 s49_62, fun _ h => absurd h List.not_mem_nil⟩⟩⟩⟩⟩
set_option maxRecDepth 100000 in
theorem al49 (K : aK) : ∀ q ∈ (am_t49).map (fun z => z.1), am_All K 49 q := by
  have e : (am_t49).map (fun z => z.1) = [0, 1, 4, 5, 8, 11, 12, 13, 14, 15, 16, 19, 20, 21, 24, 25, 28, 31, 32, 35, 38, 39, 40, 41, 42, 45, 46, 47, 50, 51] ++ ([52, 55, 58, 59, 62]) := rfl
  rw [e]
  exact List.forall_mem_append.mpr ⟨al49_0 K, al49_1 K⟩
theorem i50_0 : am_ins 50 0 = (1, 1, 1, 0, []) := by decide +kernel
theorem d50_0 : decode (am_cod 50) 0 = .ok (.iload_n 1, 1) := by decide +kernel
theorem s50_0 (K : aK) : am_Snd K 50 0 := sn_iload_n i50_0 d50_0 rfl
theorem i50_1 : am_ins 50 1 = (12, 2, 25, 0, []) := by decide +kernel
theorem d50_1 : decode (am_cod 50) 1 = .ok (.ifCond .lt 24, 3) := by decide +kernel
theorem s50_1 (K : aK) : am_Snd K 50 1 := sn_if_lt i50_1 d50_1 rfl
theorem i50_4 : am_ins 50 4 = (1, 1, 1, 0, []) := by decide +kernel
theorem d50_4 : decode (am_cod 50) 4 = .ok (.iload_n 1, 1) := by decide +kernel
theorem s50_4 (K : aK) : am_Snd K 50 4 := sn_iload_n i50_4 d50_4 rfl
theorem i50_5 : am_ins 50 5 = (0, 3, 0, 200, []) := by decide +kernel
theorem d50_5 : decode (am_cod 50) 5 = .ok (.sipush 200, 3) := by decide +kernel
theorem s50_5 (K : aK) : am_Snd K 50 5 := sn_const3 i50_5 d50_5 (by decide +kernel)
theorem i50_8 : am_ins 50 8 = (13, 3, 25, 0, []) := by decide +kernel
theorem d50_8 : decode (am_cod 50) 8 = .ok (.if_icmp .ge 17, 3) := by decide +kernel
theorem s50_8 (K : aK) : am_Snd K 50 8 := sn_icmp_ge i50_8 d50_8 rfl
theorem i50_11 : am_ins 50 11 = (33, 0, 1, 0, []) := by decide +kernel
theorem d50_11 : decode (am_cod 50) 11 = .ok (.aload_n 0, 1) := by decide +kernel
theorem s50_11 (K : aK) : am_Snd K 50 11 := sn_aload_n i50_11 d50_11 rfl
theorem i50_12 : am_ins 50 12 = (18, 4, 4, 0, []) := by decide +kernel
theorem d50_12 : decode (am_cod 50) 12 = .ok (.getfield 18, 3) := by decide +kernel
theorem s50_12 (K : aK) : am_Snd K 50 12 := sn_get (C0 := CN4) (T := FT4) (Nf := 9) i50_12 d50_12 rfl (by decide +kernel) fin4 w_89 rfl
theorem i50_15 : am_ins 50 15 = (1, 1, 1, 0, []) := by decide +kernel
theorem d50_15 : decode (am_cod 50) 15 = .ok (.iload_n 1, 1) := by decide +kernel
theorem s50_15 (K : aK) : am_Snd K 50 15 := sn_iload_n i50_15 d50_15 rfl
theorem i50_16 : am_ins 50 16 = (1, 2, 1, 0, []) := by decide +kernel
theorem d50_16 : decode (am_cod 50) 16 = .ok (.iload_n 2, 1) := by decide +kernel
theorem s50_16 (K : aK) : am_Snd K 50 16 := sn_iload_n i50_16 d50_16 rfl
theorem i50_17 : am_ins 50 17 = (23, 0, 0, 0, []) := by decide +kernel
theorem d50_17 : decode (am_cod 50) 17 = .ok (.iastore, 1) := by decide +kernel
theorem s50_17 (K : aK) : am_Snd K 50 17 := sn_iast i50_17 d50_17 
theorem i50_18 : am_ins 50 18 = (33, 0, 1, 0, []) := by decide +kernel
theorem d50_18 : decode (am_cod 50) 18 = .ok (.aload_n 0, 1) := by decide +kernel
theorem s50_18 (K : aK) : am_Snd K 50 18 := sn_aload_n i50_18 d50_18 rfl
theorem i50_19 : am_ins 50 19 = (18, 4, 5, 0, []) := by decide +kernel
theorem d50_19 : decode (am_cod 50) 19 = .ok (.getfield 21, 3) := by decide +kernel
theorem s50_19 (K : aK) : am_Snd K 50 19 := sn_get (C0 := CN4) (T := FT4) (Nf := 9) i50_19 d50_19 rfl (by decide +kernel) fin4 w_90 rfl
theorem i50_22 : am_ins 50 22 = (1, 1, 1, 0, []) := by decide +kernel
theorem d50_22 : decode (am_cod 50) 22 = .ok (.iload_n 1, 1) := by decide +kernel
theorem s50_22 (K : aK) : am_Snd K 50 22 := sn_iload_n i50_22 d50_22 rfl
theorem i50_23 : am_ins 50 23 = (1, 3, 1, 0, []) := by decide +kernel
theorem d50_23 : decode (am_cod 50) 23 = .ok (.iload_n 3, 1) := by decide +kernel
theorem s50_23 (K : aK) : am_Snd K 50 23 := sn_iload_n i50_23 d50_23 rfl
theorem i50_24 : am_ins 50 24 = (23, 0, 0, 0, []) := by decide +kernel
theorem d50_24 : decode (am_cod 50) 24 = .ok (.iastore, 1) := by decide +kernel
theorem s50_24 (K : aK) : am_Snd K 50 24 := sn_iast i50_24 d50_24 
theorem i50_25 : am_ins 50 25 = (53, 0, 0, 0, []) := by decide +kernel
theorem d50_25 : decode (am_cod 50) 25 = .ok (.return_, 1) := by decide +kernel
theorem s50_25 : am_SndR 50 25 := sn_vret i50_25 d50_25 rfl
theorem al50_0 (K : aK) : ∀ q ∈ [0, 1, 4, 5, 8, 11, 12, 15, 16, 17, 18, 19, 22, 23, 24, 25], am_All K 50 q := List.forall_mem_cons.mpr ⟨am_alS i50_0 (s50_0 K), List.forall_mem_cons.mpr ⟨am_alS i50_1 (s50_1 K), List.forall_mem_cons.mpr ⟨am_alS i50_4 (s50_4 K), List.forall_mem_cons.mpr ⟨am_alS i50_5 (s50_5 K), List.forall_mem_cons.mpr ⟨am_alS i50_8 (s50_8 K), List.forall_mem_cons.mpr ⟨am_alS i50_11 (s50_11 K), List.forall_mem_cons.mpr ⟨am_alS i50_12 (s50_12 K), List.forall_mem_cons.mpr ⟨am_alS i50_15 (s50_15 K), List.forall_mem_cons.mpr ⟨am_alS i50_16 (s50_16 K), List.forall_mem_cons.mpr ⟨am_alS i50_17 (s50_17 K), List.forall_mem_cons.mpr ⟨am_alS i50_18 (s50_18 K), List.forall_mem_cons.mpr ⟨am_alS i50_19 (s50_19 K), List.forall_mem_cons.mpr ⟨am_alS i50_22 (s50_22 K), List.forall_mem_cons.mpr ⟨am_alS i50_23 (s50_23 K), List.forall_mem_cons.mpr ⟨am_alS i50_24 (s50_24 K), List.forall_mem_cons.mpr ⟨am_alR i50_25 s50_25, fun _ h => absurd h List.not_mem_nil⟩⟩⟩⟩⟩⟩⟩⟩⟩⟩⟩⟩⟩⟩⟩⟩
set_option maxRecDepth 100000 in
theorem al50 (K : aK) : ∀ q ∈ (am_t50).map (fun z => z.1), am_All K 50 q := by
  have e : (am_t50).map (fun z => z.1) = [0, 1, 4, 5, 8, 11, 12, 15, 16, 17, 18, 19, 22, 23, 24, 25] := rfl
  rw [e]
  exact al50_0 K
theorem i51_0 : am_ins 51 0 = (0, 1, 0, 0, []) := by decide +kernel
theorem d51_0 : decode (am_cod 51) 0 = .ok (.iconst 0, 1) := by decide +kernel
theorem s51_0 (K : aK) : am_Snd K 51 0 := sn_const1 i51_0 d51_0 rfl
theorem i51_1 : am_ins 51 1 = (2, 2, 1, 0, []) := by decide +kernel
theorem d51_1 : decode (am_cod 51) 1 = .ok (.istore_n 2, 1) := by decide +kernel
theorem s51_1 (K : aK) : am_Snd K 51 1 := sn_istore_n i51_1 d51_1 rfl (by decide +kernel)
theorem i51_2 : am_ins 51 2 = (0, 1, 0, 0, []) := by decide +kernel
theorem d51_2 : decode (am_cod 51) 2 = .ok (.iconst 0, 1) := by decide +kernel
theorem s51_2 (K : aK) : am_Snd K 51 2 := sn_const1 i51_2 d51_2 rfl
theorem i51_3 : am_ins 51 3 = (2, 3, 1, 0, []) := by decide +kernel
theorem d51_3 : decode (am_cod 51) 3 = .ok (.istore_n 3, 1) := by decide +kernel
theorem s51_3 (K : aK) : am_Snd K 51 3 := sn_istore_n i51_3 d51_3 rfl (by decide +kernel)
theorem i51_4 : am_ins 51 4 = (1, 3, 1, 0, []) := by decide +kernel
theorem d51_4 : decode (am_cod 51) 4 = .ok (.iload_n 3, 1) := by decide +kernel
theorem s51_4 (K : aK) : am_Snd K 51 4 := sn_iload_n i51_4 d51_4 rfl
theorem i51_5 : am_ins 51 5 = (0, 3, 0, 200, []) := by decide +kernel
theorem d51_5 : decode (am_cod 51) 5 = .ok (.sipush 200, 3) := by decide +kernel
theorem s51_5 (K : aK) : am_Snd K 51 5 := sn_const3 i51_5 d51_5 (by decide +kernel)
theorem i51_8 : am_ins 51 8 = (13, 3, 30, 0, []) := by decide +kernel
theorem d51_8 : decode (am_cod 51) 8 = .ok (.if_icmp .ge 22, 3) := by decide +kernel
theorem s51_8 (K : aK) : am_Snd K 51 8 := sn_icmp_ge i51_8 d51_8 rfl
theorem i51_11 : am_ins 51 11 = (33, 0, 1, 0, []) := by decide +kernel
theorem d51_11 : decode (am_cod 51) 11 = .ok (.aload_n 0, 1) := by decide +kernel
theorem s51_11 (K : aK) : am_Snd K 51 11 := sn_aload_n i51_11 d51_11 rfl
theorem i51_12 : am_ins 51 12 = (18, 4, 4, 0, []) := by decide +kernel
theorem d51_12 : decode (am_cod 51) 12 = .ok (.getfield 18, 3) := by decide +kernel
theorem s51_12 (K : aK) : am_Snd K 51 12 := sn_get (C0 := CN4) (T := FT4) (Nf := 9) i51_12 d51_12 rfl (by decide +kernel) fin4 w_89 rfl
theorem i51_15 : am_ins 51 15 = (1, 3, 1, 0, []) := by decide +kernel
theorem d51_15 : decode (am_cod 51) 15 = .ok (.iload_n 3, 1) := by decide +kernel
theorem s51_15 (K : aK) : am_Snd K 51 15 := sn_iload_n i51_15 d51_15 rfl
theorem i51_16 : am_ins 51 16 = (22, 0, 0, 0, []) := by decide +kernel
theorem d51_16 : decode (am_cod 51) 16 = .ok (.iaload, 1) := by decide +kernel
theorem s51_16 (K : aK) : am_Snd K 51 16 := sn_iald i51_16 d51_16 
theorem i51_17 : am_ins 51 17 = (1, 1, 1, 0, []) := by decide +kernel
theorem d51_17 : decode (am_cod 51) 17 = .ok (.iload_n 1, 1) := by decide +kernel
theorem s51_17 (K : aK) : am_Snd K 51 17 := sn_iload_n i51_17 d51_17 rfl
theorem i51_18 : am_ins 51 18 = (13, 1, 24, 0, []) := by decide +kernel
theorem d51_18 : decode (am_cod 51) 18 = .ok (.if_icmp .ne 6, 3) := by decide +kernel
theorem s51_18 (K : aK) : am_Snd K 51 18 := sn_icmp_ne i51_18 d51_18 rfl
theorem i51_21 : am_ins 51 21 = (3, 2, 3, 1, []) := by decide +kernel
theorem d51_21 : decode (am_cod 51) 21 = .ok (.iinc 2 1, 3) := by decide +kernel
theorem s51_21 (K : aK) : am_Snd K 51 21 := sn_iinc i51_21 d51_21 rfl (by decide +kernel)
theorem i51_24 : am_ins 51 24 = (3, 3, 3, 1, []) := by decide +kernel
theorem d51_24 : decode (am_cod 51) 24 = .ok (.iinc 3 1, 3) := by decide +kernel
theorem s51_24 (K : aK) : am_Snd K 51 24 := sn_iinc i51_24 d51_24 rfl (by decide +kernel)
theorem i51_27 : am_ins 51 27 = (14, 4, 0, 0, []) := by decide +kernel
theorem d51_27 : decode (am_cod 51) 27 = .ok (.goto (-23), 3) := by decide +kernel
theorem s51_27 (K : aK) : am_Snd K 51 27 := sn_goto i51_27 d51_27 rfl
theorem i51_30 : am_ins 51 30 = (1, 2, 1, 0, []) := by decide +kernel
theorem d51_30 : decode (am_cod 51) 30 = .ok (.iload_n 2, 1) := by decide +kernel
theorem s51_30 (K : aK) : am_Snd K 51 30 := sn_iload_n i51_30 d51_30 rfl
theorem i51_31 : am_ins 51 31 = (50, 0, 0, 0, []) := by decide +kernel
theorem d51_31 : decode (am_cod 51) 31 = .ok (.ireturn, 1) := by decide +kernel
theorem s51_31 : am_SndR 51 31 := sn_iret i51_31 d51_31 rfl
theorem al51_0 (K : aK) : ∀ q ∈ [0, 1, 2, 3, 4, 5, 8, 11, 12, 15, 16, 17, 18, 21, 24, 27, 30, 31], am_All K 51 q := List.forall_mem_cons.mpr ⟨am_alS i51_0 (s51_0 K), List.forall_mem_cons.mpr ⟨am_alS i51_1 (s51_1 K), List.forall_mem_cons.mpr ⟨am_alS i51_2 (s51_2 K), List.forall_mem_cons.mpr ⟨am_alS i51_3 (s51_3 K), List.forall_mem_cons.mpr ⟨am_alS i51_4 (s51_4 K), List.forall_mem_cons.mpr ⟨am_alS i51_5 (s51_5 K), List.forall_mem_cons.mpr ⟨am_alS i51_8 (s51_8 K), List.forall_mem_cons.mpr ⟨am_alS i51_11 (s51_11 K), List.forall_mem_cons.mpr ⟨am_alS i51_12 (s51_12 K), List.forall_mem_cons.mpr ⟨am_alS i51_15 (s51_15 K), List.forall_mem_cons.mpr ⟨am_alS i51_16 (s51_16 K), List.forall_mem_cons.mpr ⟨am_alS i51_17 (s51_17 K), List.forall_mem_cons.mpr ⟨am_alS i51_18 (s51_18 K), List.forall_mem_cons.mpr ⟨am_alS i51_21 (s51_21 K), List.forall_mem_cons.mpr ⟨am_alS i51_24 (s51_24 K), List.forall_mem_cons.mpr ⟨am_alS i51_27 (s51_27 K), List.forall_mem_cons.mpr ⟨am_alS i51_30 (s51_30 K), List.forall_mem_cons.mpr ⟨am_alR i51_31 s51_31, fun _ h => absurd h List.not_mem_nil⟩⟩⟩⟩⟩⟩⟩⟩⟩⟩⟩⟩⟩⟩⟩⟩⟩⟩
set_option maxRecDepth 100000 in
theorem al51 (K : aK) : ∀ q ∈ (am_t51).map (fun z => z.1), am_All K 51 q := by
  have e : (am_t51).map (fun z => z.1) = [0, 1, 2, 3, 4, 5, 8, 11, 12, 15, 16, 17, 18, 21, 24, 27, 30, 31] := rfl
  rw [e]
  exact al51_0 K
theorem i52_0 : am_ins 52 0 = (0, 2, 0, 2147483647, []) := by decide +kernel
theorem d52_0 : decode (am_cod 52) 0 = .ok (.ldc 71, 2) := by decide +kernel
theorem s52_0 (K : aK) : am_Snd K 52 0 := sn_ldc i52_0 d52_0 w_402
theorem i52_2 : am_ins 52 2 = (2, 2, 1, 0, []) := by decide +kernel
theorem d52_2 : decode (am_cod 52) 2 = .ok (.istore_n 2, 1) := by decide +kernel
theorem s52_2 (K : aK) : am_Snd K 52 2 := sn_istore_n i52_2 d52_2 rfl (by decide +kernel)
theorem i52_3 : am_ins 52 3 = (0, 1, 0, 0, []) := by decide +kernel
theorem d52_3 : decode (am_cod 52) 3 = .ok (.iconst 0, 1) := by decide +kernel
theorem s52_3 (K : aK) : am_Snd K 52 3 := sn_const1 i52_3 d52_3 rfl
theorem i52_4 : am_ins 52 4 = (2, 3, 1, 0, []) := by decide +kernel
theorem d52_4 : decode (am_cod 52) 4 = .ok (.istore_n 3, 1) := by decide +kernel
theorem s52_4 (K : aK) : am_Snd K 52 4 := sn_istore_n i52_4 d52_4 rfl (by decide +kernel)
theorem i52_5 : am_ins 52 5 = (1, 3, 1, 0, []) := by decide +kernel
theorem d52_5 : decode (am_cod 52) 5 = .ok (.iload_n 3, 1) := by decide +kernel
theorem s52_5 (K : aK) : am_Snd K 52 5 := sn_iload_n i52_5 d52_5 rfl
theorem i52_6 : am_ins 52 6 = (0, 3, 0, 200, []) := by decide +kernel
theorem d52_6 : decode (am_cod 52) 6 = .ok (.sipush 200, 3) := by decide +kernel
theorem s52_6 (K : aK) : am_Snd K 52 6 := sn_const3 i52_6 d52_6 (by decide +kernel)
theorem i52_9 : am_ins 52 9 = (13, 3, 39, 0, []) := by decide +kernel
theorem d52_9 : decode (am_cod 52) 9 = .ok (.if_icmp .ge 30, 3) := by decide +kernel
theorem s52_9 (K : aK) : am_Snd K 52 9 := sn_icmp_ge i52_9 d52_9 rfl
theorem i52_12 : am_ins 52 12 = (33, 0, 1, 0, []) := by decide +kernel
theorem d52_12 : decode (am_cod 52) 12 = .ok (.aload_n 0, 1) := by decide +kernel
theorem s52_12 (K : aK) : am_Snd K 52 12 := sn_aload_n i52_12 d52_12 rfl
theorem i52_13 : am_ins 52 13 = (18, 4, 4, 0, []) := by decide +kernel
theorem d52_13 : decode (am_cod 52) 13 = .ok (.getfield 18, 3) := by decide +kernel
theorem s52_13 (K : aK) : am_Snd K 52 13 := sn_get (C0 := CN4) (T := FT4) (Nf := 9) i52_13 d52_13 rfl (by decide +kernel) fin4 w_89 rfl
theorem i52_16 : am_ins 52 16 = (1, 3, 1, 0, []) := by decide +kernel
theorem d52_16 : decode (am_cod 52) 16 = .ok (.iload_n 3, 1) := by decide +kernel
theorem s52_16 (K : aK) : am_Snd K 52 16 := sn_iload_n i52_16 d52_16 rfl
theorem i52_17 : am_ins 52 17 = (22, 0, 0, 0, []) := by decide +kernel
theorem d52_17 : decode (am_cod 52) 17 = .ok (.iaload, 1) := by decide +kernel
theorem s52_17 (K : aK) : am_Snd K 52 17 := sn_iald i52_17 d52_17 
theorem i52_18 : am_ins 52 18 = (1, 1, 1, 0, []) := by decide +kernel
theorem d52_18 : decode (am_cod 52) 18 = .ok (.iload_n 1, 1) := by decide +kernel
theorem s52_18 (K : aK) : am_Snd K 52 18 := sn_iload_n i52_18 d52_18 rfl
theorem i52_19 : am_ins 52 19 = (13, 1, 33, 0, []) := by decide +kernel
theorem d52_19 : decode (am_cod 52) 19 = .ok (.if_icmp .ne 14, 3) := by decide +kernel
theorem s52_19 (K : aK) : am_Snd K 52 19 := sn_icmp_ne i52_19 d52_19 rfl
theorem i52_22 : am_ins 52 22 = (1, 2, 1, 0, []) := by decide +kernel
theorem d52_22 : decode (am_cod 52) 22 = .ok (.iload_n 2, 1) := by decide +kernel
theorem s52_22 (K : aK) : am_Snd K 52 22 := sn_iload_n i52_22 d52_22 rfl
theorem i52_23 : am_ins 52 23 = (33, 0, 1, 0, []) := by decide +kernel
theorem d52_23 : decode (am_cod 52) 23 = .ok (.aload_n 0, 1) := by decide +kernel
theorem s52_23 (K : aK) : am_Snd K 52 23 := sn_aload_n i52_23 d52_23 rfl
theorem i52_24 : am_ins 52 24 = (18, 4, 5, 0, []) := by decide +kernel
theorem d52_24 : decode (am_cod 52) 24 = .ok (.getfield 21, 3) := by decide +kernel
theorem s52_24 (K : aK) : am_Snd K 52 24 := sn_get (C0 := CN4) (T := FT4) (Nf := 9) i52_24 d52_24 rfl (by decide +kernel) fin4 w_90 rfl
theorem i52_27 : am_ins 52 27 = (1, 3, 1, 0, []) := by decide +kernel
theorem d52_27 : decode (am_cod 52) 27 = .ok (.iload_n 3, 1) := by decide +kernel
theorem s52_27 (K : aK) : am_Snd K 52 27 := sn_iload_n i52_27 d52_27 rfl
theorem i52_28 : am_ins 52 28 = (22, 0, 0, 0, []) := by decide +kernel
theorem d52_28 : decode (am_cod 52) 28 = .ok (.iaload, 1) := by decide +kernel
theorem s52_28 (K : aK) : am_Snd K 52 28 := sn_iald i52_28 d52_28 
theorem i52_29 : am_ins 52 29 = (37, 0, 0, 0, []) := by decide +kernel
theorem d52_29 : decode (am_cod 52) 29 = .ok (.invokestatic 45, 3) := by decide +kernel
theorem s52_29 (K : aK) : am_Snd K 52 29 := sn_min i52_29 d52_29 w_180 w_181 w_7 w_182
theorem i52_32 : am_ins 52 32 = (2, 2, 1, 0, []) := by decide +kernel
theorem d52_32 : decode (am_cod 52) 32 = .ok (.istore_n 2, 1) := by decide +kernel
theorem s52_32 (K : aK) : am_Snd K 52 32 := sn_istore_n i52_32 d52_32 rfl (by decide +kernel)
theorem i52_33 : am_ins 52 33 = (3, 3, 3, 1, []) := by decide +kernel
theorem d52_33 : decode (am_cod 52) 33 = .ok (.iinc 3 1, 3) := by decide +kernel
theorem s52_33 (K : aK) : am_Snd K 52 33 := sn_iinc i52_33 d52_33 rfl (by decide +kernel)
theorem i52_36 : am_ins 52 36 = (14, 5, 0, 0, []) := by decide +kernel
theorem d52_36 : decode (am_cod 52) 36 = .ok (.goto (-31), 3) := by decide +kernel
theorem s52_36 (K : aK) : am_Snd K 52 36 := sn_goto i52_36 d52_36 rfl
theorem i52_39 : am_ins 52 39 = (1, 2, 1, 0, []) := by decide +kernel
theorem d52_39 : decode (am_cod 52) 39 = .ok (.iload_n 2, 1) := by decide +kernel
theorem s52_39 (K : aK) : am_Snd K 52 39 := sn_iload_n i52_39 d52_39 rfl
theorem i52_40 : am_ins 52 40 = (50, 0, 0, 0, []) := by decide +kernel
theorem d52_40 : decode (am_cod 52) 40 = .ok (.ireturn, 1) := by decide +kernel
theorem s52_40 : am_SndR 52 40 := sn_iret i52_40 d52_40 rfl
theorem al52_0 (K : aK) : ∀ q ∈ [0, 2, 3, 4, 5, 6, 9, 12, 13, 16, 17, 18, 19, 22, 23, 24, 27, 28, 29, 32, 33, 36, 39, 40], am_All K 52 q := List.forall_mem_cons.mpr ⟨am_alS i52_0 (s52_0 K), List.forall_mem_cons.mpr ⟨am_alS i52_2 (s52_2 K), List.forall_mem_cons.mpr ⟨am_alS i52_3 (s52_3 K), List.forall_mem_cons.mpr ⟨am_alS i52_4 (s52_4 K), List.forall_mem_cons.mpr ⟨am_alS i52_5 (s52_5 K), List.forall_mem_cons.mpr ⟨am_alS i52_6 (s52_6 K), List.forall_mem_cons.mpr ⟨am_alS i52_9 (s52_9 K), List.forall_mem_cons.mpr ⟨am_alS i52_12 (s52_12 K), List.forall_mem_cons.mpr ⟨am_alS i52_13 (s52_13 K), List.forall_mem_cons.mpr ⟨am_alS i52_16 (s52_16 K), List.forall_mem_cons.mpr ⟨am_alS i52_17 (s52_17 K), List.forall_mem_cons.mpr ⟨am_alS i52_18 (s52_18 K), List.forall_mem_cons.mpr ⟨am_alS i52_19 (s52_19 K), List.forall_mem_cons.mpr ⟨am_alS i52_22 (s52_22 K), List.forall_mem_cons.mpr ⟨am_alS i52_23 (s52_23 K), List.forall_mem_cons.mpr ⟨am_alS i52_24 (s52_24 K), List.forall_mem_cons.mpr ⟨am_alS i52_27 (s52_27 K), List.forall_mem_cons.mpr ⟨am_alS i52_28 (s52_28 K), List.forall_mem_cons.mpr ⟨am_alS i52_29 (s52_29 K), List.forall_mem_cons.mpr ⟨am_alS i52_32 (s52_32 K), List.forall_mem_cons.mpr ⟨am_alS i52_33 (s52_33 K), List.forall_mem_cons.mpr ⟨am_alS i52_36 (s52_36 K), List.forall_mem_cons.mpr ⟨am_alS i52_39 (s52_39 K), List.forall_mem_cons.mpr ⟨am_alR i52_40 s52_40, fun _ h => absurd h List.not_mem_nil⟩⟩⟩⟩⟩⟩⟩⟩⟩⟩⟩⟩⟩⟩⟩⟩⟩⟩⟩⟩⟩⟩⟩⟩
set_option maxRecDepth 100000 in
theorem al52 (K : aK) : ∀ q ∈ (am_t52).map (fun z => z.1), am_All K 52 q := by
  have e : (am_t52).map (fun z => z.1) = [0, 2, 3, 4, 5, 6, 9, 12, 13, 16, 17, 18, 19, 22, 23, 24, 27, 28, 29, 32, 33, 36, 39, 40] := rfl
  rw [e]
  exact al52_0 K
theorem i53_0 : am_ins 53 0 = (33, 0, 1, 0, []) := by decide +kernel
theorem d53_0 : decode (am_cod 53) 0 = .ok (.aload_n 0, 1) := by decide +kernel
theorem s53_0 (K : aK) : am_Snd K 53 0 := sn_aload_n i53_0 d53_0 rfl
theorem i53_1 : am_ins 53 1 = (0, 1, 0, 1, []) := by decide +kernel
theorem d53_1 : decode (am_cod 53) 1 = .ok (.iconst 1, 1) := by decide +kernel
theorem s53_1 (K : aK) : am_Snd K 53 1 := sn_const1 i53_1 d53_1 rfl
theorem i53_2 : am_ins 53 2 = (60, 52, 1, 0, []) := by decide +kernel
theorem d53_2 : decode (am_cod 53) 2 = .ok (.invokevirtual 72, 3) := by decide +kernel
theorem s53_2 (K : aK) : am_SndC K 53 2 := sc_V i53_2 d53_2 co52 w_398 w_399 w_400 w_4 rfl (rr := (CN4, FT4, 9)) rfl rfl hd52
theorem i53_5 : am_ins 53 5 = (33, 0, 1, 0, []) := by decide +kernel
theorem d53_5 : decode (am_cod 53) 5 = .ok (.aload_n 0, 1) := by decide +kernel
theorem s53_5 (K : aK) : am_Snd K 53 5 := sn_aload_n i53_5 d53_5 rfl
theorem i53_6 : am_ins 53 6 = (0, 1, 0, 2, []) := by decide +kernel
theorem d53_6 : decode (am_cod 53) 6 = .ok (.iconst 2, 1) := by decide +kernel
theorem s53_6 (K : aK) : am_Snd K 53 6 := sn_const1 i53_6 d53_6 rfl
theorem i53_7 : am_ins 53 7 = (60, 52, 1, 0, []) := by decide +kernel
theorem d53_7 : decode (am_cod 53) 7 = .ok (.invokevirtual 72, 3) := by decide +kernel
theorem s53_7 (K : aK) : am_SndC K 53 7 := sc_V i53_7 d53_7 co52 w_398 w_399 w_400 w_4 rfl (rr := (CN4, FT4, 9)) rfl rfl hd52
theorem i53_10 : am_ins 53 10 = (37, 0, 0, 0, []) := by decide +kernel
theorem d53_10 : decode (am_cod 53) 10 = .ok (.invokestatic 45, 3) := by decide +kernel
theorem s53_10 (K : aK) : am_Snd K 53 10 := sn_min i53_10 d53_10 w_180 w_181 w_7 w_182
theorem i53_13 : am_ins 53 13 = (2, 1, 1, 0, []) := by decide +kernel
theorem d53_13 : decode (am_cod 53) 13 = .ok (.istore_n 1, 1) := by decide +kernel
theorem s53_13 (K : aK) : am_Snd K 53 13 := sn_istore_n i53_13 d53_13 rfl (by decide +kernel)
theorem i53_14 : am_ins 53 14 = (1, 1, 1, 0, []) := by decide +kernel
theorem d53_14 : decode (am_cod 53) 14 = .ok (.iload_n 1, 1) := by decide +kernel
theorem s53_14 (K : aK) : am_Snd K 53 14 := sn_iload_n i53_14 d53_14 rfl
theorem i53_15 : am_ins 53 15 = (0, 2, 0, 2147483647, []) := by decide +kernel
theorem d53_15 : decode (am_cod 53) 15 = .ok (.ldc 71, 2) := by decide +kernel
theorem s53_15 (K : aK) : am_Snd K 53 15 := sn_ldc i53_15 d53_15 w_402
theorem i53_17 : am_ins 53 17 = (13, 1, 27, 0, []) := by decide +kernel
theorem d53_17 : decode (am_cod 53) 17 = .ok (.if_icmp .ne 10, 3) := by decide +kernel
theorem s53_17 (K : aK) : am_Snd K 53 17 := sn_icmp_ne i53_17 d53_17 rfl
theorem i53_20 : am_ins 53 20 = (33, 0, 1, 0, []) := by decide +kernel
theorem d53_20 : decode (am_cod 53) 20 = .ok (.aload_n 0, 1) := by decide +kernel
theorem s53_20 (K : aK) : am_Snd K 53 20 := sn_aload_n i53_20 d53_20 rfl
theorem i53_21 : am_ins 53 21 = (18, 4, 8, 0, []) := by decide +kernel
theorem d53_21 : decode (am_cod 53) 21 = .ok (.getfield 54, 3) := by decide +kernel
theorem s53_21 (K : aK) : am_Snd K 53 21 := sn_get (C0 := CN4) (T := FT4) (Nf := 9) i53_21 d53_21 rfl (by decide +kernel) fin4 w_94 rfl
theorem i53_24 : am_ins 53 24 = (14, 30, 0, 0, []) := by decide +kernel
theorem d53_24 : decode (am_cod 53) 24 = .ok (.goto 6, 3) := by decide +kernel
theorem s53_24 (K : aK) : am_Snd K 53 24 := sn_goto i53_24 d53_24 rfl
theorem i53_27 : am_ins 53 27 = (1, 1, 1, 0, []) := by decide +kernel
theorem d53_27 : decode (am_cod 53) 27 = .ok (.iload_n 1, 1) := by decide +kernel
theorem s53_27 (K : aK) : am_Snd K 53 27 := sn_iload_n i53_27 d53_27 rfl
theorem i53_28 : am_ins 53 28 = (0, 1, 0, 1, []) := by decide +kernel
theorem d53_28 : decode (am_cod 53) 28 = .ok (.iconst 1, 1) := by decide +kernel
theorem s53_28 (K : aK) : am_Snd K 53 28 := sn_const1 i53_28 d53_28 rfl
theorem i53_29 : am_ins 53 29 = (4, 1, 0, 0, []) := by decide +kernel
theorem d53_29 : decode (am_cod 53) 29 = .ok (.isub, 1) := by decide +kernel
theorem s53_29 (K : aK) : am_Snd K 53 29 := sn_sub i53_29 d53_29 
theorem i53_30 : am_ins 53 30 = (50, 0, 0, 0, []) := by decide +kernel
theorem d53_30 : decode (am_cod 53) 30 = .ok (.ireturn, 1) := by decide +kernel
theorem s53_30 : am_SndR 53 30 := sn_iret i53_30 d53_30 rfl
theorem al53_0 (K : aK) : ∀ q ∈ [0, 1, 2, 5, 6, 7, 10, 13, 14, 15, 17, 20, 21, 24, 27, 28, 29, 30], am_All K 53 q := List.forall_mem_cons.mpr ⟨am_alS i53_0 (s53_0 K), List.forall_mem_cons.mpr ⟨am_alS i53_1 (s53_1 K), List.forall_mem_cons.mpr ⟨am_alC i53_2 (s53_2 K), List.forall_mem_cons.mpr ⟨am_alS i53_5 (s53_5 K), List.forall_mem_cons.mpr ⟨am_alS i53_6 (s53_6 K), List.forall_mem_cons.mpr ⟨am_alC i53_7 (s53_7 K), List.forall_mem_cons.mpr ⟨am_alS i53_10 (s53_10 K), List.forall_mem_cons.mpr ⟨am_alS i53_13 (s53_13 K), List.forall_mem_cons.mpr ⟨am_alS i53_14 (s53_14 K), List.forall_mem_cons.mpr ⟨am_alS i53_15 (s53_15 K), List.forall_mem_cons.mpr ⟨am_alS i53_17 (s53_17 K), List.forall_mem_cons.mpr ⟨am_alS i53_20 (s53_20 K), List.forall_mem_cons.mpr ⟨am_alS i53_21 (s53_21 K), List.forall_mem_cons.mpr ⟨am_alS i53_24 (s53_24 K), List.forall_mem_cons.mpr ⟨am_alS i53_27 (s53_27 K), List.forall_mem_cons.mpr ⟨am_alS i53_28 (s53_28 K), List.forall_mem_cons.mpr ⟨am_alS i53_29 (s53_29 K), List.forall_mem_cons.mpr ⟨am_alR i53_30 s53_30, fun _ h => absurd h List.not_mem_nil⟩⟩⟩⟩⟩⟩⟩⟩⟩⟩⟩⟩⟩⟩⟩⟩⟩⟩
set_option maxRecDepth 100000 in
theorem al53 (K : aK) : ∀ q ∈ (am_t53).map (fun z => z.1), am_All K 53 q := by
  have e : (am_t53).map (fun z => z.1) = [0, 1, 2, 5, 6, 7, 10, 13, 14, 15, 17, 20, 21, 24, 27, 28, 29, 30] := rfl
  rw [e]
  exact al53_0 K
theorem i54_0 : am_ins 54 0 = (0, 1, 0, (-1), []) := by decide +kernel
theorem d54_0 : decode (am_cod 54) 0 = .ok (.iconst (-1), 1) := by decide +kernel
theorem s54_0 (K : aK) : am_Snd K 54 0 := sn_const1 i54_0 d54_0 rfl
theorem i54_1 : am_ins 54 1 = (2, 1, 1, 0, []) := by decide +kernel
theorem d54_1 : decode (am_cod 54) 1 = .ok (.istore_n 1, 1) := by decide +kernel
theorem s54_1 (K : aK) : am_Snd K 54 1 := sn_istore_n i54_1 d54_1 rfl (by decide +kernel)
theorem i54_2 : am_ins 54 2 = (33, 0, 1, 0, []) := by decide +kernel
theorem d54_2 : decode (am_cod 54) 2 = .ok (.aload_n 0, 1) := by decide +kernel
theorem s54_2 (K : aK) : am_Snd K 54 2 := sn_aload_n i54_2 d54_2 rfl
theorem i54_3 : am_ins 54 3 = (0, 1, 0, 1, []) := by decide +kernel
theorem d54_3 : decode (am_cod 54) 3 = .ok (.iconst 1, 1) := by decide +kernel
theorem s54_3 (K : aK) : am_Snd K 54 3 := sn_const1 i54_3 d54_3 rfl
theorem i54_4 : am_ins 54 4 = (60, 52, 1, 0, []) := by decide +kernel
theorem d54_4 : decode (am_cod 54) 4 = .ok (.invokevirtual 72, 3) := by decide +kernel
theorem s54_4 (K : aK) : am_SndC K 54 4 := sc_V i54_4 d54_4 co52 w_398 w_399 w_400 w_4 rfl (rr := (CN4, FT4, 9)) rfl rfl hd52
theorem i54_7 : am_ins 54 7 = (2, 2, 1, 0, []) := by decide +kernel
theorem d54_7 : decode (am_cod 54) 7 = .ok (.istore_n 2, 1) := by decide +kernel
theorem s54_7 (K : aK) : am_Snd K 54 7 := sn_istore_n i54_7 d54_7 rfl (by decide +kernel)
theorem i54_8 : am_ins 54 8 = (0, 1, 0, 0, []) := by decide +kernel
theorem d54_8 : decode (am_cod 54) 8 = .ok (.iconst 0, 1) := by decide +kernel
theorem s54_8 (K : aK) : am_Snd K 54 8 := sn_const1 i54_8 d54_8 rfl
theorem i54_9 : am_ins 54 9 = (2, 3, 1, 0, []) := by decide +kernel
theorem d54_9 : decode (am_cod 54) 9 = .ok (.istore_n 3, 1) := by decide +kernel
theorem s54_9 (K : aK) : am_Snd K 54 9 := sn_istore_n i54_9 d54_9 rfl (by decide +kernel)
theorem i54_10 : am_ins 54 10 = (1, 3, 1, 0, []) := by decide +kernel
theorem d54_10 : decode (am_cod 54) 10 = .ok (.iload_n 3, 1) := by decide +kernel
theorem s54_10 (K : aK) : am_Snd K 54 10 := sn_iload_n i54_10 d54_10 rfl
theorem i54_11 : am_ins 54 11 = (0, 3, 0, 200, []) := by decide +kernel
theorem d54_11 : decode (am_cod 54) 11 = .ok (.sipush 200, 3) := by decide +kernel
theorem s54_11 (K : aK) : am_Snd K 54 11 := sn_const3 i54_11 d54_11 (by decide +kernel)
theorem i54_14 : am_ins 54 14 = (13, 3, 52, 0, []) := by decide +kernel
theorem d54_14 : decode (am_cod 54) 14 = .ok (.if_icmp .ge 38, 3) := by decide +kernel
theorem s54_14 (K : aK) : am_Snd K 54 14 := sn_icmp_ge i54_14 d54_14 rfl
theorem i54_17 : am_ins 54 17 = (33, 0, 1, 0, []) := by decide +kernel
theorem d54_17 : decode (am_cod 54) 17 = .ok (.aload_n 0, 1) := by decide +kernel
theorem s54_17 (K : aK) : am_Snd K 54 17 := sn_aload_n i54_17 d54_17 rfl
theorem i54_18 : am_ins 54 18 = (18, 4, 4, 0, []) := by decide +kernel
theorem d54_18 : decode (am_cod 54) 18 = .ok (.getfield 18, 3) := by decide +kernel
theorem s54_18 (K : aK) : am_Snd K 54 18 := sn_get (C0 := CN4) (T := FT4) (Nf := 9) i54_18 d54_18 rfl (by decide +kernel) fin4 w_89 rfl
theorem i54_21 : am_ins 54 21 = (1, 3, 1, 0, []) := by decide +kernel
theorem d54_21 : decode (am_cod 54) 21 = .ok (.iload_n 3, 1) := by decide +kernel
theorem s54_21 (K : aK) : am_Snd K 54 21 := sn_iload_n i54_21 d54_21 rfl
theorem i54_22 : am_ins 54 22 = (22, 0, 0, 0, []) := by decide +kernel
theorem d54_22 : decode (am_cod 54) 22 = .ok (.iaload, 1) := by decide +kernel
theorem s54_22 (K : aK) : am_Snd K 54 22 := sn_iald i54_22 d54_22 
theorem i54_23 : am_ins 54 23 = (0, 1, 0, 2, []) := by decide +kernel
theorem d54_23 : decode (am_cod 54) 23 = .ok (.iconst 2, 1) := by decide +kernel
theorem s54_23 (K : aK) : am_Snd K 54 23 := sn_const1 i54_23 d54_23 rfl
theorem i54_24 : am_ins 54 24 = (13, 1, 46, 0, []) := by decide +kernel
theorem d54_24 : decode (am_cod 54) 24 = .ok (.if_icmp .ne 22, 3) := by decide +kernel
theorem s54_24 (K : aK) : am_Snd K 54 24 := sn_icmp_ne i54_24 d54_24 rfl
theorem i54_27 : am_ins 54 27 = (33, 0, 1, 0, []) := by decide +kernel
theorem d54_27 : decode (am_cod 54) 27 = .ok (.aload_n 0, 1) := by decide +kernel
theorem s54_27 (K : aK) : am_Snd K 54 27 := sn_aload_n i54_27 d54_27 rfl
theorem i54_28 : am_ins 54 28 = (18, 4, 5, 0, []) := by decide +kernel
theorem d54_28 : decode (am_cod 54) 28 = .ok (.getfield 21, 3) := by decide +kernel
theorem s54_28 (K : aK) : am_Snd K 54 28 := sn_get (C0 := CN4) (T := FT4) (Nf := 9) i54_28 d54_28 rfl (by decide +kernel) fin4 w_90 rfl
theorem i54_31 : am_ins 54 31 = (1, 3, 1, 0, []) := by decide +kernel
theorem d54_31 : decode (am_cod 54) 31 = .ok (.iload_n 3, 1) := by decide +kernel
theorem s54_31 (K : aK) : am_Snd K 54 31 := sn_iload_n i54_31 d54_31 rfl
theorem i54_32 : am_ins 54 32 = (22, 0, 0, 0, []) := by decide +kernel
theorem d54_32 : decode (am_cod 54) 32 = .ok (.iaload, 1) := by decide +kernel
theorem s54_32 (K : aK) : am_Snd K 54 32 := sn_iald i54_32 d54_32 
theorem i54_33 : am_ins 54 33 = (1, 2, 1, 0, []) := by decide +kernel
theorem d54_33 : decode (am_cod 54) 33 = .ok (.iload_n 2, 1) := by decide +kernel
theorem s54_33 (K : aK) : am_Snd K 54 33 := sn_iload_n i54_33 d54_33 rfl
theorem i54_34 : am_ins 54 34 = (13, 3, 46, 0, []) := by decide +kernel
theorem d54_34 : decode (am_cod 54) 34 = .ok (.if_icmp .ge 12, 3) := by decide +kernel
theorem s54_34 (K : aK) : am_Snd K 54 34 := sn_icmp_ge i54_34 d54_34 rfl
theorem i54_37 : am_ins 54 37 = (1, 3, 1, 0, []) := by decide +kernel
theorem d54_37 : decode (am_cod 54) 37 = .ok (.iload_n 3, 1) := by decide +kernel
theorem s54_37 (K : aK) : am_Snd K 54 37 := sn_iload_n i54_37 d54_37 rfl
theorem i54_38 : am_ins 54 38 = (2, 1, 1, 0, []) := by decide +kernel
theorem d54_38 : decode (am_cod 54) 38 = .ok (.istore_n 1, 1) := by decide +kernel
theorem s54_38 (K : aK) : am_Snd K 54 38 := sn_istore_n i54_38 d54_38 rfl (by decide +kernel)
theorem i54_39 : am_ins 54 39 = (33, 0, 1, 0, []) := by decide +kernel
theorem d54_39 : decode (am_cod 54) 39 = .ok (.aload_n 0, 1) := by decide +kernel
theorem s54_39 (K : aK) : am_Snd K 54 39 := sn_aload_n i54_39 d54_39 rfl
theorem i54_40 : am_ins 54 40 = (18, 4, 5, 0, []) := by decide +kernel
theorem d54_40 : decode (am_cod 54) 40 = .ok (.getfield 21, 3) := by decide +kernel
theorem s54_40 (K : aK) : am_Snd K 54 40 := sn_get (C0 := CN4) (T := FT4) (Nf := 9) i54_40 d54_40 rfl (by decide +kernel) fin4 w_90 rfl
theorem i54_43 : am_ins 54 43 = (1, 3, 1, 0, []) := by decide +kernel
theorem d54_43 : decode (am_cod 54) 43 = .ok (.iload_n 3, 1) := by decide +kernel
theorem s54_43 (K : aK) : am_Snd K 54 43 := sn_iload_n i54_43 d54_43 rfl
theorem i54_44 : am_ins 54 44 = (22, 0, 0, 0, []) := by decide +kernel
theorem d54_44 : decode (am_cod 54) 44 = .ok (.iaload, 1) := by decide +kernel
theorem s54_44 (K : aK) : am_Snd K 54 44 := sn_iald i54_44 d54_44 
theorem i54_45 : am_ins 54 45 = (2, 2, 1, 0, []) := by decide +kernel
theorem d54_45 : decode (am_cod 54) 45 = .ok (.istore_n 2, 1) := by decide +kernel
theorem s54_45 (K : aK) : am_Snd K 54 45 := sn_istore_n i54_45 d54_45 rfl (by decide +kernel)
theorem i54_46 : am_ins 54 46 = (3, 3, 3, 1, []) := by decide +kernel
theorem d54_46 : decode (am_cod 54) 46 = .ok (.iinc 3 1, 3) := by decide +kernel
theorem s54_46 (K : aK) : am_Snd K 54 46 := sn_iinc i54_46 d54_46 rfl (by decide +kernel)
theorem i54_49 : am_ins 54 49 = (14, 10, 0, 0, []) := by decide +kernel
theorem d54_49 : decode (am_cod 54) 49 = .ok (.goto (-39), 3) := by decide +kernel
theorem s54_49 (K : aK) : am_Snd K 54 49 := sn_goto i54_49 d54_49 rfl
theorem i54_52 : am_ins 54 52 = (1, 1, 1, 0, []) := by decide +kernel
theorem d54_52 : decode (am_cod 54) 52 = .ok (.iload_n 1, 1) := by decide +kernel
theorem s54_52 (K : aK) : am_Snd K 54 52 := sn_iload_n i54_52 d54_52 rfl
theorem i54_53 : am_ins 54 53 = (50, 0, 0, 0, []) := by decide +kernel
theorem d54_53 : decode (am_cod 54) 53 = .ok (.ireturn, 1) := by decide +kernel
theorem s54_53 : am_SndR 54 53 := sn_iret i54_53 d54_53 rfl
theorem al54_0 (K : aK) : ∀ q ∈ [0, 1, 2, 3, 4, 7, 8, 9, 10, 11, 14, 17, 18, 21, 22, 23, 24, 27, 28, 31, 32, 33, 34, 37, 38, 39, 40, 43, 44, 45], am_All K 54 q := List.forall_mem_cons.mpr ⟨am_alS i54_0 (s54_0 K), List.forall_mem_cons.mpr ⟨am_alS i54_1 (s54_1 K), List.forall_mem_cons.mpr ⟨am_alS i54_2 (s54_2 K), List.forall_mem_cons.mpr ⟨am_alS i54_3 (s54_3 K), List.forall_mem_cons.mpr ⟨am_alC i54_4 (s54_4 K), List.forall_mem_cons.mpr ⟨am_alS i54_7 (s54_7 K), List.forall_mem_cons.mpr ⟨am_alS i54_8 (s54_8 K), List.forall_mem_cons.mpr ⟨am_alS i54_9 (s54_9 K), List.forall_mem_cons.mpr ⟨am_alS i54_10 (s54_10 K), List.forall_mem_cons.mpr ⟨am_alS i54_11 (s54_11 K), List.forall_mem_cons.mpr ⟨am_alS i54_14 (s54_14 K), List.forall_mem_cons.mpr ⟨am_alS i54_17 (s54_17 K), List.forall_mem_cons.mpr ⟨am_alS i54_18 (s54_18 K), List.forall_mem_cons.mpr ⟨am_alS i54_21 (s54_21 K), List.forall_mem_cons.mpr ⟨am_alS i54_22 (s54_22 K), List.forall_mem_cons.mpr ⟨am_alS i54_23 (s54_23 K), List.forall_mem_cons.mpr ⟨am_alS i54_24 (s54_24 K), List.forall_mem_cons.mpr ⟨am_alS i54_27 (s54_27 K), List.forall_mem_cons.mpr ⟨am_alS i54_28 (s54_28 K), List.forall_mem_cons.mpr ⟨am_alS i54_31 (s54_31 K), List.forall_mem_cons.mpr ⟨am_alS i54_32 (s54_32 K), List.forall_mem_cons.mpr ⟨am_alS i54_33 (s54_33 K), List.forall_mem_cons.mpr ⟨am_alS i54_34 (s54_34 K), List.forall_mem_cons.mpr ⟨am_alS i54_37 (s54_37 K), List.forall_mem_cons.mpr ⟨am_alS i54_38 (s54_38 K), List.forall_mem_cons.mpr ⟨am_alS i54_39 (s54_39 K), List.forall_mem_cons.mpr ⟨am_alS i54_40 (s54_40 K), List.forall_mem_cons.mpr ⟨am_alS i54_43 (s54_43 K), List.forall_mem_cons.mpr ⟨am_alS i54_44 (s54_44 K), List.forall_mem_cons.mpr ⟨am_alS i54_45 (s54_45 K), fun _ h => absurd h List.not_mem_nil⟩⟩⟩⟩⟩⟩⟩⟩⟩⟩⟩⟩⟩⟩⟩⟩⟩⟩⟩⟩⟩⟩⟩⟩⟩⟩⟩⟩⟩⟩
theorem al54_1 (K : aK) : ∀ q ∈ [46, 49, 52, 53], am_All K 54 q := List.forall_mem_cons.mpr ⟨am_alS i54_46 (s54_46 K), List.forall_mem_cons.mpr ⟨am_alS i54_49 (s54_49 K), List.forall_mem_cons.mpr ⟨am_alS i54_52 (s54_52 K), List.forall_mem_cons.mpr ⟨am_alR i54_53 s54_53, fun _ h => absurd h List.not_mem_nil⟩⟩⟩⟩
set_option maxRecDepth 100000 in
theorem al54 (K : aK) : ∀ q ∈ (am_t54).map (fun z => z.1), am_All K 54 q := by
  have e : (am_t54).map (fun z => z.1) = [0, 1, 2, 3, 4, 7, 8, 9, 10, 11, 14, 17, 18, 21, 22, 23, 24, 27, 28, 31, 32, 33, 34, 37, 38, 39, 40, 43, 44, 45] ++ ([46, 49, 52, 53]) := rfl
  rw [e]
  exact List.forall_mem_append.mpr ⟨al54_0 K, al54_1 K⟩
theorem i55_0 : am_ins 55 0 = (33, 0, 1, 0, []) := by decide +kernel
theorem d55_0 : decode (am_cod 55) 0 = .ok (.aload_n 0, 1) := by decide +kernel
theorem s55_0 (K : aK) : am_Snd K 55 0 := sn_aload_n i55_0 d55_0 rfl
theorem i55_1 : am_ins 55 1 = (33, 1, 1, 0, []) := by decide +kernel
theorem d55_1 : decode (am_cod 55) 1 = .ok (.aload_n 1, 1) := by decide +kernel
theorem s55_1 (K : aK) : am_Snd K 55 1 := sn_aload_n i55_1 d55_1 rfl
theorem i55_2 : am_ins 55 2 = (18, 5, 0, 0, []) := by decide +kernel
theorem d55_2 : decode (am_cod 55) 2 = .ok (.getfield 66, 3) := by decide +kernel
theorem s55_2 (K : aK) : am_Snd K 55 2 := sn_get (C0 := CN5) (T := FT5) (Nf := 8) i55_2 d55_2 rfl (by decide +kernel) fin5 w_279 rfl
theorem i55_5 : am_ins 55 5 = (0, 1, 0, 3, []) := by decide +kernel
theorem d55_5 : decode (am_cod 55) 5 = .ok (.iconst 3, 1) := by decide +kernel
theorem s55_5 (K : aK) : am_Snd K 55 5 := sn_const1 i55_5 d55_5 rfl
theorem i55_6 : am_ins 55 6 = (33, 1, 1, 0, []) := by decide +kernel
theorem d55_6 : decode (am_cod 55) 6 = .ok (.aload_n 1, 1) := by decide +kernel
theorem s55_6 (K : aK) : am_Snd K 55 6 := sn_aload_n i55_6 d55_6 rfl
theorem i55_7 : am_ins 55 7 = (18, 5, 6, 0, []) := by decide +kernel
theorem d55_7 : decode (am_cod 55) 7 = .ok (.getfield 76, 3) := by decide +kernel
theorem s55_7 (K : aK) : am_Snd K 55 7 := sn_get (C0 := CN5) (T := FT5) (Nf := 8) i55_7 d55_7 rfl (by decide +kernel) fin5 w_295 rfl
theorem i55_10 : am_ins 55 10 = (60, 50, 3, 0, []) := by decide +kernel
theorem d55_10 : decode (am_cod 55) 10 = .ok (.invokevirtual 67, 3) := by decide +kernel
theorem s55_10 (K : aK) : am_SndC K 55 10 := sc_V i55_10 d55_10 co50 w_337 w_338 w_339 w_4 rfl (rr := (CN4, FT4, 9)) rfl rfl hd50
theorem i55_13 : am_ins 55 13 = (33, 0, 1, 0, []) := by decide +kernel
theorem d55_13 : decode (am_cod 55) 13 = .ok (.aload_n 0, 1) := by decide +kernel
theorem s55_13 (K : aK) : am_Snd K 55 13 := sn_aload_n i55_13 d55_13 rfl
theorem i55_14 : am_ins 55 14 = (18, 4, 7, 0, []) := by decide +kernel
theorem d55_14 : decode (am_cod 55) 14 = .ok (.getfield 79, 3) := by decide +kernel
theorem s55_14 (K : aK) : am_Snd K 55 14 := sn_get (C0 := CN4) (T := FT4) (Nf := 9) i55_14 d55_14 rfl (by decide +kernel) fin4 w_93 rfl
theorem i55_17 : am_ins 55 17 = (12, 2, 30, 0, []) := by decide +kernel
theorem d55_17 : decode (am_cod 55) 17 = .ok (.ifCond .lt 13, 3) := by decide +kernel
theorem s55_17 (K : aK) : am_Snd K 55 17 := sn_if_lt i55_17 d55_17 rfl
theorem i55_20 : am_ins 55 20 = (33, 0, 1, 0, []) := by decide +kernel
theorem d55_20 : decode (am_cod 55) 20 = .ok (.aload_n 0, 1) := by decide +kernel
theorem s55_20 (K : aK) : am_Snd K 55 20 := sn_aload_n i55_20 d55_20 rfl
theorem i55_21 : am_ins 55 21 = (18, 4, 7, 0, []) := by decide +kernel
theorem d55_21 : decode (am_cod 55) 21 = .ok (.getfield 79, 3) := by decide +kernel
theorem s55_21 (K : aK) : am_Snd K 55 21 := sn_get (C0 := CN4) (T := FT4) (Nf := 9) i55_21 d55_21 rfl (by decide +kernel) fin4 w_93 rfl
theorem i55_24 : am_ins 55 24 = (0, 3, 0, 200, []) := by decide +kernel
theorem d55_24 : decode (am_cod 55) 24 = .ok (.sipush 200, 3) := by decide +kernel
theorem s55_24 (K : aK) : am_Snd K 55 24 := sn_const3 i55_24 d55_24 (by decide +kernel)
theorem i55_27 : am_ins 55 27 = (13, 2, 31, 0, []) := by decide +kernel
theorem d55_27 : decode (am_cod 55) 27 = .ok (.if_icmp .lt 4, 3) := by decide +kernel
theorem s55_27 (K : aK) : am_Snd K 55 27 := sn_icmp_lt i55_27 d55_27 rfl
theorem i55_30 : am_ins 55 30 = (53, 0, 0, 0, []) := by decide +kernel
theorem d55_30 : decode (am_cod 55) 30 = .ok (.return_, 1) := by decide +kernel
theorem s55_30 : am_SndR 55 30 := sn_vret i55_30 d55_30 rfl
theorem i55_31 : am_ins 55 31 = (33, 0, 1, 0, []) := by decide +kernel
theorem d55_31 : decode (am_cod 55) 31 = .ok (.aload_n 0, 1) := by decide +kernel
theorem s55_31 (K : aK) : am_Snd K 55 31 := sn_aload_n i55_31 d55_31 rfl
theorem i55_32 : am_ins 55 32 = (18, 4, 7, 0, []) := by decide +kernel
theorem d55_32 : decode (am_cod 55) 32 = .ok (.getfield 79, 3) := by decide +kernel
theorem s55_32 (K : aK) : am_Snd K 55 32 := sn_get (C0 := CN4) (T := FT4) (Nf := 9) i55_32 d55_32 rfl (by decide +kernel) fin4 w_93 rfl
theorem i55_35 : am_ins 55 35 = (2, 2, 1, 0, []) := by decide +kernel
theorem d55_35 : decode (am_cod 55) 35 = .ok (.istore_n 2, 1) := by decide +kernel
theorem s55_35 (K : aK) : am_Snd K 55 35 := sn_istore_n i55_35 d55_35 rfl (by decide +kernel)
theorem i55_36 : am_ins 55 36 = (1, 2, 1, 0, []) := by decide +kernel
theorem d55_36 : decode (am_cod 55) 36 = .ok (.iload_n 2, 1) := by decide +kernel
theorem s55_36 (K : aK) : am_Snd K 55 36 := sn_iload_n i55_36 d55_36 rfl
theorem i55_37 : am_ins 55 37 = (12, 5, 86, 0, []) := by decide +kernel
theorem d55_37 : decode (am_cod 55) 37 = .ok (.ifCond .le 49, 3) := by decide +kernel
theorem s55_37 (K : aK) : am_Snd K 55 37 := sn_if_le i55_37 d55_37 rfl
theorem i55_40 : am_ins 55 40 = (33, 0, 1, 0, []) := by decide +kernel
theorem d55_40 : decode (am_cod 55) 40 = .ok (.aload_n 0, 1) := by decide +kernel
theorem s55_40 (K : aK) : am_Snd K 55 40 := sn_aload_n i55_40 d55_40 rfl
theorem i55_41 : am_ins 55 41 = (18, 4, 6, 0, []) := by decide +kernel
theorem d55_41 : decode (am_cod 55) 41 = .ok (.getfield 26, 3) := by decide +kernel
theorem s55_41 (K : aK) : am_Snd K 55 41 := sn_get (C0 := CN4) (T := FT4) (Nf := 9) i55_41 d55_41 rfl (by decide +kernel) fin4 w_91 rfl
theorem i55_44 : am_ins 55 44 = (1, 2, 1, 0, []) := by decide +kernel
theorem d55_44 : decode (am_cod 55) 44 = .ok (.iload_n 2, 1) := by decide +kernel
theorem s55_44 (K : aK) : am_Snd K 55 44 := sn_iload_n i55_44 d55_44 rfl
theorem i55_45 : am_ins 55 45 = (0, 1, 0, 1, []) := by decide +kernel
theorem d55_45 : decode (am_cod 55) 45 = .ok (.iconst 1, 1) := by decide +kernel
theorem s55_45 (K : aK) : am_Snd K 55 45 := sn_const1 i55_45 d55_45 rfl
theorem i55_46 : am_ins 55 46 = (4, 1, 0, 0, []) := by decide +kernel
theorem d55_46 : decode (am_cod 55) 46 = .ok (.isub, 1) := by decide +kernel
theorem s55_46 (K : aK) : am_Snd K 55 46 := sn_sub i55_46 d55_46 
theorem i55_47 : am_ins 55 47 = (26, 0, 0, 0, []) := by decide +kernel
theorem d55_47 : decode (am_cod 55) 47 = .ok (.aaload, 1) := by decide +kernel
theorem s55_47 (K : aK) : am_Snd K 55 47 := sn_aald i55_47 d55_47 
theorem i55_48 : am_ins 55 48 = (15, 86, 0, 0, []) := by decide +kernel
theorem d55_48 : decode (am_cod 55) 48 = .ok (.ifnull 38, 3) := by decide +kernel
theorem s55_48 (K : aK) : am_Snd K 55 48 := sn_ifnull i55_48 d55_48 rfl
theorem i55_51 : am_ins 55 51 = (33, 1, 1, 0, []) := by decide +kernel
theorem d55_51 : decode (am_cod 55) 51 = .ok (.aload_n 1, 1) := by decide +kernel
theorem s55_51 (K : aK) : am_Snd K 55 51 := sn_aload_n i55_51 d55_51 rfl
theorem i55_52 : am_ins 55 52 = (33, 0, 1, 0, []) := by decide +kernel
theorem d55_52 : decode (am_cod 55) 52 = .ok (.aload_n 0, 1) := by decide +kernel
theorem s55_52 (K : aK) : am_Snd K 55 52 := sn_aload_n i55_52 d55_52 rfl
theorem i55_53 : am_ins 55 53 = (18, 4, 6, 0, []) := by decide +kernel
theorem d55_53 : decode (am_cod 55) 53 = .ok (.getfield 26, 3) := by decide +kernel
theorem s55_53 (K : aK) : am_Snd K 55 53 := sn_get (C0 := CN4) (T := FT4) (Nf := 9) i55_53 d55_53 rfl (by decide +kernel) fin4 w_91 rfl
theorem i55_56 : am_ins 55 56 = (1, 2, 1, 0, []) := by decide +kernel
theorem d55_56 : decode (am_cod 55) 56 = .ok (.iload_n 2, 1) := by decide +kernel
theorem s55_56 (K : aK) : am_Snd K 55 56 := sn_iload_n i55_56 d55_56 rfl
theorem i55_57 : am_ins 55 57 = (0, 1, 0, 1, []) := by decide +kernel
theorem d55_57 : decode (am_cod 55) 57 = .ok (.iconst 1, 1) := by decide +kernel
theorem s55_57 (K : aK) : am_Snd K 55 57 := sn_const1 i55_57 d55_57 rfl
theorem i55_58 : am_ins 55 58 = (4, 1, 0, 0, []) := by decide +kernel
theorem d55_58 : decode (am_cod 55) 58 = .ok (.isub, 1) := by decide +kernel
theorem s55_58 (K : aK) : am_Snd K 55 58 := sn_sub i55_58 d55_58 
theorem i55_59 : am_ins 55 59 = (26, 0, 0, 0, []) := by decide +kernel
theorem d55_59 : decode (am_cod 55) 59 = .ok (.aaload, 1) := by decide +kernel
theorem s55_59 (K : aK) : am_Snd K 55 59 := sn_aald i55_59 d55_59 
theorem i55_60 : am_ins 55 60 = (60, 62, 1, 0, []) := by decide +kernel
theorem d55_60 : decode (am_cod 55) 60 = .ok (.invokevirtual 82, 3) := by decide +kernel
theorem s55_60 (K : aK) : am_SndC K 55 60 := sc_V i55_60 d55_60 co62 w_411 w_236 w_237 w_8 rfl (rr := (CN5, FT5, 8)) rfl rfl hd62
theorem i55_63 : am_ins 55 63 = (12, 0, 86, 0, []) := by decide +kernel
theorem d55_63 : decode (am_cod 55) 63 = .ok (.ifCond .eq 23, 3) := by decide +kernel
theorem s55_63 (K : aK) : am_Snd K 55 63 := sn_if_eq i55_63 d55_63 rfl
theorem i55_66 : am_ins 55 66 = (33, 0, 1, 0, []) := by decide +kernel
theorem d55_66 : decode (am_cod 55) 66 = .ok (.aload_n 0, 1) := by decide +kernel
theorem s55_66 (K : aK) : am_Snd K 55 66 := sn_aload_n i55_66 d55_66 rfl
theorem i55_67 : am_ins 55 67 = (18, 4, 6, 0, []) := by decide +kernel
theorem d55_67 : decode (am_cod 55) 67 = .ok (.getfield 26, 3) := by decide +kernel
theorem s55_67 (K : aK) : am_Snd K 55 67 := sn_get (C0 := CN4) (T := FT4) (Nf := 9) i55_67 d55_67 rfl (by decide +kernel) fin4 w_91 rfl
theorem i55_70 : am_ins 55 70 = (1, 2, 1, 0, []) := by decide +kernel
theorem d55_70 : decode (am_cod 55) 70 = .ok (.iload_n 2, 1) := by decide +kernel
theorem s55_70 (K : aK) : am_Snd K 55 70 := sn_iload_n i55_70 d55_70 rfl
theorem i55_71 : am_ins 55 71 = (33, 0, 1, 0, []) := by decide +kernel
theorem d55_71 : decode (am_cod 55) 71 = .ok (.aload_n 0, 1) := by decide +kernel
theorem s55_71 (K : aK) : am_Snd K 55 71 := sn_aload_n i55_71 d55_71 rfl
theorem i55_72 : am_ins 55 72 = (18, 4, 6, 0, []) := by decide +kernel
theorem d55_72 : decode (am_cod 55) 72 = .ok (.getfield 26, 3) := by decide +kernel
theorem s55_72 (K : aK) : am_Snd K 55 72 := sn_get (C0 := CN4) (T := FT4) (Nf := 9) i55_72 d55_72 rfl (by decide +kernel) fin4 w_91 rfl
theorem i55_75 : am_ins 55 75 = (1, 2, 1, 0, []) := by decide +kernel
theorem d55_75 : decode (am_cod 55) 75 = .ok (.iload_n 2, 1) := by decide +kernel
theorem s55_75 (K : aK) : am_Snd K 55 75 := sn_iload_n i55_75 d55_75 rfl
theorem i55_76 : am_ins 55 76 = (0, 1, 0, 1, []) := by decide +kernel
theorem d55_76 : decode (am_cod 55) 76 = .ok (.iconst 1, 1) := by decide +kernel
theorem s55_76 (K : aK) : am_Snd K 55 76 := sn_const1 i55_76 d55_76 rfl
theorem i55_77 : am_ins 55 77 = (4, 1, 0, 0, []) := by decide +kernel
theorem d55_77 : decode (am_cod 55) 77 = .ok (.isub, 1) := by decide +kernel
theorem s55_77 (K : aK) : am_Snd K 55 77 := sn_sub i55_77 d55_77 
theorem i55_78 : am_ins 55 78 = (26, 0, 0, 0, []) := by decide +kernel
theorem d55_78 : decode (am_cod 55) 78 = .ok (.aaload, 1) := by decide +kernel
theorem s55_78 (K : aK) : am_Snd K 55 78 := sn_aald i55_78 d55_78 
theorem i55_79 : am_ins 55 79 = (27, 0, 0, 0, []) := by decide +kernel
theorem d55_79 : decode (am_cod 55) 79 = .ok (.aastore, 1) := by decide +kernel
theorem s55_79 (K : aK) : am_Snd K 55 79 := sn_aast i55_79 d55_79 
theorem i55_80 : am_ins 55 80 = (3, 2, 3, (-1), []) := by decide +kernel
theorem d55_80 : decode (am_cod 55) 80 = .ok (.iinc 2 (-1), 3) := by decide +kernel
theorem s55_80 (K : aK) : am_Snd K 55 80 := sn_iinc i55_80 d55_80 rfl (by decide +kernel)
theorem i55_83 : am_ins 55 83 = (14, 36, 0, 0, []) := by decide +kernel
theorem d55_83 : decode (am_cod 55) 83 = .ok (.goto (-47), 3) := by decide +kernel
theorem s55_83 (K : aK) : am_Snd K 55 83 := sn_goto i55_83 d55_83 rfl
theorem i55_86 : am_ins 55 86 = (33, 0, 1, 0, []) := by decide +kernel
theorem d55_86 : decode (am_cod 55) 86 = .ok (.aload_n 0, 1) := by decide +kernel
theorem s55_86 (K : aK) : am_Snd K 55 86 := sn_aload_n i55_86 d55_86 rfl
theorem i55_87 : am_ins 55 87 = (18, 4, 6, 0, []) := by decide +kernel
theorem d55_87 : decode (am_cod 55) 87 = .ok (.getfield 26, 3) := by decide +kernel
theorem s55_87 (K : aK) : am_Snd K 55 87 := sn_get (C0 := CN4) (T := FT4) (Nf := 9) i55_87 d55_87 rfl (by decide +kernel) fin4 w_91 rfl
theorem i55_90 : am_ins 55 90 = (1, 2, 1, 0, []) := by decide +kernel
theorem d55_90 : decode (am_cod 55) 90 = .ok (.iload_n 2, 1) := by decide +kernel
theorem s55_90 (K : aK) : am_Snd K 55 90 := sn_iload_n i55_90 d55_90 rfl
theorem i55_91 : am_ins 55 91 = (33, 1, 1, 0, []) := by decide +kernel
theorem d55_91 : decode (am_cod 55) 91 = .ok (.aload_n 1, 1) := by decide +kernel
theorem s55_91 (K : aK) : am_Snd K 55 91 := sn_aload_n i55_91 d55_91 rfl
theorem i55_92 : am_ins 55 92 = (27, 0, 0, 0, []) := by decide +kernel
theorem d55_92 : decode (am_cod 55) 92 = .ok (.aastore, 1) := by decide +kernel
theorem s55_92 (K : aK) : am_Snd K 55 92 := sn_aast i55_92 d55_92 
theorem i55_93 : am_ins 55 93 = (33, 0, 1, 0, []) := by decide +kernel
theorem d55_93 : decode (am_cod 55) 93 = .ok (.aload_n 0, 1) := by decide +kernel
theorem s55_93 (K : aK) : am_Snd K 55 93 := sn_aload_n i55_93 d55_93 rfl
theorem i55_94 : am_ins 55 94 = (7, 0, 0, 0, []) := by decide +kernel
theorem d55_94 : decode (am_cod 55) 94 = .ok (.dup, 1) := by decide +kernel
theorem s55_94 (K : aK) : am_Snd K 55 94 := sn_dup i55_94 d55_94 
theorem i55_95 : am_ins 55 95 = (18, 4, 7, 0, []) := by decide +kernel
theorem d55_95 : decode (am_cod 55) 95 = .ok (.getfield 79, 3) := by decide +kernel
theorem s55_95 (K : aK) : am_Snd K 55 95 := sn_get (C0 := CN4) (T := FT4) (Nf := 9) i55_95 d55_95 rfl (by decide +kernel) fin4 w_93 rfl
theorem i55_98 : am_ins 55 98 = (0, 1, 0, 1, []) := by decide +kernel
theorem d55_98 : decode (am_cod 55) 98 = .ok (.iconst 1, 1) := by decide +kernel
theorem s55_98 (K : aK) : am_Snd K 55 98 := sn_const1 i55_98 d55_98 rfl
theorem i55_99 : am_ins 55 99 = (4, 0, 0, 0, []) := by decide +kernel
theorem d55_99 : decode (am_cod 55) 99 = .ok (.iadd, 1) := by decide +kernel
theorem s55_99 (K : aK) : am_Snd K 55 99 := sn_add i55_99 d55_99 
theorem i55_100 : am_ins 55 100 = (19, 4, 7, 0, []) := by decide +kernel
theorem d55_100 : decode (am_cod 55) 100 = .ok (.putfield 79, 3) := by decide +kernel
theorem s55_100 (K : aK) : am_Snd K 55 100 := sn_puti (ty := .int) (C0 := CN4) (T := FT4) (Nf := 9) (tyf := FY4) i55_100 d55_100 rfl (by decide +kernel) fin4 ftyok4 fnm4 w_93 rfl rfl rfl
theorem i55_103 : am_ins 55 103 = (53, 0, 0, 0, []) := by decide +kernel
theorem d55_103 : decode (am_cod 55) 103 = .ok (.return_, 1) := by decide +kernel
theorem s55_103 : am_SndR 55 103 := sn_vret i55_103 d55_103 rfl
theorem al55_0 (K : aK) : ∀ q ∈ [0, 1, 2, 5, 6, 7, 10, 13, 14, 17, 20, 21, 24, 27, 30, 31, 32, 35, 36, 37, 40, 41, 44, 45, 46, 47, 48, 51, 52, 53], am_All K 55 q := List.forall_mem_cons.mpr ⟨am_alS i55_0 (s55_0 K), List.forall_mem_cons.mpr ⟨am_alS i55_1 (s55_1 K), List.forall_mem_cons.mpr ⟨am_alS i55_2 (s55_2 K), List.forall_mem_cons.mpr ⟨am_alS i55_5 (s55_5 K), List.forall_mem_cons.mpr ⟨am_alS i55_6 (s55_6 K), List.forall_mem_cons.mpr ⟨am_alS i55_7 (s55_7 K), List.forall_mem_cons.mpr ⟨am_alC i55_10 (s55_10 K), List.forall_mem_cons.mpr ⟨am_alS i55_13 (s55_13 K), List.forall_mem_cons.mpr ⟨am_alS i55_14 (s55_14 K), List.forall_mem_cons.mpr ⟨am_alS i55_17 (s55_17 K), List.forall_mem_cons.mpr ⟨am_alS i55_20 (s55_20 K), List.forall_mem_cons.mpr ⟨am_alS i55_21 (s55_21 K), List.forall_mem_cons.mpr ⟨am_alS i55_24 (s55_24 K), List.forall_mem_cons.mpr ⟨am_alS i55_27 (s55_27 K), List.forall_mem_cons.mpr ⟨am_alR i55_30 s55_30, List.forall_mem_cons.mpr ⟨am_alS i55_31 (s55_31 K), List.forall_mem_cons.mpr ⟨am_alS i55_32 (s55_32 K), List.forall_mem_cons.mpr ⟨am_alS i55_35 (s55_35 K), List.forall_mem_cons.mpr ⟨am_alS i55_36 (s55_36 K), List.forall_mem_cons.mpr ⟨am_alS i55_37 (s55_37 K), List.forall_mem_cons.mpr ⟨am_alS i55_40 (s55_40 K), List.forall_mem_cons.mpr ⟨am_alS i55_41 (s55_41 K), List.forall_mem_cons.mpr ⟨am_alS i55_44 (s55_44 K), List.forall_mem_cons.mpr ⟨am_alS i55_45 (s55_45 K), List.forall_mem_cons.mpr ⟨am_alS i55_46 (s55_46 K), List.forall_mem_cons.mpr ⟨am_alS i55_47 (s55_47 K), List.forall_mem_cons.mpr ⟨am_alS i55_48 (s55_48 K), List.forall_mem_cons.mpr ⟨am_alS i55_51 (s55_51 K), List.forall_mem_cons.mpr ⟨am_alS i55_52 (s55_52 K), List.forall_mem_cons.mpr ⟨am_alS i55_53 (s55_53 K), fun _ h => absurd h List.not_mem_nil⟩⟩⟩⟩⟩⟩⟩⟩⟩⟩⟩⟩⟩⟩⟩⟩⟩⟩⟩⟩⟩⟩⟩⟩⟩⟩⟩⟩⟩⟩
theorem al55_1 (K : aK) : ∀ q ∈ [56, 57, 58, 59, 60, 63, 66, 67, 70, 71, 72, 75, 76, 77, 78, 79, 80, 83, 86, 87, 90, 91, 92, 93, 94, 95, 98, 99, 100, 103], am_All K 55 q := List.forall_mem_cons.mpr ⟨am_alS i55_56 (s55_56 K), List.forall_mem_cons.mpr ⟨am_alS i55_57 (s55_57 K), List.forall_mem_cons.mpr ⟨am_alS i55_58 (s55_58 K), List.forall_mem_cons.mpr ⟨am_alS i55_59 (s55_59 K), List.forall_mem_cons.mpr ⟨am_alC i55_60 (s55_60 K), List.forall_mem_cons.mpr ⟨am_alS i55_63 (s55_63 K), List.forall_mem_cons.mpr ⟨am_alS i55_66 (s55_66 K), List.forall_mem_cons.mpr ⟨am_alS i55_67 (s55_67 K), List.forall_mem_cons.mpr ⟨am_alS i55_70 (s55_70 K), List.forall_mem_cons.mpr ⟨am_alS i55_71 (s55_71 K), List.forall_mem_cons.mpr ⟨am_alS i55_72 (s55_72 K), List.forall_mem_cons.mpr ⟨am_alS i55_75 (s55_75 K), List.forall_mem_cons.mpr ⟨am_alS i55_76 (s55_76 K), List.forall_mem_cons.mpr ⟨am_alS i55_77 (s55_77 K), List.forall_mem_cons.mpr ⟨am_alS i55_78 (s55_78 K), List.forall_mem_cons.mpr ⟨am_alS i55_79 (s55_79 K), List.forall_mem_cons.mpr ⟨am_alS i55_80 (s55_80 K), List.forall_mem_cons.mpr ⟨am_alS i55_83 (s55_83 K), List.forall_mem_cons.mpr ⟨am_alS i55_86 (s55_86 K), List.forall_mem_cons.mpr ⟨am_alS i55_87 (s55_87 K), List.forall_mem_cons.mpr ⟨am_alS i55_90 (s55_90 K), List.forall_mem_cons.mpr ⟨am_alS i55_91 (s55_91 K), List.forall_mem_cons.mpr ⟨am_alS i55_92 (s55_92 K), List.forall_mem_cons.mpr ⟨am_alS i55_93 (s55_93 K), List.forall_mem_cons.mpr ⟨am_alS i55_94 (s55_94 K), List.forall_mem_cons.mpr ⟨am_alS i55_95 (s55_95 K), List.forall_mem_cons.mpr ⟨am_alS i55_98 (s55_98 K), List.forall_mem_cons.mpr ⟨am_alS i55_99 (s55_99 K), List.forall_mem_cons.mpr ⟨am_alS i55_100 (s55_100 K), List.forall_mem_cons.mpr ⟨am_alR i55_103 s55_103, fun _ h => absurd h List.not_mem_nil⟩⟩⟩⟩⟩⟩⟩⟩⟩⟩⟩⟩⟩⟩⟩⟩⟩⟩⟩⟩⟩⟩⟩⟩⟩⟩⟩⟩⟩⟩
set_option maxRecDepth 100000 in
theorem al55 (K : aK) : ∀ q ∈ (am_t55).map (fun z => z.1), am_All K 55 q := by
  have e : (am_t55).map (fun z => z.1) = [0, 1, 2, 5, 6, 7, 10, 13, 14, 17, 20, 21, 24, 27, 30, 31, 32, 35, 36, 37, 40, 41, 44, 45, 46, 47, 48, 51, 52, 53] ++ ([56, 57, 58, 59, 60, 63, 66, 67, 70, 71, 72, 75, 76, 77, 78, 79, 80, 83, 86, 87, 90, 91, 92, 93, 94, 95, 98, 99, 100, 103]) := rfl
  rw [e]
  exact List.forall_mem_append.mpr ⟨al55_0 K, al55_1 K⟩
theorem i56_0 : am_ins 56 0 = (0, 1, 0, 0, []) := by decide +kernel
theorem d56_0 : decode (am_cod 56) 0 = .ok (.iconst 0, 1) := by decide +kernel
theorem s56_0 (K : aK) : am_Snd K 56 0 := sn_const1 i56_0 d56_0 rfl
theorem i56_1 : am_ins 56 1 = (2, 3, 1, 0, []) := by decide +kernel
theorem d56_1 : decode (am_cod 56) 1 = .ok (.istore_n 3, 1) := by decide +kernel
theorem s56_1 (K : aK) : am_Snd K 56 1 := sn_istore_n i56_1 d56_1 rfl (by decide +kernel)
theorem i56_2 : am_ins 56 2 = (1, 3, 1, 0, []) := by decide +kernel
theorem d56_2 : decode (am_cod 56) 2 = .ok (.iload_n 3, 1) := by decide +kernel
theorem s56_2 (K : aK) : am_Snd K 56 2 := sn_iload_n i56_2 d56_2 rfl
theorem i56_3 : am_ins 56 3 = (33, 0, 1, 0, []) := by decide +kernel
theorem d56_3 : decode (am_cod 56) 3 = .ok (.aload_n 0, 1) := by decide +kernel
theorem s56_3 (K : aK) : am_Snd K 56 3 := sn_aload_n i56_3 d56_3 rfl
theorem i56_4 : am_ins 56 4 = (18, 4, 7, 0, []) := by decide +kernel
theorem d56_4 : decode (am_cod 56) 4 = .ok (.getfield 79, 3) := by decide +kernel
theorem s56_4 (K : aK) : am_Snd K 56 4 := sn_get (C0 := CN4) (T := FT4) (Nf := 9) i56_4 d56_4 rfl (by decide +kernel) fin4 w_93 rfl
theorem i56_7 : am_ins 56 7 = (13, 3, 60, 0, []) := by decide +kernel
theorem d56_7 : decode (am_cod 56) 7 = .ok (.if_icmp .ge 53, 3) := by decide +kernel
theorem s56_7 (K : aK) : am_Snd K 56 7 := sn_icmp_ge i56_7 d56_7 rfl
theorem i56_10 : am_ins 56 10 = (1, 3, 1, 0, []) := by decide +kernel
theorem d56_10 : decode (am_cod 56) 10 = .ok (.iload_n 3, 1) := by decide +kernel
theorem s56_10 (K : aK) : am_Snd K 56 10 := sn_iload_n i56_10 d56_10 rfl
theorem i56_11 : am_ins 56 11 = (0, 3, 0, 200, []) := by decide +kernel
theorem d56_11 : decode (am_cod 56) 11 = .ok (.sipush 200, 3) := by decide +kernel
theorem s56_11 (K : aK) : am_Snd K 56 11 := sn_const3 i56_11 d56_11 (by decide +kernel)
theorem i56_14 : am_ins 56 14 = (13, 3, 60, 0, []) := by decide +kernel
theorem d56_14 : decode (am_cod 56) 14 = .ok (.if_icmp .ge 46, 3) := by decide +kernel
theorem s56_14 (K : aK) : am_Snd K 56 14 := sn_icmp_ge i56_14 d56_14 rfl
theorem i56_17 : am_ins 56 17 = (33, 0, 1, 0, []) := by decide +kernel
theorem d56_17 : decode (am_cod 56) 17 = .ok (.aload_n 0, 1) := by decide +kernel
theorem s56_17 (K : aK) : am_Snd K 56 17 := sn_aload_n i56_17 d56_17 rfl
theorem i56_18 : am_ins 56 18 = (18, 4, 6, 0, []) := by decide +kernel
theorem d56_18 : decode (am_cod 56) 18 = .ok (.getfield 26, 3) := by decide +kernel
theorem s56_18 (K : aK) : am_Snd K 56 18 := sn_get (C0 := CN4) (T := FT4) (Nf := 9) i56_18 d56_18 rfl (by decide +kernel) fin4 w_91 rfl
theorem i56_21 : am_ins 56 21 = (1, 3, 1, 0, []) := by decide +kernel
theorem d56_21 : decode (am_cod 56) 21 = .ok (.iload_n 3, 1) := by decide +kernel
theorem s56_21 (K : aK) : am_Snd K 56 21 := sn_iload_n i56_21 d56_21 rfl
theorem i56_22 : am_ins 56 22 = (26, 0, 0, 0, []) := by decide +kernel
theorem d56_22 : decode (am_cod 56) 22 = .ok (.aaload, 1) := by decide +kernel
theorem s56_22 (K : aK) : am_Snd K 56 22 := sn_aald i56_22 d56_22 
theorem i56_23 : am_ins 56 23 = (34, 4, 2, 0, []) := by decide +kernel
theorem d56_23 : decode (am_cod 56) 23 = .ok (.astore 4, 2) := by decide +kernel
theorem s56_23 (K : aK) : am_Snd K 56 23 := sn_astore i56_23 d56_23 (by decide +kernel)
theorem i56_25 : am_ins 56 25 = (33, 4, 2, 0, []) := by decide +kernel
theorem d56_25 : decode (am_cod 56) 25 = .ok (.aload 4, 2) := by decide +kernel
theorem s56_25 (K : aK) : am_Snd K 56 25 := sn_aload i56_25 d56_25 
theorem i56_27 : am_ins 56 27 = (15, 54, 0, 0, []) := by decide +kernel
theorem d56_27 : decode (am_cod 56) 27 = .ok (.ifnull 27, 3) := by decide +kernel
theorem s56_27 (K : aK) : am_Snd K 56 27 := sn_ifnull i56_27 d56_27 rfl
theorem i56_30 : am_ins 56 30 = (33, 4, 2, 0, []) := by decide +kernel
theorem d56_30 : decode (am_cod 56) 30 = .ok (.aload 4, 2) := by decide +kernel
theorem s56_30 (K : aK) : am_Snd K 56 30 := sn_aload i56_30 d56_30 
theorem i56_32 : am_ins 56 32 = (18, 5, 5, 0, []) := by decide +kernel
theorem d56_32 : decode (am_cod 56) 32 = .ok (.getfield 86, 3) := by decide +kernel
theorem s56_32 (K : aK) : am_Snd K 56 32 := sn_get (C0 := CN5) (T := FT5) (Nf := 8) i56_32 d56_32 rfl (by decide +kernel) fin5 w_291 rfl
theorem i56_35 : am_ins 56 35 = (1, 1, 1, 0, []) := by decide +kernel
theorem d56_35 : decode (am_cod 56) 35 = .ok (.iload_n 1, 1) := by decide +kernel
theorem s56_35 (K : aK) : am_Snd K 56 35 := sn_iload_n i56_35 d56_35 rfl
theorem i56_36 : am_ins 56 36 = (60, 67, 1, 0, []) := by decide +kernel
theorem d56_36 : decode (am_cod 56) 36 = .ok (.invokevirtual 90, 3) := by decide +kernel
theorem s56_36 (K : aK) : am_SndC K 56 36 := sc_V i56_36 d56_36 co67 w_233 w_211 w_212 w_3 rfl (rr := (CN6, FT6, 2)) rfl rfl hd67
theorem i56_39 : am_ins 56 39 = (12, 0, 54, 0, []) := by decide +kernel
theorem d56_39 : decode (am_cod 56) 39 = .ok (.ifCond .eq 15, 3) := by decide +kernel
theorem s56_39 (K : aK) : am_Snd K 56 39 := sn_if_eq i56_39 d56_39 rfl
theorem i56_42 : am_ins 56 42 = (33, 4, 2, 0, []) := by decide +kernel
theorem d56_42 : decode (am_cod 56) 42 = .ok (.aload 4, 2) := by decide +kernel
theorem s56_42 (K : aK) : am_Snd K 56 42 := sn_aload i56_42 d56_42 
theorem i56_44 : am_ins 56 44 = (33, 2, 1, 0, []) := by decide +kernel
theorem d56_44 : decode (am_cod 56) 44 = .ok (.aload_n 2, 1) := by decide +kernel
theorem s56_44 (K : aK) : am_Snd K 56 44 := sn_aload_n i56_44 d56_44 rfl
theorem i56_45 : am_ins 56 45 = (60, 61, 1, 0, []) := by decide +kernel
theorem d56_45 : decode (am_cod 56) 45 = .ok (.invokevirtual 95, 3) := by decide +kernel
theorem s56_45 (K : aK) : am_SndC K 56 45 := sc_V i56_45 d56_45 co61 w_234 w_191 w_192 w_8 rfl (rr := (CN5, FT5, 8)) rfl rfl hd61
theorem i56_48 : am_ins 56 48 = (12, 0, 54, 0, []) := by decide +kernel
theorem d56_48 : decode (am_cod 56) 48 = .ok (.ifCond .eq 6, 3) := by decide +kernel
theorem s56_48 (K : aK) : am_Snd K 56 48 := sn_if_eq i56_48 d56_48 rfl
theorem i56_51 : am_ins 56 51 = (33, 4, 2, 0, []) := by decide +kernel
theorem d56_51 : decode (am_cod 56) 51 = .ok (.aload 4, 2) := by decide +kernel
theorem s56_51 (K : aK) : am_Snd K 56 51 := sn_aload i56_51 d56_51 
theorem i56_53 : am_ins 56 53 = (52, 0, 0, 0, []) := by decide +kernel
theorem d56_53 : decode (am_cod 56) 53 = .ok (.areturn, 1) := by decide +kernel
theorem s56_53 : am_SndR 56 53 := sn_aret i56_53 d56_53 rfl (Or.inl ⟨_, rfl⟩)
theorem i56_54 : am_ins 56 54 = (3, 3, 3, 1, []) := by decide +kernel
theorem d56_54 : decode (am_cod 56) 54 = .ok (.iinc 3 1, 3) := by decide +kernel
theorem s56_54 (K : aK) : am_Snd K 56 54 := sn_iinc i56_54 d56_54 rfl (by decide +kernel)
theorem i56_57 : am_ins 56 57 = (14, 2, 0, 0, []) := by decide +kernel
theorem d56_57 : decode (am_cod 56) 57 = .ok (.goto (-55), 3) := by decide +kernel
theorem s56_57 (K : aK) : am_Snd K 56 57 := sn_goto i56_57 d56_57 rfl
theorem i56_60 : am_ins 56 60 = (17, 0, 0, 0, []) := by decide +kernel
theorem d56_60 : decode (am_cod 56) 60 = .ok (.aconst_null, 1) := by decide +kernel
theorem s56_60 (K : aK) : am_Snd K 56 60 := sn_null i56_60 d56_60 
theorem i56_61 : am_ins 56 61 = (52, 0, 0, 0, []) := by decide +kernel
theorem d56_61 : decode (am_cod 56) 61 = .ok (.areturn, 1) := by decide +kernel
theorem s56_61 : am_SndR 56 61 := sn_aret i56_61 d56_61 rfl (Or.inl ⟨_, rfl⟩)
theorem al56_0 (K : aK) : ∀ q ∈ [0, 1, 2, 3, 4, 7, 10, 11, 14, 17, 18, 21, 22, 23, 25, 27, 30, 32, 35, 36, 39, 42, 44, 45, 48, 51, 53, 54, 57, 60], am_All K 56 q := List.forall_mem_cons.mpr ⟨am_alS i56_0 (s56_0 K), List.forall_mem_cons.mpr ⟨am_alS i56_1 (s56_1 K), List.forall_mem_cons.mpr ⟨am_alS i56_2 (s56_2 K), List.forall_mem_cons.mpr ⟨am_alS i56_3 (s56_3 K), List.forall_mem_cons.mpr ⟨am_alS i56_4 (s56_4 K), List.forall_mem_cons.mpr ⟨am_alS i56_7 (s56_7 K), List.forall_mem_cons.mpr ⟨am_alS i56_10 (s56_10 K), List.forall_mem_cons.mpr ⟨am_alS i56_11 (s56_11 K), List.forall_mem_cons.mpr ⟨am_alS i56_14 (s56_14 K), List.forall_mem_cons.mpr ⟨am_alS i56_17 (s56_17 K), List.forall_mem_cons.mpr ⟨am_alS i56_18 (s56_18 K), List.forall_mem_cons.mpr ⟨am_alS i56_21 (s56_21 K), List.forall_mem_cons.mpr ⟨am_alS i56_22 (s56_22 K), List.forall_mem_cons.mpr ⟨am_alS i56_23 (s56_23 K), List.forall_mem_cons.mpr ⟨am_alS i56_25 (s56_25 K), List.forall_mem_cons.mpr ⟨am_alS i56_27 (s56_27 K), List.forall_mem_cons.mpr ⟨am_alS i56_30 (s56_30 K), List.forall_mem_cons.mpr ⟨am_alS i56_32 (s56_32 K), List.forall_mem_cons.mpr ⟨am_alS i56_35 (s56_35 K), List.forall_mem_cons.mpr ⟨am_alC i56_36 (s56_36 K), List.forall_mem_cons.mpr ⟨am_alS i56_39 (s56_39 K), List.forall_mem_cons.mpr ⟨am_alS i56_42 (s56_42 K), List.forall_mem_cons.mpr ⟨am_alS i56_44 (s56_44 K), List.forall_mem_cons.mpr ⟨am_alC i56_45 (s56_45 K), List.forall_mem_cons.mpr ⟨am_alS i56_48 (s56_48 K), List.forall_mem_cons.mpr ⟨am_alS i56_51 (s56_51 K), List.forall_mem_cons.mpr ⟨am_alR i56_53 s56_53, List.forall_mem_cons.mpr ⟨am_alS i56_54 (s56_54 K), List.forall_mem_cons.mpr ⟨am_alS i56_57 (s56_57 K), List.forall_mem_cons.mpr ⟨am_alS i56_60 (s56_60 K), fun _ h => absurd h List.not_mem_nil⟩⟩⟩⟩⟩⟩⟩⟩⟩⟩⟩⟩⟩⟩⟩⟩⟩⟩⟩⟩⟩⟩⟩⟩⟩⟩⟩⟩⟩⟩
theorem al56_1 (K : aK) : ∀ q ∈ [61], am_All K 56 q := List.forall_mem_cons.mpr ⟨am_alR i56_61 s56_61, fun _ h => absurd h List.not_mem_nil⟩
set_option maxRecDepth 100000 in
theorem al56 (K : aK) : ∀ q ∈ (am_t56).map (fun z => z.1), am_All K 56 q := by
  have e : (am_t56).map (fun z => z.1) = [0, 1, 2, 3, 4, 7, 10, 11, 14, 17, 18, 21, 22, 23, 25, 27, 30, 32, 35, 36, 39, 42, 44, 45, 48, 51, 53, 54, 57, 60] ++ ([61]) := rfl
  rw [e]
  exact List.forall_mem_append.mpr ⟨al56_0 K, al56_1 K⟩
theorem i57_0 : am_ins 57 0 = (0, 1, 0, 0, []) := by decide +kernel
theorem d57_0 : decode (am_cod 57) 0 = .ok (.iconst 0, 1) := by decide +kernel
theorem s57_0 (K : aK) : am_Snd K 57 0 := sn_const1 i57_0 d57_0 rfl
theorem i57_1 : am_ins 57 1 = (2, 3, 1, 0, []) := by decide +kernel
theorem d57_1 : decode (am_cod 57) 1 = .ok (.istore_n 3, 1) := by decide +kernel
theorem s57_1 (K : aK) : am_Snd K 57 1 := sn_istore_n i57_1 d57_1 rfl (by decide +kernel)
theorem i57_2 : am_ins 57 2 = (0, 1, 0, 0, []) := by decide +kernel
theorem d57_2 : decode (am_cod 57) 2 = .ok (.iconst 0, 1) := by decide +kernel
theorem s57_2 (K : aK) : am_Snd K 57 2 := sn_const1 i57_2 d57_2 rfl
theorem i57_3 : am_ins 57 3 = (2, 4, 2, 0, []) := by decide +kernel
theorem d57_3 : decode (am_cod 57) 3 = .ok (.istore 4, 2) := by decide +kernel
theorem s57_3 (K : aK) : am_Snd K 57 3 := sn_istore i57_3 d57_3 (by decide +kernel)
theorem i57_5 : am_ins 57 5 = (1, 4, 2, 0, []) := by decide +kernel
theorem d57_5 : decode (am_cod 57) 5 = .ok (.iload 4, 2) := by decide +kernel
theorem s57_5 (K : aK) : am_Snd K 57 5 := sn_iload i57_5 d57_5 
theorem i57_7 : am_ins 57 7 = (33, 0, 1, 0, []) := by decide +kernel
theorem d57_7 : decode (am_cod 57) 7 = .ok (.aload_n 0, 1) := by decide +kernel
theorem s57_7 (K : aK) : am_Snd K 57 7 := sn_aload_n i57_7 d57_7 rfl
theorem i57_8 : am_ins 57 8 = (18, 4, 7, 0, []) := by decide +kernel
theorem d57_8 : decode (am_cod 57) 8 = .ok (.getfield 79, 3) := by decide +kernel
theorem s57_8 (K : aK) : am_Snd K 57 8 := sn_get (C0 := CN4) (T := FT4) (Nf := 9) i57_8 d57_8 rfl (by decide +kernel) fin4 w_93 rfl
theorem i57_11 : am_ins 57 11 = (13, 3, 65, 0, []) := by decide +kernel
theorem d57_11 : decode (am_cod 57) 11 = .ok (.if_icmp .ge 54, 3) := by decide +kernel
theorem s57_11 (K : aK) : am_Snd K 57 11 := sn_icmp_ge i57_11 d57_11 rfl
theorem i57_14 : am_ins 57 14 = (1, 4, 2, 0, []) := by decide +kernel
theorem d57_14 : decode (am_cod 57) 14 = .ok (.iload 4, 2) := by decide +kernel
theorem s57_14 (K : aK) : am_Snd K 57 14 := sn_iload i57_14 d57_14 
theorem i57_16 : am_ins 57 16 = (0, 3, 0, 200, []) := by decide +kernel
theorem d57_16 : decode (am_cod 57) 16 = .ok (.sipush 200, 3) := by decide +kernel
theorem s57_16 (K : aK) : am_Snd K 57 16 := sn_const3 i57_16 d57_16 (by decide +kernel)
theorem i57_19 : am_ins 57 19 = (13, 3, 65, 0, []) := by decide +kernel
theorem d57_19 : decode (am_cod 57) 19 = .ok (.if_icmp .ge 46, 3) := by decide +kernel
theorem s57_19 (K : aK) : am_Snd K 57 19 := sn_icmp_ge i57_19 d57_19 rfl
theorem i57_22 : am_ins 57 22 = (33, 0, 1, 0, []) := by decide +kernel
theorem d57_22 : decode (am_cod 57) 22 = .ok (.aload_n 0, 1) := by decide +kernel
theorem s57_22 (K : aK) : am_Snd K 57 22 := sn_aload_n i57_22 d57_22 rfl
theorem i57_23 : am_ins 57 23 = (18, 4, 6, 0, []) := by decide +kernel
theorem d57_23 : decode (am_cod 57) 23 = .ok (.getfield 26, 3) := by decide +kernel
theorem s57_23 (K : aK) : am_Snd K 57 23 := sn_get (C0 := CN4) (T := FT4) (Nf := 9) i57_23 d57_23 rfl (by decide +kernel) fin4 w_91 rfl
theorem i57_26 : am_ins 57 26 = (1, 4, 2, 0, []) := by decide +kernel
theorem d57_26 : decode (am_cod 57) 26 = .ok (.iload 4, 2) := by decide +kernel
theorem s57_26 (K : aK) : am_Snd K 57 26 := sn_iload i57_26 d57_26 
theorem i57_28 : am_ins 57 28 = (26, 0, 0, 0, []) := by decide +kernel
theorem d57_28 : decode (am_cod 57) 28 = .ok (.aaload, 1) := by decide +kernel
theorem s57_28 (K : aK) : am_Snd K 57 28 := sn_aald i57_28 d57_28 
theorem i57_29 : am_ins 57 29 = (34, 5, 2, 0, []) := by decide +kernel
theorem d57_29 : decode (am_cod 57) 29 = .ok (.astore 5, 2) := by decide +kernel
theorem s57_29 (K : aK) : am_Snd K 57 29 := sn_astore i57_29 d57_29 (by decide +kernel)
theorem i57_31 : am_ins 57 31 = (33, 5, 2, 0, []) := by decide +kernel
theorem d57_31 : decode (am_cod 57) 31 = .ok (.aload 5, 2) := by decide +kernel
theorem s57_31 (K : aK) : am_Snd K 57 31 := sn_aload i57_31 d57_31 
theorem i57_33 : am_ins 57 33 = (15, 59, 0, 0, []) := by decide +kernel
theorem d57_33 : decode (am_cod 57) 33 = .ok (.ifnull 26, 3) := by decide +kernel
theorem s57_33 (K : aK) : am_Snd K 57 33 := sn_ifnull i57_33 d57_33 rfl
theorem i57_36 : am_ins 57 36 = (33, 5, 2, 0, []) := by decide +kernel
theorem d57_36 : decode (am_cod 57) 36 = .ok (.aload 5, 2) := by decide +kernel
theorem s57_36 (K : aK) : am_Snd K 57 36 := sn_aload i57_36 d57_36 
theorem i57_38 : am_ins 57 38 = (18, 5, 5, 0, []) := by decide +kernel
theorem d57_38 : decode (am_cod 57) 38 = .ok (.getfield 86, 3) := by decide +kernel
theorem s57_38 (K : aK) : am_Snd K 57 38 := sn_get (C0 := CN5) (T := FT5) (Nf := 8) i57_38 d57_38 rfl (by decide +kernel) fin5 w_291 rfl
theorem i57_41 : am_ins 57 41 = (1, 1, 1, 0, []) := by decide +kernel
theorem d57_41 : decode (am_cod 57) 41 = .ok (.iload_n 1, 1) := by decide +kernel
theorem s57_41 (K : aK) : am_Snd K 57 41 := sn_iload_n i57_41 d57_41 rfl
theorem i57_42 : am_ins 57 42 = (60, 67, 1, 0, []) := by decide +kernel
theorem d57_42 : decode (am_cod 57) 42 = .ok (.invokevirtual 90, 3) := by decide +kernel
theorem s57_42 (K : aK) : am_SndC K 57 42 := sc_V i57_42 d57_42 co67 w_233 w_211 w_212 w_3 rfl (rr := (CN6, FT6, 2)) rfl rfl hd67
theorem i57_45 : am_ins 57 45 = (12, 0, 59, 0, []) := by decide +kernel
theorem d57_45 : decode (am_cod 57) 45 = .ok (.ifCond .eq 14, 3) := by decide +kernel
theorem s57_45 (K : aK) : am_Snd K 57 45 := sn_if_eq i57_45 d57_45 rfl
theorem i57_48 : am_ins 57 48 = (1, 3, 1, 0, []) := by decide +kernel
theorem d57_48 : decode (am_cod 57) 48 = .ok (.iload_n 3, 1) := by decide +kernel
theorem s57_48 (K : aK) : am_Snd K 57 48 := sn_iload_n i57_48 d57_48 rfl
theorem i57_49 : am_ins 57 49 = (1, 2, 1, 0, []) := by decide +kernel
theorem d57_49 : decode (am_cod 57) 49 = .ok (.iload_n 2, 1) := by decide +kernel
theorem s57_49 (K : aK) : am_Snd K 57 49 := sn_iload_n i57_49 d57_49 rfl
theorem i57_50 : am_ins 57 50 = (13, 1, 56, 0, []) := by decide +kernel
theorem d57_50 : decode (am_cod 57) 50 = .ok (.if_icmp .ne 6, 3) := by decide +kernel
theorem s57_50 (K : aK) : am_Snd K 57 50 := sn_icmp_ne i57_50 d57_50 rfl
theorem i57_53 : am_ins 57 53 = (33, 5, 2, 0, []) := by decide +kernel
theorem d57_53 : decode (am_cod 57) 53 = .ok (.aload 5, 2) := by decide +kernel
theorem s57_53 (K : aK) : am_Snd K 57 53 := sn_aload i57_53 d57_53 
theorem i57_55 : am_ins 57 55 = (52, 0, 0, 0, []) := by decide +kernel
theorem d57_55 : decode (am_cod 57) 55 = .ok (.areturn, 1) := by decide +kernel
theorem s57_55 : am_SndR 57 55 := sn_aret i57_55 d57_55 rfl (Or.inl ⟨_, rfl⟩)
theorem i57_56 : am_ins 57 56 = (3, 3, 3, 1, []) := by decide +kernel
theorem d57_56 : decode (am_cod 57) 56 = .ok (.iinc 3 1, 3) := by decide +kernel
theorem s57_56 (K : aK) : am_Snd K 57 56 := sn_iinc i57_56 d57_56 rfl (by decide +kernel)
theorem i57_59 : am_ins 57 59 = (3, 4, 3, 1, []) := by decide +kernel
theorem d57_59 : decode (am_cod 57) 59 = .ok (.iinc 4 1, 3) := by decide +kernel
theorem s57_59 (K : aK) : am_Snd K 57 59 := sn_iinc i57_59 d57_59 rfl (by decide +kernel)
theorem i57_62 : am_ins 57 62 = (14, 5, 0, 0, []) := by decide +kernel
theorem d57_62 : decode (am_cod 57) 62 = .ok (.goto (-57), 3) := by decide +kernel
theorem s57_62 (K : aK) : am_Snd K 57 62 := sn_goto i57_62 d57_62 rfl
theorem i57_65 : am_ins 57 65 = (17, 0, 0, 0, []) := by decide +kernel
theorem d57_65 : decode (am_cod 57) 65 = .ok (.aconst_null, 1) := by decide +kernel
theorem s57_65 (K : aK) : am_Snd K 57 65 := sn_null i57_65 d57_65 
theorem i57_66 : am_ins 57 66 = (52, 0, 0, 0, []) := by decide +kernel
theorem d57_66 : decode (am_cod 57) 66 = .ok (.areturn, 1) := by decide +kernel
theorem s57_66 : am_SndR 57 66 := sn_aret i57_66 d57_66 rfl (Or.inl ⟨_, rfl⟩)
theorem al57_0 (K : aK) : ∀ q ∈ [0, 1, 2, 3, 5, 7, 8, 11, 14, 16, 19, 22, 23, 26, 28, 29, 31, 33, 36, 38, 41, 42, 45, 48, 49, 50, 53, 55, 56, 59], am_All K 57 q := List.forall_mem_cons.mpr ⟨am_alS i57_0 (s57_0 K), List.forall_mem_cons.mpr ⟨am_alS i57_1 (s57_1 K), List.forall_mem_cons.mpr ⟨am_alS i57_2 (s57_2 K), List.forall_mem_cons.mpr ⟨am_alS i57_3 (s57_3 K), List.forall_mem_cons.mpr ⟨am_alS i57_5 (s57_5 K), List.forall_mem_cons.mpr ⟨am_alS i57_7 (s57_7 K), List.forall_mem_cons.mpr ⟨am_alS i57_8 (s57_8 K), List.forall_mem_cons.mpr ⟨am_alS i57_11 (s57_11 K), List.forall_mem_cons.mpr ⟨am_alS i57_14 (s57_14 K), List.forall_mem_cons.mpr ⟨am_alS i57_16 (s57_16 K), List.forall_mem_cons.mpr ⟨am_alS i57_19 (s57_19 K), List.forall_mem_cons.mpr ⟨am_alS i57_22 (s57_22 K), List.forall_mem_cons.mpr ⟨am_alS i57_23 (s57_23 K), List.forall_mem_cons.mpr ⟨am_alS i57_26 (s57_26 K), List.forall_mem_cons.mpr ⟨am_alS i57_28 (s57_28 K), List.forall_mem_cons.mpr ⟨am_alS i57_29 (s57_29 K), List.forall_mem_cons.mpr ⟨am_alS i57_31 (s57_31 K), List.forall_mem_cons.mpr ⟨am_alS i57_33 (s57_33 K), List.forall_mem_cons.mpr ⟨am_alS i57_36 (s57_36 K), List.forall_mem_cons.mpr ⟨am_alS i57_38 (s57_38 K), List.forall_mem_cons.mpr ⟨am_alS i57_41 (s57_41 K), List.forall_mem_cons.mpr ⟨am_alC i57_42 (s57_42 K), List.forall_mem_cons.mpr ⟨am_alS i57_45 (s57_45 K), List.forall_mem_cons.mpr ⟨am_alS i57_48 (s57_48 K), List.forall_mem_cons.mpr ⟨am_alS i57_49 (s57_49 K), List.forall_mem_cons.mpr ⟨am_alS i57_50 (s57_50 K), List.forall_mem_cons.mpr ⟨am_alS i57_53 (s57_53 K), List.forall_mem_cons.mpr ⟨am_alR i57_55 s57_55, List.forall_mem_cons.mpr ⟨am_alS i57_56 (s57_56 K), List.forall_mem_cons.mpr ⟨am_alS i57_59 (s57_59 K), fun _ h => absurd h List.not_mem_nil⟩⟩⟩⟩⟩⟩⟩⟩⟩⟩⟩⟩⟩⟩⟩⟩⟩⟩⟩⟩⟩⟩⟩⟩⟩⟩⟩⟩⟩⟩
theorem al57_1 (K : aK) : ∀ q ∈ [62, 65, 66], am_All K 57 q := List.forall_mem_cons.mpr ⟨am_alS i57_62 (s57_62 K), List.forall_mem_cons.mpr ⟨am_alS i57_65 (s57_65 K), List.forall_mem_cons.mpr ⟨am_alR i57_66 s57_66, fun _ h => absurd h List.not_mem_nil⟩⟩⟩
set_option maxRecDepth 100000 in
theorem al57 (K : aK) : ∀ q ∈ (am_t57).map (fun z => z.1), am_All K 57 q := by
  have e : (am_t57).map (fun z => z.1) = [0, 1, 2, 3, 5, 7, 8, 11, 14, 16, 19, 22, 23, 26, 28, 29, 31, 33, 36, 38, 41, 42, 45, 48, 49, 50, 53, 55, 56, 59] ++ ([62, 65, 66]) := rfl
  rw [e]
  exact List.forall_mem_append.mpr ⟨al57_0 K, al57_1 K⟩
theorem i58_0 : am_ins 58 0 = (33, 0, 1, 0, []) := by decide +kernel
theorem d58_0 : decode (am_cod 58) 0 = .ok (.aload_n 0, 1) := by decide +kernel
theorem s58_0 (K : aK) : am_Snd K 58 0 := sn_aload_n i58_0 d58_0 rfl
theorem i58_1 : am_ins 58 1 = (35, 0, 0, 0, []) := by decide +kernel
theorem d58_1 : decode (am_cod 58) 1 = .ok (.invokespecial 3, 3) := by decide +kernel
theorem s58_1 (K : aK) : am_Snd K 58 1 := sn_oinit i58_1 d58_1 w_263 w_16 w_17
theorem i58_4 : am_ins 58 4 = (33, 0, 1, 0, []) := by decide +kernel
theorem d58_4 : decode (am_cod 58) 4 = .ok (.aload_n 0, 1) := by decide +kernel
theorem s58_4 (K : aK) : am_Snd K 58 4 := sn_aload_n i58_4 d58_4 rfl
theorem i58_5 : am_ins 58 5 = (1, 1, 1, 0, []) := by decide +kernel
theorem d58_5 : decode (am_cod 58) 5 = .ok (.iload_n 1, 1) := by decide +kernel
theorem s58_5 (K : aK) : am_Snd K 58 5 := sn_iload_n i58_5 d58_5 rfl
theorem i58_6 : am_ins 58 6 = (19, 5, 0, 0, []) := by decide +kernel
theorem d58_6 : decode (am_cod 58) 6 = .ok (.putfield 9, 3) := by decide +kernel
theorem s58_6 (K : aK) : am_Snd K 58 6 := sn_putiF (ty := .int) (C0 := CN5) (T := FT5) (Nf := 8) (tyf := FY5) i58_6 d58_6 rfl (by decide +kernel) fin5 ftyok5 fnm5 w_277 rfl rfl rfl rfl rfl
theorem i58_9 : am_ins 58 9 = (33, 0, 1, 0, []) := by decide +kernel
theorem d58_9 : decode (am_cod 58) 9 = .ok (.aload_n 0, 1) := by decide +kernel
theorem s58_9 (K : aK) : am_Snd K 58 9 := sn_aload_n i58_9 d58_9 rfl
theorem i58_10 : am_ins 58 10 = (33, 2, 1, 0, []) := by decide +kernel
theorem d58_10 : decode (am_cod 58) 10 = .ok (.aload_n 2, 1) := by decide +kernel
theorem s58_10 (K : aK) : am_Snd K 58 10 := sn_aload_n i58_10 d58_10 rfl
theorem i58_11 : am_ins 58 11 = (21, 5, 2, 0, []) := by decide +kernel
theorem d58_11 : decode (am_cod 58) 11 = .ok (.putfield 15, 3) := by decide +kernel
theorem s58_11 (K : aK) : am_Snd K 58 11 := sn_putrF (ty := .object "CausalPlaces$Client") (C0 := CN5) (T := FT5) (Nf := 8) (tyf := FY5) i58_11 d58_11 rfl (by decide +kernel) fin5 ftyok5 fnm5 w_282 rfl rfl rfl rfl rfl rfl
theorem i58_14 : am_ins 58 14 = (33, 0, 1, 0, []) := by decide +kernel
theorem d58_14 : decode (am_cod 58) 14 = .ok (.aload_n 0, 1) := by decide +kernel
theorem s58_14 (K : aK) : am_Snd K 58 14 := sn_aload_n i58_14 d58_14 rfl
theorem i58_15 : am_ins 58 15 = (33, 2, 1, 0, []) := by decide +kernel
theorem d58_15 : decode (am_cod 58) 15 = .ok (.aload_n 2, 1) := by decide +kernel
theorem s58_15 (K : aK) : am_Snd K 58 15 := sn_aload_n i58_15 d58_15 rfl
theorem i58_16 : am_ins 58 16 = (18, 1, 0, 0, []) := by decide +kernel
theorem d58_16 : decode (am_cod 58) 16 = .ok (.getfield 19, 3) := by decide +kernel
theorem s58_16 (K : aK) : am_Snd K 58 16 := sn_get (C0 := CN1) (T := FT1) (Nf := 7) i58_16 d58_16 rfl (by decide +kernel) fin1 w_42 rfl
theorem i58_19 : am_ins 58 19 = (19, 5, 1, 0, []) := by decide +kernel
theorem d58_19 : decode (am_cod 58) 19 = .ok (.putfield 24, 3) := by decide +kernel
theorem s58_19 (K : aK) : am_Snd K 58 19 := sn_putiF (ty := .int) (C0 := CN5) (T := FT5) (Nf := 8) (tyf := FY5) i58_19 d58_19 rfl (by decide +kernel) fin5 ftyok5 fnm5 w_280 rfl rfl rfl rfl rfl
theorem i58_22 : am_ins 58 22 = (33, 0, 1, 0, []) := by decide +kernel
theorem d58_22 : decode (am_cod 58) 22 = .ok (.aload_n 0, 1) := by decide +kernel
theorem s58_22 (K : aK) : am_Snd K 58 22 := sn_aload_n i58_22 d58_22 rfl
theorem i58_23 : am_ins 58 23 = (33, 2, 1, 0, []) := by decide +kernel
theorem d58_23 : decode (am_cod 58) 23 = .ok (.aload_n 2, 1) := by decide +kernel
theorem s58_23 (K : aK) : am_Snd K 58 23 := sn_aload_n i58_23 d58_23 rfl
theorem i58_24 : am_ins 58 24 = (18, 1, 5, 0, []) := by decide +kernel
theorem d58_24 : decode (am_cod 58) 24 = .ok (.getfield 25, 3) := by decide +kernel
theorem s58_24 (K : aK) : am_Snd K 58 24 := sn_get (C0 := CN1) (T := FT1) (Nf := 7) i58_24 d58_24 rfl (by decide +kernel) fin1 w_54 rfl
theorem i58_27 : am_ins 58 27 = (19, 5, 3, 0, []) := by decide +kernel
theorem d58_27 : decode (am_cod 58) 27 = .ok (.putfield 28, 3) := by decide +kernel
theorem s58_27 (K : aK) : am_Snd K 58 27 := sn_putiF (ty := .int) (C0 := CN5) (T := FT5) (Nf := 8) (tyf := FY5) i58_27 d58_27 rfl (by decide +kernel) fin5 ftyok5 fnm5 w_284 rfl rfl rfl rfl rfl
theorem i58_30 : am_ins 58 30 = (33, 0, 1, 0, []) := by decide +kernel
theorem d58_30 : decode (am_cod 58) 30 = .ok (.aload_n 0, 1) := by decide +kernel
theorem s58_30 (K : aK) : am_Snd K 58 30 := sn_aload_n i58_30 d58_30 rfl
theorem i58_31 : am_ins 58 31 = (33, 2, 1, 0, []) := by decide +kernel
theorem d58_31 : decode (am_cod 58) 31 = .ok (.aload_n 2, 1) := by decide +kernel
theorem s58_31 (K : aK) : am_Snd K 58 31 := sn_aload_n i58_31 d58_31 rfl
theorem i58_32 : am_ins 58 32 = (18, 1, 1, 0, []) := by decide +kernel
theorem d58_32 : decode (am_cod 58) 32 = .ok (.getfield 29, 3) := by decide +kernel
theorem s58_32 (K : aK) : am_Snd K 58 32 := sn_get (C0 := CN1) (T := FT1) (Nf := 7) i58_32 d58_32 rfl (by decide +kernel) fin1 w_46 rfl
theorem i58_35 : am_ins 58 35 = (38, 0, 0, 0, []) := by decide +kernel
theorem d58_35 : decode (am_cod 58) 35 = .ok (.invokevirtual 33, 3) := by decide +kernel
theorem s58_35 (K : aK) : am_Snd K 58 35 := sn_clone i58_35 d58_35 w_264 w_265 w_266 w_267 w_268 nwCA
theorem i58_38 : am_ins 58 38 = (39, 0, 0, 0, []) := by decide +kernel
theorem d58_38 : decode (am_cod 58) 38 = .ok (.checkcast 34, 3) := by decide +kernel
theorem s58_38 (K : aK) : am_Snd K 58 38 := sn_castI i58_38 d58_38 w_270
theorem i58_41 : am_ins 58 41 = (21, 5, 4, 0, []) := by decide +kernel
theorem d58_41 : decode (am_cod 58) 41 = .ok (.putfield 38, 3) := by decide +kernel
theorem s58_41 (K : aK) : am_Snd K 58 41 := sn_putrF (ty := .array .int) (C0 := CN5) (T := FT5) (Nf := 8) (tyf := FY5) i58_41 d58_41 rfl (by decide +kernel) fin5 ftyok5 fnm5 w_286 rfl rfl rfl rfl rfl rfl
theorem i58_44 : am_ins 58 44 = (33, 0, 1, 0, []) := by decide +kernel
theorem d58_44 : decode (am_cod 58) 44 = .ok (.aload_n 0, 1) := by decide +kernel
theorem s58_44 (K : aK) : am_Snd K 58 44 := sn_aload_n i58_44 d58_44 rfl
theorem i58_45 : am_ins 58 45 = (29, 6, 0, 0, []) := by decide +kernel
theorem d58_45 : decode (am_cod 58) 45 = .ok (.new 39, 3) := by decide +kernel
theorem s58_45 (K : aK) : am_Snd K 58 45 := sn_new (C0 := CN6) (T := FT6) (Nf := 2) (tyf := FY6) i58_45 d58_45 rfl fin6 ftyok6 w_271 w_28 w_3 rfl fdf6
theorem i58_48 : am_ins 58 48 = (7, 0, 0, 0, []) := by decide +kernel
theorem d58_48 : decode (am_cod 58) 48 = .ok (.dup, 1) := by decide +kernel
theorem s58_48 (K : aK) : am_Snd K 58 48 := sn_dup i58_48 d58_48 
theorem i58_49 : am_ins 58 49 = (62, 63, 0, 0, []) := by decide +kernel
theorem d58_49 : decode (am_cod 58) 49 = .ok (.invokespecial 41, 3) := by decide +kernel
theorem s58_49 (K : aK) : am_SndC K 58 49 := sc_IN i58_49 d58_49 co63 rfl rfl nw_272 w_30 w_3 hd63
theorem i58_52 : am_ins 58 52 = (21, 5, 5, 0, []) := by decide +kernel
theorem d58_52 : decode (am_cod 58) 52 = .ok (.putfield 42, 3) := by decide +kernel
theorem s58_52 (K : aK) : am_Snd K 58 52 := sn_putrF (ty := .object "CausalPlaces$Writes") (C0 := CN5) (T := FT5) (Nf := 8) (tyf := FY5) i58_52 d58_52 rfl (by decide +kernel) fin5 ftyok5 fnm5 w_288 rfl rfl rfl rfl rfl rfl
theorem i58_55 : am_ins 58 55 = (33, 0, 1, 0, []) := by decide +kernel
theorem d58_55 : decode (am_cod 58) 55 = .ok (.aload_n 0, 1) := by decide +kernel
theorem s58_55 (K : aK) : am_Snd K 58 55 := sn_aload_n i58_55 d58_55 rfl
theorem i58_56 : am_ins 58 56 = (18, 5, 5, 0, []) := by decide +kernel
theorem d58_56 : decode (am_cod 58) 56 = .ok (.getfield 42, 3) := by decide +kernel
theorem s58_56 (K : aK) : am_Snd K 58 56 := sn_get (C0 := CN5) (T := FT5) (Nf := 8) i58_56 d58_56 rfl (by decide +kernel) fin5 w_288 rfl
theorem i58_59 : am_ins 58 59 = (33, 2, 1, 0, []) := by decide +kernel
theorem d58_59 : decode (am_cod 58) 59 = .ok (.aload_n 2, 1) := by decide +kernel
theorem s58_59 (K : aK) : am_Snd K 58 59 := sn_aload_n i58_59 d58_59 rfl
theorem i58_60 : am_ins 58 60 = (18, 1, 3, 0, []) := by decide +kernel
theorem d58_60 : decode (am_cod 58) 60 = .ok (.getfield 46, 3) := by decide +kernel
theorem s58_60 (K : aK) : am_Snd K 58 60 := sn_get (C0 := CN1) (T := FT1) (Nf := 7) i58_60 d58_60 rfl (by decide +kernel) fin1 w_50 rfl
theorem i58_63 : am_ins 58 63 = (60, 66, 1, 0, []) := by decide +kernel
theorem d58_63 : decode (am_cod 58) 63 = .ok (.invokevirtual 47, 3) := by decide +kernel
theorem s58_63 (K : aK) : am_SndC K 58 63 := sc_V i58_63 d58_63 co66 w_273 w_274 w_275 w_3 rfl (rr := (CN6, FT6, 2)) rfl rfl hd66
theorem i58_66 : am_ins 58 66 = (53, 0, 0, 0, []) := by decide +kernel
theorem d58_66 : decode (am_cod 58) 66 = .ok (.return_, 1) := by decide +kernel
theorem s58_66 : am_SndR 58 66 := sn_vret i58_66 d58_66 rfl
theorem al58_0 (K : aK) : ∀ q ∈ [0, 1, 4, 5, 6, 9, 10, 11, 14, 15, 16, 19, 22, 23, 24, 27, 30, 31, 32, 35, 38, 41, 44, 45, 48, 49, 52, 55, 56, 59], am_All K 58 q := List.forall_mem_cons.mpr ⟨am_alS i58_0 (s58_0 K), List.forall_mem_cons.mpr ⟨am_alS i58_1 (s58_1 K), List.forall_mem_cons.mpr ⟨am_alS i58_4 (s58_4 K), List.forall_mem_cons.mpr ⟨am_alS i58_5 (s58_5 K), List.forall_mem_cons.mpr ⟨am_alS i58_6 (s58_6 K), List.forall_mem_cons.mpr ⟨am_alS i58_9 (s58_9 K), List.forall_mem_cons.mpr ⟨am_alS i58_10 (s58_10 K), List.forall_mem_cons.mpr ⟨am_alS i58_11 (s58_11 K), List.forall_mem_cons.mpr ⟨am_alS i58_14 (s58_14 K), List.forall_mem_cons.mpr ⟨am_alS i58_15 (s58_15 K), List.forall_mem_cons.mpr ⟨am_alS i58_16 (s58_16 K), List.forall_mem_cons.mpr ⟨am_alS i58_19 (s58_19 K), List.forall_mem_cons.mpr ⟨am_alS i58_22 (s58_22 K), List.forall_mem_cons.mpr ⟨am_alS i58_23 (s58_23 K), List.forall_mem_cons.mpr ⟨am_alS i58_24 (s58_24 K), List.forall_mem_cons.mpr ⟨am_alS i58_27 (s58_27 K), List.forall_mem_cons.mpr ⟨am_alS i58_30 (s58_30 K), List.forall_mem_cons.mpr ⟨am_alS i58_31 (s58_31 K), List.forall_mem_cons.mpr ⟨am_alS i58_32 (s58_32 K), List.forall_mem_cons.mpr ⟨am_alS i58_35 (s58_35 K), List.forall_mem_cons.mpr ⟨am_alS i58_38 (s58_38 K), List.forall_mem_cons.mpr ⟨am_alS i58_41 (s58_41 K), List.forall_mem_cons.mpr ⟨am_alS i58_44 (s58_44 K), List.forall_mem_cons.mpr ⟨am_alS i58_45 (s58_45 K), List.forall_mem_cons.mpr ⟨am_alS i58_48 (s58_48 K), List.forall_mem_cons.mpr ⟨am_alC i58_49 (s58_49 K), List.forall_mem_cons.mpr ⟨am_alS i58_52 (s58_52 K), List.forall_mem_cons.mpr ⟨am_alS i58_55 (s58_55 K), List.forall_mem_cons.mpr ⟨am_alS i58_56 (s58_56 K), List.forall_mem_cons.mpr ⟨am_alS i58_59 (s58_59 K), fun _ h => absurd h List.not_mem_nil⟩⟩⟩⟩⟩⟩⟩⟩⟩⟩⟩⟩⟩⟩⟩⟩⟩⟩⟩⟩⟩⟩⟩⟩⟩⟩⟩⟩⟩⟩
theorem al58_1 (K : aK) : ∀ q ∈ [60, 63, 66], am_All K 58 q := List.forall_mem_cons.mpr ⟨am_alS i58_60 (s58_60 K), List.forall_mem_cons.mpr ⟨am_alC i58_63 (s58_63 K), List.forall_mem_cons.mpr ⟨am_alR i58_66 s58_66, fun _ h => absurd h List.not_mem_nil⟩⟩⟩
set_option maxRecDepth 100000 in
theorem al58 (K : aK) : ∀ q ∈ (am_t58).map (fun z => z.1), am_All K 58 q := by
  have e : (am_t58).map (fun z => z.1) = [0, 1, 4, 5, 6, 9, 10, 11, 14, 15, 16, 19, 22, 23, 24, 27, 30, 31, 32, 35, 38, 41, 44, 45, 48, 49, 52, 55, 56, 59] ++ ([60, 63, 66]) := rfl
  rw [e]
  exact List.forall_mem_append.mpr ⟨al58_0 K, al58_1 K⟩
theorem i59_0 : am_ins 59 0 = (33, 0, 1, 0, []) := by decide +kernel
theorem d59_0 : decode (am_cod 59) 0 = .ok (.aload_n 0, 1) := by decide +kernel
theorem s59_0 (K : aK) : am_Snd K 59 0 := sn_aload_n i59_0 d59_0 rfl
theorem i59_1 : am_ins 59 1 = (33, 0, 1, 0, []) := by decide +kernel
theorem d59_1 : decode (am_cod 59) 1 = .ok (.aload_n 0, 1) := by decide +kernel
theorem s59_1 (K : aK) : am_Snd K 59 1 := sn_aload_n i59_1 d59_1 rfl
theorem i59_2 : am_ins 59 2 = (18, 5, 6, 0, []) := by decide +kernel
theorem d59_2 : decode (am_cod 59) 2 = .ok (.getfield 51, 3) := by decide +kernel
theorem s59_2 (K : aK) : am_Snd K 59 2 := sn_get (C0 := CN5) (T := FT5) (Nf := 8) i59_2 d59_2 rfl (by decide +kernel) fin5 w_292 rfl
theorem i59_5 : am_ins 59 5 = (1, 1, 1, 0, []) := by decide +kernel
theorem d59_5 : decode (am_cod 59) 5 = .ok (.iload_n 1, 1) := by decide +kernel
theorem s59_5 (K : aK) : am_Snd K 59 5 := sn_iload_n i59_5 d59_5 rfl
theorem i59_6 : am_ins 59 6 = (36, 0, 0, 0, []) := by decide +kernel
theorem d59_6 : decode (am_cod 59) 6 = .ok (.invokestatic 54, 3) := by decide +kernel
theorem s59_6 (K : aK) : am_Snd K 59 6 := sn_max i59_6 d59_6 w_345 w_184 w_7 w_185
theorem i59_9 : am_ins 59 9 = (19, 5, 6, 0, []) := by decide +kernel
theorem d59_9 : decode (am_cod 59) 9 = .ok (.putfield 51, 3) := by decide +kernel
theorem s59_9 (K : aK) : am_Snd K 59 9 := sn_puti (ty := .int) (C0 := CN5) (T := FT5) (Nf := 8) (tyf := FY5) i59_9 d59_9 rfl (by decide +kernel) fin5 ftyok5 fnm5 w_292 rfl rfl rfl
theorem i59_12 : am_ins 59 12 = (53, 0, 0, 0, []) := by decide +kernel
theorem d59_12 : decode (am_cod 59) 12 = .ok (.return_, 1) := by decide +kernel
theorem s59_12 : am_SndR 59 12 := sn_vret i59_12 d59_12 rfl
theorem al59_0 (K : aK) : ∀ q ∈ [0, 1, 2, 5, 6, 9, 12], am_All K 59 q := List.forall_mem_cons.mpr ⟨am_alS i59_0 (s59_0 K), List.forall_mem_cons.mpr ⟨am_alS i59_1 (s59_1 K), List.forall_mem_cons.mpr ⟨am_alS i59_2 (s59_2 K), List.forall_mem_cons.mpr ⟨am_alS i59_5 (s59_5 K), List.forall_mem_cons.mpr ⟨am_alS i59_6 (s59_6 K), List.forall_mem_cons.mpr ⟨am_alS i59_9 (s59_9 K), List.forall_mem_cons.mpr ⟨am_alR i59_12 s59_12, fun _ h => absurd h List.not_mem_nil⟩⟩⟩⟩⟩⟩⟩
set_option maxRecDepth 100000 in
theorem al59 (K : aK) : ∀ q ∈ (am_t59).map (fun z => z.1), am_All K 59 q := by
  have e : (am_t59).map (fun z => z.1) = [0, 1, 2, 5, 6, 9, 12] := rfl
  rw [e]
  exact al59_0 K
theorem i60_0 : am_ins 60 0 = (33, 0, 1, 0, []) := by decide +kernel
theorem d60_0 : decode (am_cod 60) 0 = .ok (.aload_n 0, 1) := by decide +kernel
theorem s60_0 (K : aK) : am_Snd K 60 0 := sn_aload_n i60_0 d60_0 rfl
theorem i60_1 : am_ins 60 1 = (18, 5, 7, 0, []) := by decide +kernel
theorem d60_1 : decode (am_cod 60) 1 = .ok (.getfield 60, 3) := by decide +kernel
theorem s60_1 (K : aK) : am_Snd K 60 1 := sn_get (C0 := CN5) (T := FT5) (Nf := 8) i60_1 d60_1 rfl (by decide +kernel) fin5 w_296 rfl
theorem i60_4 : am_ins 60 4 = (12, 0, 22, 0, []) := by decide +kernel
theorem d60_4 : decode (am_cod 60) 4 = .ok (.ifCond .eq 18, 3) := by decide +kernel
theorem s60_4 (K : aK) : am_Snd K 60 4 := sn_if_eq i60_4 d60_4 rfl
theorem i60_7 : am_ins 60 7 = (1, 1, 1, 0, []) := by decide +kernel
theorem d60_7 : decode (am_cod 60) 7 = .ok (.iload_n 1, 1) := by decide +kernel
theorem s60_7 (K : aK) : am_Snd K 60 7 := sn_iload_n i60_7 d60_7 rfl
theorem i60_8 : am_ins 60 8 = (33, 0, 1, 0, []) := by decide +kernel
theorem d60_8 : decode (am_cod 60) 8 = .ok (.aload_n 0, 1) := by decide +kernel
theorem s60_8 (K : aK) : am_Snd K 60 8 := sn_aload_n i60_8 d60_8 rfl
theorem i60_9 : am_ins 60 9 = (18, 5, 1, 0, []) := by decide +kernel
theorem d60_9 : decode (am_cod 60) 9 = .ok (.getfield 24, 3) := by decide +kernel
theorem s60_9 (K : aK) : am_Snd K 60 9 := sn_get (C0 := CN5) (T := FT5) (Nf := 8) i60_9 d60_9 rfl (by decide +kernel) fin5 w_280 rfl
theorem i60_12 : am_ins 60 12 = (13, 1, 22, 0, []) := by decide +kernel
theorem d60_12 : decode (am_cod 60) 12 = .ok (.if_icmp .ne 10, 3) := by decide +kernel
theorem s60_12 (K : aK) : am_Snd K 60 12 := sn_icmp_ne i60_12 d60_12 rfl
theorem i60_15 : am_ins 60 15 = (33, 0, 1, 0, []) := by decide +kernel
theorem d60_15 : decode (am_cod 60) 15 = .ok (.aload_n 0, 1) := by decide +kernel
theorem s60_15 (K : aK) : am_Snd K 60 15 := sn_aload_n i60_15 d60_15 rfl
theorem i60_16 : am_ins 60 16 = (18, 5, 6, 0, []) := by decide +kernel
theorem d60_16 : decode (am_cod 60) 16 = .ok (.getfield 51, 3) := by decide +kernel
theorem s60_16 (K : aK) : am_Snd K 60 16 := sn_get (C0 := CN5) (T := FT5) (Nf := 8) i60_16 d60_16 rfl (by decide +kernel) fin5 w_292 rfl
theorem i60_19 : am_ins 60 19 = (14, 30, 0, 0, []) := by decide +kernel
theorem d60_19 : decode (am_cod 60) 19 = .ok (.goto 11, 3) := by decide +kernel
theorem s60_19 (K : aK) : am_Snd K 60 19 := sn_goto i60_19 d60_19 rfl
theorem i60_22 : am_ins 60 22 = (33, 0, 1, 0, []) := by decide +kernel
theorem d60_22 : decode (am_cod 60) 22 = .ok (.aload_n 0, 1) := by decide +kernel
theorem s60_22 (K : aK) : am_Snd K 60 22 := sn_aload_n i60_22 d60_22 rfl
theorem i60_23 : am_ins 60 23 = (18, 5, 4, 0, []) := by decide +kernel
theorem d60_23 : decode (am_cod 60) 23 = .ok (.getfield 38, 3) := by decide +kernel
theorem s60_23 (K : aK) : am_Snd K 60 23 := sn_get (C0 := CN5) (T := FT5) (Nf := 8) i60_23 d60_23 rfl (by decide +kernel) fin5 w_286 rfl
theorem i60_26 : am_ins 60 26 = (1, 1, 1, 0, []) := by decide +kernel
theorem d60_26 : decode (am_cod 60) 26 = .ok (.iload_n 1, 1) := by decide +kernel
theorem s60_26 (K : aK) : am_Snd K 60 26 := sn_iload_n i60_26 d60_26 rfl
theorem i60_27 : am_ins 60 27 = (61, 25, 2, 0, []) := by decide +kernel
theorem d60_27 : decode (am_cod 60) 27 = .ok (.invokestatic 64, 3) := by decide +kernel
theorem s60_27 (K : aK) : am_SndC K 60 27 := sc_SN i60_27 d60_27 co25 nw_198 w_178 w_1 hd25
theorem i60_30 : am_ins 60 30 = (50, 0, 0, 0, []) := by decide +kernel
theorem d60_30 : decode (am_cod 60) 30 = .ok (.ireturn, 1) := by decide +kernel
theorem s60_30 : am_SndR 60 30 := sn_iret i60_30 d60_30 rfl
theorem al60_0 (K : aK) : ∀ q ∈ [0, 1, 4, 7, 8, 9, 12, 15, 16, 19, 22, 23, 26, 27, 30], am_All K 60 q := List.forall_mem_cons.mpr ⟨am_alS i60_0 (s60_0 K), List.forall_mem_cons.mpr ⟨am_alS i60_1 (s60_1 K), List.forall_mem_cons.mpr ⟨am_alS i60_4 (s60_4 K), List.forall_mem_cons.mpr ⟨am_alS i60_7 (s60_7 K), List.forall_mem_cons.mpr ⟨am_alS i60_8 (s60_8 K), List.forall_mem_cons.mpr ⟨am_alS i60_9 (s60_9 K), List.forall_mem_cons.mpr ⟨am_alS i60_12 (s60_12 K), List.forall_mem_cons.mpr ⟨am_alS i60_15 (s60_15 K), List.forall_mem_cons.mpr ⟨am_alS i60_16 (s60_16 K), List.forall_mem_cons.mpr ⟨am_alS i60_19 (s60_19 K), List.forall_mem_cons.mpr ⟨am_alS i60_22 (s60_22 K), List.forall_mem_cons.mpr ⟨am_alS i60_23 (s60_23 K), List.forall_mem_cons.mpr ⟨am_alS i60_26 (s60_26 K), List.forall_mem_cons.mpr ⟨am_alC i60_27 (s60_27 K), List.forall_mem_cons.mpr ⟨am_alR i60_30 s60_30, fun _ h => absurd h List.not_mem_nil⟩⟩⟩⟩⟩⟩⟩⟩⟩⟩⟩⟩⟩⟩⟩
set_option maxRecDepth 100000 in
theorem al60 (K : aK) : ∀ q ∈ (am_t60).map (fun z => z.1), am_All K 60 q := by
  have e : (am_t60).map (fun z => z.1) = [0, 1, 4, 7, 8, 9, 12, 15, 16, 19, 22, 23, 26, 27, 30] := rfl
  rw [e]
  exact al60_0 K
theorem i61_0 : am_ins 61 0 = (0, 1, 0, 0, []) := by decide +kernel
theorem d61_0 : decode (am_cod 61) 0 = .ok (.iconst 0, 1) := by decide +kernel
theorem s61_0 (K : aK) : am_Snd K 61 0 := sn_const1 i61_0 d61_0 rfl
theorem i61_1 : am_ins 61 1 = (2, 2, 1, 0, []) := by decide +kernel
theorem d61_1 : decode (am_cod 61) 1 = .ok (.istore_n 2, 1) := by decide +kernel
theorem s61_1 (K : aK) : am_Snd K 61 1 := sn_istore_n i61_1 d61_1 rfl (by decide +kernel)
theorem i61_2 : am_ins 61 2 = (1, 2, 1, 0, []) := by decide +kernel
theorem d61_2 : decode (am_cod 61) 2 = .ok (.iload_n 2, 1) := by decide +kernel
theorem s61_2 (K : aK) : am_Snd K 61 2 := sn_iload_n i61_2 d61_2 rfl
theorem i61_3 : am_ins 61 3 = (0, 1, 0, 3, []) := by decide +kernel
theorem d61_3 : decode (am_cod 61) 3 = .ok (.iconst 3, 1) := by decide +kernel
theorem s61_3 (K : aK) : am_Snd K 61 3 := sn_const1 i61_3 d61_3 rfl
theorem i61_4 : am_ins 61 4 = (13, 3, 28, 0, []) := by decide +kernel
theorem d61_4 : decode (am_cod 61) 4 = .ok (.if_icmp .ge 24, 3) := by decide +kernel
theorem s61_4 (K : aK) : am_Snd K 61 4 := sn_icmp_ge i61_4 d61_4 rfl
theorem i61_7 : am_ins 61 7 = (33, 0, 1, 0, []) := by decide +kernel
theorem d61_7 : decode (am_cod 61) 7 = .ok (.aload_n 0, 1) := by decide +kernel
theorem s61_7 (K : aK) : am_Snd K 61 7 := sn_aload_n i61_7 d61_7 rfl
theorem i61_8 : am_ins 61 8 = (1, 2, 1, 0, []) := by decide +kernel
theorem d61_8 : decode (am_cod 61) 8 = .ok (.iload_n 2, 1) := by decide +kernel
theorem s61_8 (K : aK) : am_Snd K 61 8 := sn_iload_n i61_8 d61_8 rfl
theorem i61_9 : am_ins 61 9 = (60, 60, 1, 0, []) := by decide +kernel
theorem d61_9 : decode (am_cod 61) 9 = .ok (.invokevirtual 68, 3) := by decide +kernel
theorem s61_9 (K : aK) : am_SndC K 61 9 := sc_V i61_9 d61_9 co60 w_194 w_195 w_196 w_8 rfl (rr := (CN5, FT5, 8)) rfl rfl hd60
theorem i61_12 : am_ins 61 12 = (33, 1, 1, 0, []) := by decide +kernel
theorem d61_12 : decode (am_cod 61) 12 = .ok (.aload_n 1, 1) := by decide +kernel
theorem s61_12 (K : aK) : am_Snd K 61 12 := sn_aload_n i61_12 d61_12 rfl
theorem i61_13 : am_ins 61 13 = (1, 2, 1, 0, []) := by decide +kernel
theorem d61_13 : decode (am_cod 61) 13 = .ok (.iload_n 2, 1) := by decide +kernel
theorem s61_13 (K : aK) : am_Snd K 61 13 := sn_iload_n i61_13 d61_13 rfl
theorem i61_14 : am_ins 61 14 = (61, 25, 2, 0, []) := by decide +kernel
theorem d61_14 : decode (am_cod 61) 14 = .ok (.invokestatic 64, 3) := by decide +kernel
theorem s61_14 (K : aK) : am_SndC K 61 14 := sc_SN i61_14 d61_14 co25 nw_198 w_178 w_1 hd25
theorem i61_17 : am_ins 61 17 = (13, 5, 22, 0, []) := by decide +kernel
theorem d61_17 : decode (am_cod 61) 17 = .ok (.if_icmp .le 5, 3) := by decide +kernel
theorem s61_17 (K : aK) : am_Snd K 61 17 := sn_icmp_le i61_17 d61_17 rfl
theorem i61_20 : am_ins 61 20 = (0, 1, 0, 0, []) := by decide +kernel
theorem d61_20 : decode (am_cod 61) 20 = .ok (.iconst 0, 1) := by decide +kernel
theorem s61_20 (K : aK) : am_Snd K 61 20 := sn_const1 i61_20 d61_20 rfl
theorem i61_21 : am_ins 61 21 = (51, 0, 0, 0, []) := by decide +kernel
theorem d61_21 : decode (am_cod 61) 21 = .ok (.ireturn, 1) := by decide +kernel
theorem s61_21 : am_SndR 61 21 := sn_zret i61_21 d61_21 rfl
theorem i61_22 : am_ins 61 22 = (3, 2, 3, 1, []) := by decide +kernel
theorem d61_22 : decode (am_cod 61) 22 = .ok (.iinc 2 1, 3) := by decide +kernel
theorem s61_22 (K : aK) : am_Snd K 61 22 := sn_iinc i61_22 d61_22 rfl (by decide +kernel)
theorem i61_25 : am_ins 61 25 = (14, 2, 0, 0, []) := by decide +kernel
theorem d61_25 : decode (am_cod 61) 25 = .ok (.goto (-23), 3) := by decide +kernel
theorem s61_25 (K : aK) : am_Snd K 61 25 := sn_goto i61_25 d61_25 rfl
theorem i61_28 : am_ins 61 28 = (0, 1, 0, 1, []) := by decide +kernel
theorem d61_28 : decode (am_cod 61) 28 = .ok (.iconst 1, 1) := by decide +kernel
theorem s61_28 (K : aK) : am_Snd K 61 28 := sn_const1 i61_28 d61_28 rfl
theorem i61_29 : am_ins 61 29 = (51, 0, 0, 0, []) := by decide +kernel
theorem d61_29 : decode (am_cod 61) 29 = .ok (.ireturn, 1) := by decide +kernel
theorem s61_29 : am_SndR 61 29 := sn_zret i61_29 d61_29 rfl
theorem al61_0 (K : aK) : ∀ q ∈ [0, 1, 2, 3, 4, 7, 8, 9, 12, 13, 14, 17, 20, 21, 22, 25, 28, 29], am_All K 61 q := List.forall_mem_cons.mpr ⟨am_alS i61_0 (s61_0 K), List.forall_mem_cons.mpr ⟨am_alS i61_1 (s61_1 K), List.forall_mem_cons.mpr ⟨am_alS i61_2 (s61_2 K), List.forall_mem_cons.mpr ⟨am_alS i61_3 (s61_3 K), List.forall_mem_cons.mpr ⟨am_alS i61_4 (s61_4 K), List.forall_mem_cons.mpr ⟨am_alS i61_7 (s61_7 K), List.forall_mem_cons.mpr ⟨am_alS i61_8 (s61_8 K), List.forall_mem_cons.mpr ⟨am_alC i61_9 (s61_9 K), List.forall_mem_cons.mpr ⟨am_alS i61_12 (s61_12 K), List.forall_mem_cons.mpr ⟨am_alS i61_13 (s61_13 K), List.forall_mem_cons.mpr ⟨am_alC i61_14 (s61_14 K), List.forall_mem_cons.mpr ⟨am_alS i61_17 (s61_17 K), List.forall_mem_cons.mpr ⟨am_alS i61_20 (s61_20 K), List.forall_mem_cons.mpr ⟨am_alR i61_21 s61_21, List.forall_mem_cons.mpr ⟨am_alS i61_22 (s61_22 K), List.forall_mem_cons.mpr ⟨am_alS i61_25 (s61_25 K), List.forall_mem_cons.mpr ⟨am_alS i61_28 (s61_28 K), List.forall_mem_cons.mpr ⟨am_alR i61_29 s61_29, fun _ h => absurd h List.not_mem_nil⟩⟩⟩⟩⟩⟩⟩⟩⟩⟩⟩⟩⟩⟩⟩⟩⟩⟩
set_option maxRecDepth 100000 in
theorem al61 (K : aK) : ∀ q ∈ (am_t61).map (fun z => z.1), am_All K 61 q := by
  have e : (am_t61).map (fun z => z.1) = [0, 1, 2, 3, 4, 7, 8, 9, 12, 13, 14, 17, 20, 21, 22, 25, 28, 29] := rfl
  rw [e]
  exact al61_0 K
theorem i62_0 : am_ins 62 0 = (33, 0, 1, 0, []) := by decide +kernel
theorem d62_0 : decode (am_cod 62) 0 = .ok (.aload_n 0, 1) := by decide +kernel
theorem s62_0 (K : aK) : am_Snd K 62 0 := sn_aload_n i62_0 d62_0 rfl
theorem i62_1 : am_ins 62 1 = (18, 5, 6, 0, []) := by decide +kernel
theorem d62_1 : decode (am_cod 62) 1 = .ok (.getfield 51, 3) := by decide +kernel
theorem s62_1 (K : aK) : am_Snd K 62 1 := sn_get (C0 := CN5) (T := FT5) (Nf := 8) i62_1 d62_1 rfl (by decide +kernel) fin5 w_292 rfl
theorem i62_4 : am_ins 62 4 = (33, 1, 1, 0, []) := by decide +kernel
theorem d62_4 : decode (am_cod 62) 4 = .ok (.aload_n 1, 1) := by decide +kernel
theorem s62_4 (K : aK) : am_Snd K 62 4 := sn_aload_n i62_4 d62_4 rfl
theorem i62_5 : am_ins 62 5 = (18, 5, 6, 0, []) := by decide +kernel
theorem d62_5 : decode (am_cod 62) 5 = .ok (.getfield 51, 3) := by decide +kernel
theorem s62_5 (K : aK) : am_Snd K 62 5 := sn_get (C0 := CN5) (T := FT5) (Nf := 8) i62_5 d62_5 rfl (by decide +kernel) fin5 w_292 rfl
theorem i62_8 : am_ins 62 8 = (13, 0, 28, 0, []) := by decide +kernel
theorem d62_8 : decode (am_cod 62) 8 = .ok (.if_icmp .eq 20, 3) := by decide +kernel
theorem s62_8 (K : aK) : am_Snd K 62 8 := sn_icmp_eq i62_8 d62_8 rfl
theorem i62_11 : am_ins 62 11 = (33, 0, 1, 0, []) := by decide +kernel
theorem d62_11 : decode (am_cod 62) 11 = .ok (.aload_n 0, 1) := by decide +kernel
theorem s62_11 (K : aK) : am_Snd K 62 11 := sn_aload_n i62_11 d62_11 rfl
theorem i62_12 : am_ins 62 12 = (18, 5, 6, 0, []) := by decide +kernel
theorem d62_12 : decode (am_cod 62) 12 = .ok (.getfield 51, 3) := by decide +kernel
theorem s62_12 (K : aK) : am_Snd K 62 12 := sn_get (C0 := CN5) (T := FT5) (Nf := 8) i62_12 d62_12 rfl (by decide +kernel) fin5 w_292 rfl
theorem i62_15 : am_ins 62 15 = (33, 1, 1, 0, []) := by decide +kernel
theorem d62_15 : decode (am_cod 62) 15 = .ok (.aload_n 1, 1) := by decide +kernel
theorem s62_15 (K : aK) : am_Snd K 62 15 := sn_aload_n i62_15 d62_15 rfl
theorem i62_16 : am_ins 62 16 = (18, 5, 6, 0, []) := by decide +kernel
theorem d62_16 : decode (am_cod 62) 16 = .ok (.getfield 51, 3) := by decide +kernel
theorem s62_16 (K : aK) : am_Snd K 62 16 := sn_get (C0 := CN5) (T := FT5) (Nf := 8) i62_16 d62_16 rfl (by decide +kernel) fin5 w_292 rfl
theorem i62_19 : am_ins 62 19 = (13, 5, 26, 0, []) := by decide +kernel
theorem d62_19 : decode (am_cod 62) 19 = .ok (.if_icmp .le 7, 3) := by decide +kernel
theorem s62_19 (K : aK) : am_Snd K 62 19 := sn_icmp_le i62_19 d62_19 rfl
theorem i62_22 : am_ins 62 22 = (0, 1, 0, 1, []) := by decide +kernel
theorem d62_22 : decode (am_cod 62) 22 = .ok (.iconst 1, 1) := by decide +kernel
theorem s62_22 (K : aK) : am_Snd K 62 22 := sn_const1 i62_22 d62_22 rfl
theorem i62_23 : am_ins 62 23 = (14, 27, 0, 0, []) := by decide +kernel
theorem d62_23 : decode (am_cod 62) 23 = .ok (.goto 4, 3) := by decide +kernel
theorem s62_23 (K : aK) : am_Snd K 62 23 := sn_goto i62_23 d62_23 rfl
theorem i62_26 : am_ins 62 26 = (0, 1, 0, 0, []) := by decide +kernel
theorem d62_26 : decode (am_cod 62) 26 = .ok (.iconst 0, 1) := by decide +kernel
theorem s62_26 (K : aK) : am_Snd K 62 26 := sn_const1 i62_26 d62_26 rfl
theorem i62_27 : am_ins 62 27 = (51, 0, 0, 0, []) := by decide +kernel
theorem d62_27 : decode (am_cod 62) 27 = .ok (.ireturn, 1) := by decide +kernel
theorem s62_27 : am_SndR 62 27 := sn_zret i62_27 d62_27 rfl
theorem i62_28 : am_ins 62 28 = (33, 0, 1, 0, []) := by decide +kernel
theorem d62_28 : decode (am_cod 62) 28 = .ok (.aload_n 0, 1) := by decide +kernel
theorem s62_28 (K : aK) : am_Snd K 62 28 := sn_aload_n i62_28 d62_28 rfl
theorem i62_29 : am_ins 62 29 = (18, 5, 1, 0, []) := by decide +kernel
theorem d62_29 : decode (am_cod 62) 29 = .ok (.getfield 24, 3) := by decide +kernel
theorem s62_29 (K : aK) : am_Snd K 62 29 := sn_get (C0 := CN5) (T := FT5) (Nf := 8) i62_29 d62_29 rfl (by decide +kernel) fin5 w_280 rfl
theorem i62_32 : am_ins 62 32 = (33, 1, 1, 0, []) := by decide +kernel
theorem d62_32 : decode (am_cod 62) 32 = .ok (.aload_n 1, 1) := by decide +kernel
theorem s62_32 (K : aK) : am_Snd K 62 32 := sn_aload_n i62_32 d62_32 rfl
theorem i62_33 : am_ins 62 33 = (18, 5, 1, 0, []) := by decide +kernel
theorem d62_33 : decode (am_cod 62) 33 = .ok (.getfield 24, 3) := by decide +kernel
theorem s62_33 (K : aK) : am_Snd K 62 33 := sn_get (C0 := CN5) (T := FT5) (Nf := 8) i62_33 d62_33 rfl (by decide +kernel) fin5 w_280 rfl
theorem i62_36 : am_ins 62 36 = (13, 0, 56, 0, []) := by decide +kernel
theorem d62_36 : decode (am_cod 62) 36 = .ok (.if_icmp .eq 20, 3) := by decide +kernel
theorem s62_36 (K : aK) : am_Snd K 62 36 := sn_icmp_eq i62_36 d62_36 rfl
theorem i62_39 : am_ins 62 39 = (33, 0, 1, 0, []) := by decide +kernel
theorem d62_39 : decode (am_cod 62) 39 = .ok (.aload_n 0, 1) := by decide +kernel
theorem s62_39 (K : aK) : am_Snd K 62 39 := sn_aload_n i62_39 d62_39 rfl
theorem i62_40 : am_ins 62 40 = (18, 5, 1, 0, []) := by decide +kernel
theorem d62_40 : decode (am_cod 62) 40 = .ok (.getfield 24, 3) := by decide +kernel
theorem s62_40 (K : aK) : am_Snd K 62 40 := sn_get (C0 := CN5) (T := FT5) (Nf := 8) i62_40 d62_40 rfl (by decide +kernel) fin5 w_280 rfl
theorem i62_43 : am_ins 62 43 = (33, 1, 1, 0, []) := by decide +kernel
theorem d62_43 : decode (am_cod 62) 43 = .ok (.aload_n 1, 1) := by decide +kernel
theorem s62_43 (K : aK) : am_Snd K 62 43 := sn_aload_n i62_43 d62_43 rfl
theorem i62_44 : am_ins 62 44 = (18, 5, 1, 0, []) := by decide +kernel
theorem d62_44 : decode (am_cod 62) 44 = .ok (.getfield 24, 3) := by decide +kernel
theorem s62_44 (K : aK) : am_Snd K 62 44 := sn_get (C0 := CN5) (T := FT5) (Nf := 8) i62_44 d62_44 rfl (by decide +kernel) fin5 w_280 rfl
theorem i62_47 : am_ins 62 47 = (13, 5, 54, 0, []) := by decide +kernel
theorem d62_47 : decode (am_cod 62) 47 = .ok (.if_icmp .le 7, 3) := by decide +kernel
theorem s62_47 (K : aK) : am_Snd K 62 47 := sn_icmp_le i62_47 d62_47 rfl
theorem i62_50 : am_ins 62 50 = (0, 1, 0, 1, []) := by decide +kernel
theorem d62_50 : decode (am_cod 62) 50 = .ok (.iconst 1, 1) := by decide +kernel
theorem s62_50 (K : aK) : am_Snd K 62 50 := sn_const1 i62_50 d62_50 rfl
theorem i62_51 : am_ins 62 51 = (14, 55, 0, 0, []) := by decide +kernel
theorem d62_51 : decode (am_cod 62) 51 = .ok (.goto 4, 3) := by decide +kernel
theorem s62_51 (K : aK) : am_Snd K 62 51 := sn_goto i62_51 d62_51 rfl
theorem i62_54 : am_ins 62 54 = (0, 1, 0, 0, []) := by decide +kernel
theorem d62_54 : decode (am_cod 62) 54 = .ok (.iconst 0, 1) := by decide +kernel
theorem s62_54 (K : aK) : am_Snd K 62 54 := sn_const1 i62_54 d62_54 rfl
theorem i62_55 : am_ins 62 55 = (51, 0, 0, 0, []) := by decide +kernel
theorem d62_55 : decode (am_cod 62) 55 = .ok (.ireturn, 1) := by decide +kernel
theorem s62_55 : am_SndR 62 55 := sn_zret i62_55 d62_55 rfl
theorem i62_56 : am_ins 62 56 = (33, 0, 1, 0, []) := by decide +kernel
theorem d62_56 : decode (am_cod 62) 56 = .ok (.aload_n 0, 1) := by decide +kernel
theorem s62_56 (K : aK) : am_Snd K 62 56 := sn_aload_n i62_56 d62_56 rfl
theorem i62_57 : am_ins 62 57 = (18, 5, 0, 0, []) := by decide +kernel
theorem d62_57 : decode (am_cod 62) 57 = .ok (.getfield 9, 3) := by decide +kernel
theorem s62_57 (K : aK) : am_Snd K 62 57 := sn_get (C0 := CN5) (T := FT5) (Nf := 8) i62_57 d62_57 rfl (by decide +kernel) fin5 w_277 rfl
theorem i62_60 : am_ins 62 60 = (33, 1, 1, 0, []) := by decide +kernel
theorem d62_60 : decode (am_cod 62) 60 = .ok (.aload_n 1, 1) := by decide +kernel
theorem s62_60 (K : aK) : am_Snd K 62 60 := sn_aload_n i62_60 d62_60 rfl
theorem i62_61 : am_ins 62 61 = (18, 5, 0, 0, []) := by decide +kernel
theorem d62_61 : decode (am_cod 62) 61 = .ok (.getfield 9, 3) := by decide +kernel
theorem s62_61 (K : aK) : am_Snd K 62 61 := sn_get (C0 := CN5) (T := FT5) (Nf := 8) i62_61 d62_61 rfl (by decide +kernel) fin5 w_277 rfl
theorem i62_64 : am_ins 62 64 = (13, 5, 71, 0, []) := by decide +kernel
theorem d62_64 : decode (am_cod 62) 64 = .ok (.if_icmp .le 7, 3) := by decide +kernel
theorem s62_64 (K : aK) : am_Snd K 62 64 := sn_icmp_le i62_64 d62_64 rfl
theorem i62_67 : am_ins 62 67 = (0, 1, 0, 1, []) := by decide +kernel
theorem d62_67 : decode (am_cod 62) 67 = .ok (.iconst 1, 1) := by decide +kernel
theorem s62_67 (K : aK) : am_Snd K 62 67 := sn_const1 i62_67 d62_67 rfl
theorem i62_68 : am_ins 62 68 = (14, 72, 0, 0, []) := by decide +kernel
theorem d62_68 : decode (am_cod 62) 68 = .ok (.goto 4, 3) := by decide +kernel
theorem s62_68 (K : aK) : am_Snd K 62 68 := sn_goto i62_68 d62_68 rfl
theorem i62_71 : am_ins 62 71 = (0, 1, 0, 0, []) := by decide +kernel
theorem d62_71 : decode (am_cod 62) 71 = .ok (.iconst 0, 1) := by decide +kernel
theorem s62_71 (K : aK) : am_Snd K 62 71 := sn_const1 i62_71 d62_71 rfl
theorem i62_72 : am_ins 62 72 = (51, 0, 0, 0, []) := by decide +kernel
theorem d62_72 : decode (am_cod 62) 72 = .ok (.ireturn, 1) := by decide +kernel
theorem s62_72 : am_SndR 62 72 := sn_zret i62_72 d62_72 rfl
theorem al62_0 (K : aK) : ∀ q ∈ [0, 1, 4, 5, 8, 11, 12, 15, 16, 19, 22, 23, 26, 27, 28, 29, 32, 33, 36, 39, 40, 43, 44, 47, 50, 51, 54, 55, 56, 57], am_All K 62 q := List.forall_mem_cons.mpr ⟨am_alS i62_0 (s62_0 K), List.forall_mem_cons.mpr ⟨am_alS i62_1 (s62_1 K), List.forall_mem_cons.mpr ⟨am_alS i62_4 (s62_4 K), List.forall_mem_cons.mpr ⟨am_alS i62_5 (s62_5 K), List.forall_mem_cons.mpr ⟨am_alS i62_8 (s62_8 K), List.forall_mem_cons.mpr ⟨am_alS i62_11 (s62_11 K), List.forall_mem_cons.mpr ⟨am_alS i62_12 (s62_12 K), List.forall_mem_cons.mpr ⟨am_alS i62_15 (s62_15 K), List.forall_mem_cons.mpr ⟨am_alS i62_16 (s62_16 K), List.forall_mem_cons.mpr ⟨am_alS i62_19 (s62_19 K), List.forall_mem_cons.mpr ⟨am_alS i62_22 (s62_22 K), List.forall_mem_cons.mpr ⟨am_alS i62_23 (s62_23 K), List.forall_mem_cons.mpr ⟨am_alS i62_26 (s62_26 K), List.forall_mem_cons.mpr ⟨am_alR i62_27 s62_27, List.forall_mem_cons.mpr ⟨am_alS i62_28 (s62_28 K), List.forall_mem_cons.mpr ⟨am_alS i62_29 (s62_29 K), List.forall_mem_cons.mpr ⟨am_alS i62_32 (s62_32 K), List.forall_mem_cons.mpr ⟨am_alS i62_33 (s62_33 K), List.forall_mem_cons.mpr ⟨am_alS i62_36 (s62_36 K), List.forall_mem_cons.mpr ⟨am_alS i62_39 (s62_39 K), List.forall_mem_cons.mpr ⟨am_alS i62_40 (s62_40 K), List.forall_mem_cons.mpr ⟨am_alS i62_43 (s62_43 K), List.forall_mem_cons.mpr ⟨am_alS i62_44 (s62_44 K), List.forall_mem_cons.mpr ⟨am_alS i62_47 (s62_47 K), List.forall_mem_cons.mpr ⟨am_alS i62_50 (s62_50 K), List.forall_mem_cons.mpr ⟨am_alS i62_51 (s62_51 K), List.forall_mem_cons.mpr ⟨am_alS i62_54 (s62_54 K), List.forall_mem_cons.mpr ⟨am_alR i62_55 s62_55, List.forall_mem_cons.mpr ⟨am_alS i62_56 (s62_56 K), List.forall_mem_cons.mpr ⟨am_alS i62_57 (s62_57 K), fun _ h => absurd h List.not_mem_nil⟩⟩⟩⟩⟩⟩⟩⟩⟩⟩⟩⟩⟩⟩⟩⟩⟩⟩⟩⟩⟩⟩⟩⟩⟩⟩⟩⟩⟩⟩
theorem al62_1 (K : aK) : ∀ q ∈ [60, 61, 64, 67, 68, 71, 72], am_All K 62 q := List.forall_mem_cons.mpr ⟨am_alS i62_60 (s62_60 K), List.forall_mem_cons.mpr ⟨am_alS i62_61 (s62_61 K), List.forall_mem_cons.mpr ⟨am_alS i62_64 (s62_64 K), List.forall_mem_cons.mpr ⟨am_alS i62_67 (s62_67 K), List.forall_mem_cons.mpr ⟨am_alS i62_68 (s62_68 K), List.forall_mem_cons.mpr ⟨am_alS i62_71 (s62_71 K), List.forall_mem_cons.mpr ⟨am_alR i62_72 s62_72, fun _ h => absurd h List.not_mem_nil⟩⟩⟩⟩⟩⟩⟩
set_option maxRecDepth 100000 in
theorem al62 (K : aK) : ∀ q ∈ (am_t62).map (fun z => z.1), am_All K 62 q := by
  have e : (am_t62).map (fun z => z.1) = [0, 1, 4, 5, 8, 11, 12, 15, 16, 19, 22, 23, 26, 27, 28, 29, 32, 33, 36, 39, 40, 43, 44, 47, 50, 51, 54, 55, 56, 57] ++ ([60, 61, 64, 67, 68, 71, 72]) := rfl
  rw [e]
  exact List.forall_mem_append.mpr ⟨al62_0 K, al62_1 K⟩
theorem i63_0 : am_ins 63 0 = (33, 0, 1, 0, []) := by decide +kernel
theorem d63_0 : decode (am_cod 63) 0 = .ok (.aload_n 0, 1) := by decide +kernel
theorem s63_0 (K : aK) : am_Snd K 63 0 := sn_aload_n i63_0 d63_0 rfl
theorem i63_1 : am_ins 63 1 = (35, 0, 0, 0, []) := by decide +kernel
theorem d63_1 : decode (am_cod 63) 1 = .ok (.invokespecial 3, 3) := by decide +kernel
theorem s63_1 (K : aK) : am_Snd K 63 1 := sn_oinit i63_1 d63_1 w_32 w_16 w_17
theorem i63_4 : am_ins 63 4 = (33, 0, 1, 0, []) := by decide +kernel
theorem d63_4 : decode (am_cod 63) 4 = .ok (.aload_n 0, 1) := by decide +kernel
theorem s63_4 (K : aK) : am_Snd K 63 4 := sn_aload_n i63_4 d63_4 rfl
theorem i63_5 : am_ins 63 5 = (0, 2, 0, 8, []) := by decide +kernel
theorem d63_5 : decode (am_cod 63) 5 = .ok (.bipush 8, 2) := by decide +kernel
theorem s63_5 (K : aK) : am_Snd K 63 5 := sn_const2 i63_5 d63_5 (by decide +kernel)
theorem i63_7 : am_ins 63 7 = (30, 1, 0, 0, []) := by decide +kernel
theorem d63_7 : decode (am_cod 63) 7 = .ok (.newarray .boolean, 2) := by decide +kernel
theorem s63_7 (K : aK) : am_Snd K 63 7 := sn_newZ i63_7 d63_7 w_41
theorem i63_9 : am_ins 63 9 = (21, 6, 0, 0, []) := by decide +kernel
theorem d63_9 : decode (am_cod 63) 9 = .ok (.putfield 9, 3) := by decide +kernel
theorem s63_9 (K : aK) : am_Snd K 63 9 := sn_putrF (ty := .array .boolean) (C0 := CN6) (T := FT6) (Nf := 2) (tyf := FY6) i63_9 d63_9 rfl (by decide +kernel) fin6 ftyok6 fnm6 w_33 rfl rfl rfl rfl rfl rfl
theorem i63_12 : am_ins 63 12 = (33, 0, 1, 0, []) := by decide +kernel
theorem d63_12 : decode (am_cod 63) 12 = .ok (.aload_n 0, 1) := by decide +kernel
theorem s63_12 (K : aK) : am_Snd K 63 12 := sn_aload_n i63_12 d63_12 rfl
theorem i63_13 : am_ins 63 13 = (0, 2, 0, 8, []) := by decide +kernel
theorem d63_13 : decode (am_cod 63) 13 = .ok (.bipush 8, 2) := by decide +kernel
theorem s63_13 (K : aK) : am_Snd K 63 13 := sn_const2 i63_13 d63_13 (by decide +kernel)
theorem i63_15 : am_ins 63 15 = (30, 0, 0, 0, []) := by decide +kernel
theorem d63_15 : decode (am_cod 63) 15 = .ok (.newarray .int, 2) := by decide +kernel
theorem s63_15 (K : aK) : am_Snd K 63 15 := sn_newI i63_15 d63_15 w_40
theorem i63_17 : am_ins 63 17 = (21, 6, 1, 0, []) := by decide +kernel
theorem d63_17 : decode (am_cod 63) 17 = .ok (.putfield 15, 3) := by decide +kernel
theorem s63_17 (K : aK) : am_Snd K 63 17 := sn_putrF (ty := .array .int) (C0 := CN6) (T := FT6) (Nf := 2) (tyf := FY6) i63_17 d63_17 rfl (by decide +kernel) fin6 ftyok6 fnm6 w_34 rfl rfl rfl rfl rfl rfl
theorem i63_20 : am_ins 63 20 = (53, 0, 0, 0, []) := by decide +kernel
theorem d63_20 : decode (am_cod 63) 20 = .ok (.return_, 1) := by decide +kernel
theorem s63_20 : am_SndR 63 20 := sn_vret i63_20 d63_20 rfl
theorem al63_0 (K : aK) : ∀ q ∈ [0, 1, 4, 5, 7, 9, 12, 13, 15, 17, 20], am_All K 63 q := List.forall_mem_cons.mpr ⟨am_alS i63_0 (s63_0 K), List.forall_mem_cons.mpr ⟨am_alS i63_1 (s63_1 K), List.forall_mem_cons.mpr ⟨am_alS i63_4 (s63_4 K), List.forall_mem_cons.mpr ⟨am_alS i63_5 (s63_5 K), List.forall_mem_cons.mpr ⟨am_alS i63_7 (s63_7 K), List.forall_mem_cons.mpr ⟨am_alS i63_9 (s63_9 K), List.forall_mem_cons.mpr ⟨am_alS i63_12 (s63_12 K), List.forall_mem_cons.mpr ⟨am_alS i63_13 (s63_13 K), List.forall_mem_cons.mpr ⟨am_alS i63_15 (s63_15 K), List.forall_mem_cons.mpr ⟨am_alS i63_17 (s63_17 K), List.forall_mem_cons.mpr ⟨am_alR i63_20 s63_20, fun _ h => absurd h List.not_mem_nil⟩⟩⟩⟩⟩⟩⟩⟩⟩⟩⟩
set_option maxRecDepth 100000 in
theorem al63 (K : aK) : ∀ q ∈ (am_t63).map (fun z => z.1), am_All K 63 q := by
  have e : (am_t63).map (fun z => z.1) = [0, 1, 4, 5, 7, 9, 12, 13, 15, 17, 20] := rfl
  rw [e]
  exact al63_0 K
theorem i64_0 : am_ins 64 0 = (0, 1, 0, 0, []) := by decide +kernel
theorem d64_0 : decode (am_cod 64) 0 = .ok (.iconst 0, 1) := by decide +kernel
theorem s64_0 (K : aK) : am_Snd K 64 0 := sn_const1 i64_0 d64_0 rfl
theorem i64_1 : am_ins 64 1 = (2, 1, 1, 0, []) := by decide +kernel
theorem d64_1 : decode (am_cod 64) 1 = .ok (.istore_n 1, 1) := by decide +kernel
theorem s64_1 (K : aK) : am_Snd K 64 1 := sn_istore_n i64_1 d64_1 rfl (by decide +kernel)
theorem i64_2 : am_ins 64 2 = (1, 1, 1, 0, []) := by decide +kernel
theorem d64_2 : decode (am_cod 64) 2 = .ok (.iload_n 1, 1) := by decide +kernel
theorem s64_2 (K : aK) : am_Snd K 64 2 := sn_iload_n i64_2 d64_2 rfl
theorem i64_3 : am_ins 64 3 = (0, 2, 0, 8, []) := by decide +kernel
theorem d64_3 : decode (am_cod 64) 3 = .ok (.bipush 8, 2) := by decide +kernel
theorem s64_3 (K : aK) : am_Snd K 64 3 := sn_const2 i64_3 d64_3 (by decide +kernel)
theorem i64_5 : am_ins 64 5 = (13, 3, 28, 0, []) := by decide +kernel
theorem d64_5 : decode (am_cod 64) 5 = .ok (.if_icmp .ge 23, 3) := by decide +kernel
theorem s64_5 (K : aK) : am_Snd K 64 5 := sn_icmp_ge i64_5 d64_5 rfl
theorem i64_8 : am_ins 64 8 = (33, 0, 1, 0, []) := by decide +kernel
theorem d64_8 : decode (am_cod 64) 8 = .ok (.aload_n 0, 1) := by decide +kernel
theorem s64_8 (K : aK) : am_Snd K 64 8 := sn_aload_n i64_8 d64_8 rfl
theorem i64_9 : am_ins 64 9 = (18, 6, 0, 0, []) := by decide +kernel
theorem d64_9 : decode (am_cod 64) 9 = .ok (.getfield 9, 3) := by decide +kernel
theorem s64_9 (K : aK) : am_Snd K 64 9 := sn_get (C0 := CN6) (T := FT6) (Nf := 2) i64_9 d64_9 rfl (by decide +kernel) fin6 w_33 rfl
theorem i64_12 : am_ins 64 12 = (1, 1, 1, 0, []) := by decide +kernel
theorem d64_12 : decode (am_cod 64) 12 = .ok (.iload_n 1, 1) := by decide +kernel
theorem s64_12 (K : aK) : am_Snd K 64 12 := sn_iload_n i64_12 d64_12 rfl
theorem i64_13 : am_ins 64 13 = (0, 1, 0, 0, []) := by decide +kernel
theorem d64_13 : decode (am_cod 64) 13 = .ok (.iconst 0, 1) := by decide +kernel
theorem s64_13 (K : aK) : am_Snd K 64 13 := sn_const1 i64_13 d64_13 rfl
theorem i64_14 : am_ins 64 14 = (25, 0, 0, 0, []) := by decide +kernel
theorem d64_14 : decode (am_cod 64) 14 = .ok (.bastore, 1) := by decide +kernel
theorem s64_14 (K : aK) : am_Snd K 64 14 := sn_zast i64_14 d64_14 
theorem i64_15 : am_ins 64 15 = (33, 0, 1, 0, []) := by decide +kernel
theorem d64_15 : decode (am_cod 64) 15 = .ok (.aload_n 0, 1) := by decide +kernel
theorem s64_15 (K : aK) : am_Snd K 64 15 := sn_aload_n i64_15 d64_15 rfl
theorem i64_16 : am_ins 64 16 = (18, 6, 1, 0, []) := by decide +kernel
theorem d64_16 : decode (am_cod 64) 16 = .ok (.getfield 15, 3) := by decide +kernel
theorem s64_16 (K : aK) : am_Snd K 64 16 := sn_get (C0 := CN6) (T := FT6) (Nf := 2) i64_16 d64_16 rfl (by decide +kernel) fin6 w_34 rfl
theorem i64_19 : am_ins 64 19 = (1, 1, 1, 0, []) := by decide +kernel
theorem d64_19 : decode (am_cod 64) 19 = .ok (.iload_n 1, 1) := by decide +kernel
theorem s64_19 (K : aK) : am_Snd K 64 19 := sn_iload_n i64_19 d64_19 rfl
theorem i64_20 : am_ins 64 20 = (0, 1, 0, 0, []) := by decide +kernel
theorem d64_20 : decode (am_cod 64) 20 = .ok (.iconst 0, 1) := by decide +kernel
theorem s64_20 (K : aK) : am_Snd K 64 20 := sn_const1 i64_20 d64_20 rfl
theorem i64_21 : am_ins 64 21 = (23, 0, 0, 0, []) := by decide +kernel
theorem d64_21 : decode (am_cod 64) 21 = .ok (.iastore, 1) := by decide +kernel
theorem s64_21 (K : aK) : am_Snd K 64 21 := sn_iast i64_21 d64_21 
theorem i64_22 : am_ins 64 22 = (3, 1, 3, 1, []) := by decide +kernel
theorem d64_22 : decode (am_cod 64) 22 = .ok (.iinc 1 1, 3) := by decide +kernel
theorem s64_22 (K : aK) : am_Snd K 64 22 := sn_iinc i64_22 d64_22 rfl (by decide +kernel)
theorem i64_25 : am_ins 64 25 = (14, 2, 0, 0, []) := by decide +kernel
theorem d64_25 : decode (am_cod 64) 25 = .ok (.goto (-23), 3) := by decide +kernel
theorem s64_25 (K : aK) : am_Snd K 64 25 := sn_goto i64_25 d64_25 rfl
theorem i64_28 : am_ins 64 28 = (53, 0, 0, 0, []) := by decide +kernel
theorem d64_28 : decode (am_cod 64) 28 = .ok (.return_, 1) := by decide +kernel
theorem s64_28 : am_SndR 64 28 := sn_vret i64_28 d64_28 rfl
theorem al64_0 (K : aK) : ∀ q ∈ [0, 1, 2, 3, 5, 8, 9, 12, 13, 14, 15, 16, 19, 20, 21, 22, 25, 28], am_All K 64 q := List.forall_mem_cons.mpr ⟨am_alS i64_0 (s64_0 K), List.forall_mem_cons.mpr ⟨am_alS i64_1 (s64_1 K), List.forall_mem_cons.mpr ⟨am_alS i64_2 (s64_2 K), List.forall_mem_cons.mpr ⟨am_alS i64_3 (s64_3 K), List.forall_mem_cons.mpr ⟨am_alS i64_5 (s64_5 K), List.forall_mem_cons.mpr ⟨am_alS i64_8 (s64_8 K), List.forall_mem_cons.mpr ⟨am_alS i64_9 (s64_9 K), List.forall_mem_cons.mpr ⟨am_alS i64_12 (s64_12 K), List.forall_mem_cons.mpr ⟨am_alS i64_13 (s64_13 K), List.forall_mem_cons.mpr ⟨am_alS i64_14 (s64_14 K), List.forall_mem_cons.mpr ⟨am_alS i64_15 (s64_15 K), List.forall_mem_cons.mpr ⟨am_alS i64_16 (s64_16 K), List.forall_mem_cons.mpr ⟨am_alS i64_19 (s64_19 K), List.forall_mem_cons.mpr ⟨am_alS i64_20 (s64_20 K), List.forall_mem_cons.mpr ⟨am_alS i64_21 (s64_21 K), List.forall_mem_cons.mpr ⟨am_alS i64_22 (s64_22 K), List.forall_mem_cons.mpr ⟨am_alS i64_25 (s64_25 K), List.forall_mem_cons.mpr ⟨am_alR i64_28 s64_28, fun _ h => absurd h List.not_mem_nil⟩⟩⟩⟩⟩⟩⟩⟩⟩⟩⟩⟩⟩⟩⟩⟩⟩⟩
set_option maxRecDepth 100000 in
theorem al64 (K : aK) : ∀ q ∈ (am_t64).map (fun z => z.1), am_All K 64 q := by
  have e : (am_t64).map (fun z => z.1) = [0, 1, 2, 3, 5, 8, 9, 12, 13, 14, 15, 16, 19, 20, 21, 22, 25, 28] := rfl
  rw [e]
  exact al64_0 K
theorem i65_0 : am_ins 65 0 = (1, 1, 1, 0, []) := by decide +kernel
theorem d65_0 : decode (am_cod 65) 0 = .ok (.iload_n 1, 1) := by decide +kernel
theorem s65_0 (K : aK) : am_Snd K 65 0 := sn_iload_n i65_0 d65_0 rfl
theorem i65_1 : am_ins 65 1 = (61, 22, 1, 0, []) := by decide +kernel
theorem d65_1 : decode (am_cod 65) 1 = .ok (.invokestatic 19, 3) := by decide +kernel
theorem s65_1 (K : aK) : am_SndC K 65 1 := sc_SN i65_1 d65_1 co22 nw_214 w_208 w_1 hd22
theorem i65_4 : am_ins 65 4 = (12, 0, 21, 0, []) := by decide +kernel
theorem d65_4 : decode (am_cod 65) 4 = .ok (.ifCond .eq 17, 3) := by decide +kernel
theorem s65_4 (K : aK) : am_Snd K 65 4 := sn_if_eq i65_4 d65_4 rfl
theorem i65_7 : am_ins 65 7 = (33, 0, 1, 0, []) := by decide +kernel
theorem d65_7 : decode (am_cod 65) 7 = .ok (.aload_n 0, 1) := by decide +kernel
theorem s65_7 (K : aK) : am_Snd K 65 7 := sn_aload_n i65_7 d65_7 rfl
theorem i65_8 : am_ins 65 8 = (18, 6, 0, 0, []) := by decide +kernel
theorem d65_8 : decode (am_cod 65) 8 = .ok (.getfield 9, 3) := by decide +kernel
theorem s65_8 (K : aK) : am_Snd K 65 8 := sn_get (C0 := CN6) (T := FT6) (Nf := 2) i65_8 d65_8 rfl (by decide +kernel) fin6 w_33 rfl
theorem i65_11 : am_ins 65 11 = (1, 1, 1, 0, []) := by decide +kernel
theorem d65_11 : decode (am_cod 65) 11 = .ok (.iload_n 1, 1) := by decide +kernel
theorem s65_11 (K : aK) : am_Snd K 65 11 := sn_iload_n i65_11 d65_11 rfl
theorem i65_12 : am_ins 65 12 = (0, 1, 0, 1, []) := by decide +kernel
theorem d65_12 : decode (am_cod 65) 12 = .ok (.iconst 1, 1) := by decide +kernel
theorem s65_12 (K : aK) : am_Snd K 65 12 := sn_const1 i65_12 d65_12 rfl
theorem i65_13 : am_ins 65 13 = (25, 0, 0, 0, []) := by decide +kernel
theorem d65_13 : decode (am_cod 65) 13 = .ok (.bastore, 1) := by decide +kernel
theorem s65_13 (K : aK) : am_Snd K 65 13 := sn_zast i65_13 d65_13 
theorem i65_14 : am_ins 65 14 = (33, 0, 1, 0, []) := by decide +kernel
theorem d65_14 : decode (am_cod 65) 14 = .ok (.aload_n 0, 1) := by decide +kernel
theorem s65_14 (K : aK) : am_Snd K 65 14 := sn_aload_n i65_14 d65_14 rfl
theorem i65_15 : am_ins 65 15 = (18, 6, 1, 0, []) := by decide +kernel
theorem d65_15 : decode (am_cod 65) 15 = .ok (.getfield 15, 3) := by decide +kernel
theorem s65_15 (K : aK) : am_Snd K 65 15 := sn_get (C0 := CN6) (T := FT6) (Nf := 2) i65_15 d65_15 rfl (by decide +kernel) fin6 w_34 rfl
theorem i65_18 : am_ins 65 18 = (1, 1, 1, 0, []) := by decide +kernel
theorem d65_18 : decode (am_cod 65) 18 = .ok (.iload_n 1, 1) := by decide +kernel
theorem s65_18 (K : aK) : am_Snd K 65 18 := sn_iload_n i65_18 d65_18 rfl
theorem i65_19 : am_ins 65 19 = (1, 2, 1, 0, []) := by decide +kernel
theorem d65_19 : decode (am_cod 65) 19 = .ok (.iload_n 2, 1) := by decide +kernel
theorem s65_19 (K : aK) : am_Snd K 65 19 := sn_iload_n i65_19 d65_19 rfl
theorem i65_20 : am_ins 65 20 = (23, 0, 0, 0, []) := by decide +kernel
theorem d65_20 : decode (am_cod 65) 20 = .ok (.iastore, 1) := by decide +kernel
theorem s65_20 (K : aK) : am_Snd K 65 20 := sn_iast i65_20 d65_20 
theorem i65_21 : am_ins 65 21 = (53, 0, 0, 0, []) := by decide +kernel
theorem d65_21 : decode (am_cod 65) 21 = .ok (.return_, 1) := by decide +kernel
theorem s65_21 : am_SndR 65 21 := sn_vret i65_21 d65_21 rfl
theorem al65_0 (K : aK) : ∀ q ∈ [0, 1, 4, 7, 8, 11, 12, 13, 14, 15, 18, 19, 20, 21], am_All K 65 q := List.forall_mem_cons.mpr ⟨am_alS i65_0 (s65_0 K), List.forall_mem_cons.mpr ⟨am_alC i65_1 (s65_1 K), List.forall_mem_cons.mpr ⟨am_alS i65_4 (s65_4 K), List.forall_mem_cons.mpr ⟨am_alS i65_7 (s65_7 K), List.forall_mem_cons.mpr ⟨am_alS i65_8 (s65_8 K), List.forall_mem_cons.mpr ⟨am_alS i65_11 (s65_11 K), List.forall_mem_cons.mpr ⟨am_alS i65_12 (s65_12 K), List.forall_mem_cons.mpr ⟨am_alS i65_13 (s65_13 K), List.forall_mem_cons.mpr ⟨am_alS i65_14 (s65_14 K), List.forall_mem_cons.mpr ⟨am_alS i65_15 (s65_15 K), List.forall_mem_cons.mpr ⟨am_alS i65_18 (s65_18 K), List.forall_mem_cons.mpr ⟨am_alS i65_19 (s65_19 K), List.forall_mem_cons.mpr ⟨am_alS i65_20 (s65_20 K), List.forall_mem_cons.mpr ⟨am_alR i65_21 s65_21, fun _ h => absurd h List.not_mem_nil⟩⟩⟩⟩⟩⟩⟩⟩⟩⟩⟩⟩⟩⟩
set_option maxRecDepth 100000 in
theorem al65 (K : aK) : ∀ q ∈ (am_t65).map (fun z => z.1), am_All K 65 q := by
  have e : (am_t65).map (fun z => z.1) = [0, 1, 4, 7, 8, 11, 12, 13, 14, 15, 18, 19, 20, 21] := rfl
  rw [e]
  exact al65_0 K
theorem i66_0 : am_ins 66 0 = (0, 1, 0, 0, []) := by decide +kernel
theorem d66_0 : decode (am_cod 66) 0 = .ok (.iconst 0, 1) := by decide +kernel
theorem s66_0 (K : aK) : am_Snd K 66 0 := sn_const1 i66_0 d66_0 rfl
theorem i66_1 : am_ins 66 1 = (2, 2, 1, 0, []) := by decide +kernel
theorem d66_1 : decode (am_cod 66) 1 = .ok (.istore_n 2, 1) := by decide +kernel
theorem s66_1 (K : aK) : am_Snd K 66 1 := sn_istore_n i66_1 d66_1 rfl (by decide +kernel)
theorem i66_2 : am_ins 66 2 = (1, 2, 1, 0, []) := by decide +kernel
theorem d66_2 : decode (am_cod 66) 2 = .ok (.iload_n 2, 1) := by decide +kernel
theorem s66_2 (K : aK) : am_Snd K 66 2 := sn_iload_n i66_2 d66_2 rfl
theorem i66_3 : am_ins 66 3 = (0, 2, 0, 8, []) := by decide +kernel
theorem d66_3 : decode (am_cod 66) 3 = .ok (.bipush 8, 2) := by decide +kernel
theorem s66_3 (K : aK) : am_Snd K 66 3 := sn_const2 i66_3 d66_3 (by decide +kernel)
theorem i66_5 : am_ins 66 5 = (13, 3, 38, 0, []) := by decide +kernel
theorem d66_5 : decode (am_cod 66) 5 = .ok (.if_icmp .ge 33, 3) := by decide +kernel
theorem s66_5 (K : aK) : am_Snd K 66 5 := sn_icmp_ge i66_5 d66_5 rfl
theorem i66_8 : am_ins 66 8 = (33, 0, 1, 0, []) := by decide +kernel
theorem d66_8 : decode (am_cod 66) 8 = .ok (.aload_n 0, 1) := by decide +kernel
theorem s66_8 (K : aK) : am_Snd K 66 8 := sn_aload_n i66_8 d66_8 rfl
theorem i66_9 : am_ins 66 9 = (18, 6, 0, 0, []) := by decide +kernel
theorem d66_9 : decode (am_cod 66) 9 = .ok (.getfield 9, 3) := by decide +kernel
theorem s66_9 (K : aK) : am_Snd K 66 9 := sn_get (C0 := CN6) (T := FT6) (Nf := 2) i66_9 d66_9 rfl (by decide +kernel) fin6 w_33 rfl
theorem i66_12 : am_ins 66 12 = (1, 2, 1, 0, []) := by decide +kernel
theorem d66_12 : decode (am_cod 66) 12 = .ok (.iload_n 2, 1) := by decide +kernel
theorem s66_12 (K : aK) : am_Snd K 66 12 := sn_iload_n i66_12 d66_12 rfl
theorem i66_13 : am_ins 66 13 = (33, 1, 1, 0, []) := by decide +kernel
theorem d66_13 : decode (am_cod 66) 13 = .ok (.aload_n 1, 1) := by decide +kernel
theorem s66_13 (K : aK) : am_Snd K 66 13 := sn_aload_n i66_13 d66_13 rfl
theorem i66_14 : am_ins 66 14 = (18, 6, 0, 0, []) := by decide +kernel
theorem d66_14 : decode (am_cod 66) 14 = .ok (.getfield 9, 3) := by decide +kernel
theorem s66_14 (K : aK) : am_Snd K 66 14 := sn_get (C0 := CN6) (T := FT6) (Nf := 2) i66_14 d66_14 rfl (by decide +kernel) fin6 w_33 rfl
theorem i66_17 : am_ins 66 17 = (1, 2, 1, 0, []) := by decide +kernel
theorem d66_17 : decode (am_cod 66) 17 = .ok (.iload_n 2, 1) := by decide +kernel
theorem s66_17 (K : aK) : am_Snd K 66 17 := sn_iload_n i66_17 d66_17 rfl
theorem i66_18 : am_ins 66 18 = (24, 0, 0, 0, []) := by decide +kernel
theorem d66_18 : decode (am_cod 66) 18 = .ok (.baload, 1) := by decide +kernel
theorem s66_18 (K : aK) : am_Snd K 66 18 := sn_zald i66_18 d66_18 
theorem i66_19 : am_ins 66 19 = (25, 0, 0, 0, []) := by decide +kernel
theorem d66_19 : decode (am_cod 66) 19 = .ok (.bastore, 1) := by decide +kernel
theorem s66_19 (K : aK) : am_Snd K 66 19 := sn_zast i66_19 d66_19 
theorem i66_20 : am_ins 66 20 = (33, 0, 1, 0, []) := by decide +kernel
theorem d66_20 : decode (am_cod 66) 20 = .ok (.aload_n 0, 1) := by decide +kernel
theorem s66_20 (K : aK) : am_Snd K 66 20 := sn_aload_n i66_20 d66_20 rfl
theorem i66_21 : am_ins 66 21 = (18, 6, 1, 0, []) := by decide +kernel
theorem d66_21 : decode (am_cod 66) 21 = .ok (.getfield 15, 3) := by decide +kernel
theorem s66_21 (K : aK) : am_Snd K 66 21 := sn_get (C0 := CN6) (T := FT6) (Nf := 2) i66_21 d66_21 rfl (by decide +kernel) fin6 w_34 rfl
theorem i66_24 : am_ins 66 24 = (1, 2, 1, 0, []) := by decide +kernel
theorem d66_24 : decode (am_cod 66) 24 = .ok (.iload_n 2, 1) := by decide +kernel
theorem s66_24 (K : aK) : am_Snd K 66 24 := sn_iload_n i66_24 d66_24 rfl
theorem i66_25 : am_ins 66 25 = (33, 1, 1, 0, []) := by decide +kernel
theorem d66_25 : decode (am_cod 66) 25 = .ok (.aload_n 1, 1) := by decide +kernel
theorem s66_25 (K : aK) : am_Snd K 66 25 := sn_aload_n i66_25 d66_25 rfl
theorem i66_26 : am_ins 66 26 = (18, 6, 1, 0, []) := by decide +kernel
theorem d66_26 : decode (am_cod 66) 26 = .ok (.getfield 15, 3) := by decide +kernel
theorem s66_26 (K : aK) : am_Snd K 66 26 := sn_get (C0 := CN6) (T := FT6) (Nf := 2) i66_26 d66_26 rfl (by decide +kernel) fin6 w_34 rfl
theorem i66_29 : am_ins 66 29 = (1, 2, 1, 0, []) := by decide +kernel
theorem d66_29 : decode (am_cod 66) 29 = .ok (.iload_n 2, 1) := by decide +kernel
theorem s66_29 (K : aK) : am_Snd K 66 29 := sn_iload_n i66_29 d66_29 rfl
theorem i66_30 : am_ins 66 30 = (22, 0, 0, 0, []) := by decide +kernel
theorem d66_30 : decode (am_cod 66) 30 = .ok (.iaload, 1) := by decide +kernel
theorem s66_30 (K : aK) : am_Snd K 66 30 := sn_iald i66_30 d66_30 
theorem i66_31 : am_ins 66 31 = (23, 0, 0, 0, []) := by decide +kernel
theorem d66_31 : decode (am_cod 66) 31 = .ok (.iastore, 1) := by decide +kernel
theorem s66_31 (K : aK) : am_Snd K 66 31 := sn_iast i66_31 d66_31 
theorem i66_32 : am_ins 66 32 = (3, 2, 3, 1, []) := by decide +kernel
theorem d66_32 : decode (am_cod 66) 32 = .ok (.iinc 2 1, 3) := by decide +kernel
theorem s66_32 (K : aK) : am_Snd K 66 32 := sn_iinc i66_32 d66_32 rfl (by decide +kernel)
theorem i66_35 : am_ins 66 35 = (14, 2, 0, 0, []) := by decide +kernel
theorem d66_35 : decode (am_cod 66) 35 = .ok (.goto (-33), 3) := by decide +kernel
theorem s66_35 (K : aK) : am_Snd K 66 35 := sn_goto i66_35 d66_35 rfl
theorem i66_38 : am_ins 66 38 = (53, 0, 0, 0, []) := by decide +kernel
theorem d66_38 : decode (am_cod 66) 38 = .ok (.return_, 1) := by decide +kernel
theorem s66_38 : am_SndR 66 38 := sn_vret i66_38 d66_38 rfl
theorem al66_0 (K : aK) : ∀ q ∈ [0, 1, 2, 3, 5, 8, 9, 12, 13, 14, 17, 18, 19, 20, 21, 24, 25, 26, 29, 30, 31, 32, 35, 38], am_All K 66 q := List.forall_mem_cons.mpr ⟨am_alS i66_0 (s66_0 K), List.forall_mem_cons.mpr ⟨am_alS i66_1 (s66_1 K), List.forall_mem_cons.mpr ⟨am_alS i66_2 (s66_2 K), List.forall_mem_cons.mpr ⟨am_alS i66_3 (s66_3 K), List.forall_mem_cons.mpr ⟨am_alS i66_5 (s66_5 K), List.forall_mem_cons.mpr ⟨am_alS i66_8 (s66_8 K), List.forall_mem_cons.mpr ⟨am_alS i66_9 (s66_9 K), List.forall_mem_cons.mpr ⟨am_alS i66_12 (s66_12 K), List.forall_mem_cons.mpr ⟨am_alS i66_13 (s66_13 K), List.forall_mem_cons.mpr ⟨am_alS i66_14 (s66_14 K), List.forall_mem_cons.mpr ⟨am_alS i66_17 (s66_17 K), List.forall_mem_cons.mpr ⟨am_alS i66_18 (s66_18 K), List.forall_mem_cons.mpr ⟨am_alS i66_19 (s66_19 K), List.forall_mem_cons.mpr ⟨am_alS i66_20 (s66_20 K), List.forall_mem_cons.mpr ⟨am_alS i66_21 (s66_21 K), List.forall_mem_cons.mpr ⟨am_alS i66_24 (s66_24 K), List.forall_mem_cons.mpr ⟨am_alS i66_25 (s66_25 K), List.forall_mem_cons.mpr ⟨am_alS i66_26 (s66_26 K), List.forall_mem_cons.mpr ⟨am_alS i66_29 (s66_29 K), List.forall_mem_cons.mpr ⟨am_alS i66_30 (s66_30 K), List.forall_mem_cons.mpr ⟨am_alS i66_31 (s66_31 K), List.forall_mem_cons.mpr ⟨am_alS i66_32 (s66_32 K), List.forall_mem_cons.mpr ⟨am_alS i66_35 (s66_35 K), List.forall_mem_cons.mpr ⟨am_alR i66_38 s66_38, fun _ h => absurd h List.not_mem_nil⟩⟩⟩⟩⟩⟩⟩⟩⟩⟩⟩⟩⟩⟩⟩⟩⟩⟩⟩⟩⟩⟩⟩⟩
set_option maxRecDepth 100000 in
theorem al66 (K : aK) : ∀ q ∈ (am_t66).map (fun z => z.1), am_All K 66 q := by
  have e : (am_t66).map (fun z => z.1) = [0, 1, 2, 3, 5, 8, 9, 12, 13, 14, 17, 18, 19, 20, 21, 24, 25, 26, 29, 30, 31, 32, 35, 38] := rfl
  rw [e]
  exact al66_0 K
theorem i67_0 : am_ins 67 0 = (1, 1, 1, 0, []) := by decide +kernel
theorem d67_0 : decode (am_cod 67) 0 = .ok (.iload_n 1, 1) := by decide +kernel
theorem s67_0 (K : aK) : am_Snd K 67 0 := sn_iload_n i67_0 d67_0 rfl
theorem i67_1 : am_ins 67 1 = (61, 22, 1, 0, []) := by decide +kernel
theorem d67_1 : decode (am_cod 67) 1 = .ok (.invokestatic 19, 3) := by decide +kernel
theorem s67_1 (K : aK) : am_SndC K 67 1 := sc_SN i67_1 d67_1 co22 nw_214 w_208 w_1 hd22
theorem i67_4 : am_ins 67 4 = (12, 0, 20, 0, []) := by decide +kernel
theorem d67_4 : decode (am_cod 67) 4 = .ok (.ifCond .eq 16, 3) := by decide +kernel
theorem s67_4 (K : aK) : am_Snd K 67 4 := sn_if_eq i67_4 d67_4 rfl
theorem i67_7 : am_ins 67 7 = (33, 0, 1, 0, []) := by decide +kernel
theorem d67_7 : decode (am_cod 67) 7 = .ok (.aload_n 0, 1) := by decide +kernel
theorem s67_7 (K : aK) : am_Snd K 67 7 := sn_aload_n i67_7 d67_7 rfl
theorem i67_8 : am_ins 67 8 = (18, 6, 0, 0, []) := by decide +kernel
theorem d67_8 : decode (am_cod 67) 8 = .ok (.getfield 9, 3) := by decide +kernel
theorem s67_8 (K : aK) : am_Snd K 67 8 := sn_get (C0 := CN6) (T := FT6) (Nf := 2) i67_8 d67_8 rfl (by decide +kernel) fin6 w_33 rfl
theorem i67_11 : am_ins 67 11 = (1, 1, 1, 0, []) := by decide +kernel
theorem d67_11 : decode (am_cod 67) 11 = .ok (.iload_n 1, 1) := by decide +kernel
theorem s67_11 (K : aK) : am_Snd K 67 11 := sn_iload_n i67_11 d67_11 rfl
theorem i67_12 : am_ins 67 12 = (24, 0, 0, 0, []) := by decide +kernel
theorem d67_12 : decode (am_cod 67) 12 = .ok (.baload, 1) := by decide +kernel
theorem s67_12 (K : aK) : am_Snd K 67 12 := sn_zald i67_12 d67_12 
theorem i67_13 : am_ins 67 13 = (12, 0, 20, 0, []) := by decide +kernel
theorem d67_13 : decode (am_cod 67) 13 = .ok (.ifCond .eq 7, 3) := by decide +kernel
theorem s67_13 (K : aK) : am_Snd K 67 13 := sn_if_eq i67_13 d67_13 rfl
theorem i67_16 : am_ins 67 16 = (0, 1, 0, 1, []) := by decide +kernel
theorem d67_16 : decode (am_cod 67) 16 = .ok (.iconst 1, 1) := by decide +kernel
theorem s67_16 (K : aK) : am_Snd K 67 16 := sn_const1 i67_16 d67_16 rfl
theorem i67_17 : am_ins 67 17 = (14, 21, 0, 0, []) := by decide +kernel
theorem d67_17 : decode (am_cod 67) 17 = .ok (.goto 4, 3) := by decide +kernel
theorem s67_17 (K : aK) : am_Snd K 67 17 := sn_goto i67_17 d67_17 rfl
theorem i67_20 : am_ins 67 20 = (0, 1, 0, 0, []) := by decide +kernel
theorem d67_20 : decode (am_cod 67) 20 = .ok (.iconst 0, 1) := by decide +kernel
theorem s67_20 (K : aK) : am_Snd K 67 20 := sn_const1 i67_20 d67_20 rfl
theorem i67_21 : am_ins 67 21 = (51, 0, 0, 0, []) := by decide +kernel
theorem d67_21 : decode (am_cod 67) 21 = .ok (.ireturn, 1) := by decide +kernel
theorem s67_21 : am_SndR 67 21 := sn_zret i67_21 d67_21 rfl
theorem al67_0 (K : aK) : ∀ q ∈ [0, 1, 4, 7, 8, 11, 12, 13, 16, 17, 20, 21], am_All K 67 q := List.forall_mem_cons.mpr ⟨am_alS i67_0 (s67_0 K), List.forall_mem_cons.mpr ⟨am_alC i67_1 (s67_1 K), List.forall_mem_cons.mpr ⟨am_alS i67_4 (s67_4 K), List.forall_mem_cons.mpr ⟨am_alS i67_7 (s67_7 K), List.forall_mem_cons.mpr ⟨am_alS i67_8 (s67_8 K), List.forall_mem_cons.mpr ⟨am_alS i67_11 (s67_11 K), List.forall_mem_cons.mpr ⟨am_alS i67_12 (s67_12 K), List.forall_mem_cons.mpr ⟨am_alS i67_13 (s67_13 K), List.forall_mem_cons.mpr ⟨am_alS i67_16 (s67_16 K), List.forall_mem_cons.mpr ⟨am_alS i67_17 (s67_17 K), List.forall_mem_cons.mpr ⟨am_alS i67_20 (s67_20 K), List.forall_mem_cons.mpr ⟨am_alR i67_21 s67_21, fun _ h => absurd h List.not_mem_nil⟩⟩⟩⟩⟩⟩⟩⟩⟩⟩⟩⟩
set_option maxRecDepth 100000 in
theorem al67 (K : aK) : ∀ q ∈ (am_t67).map (fun z => z.1), am_All K 67 q := by
  have e : (am_t67).map (fun z => z.1) = [0, 1, 4, 7, 8, 11, 12, 13, 16, 17, 20, 21] := rfl
  rw [e]
  exact al67_0 K
