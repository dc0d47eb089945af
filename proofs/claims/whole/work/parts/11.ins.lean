theorem i10_0 : am_ins 10 0 = (33, 0, 1, 0, []) := by decide +kernel
theorem d10_0 : decode (am_cod 10) 0 = .ok (.aload_n 0, 1) := by decide +kernel
theorem s10_0 (K : aK) : am_Snd K 10 0 := sn_aload_n i10_0 d10_0 rfl
theorem i10_1 : am_ins 10 1 = (1, 1, 1, 0, []) := by decide +kernel
theorem d10_1 : decode (am_cod 10) 1 = .ok (.iload_n 1, 1) := by decide +kernel
theorem s10_1 (K : aK) : am_Snd K 10 1 := sn_iload_n i10_1 d10_1 rfl
theorem i10_2 : am_ins 10 2 = (60, 16, 1, 0, []) := by decide +kernel
theorem d10_2 : decode (am_cod 10) 2 = .ok (.invokevirtual 46, 3) := by decide +kernel
theorem s10_2 (K : aK) : am_SndC K 10 2 := sc_V i10_2 d10_2 co16 w_158 w_160 ws_0 w_1 rfl (rr := (CN0, FT0, 5)) rfl rfl hd16
theorem i10_5 : am_ins 10 5 = (34, 3, 1, 0, []) := by decide +kernel
theorem d10_5 : decode (am_cod 10) 5 = .ok (.astore_n 3, 1) := by decide +kernel
theorem s10_5 (K : aK) : am_Snd K 10 5 := sn_astore_n i10_5 d10_5 rfl (by decide +kernel)
theorem i10_6 : am_ins 10 6 = (33, 3, 1, 0, []) := by decide +kernel
theorem d10_6 : decode (am_cod 10) 6 = .ok (.aload_n 3, 1) := by decide +kernel
theorem s10_6 (K : aK) : am_Snd K 10 6 := sn_aload_n i10_6 d10_6 rfl
theorem i10_7 : am_ins 10 7 = (16, 12, 0, 0, []) := by decide +kernel
theorem d10_7 : decode (am_cod 10) 7 = .ok (.ifnonnull 5, 3) := by decide +kernel
theorem s10_7 (K : aK) : am_Snd K 10 7 := sn_ifnonnull i10_7 d10_7 rfl
theorem i10_10 : am_ins 10 10 = (0, 1, 0, (-1), []) := by decide +kernel
theorem d10_10 : decode (am_cod 10) 10 = .ok (.iconst (-1), 1) := by decide +kernel
theorem s10_10 (K : aK) : am_Snd K 10 10 := sn_const1 i10_10 d10_10 rfl
theorem i10_11 : am_ins 10 11 = (50, 0, 0, 0, []) := by decide +kernel
theorem d10_11 : decode (am_cod 10) 11 = .ok (.ireturn, 1) := by decide +kernel
theorem s10_11 : am_SndR 10 11 := sn_iret i10_11 d10_11 rfl
theorem i10_12 : am_ins 10 12 = (1, 2, 1, 0, []) := by decide +kernel
theorem d10_12 : decode (am_cod 10) 12 = .ok (.iload_n 2, 1) := by decide +kernel
theorem s10_12 (K : aK) : am_Snd K 10 12 := sn_iload_n i10_12 d10_12 rfl
theorem i10_13 : am_ins 10 13 = (32, 67, 0, 0, [(0, 44), (1, 49), (2, 54), (3, 59)]) := by decide +kernel
theorem d10_13 : decode (am_cod 10) 13 = .ok (.tableswitch 54 0 3 #[31, 36, 41, 46], 31) := by decide +kernel
theorem s10_13 (K : aK) : am_Snd K 10 13 := sn_tsw (ts := [44, 49, 54, 59]) i10_13 d10_13 rfl (by decide) rfl (by decide)
theorem i10_44 : am_ins 10 44 = (33, 3, 1, 0, []) := by decide +kernel
theorem d10_44 : decode (am_cod 10) 44 = .ok (.aload_n 3, 1) := by decide +kernel
theorem s10_44 (K : aK) : am_Snd K 10 44 := sn_aload_n i10_44 d10_44 rfl
theorem i10_45 : am_ins 10 45 = (18, 1, 4, 0, []) := by decide +kernel
theorem d10_45 : decode (am_cod 10) 45 = .ok (.getfield 50, 3) := by decide +kernel
theorem s10_45 (K : aK) : am_Snd K 10 45 := sn_get (C0 := CN1) (T := FT1) (Nf := 7) i10_45 d10_45 rfl (by decide +kernel) fin1 w_52 rfl
theorem i10_48 : am_ins 10 48 = (50, 0, 0, 0, []) := by decide +kernel
theorem d10_48 : decode (am_cod 10) 48 = .ok (.ireturn, 1) := by decide +kernel
theorem s10_48 : am_SndR 10 48 := sn_iret i10_48 d10_48 rfl
theorem i10_49 : am_ins 10 49 = (33, 3, 1, 0, []) := by decide +kernel
theorem d10_49 : decode (am_cod 10) 49 = .ok (.aload_n 3, 1) := by decide +kernel
theorem s10_49 (K : aK) : am_Snd K 10 49 := sn_aload_n i10_49 d10_49 rfl
theorem i10_50 : am_ins 10 50 = (18, 1, 5, 0, []) := by decide +kernel
theorem d10_50 : decode (am_cod 10) 50 = .ok (.getfield 174, 3) := by decide +kernel
theorem s10_50 (K : aK) : am_Snd K 10 50 := sn_get (C0 := CN1) (T := FT1) (Nf := 7) i10_50 d10_50 rfl (by decide +kernel) fin1 w_56 rfl
theorem i10_53 : am_ins 10 53 = (50, 0, 0, 0, []) := by decide +kernel
theorem d10_53 : decode (am_cod 10) 53 = .ok (.ireturn, 1) := by decide +kernel
theorem s10_53 : am_SndR 10 53 := sn_iret i10_53 d10_53 rfl
theorem i10_54 : am_ins 10 54 = (33, 3, 1, 0, []) := by decide +kernel
theorem d10_54 : decode (am_cod 10) 54 = .ok (.aload_n 3, 1) := by decide +kernel
theorem s10_54 (K : aK) : am_Snd K 10 54 := sn_aload_n i10_54 d10_54 rfl
theorem i10_55 : am_ins 10 55 = (60, 38, 0, 0, []) := by decide +kernel
theorem d10_55 : decode (am_cod 10) 55 = .ok (.invokevirtual 177, 3) := by decide +kernel
theorem s10_55 (K : aK) : am_SndC K 10 55 := sc_V i10_55 d10_55 co38 w_466 w_467 w_468 w_2 rfl (rr := (CN1, FT1, 7)) rfl rfl hd38
theorem i10_58 : am_ins 10 58 = (50, 0, 0, 0, []) := by decide +kernel
theorem d10_58 : decode (am_cod 10) 58 = .ok (.ireturn, 1) := by decide +kernel
theorem s10_58 : am_SndR 10 58 := sn_iret i10_58 d10_58 rfl
theorem i10_59 : am_ins 10 59 = (33, 3, 1, 0, []) := by decide +kernel
theorem d10_59 : decode (am_cod 10) 59 = .ok (.aload_n 3, 1) := by decide +kernel
theorem s10_59 (K : aK) : am_Snd K 10 59 := sn_aload_n i10_59 d10_59 rfl
theorem i10_60 : am_ins 10 60 = (18, 1, 3, 0, []) := by decide +kernel
theorem d10_60 : decode (am_cod 10) 60 = .ok (.getfield 78, 3) := by decide +kernel
theorem s10_60 (K : aK) : am_Snd K 10 60 := sn_get (C0 := CN1) (T := FT1) (Nf := 7) i10_60 d10_60 rfl (by decide +kernel) fin1 w_51 rfl
theorem i10_63 : am_ins 10 63 = (60, 69, 0, 0, []) := by decide +kernel
theorem d10_63 : decode (am_cod 10) 63 = .ok (.invokevirtual 105, 3) := by decide +kernel
theorem s10_63 (K : aK) : am_SndC K 10 63 := sc_V i10_63 d10_63 co69 w_255 w_256 w_257 w_3 rfl (rr := (CN6, FT6, 2)) rfl rfl hd69
theorem i10_66 : am_ins 10 66 = (50, 0, 0, 0, []) := by decide +kernel
theorem d10_66 : decode (am_cod 10) 66 = .ok (.ireturn, 1) := by decide +kernel
theorem s10_66 : am_SndR 10 66 := sn_iret i10_66 d10_66 rfl
theorem i10_67 : am_ins 10 67 = (33, 3, 1, 0, []) := by decide +kernel
theorem d10_67 : decode (am_cod 10) 67 = .ok (.aload_n 3, 1) := by decide +kernel
theorem s10_67 (K : aK) : am_Snd K 10 67 := sn_aload_n i10_67 d10_67 rfl
theorem i10_68 : am_ins 10 68 = (18, 1, 1, 0, []) := by decide +kernel
theorem d10_68 : decode (am_cod 10) 68 = .ok (.getfield 180, 3) := by decide +kernel
theorem s10_68 (K : aK) : am_Snd K 10 68 := sn_get (C0 := CN1) (T := FT1) (Nf := 7) i10_68 d10_68 rfl (by decide +kernel) fin1 w_47 rfl
theorem i10_71 : am_ins 10 71 = (1, 2, 1, 0, []) := by decide +kernel
theorem d10_71 : decode (am_cod 10) 71 = .ok (.iload_n 2, 1) := by decide +kernel
theorem s10_71 (K : aK) : am_Snd K 10 71 := sn_iload_n i10_71 d10_71 rfl
theorem i10_72 : am_ins 10 72 = (0, 2, 0, 10, []) := by decide +kernel
theorem d10_72 : decode (am_cod 10) 72 = .ok (.bipush 10, 2) := by decide +kernel
theorem s10_72 (K : aK) : am_Snd K 10 72 := sn_const2 i10_72 d10_72 (by decide +kernel)
theorem i10_74 : am_ins 10 74 = (4, 1, 0, 0, []) := by decide +kernel
theorem d10_74 : decode (am_cod 10) 74 = .ok (.isub, 1) := by decide +kernel
theorem s10_74 (K : aK) : am_Snd K 10 74 := sn_sub i10_74 d10_74 
theorem i10_75 : am_ins 10 75 = (61, 25, 2, 0, []) := by decide +kernel
theorem d10_75 : decode (am_cod 10) 75 = .ok (.invokestatic 183, 3) := by decide +kernel
theorem s10_75 (K : aK) : am_SndC K 10 75 := sc_S i10_75 d10_75 co25 w_470 w_178 w_1 hd25
theorem i10_78 : am_ins 10 78 = (50, 0, 0, 0, []) := by decide +kernel
theorem d10_78 : decode (am_cod 10) 78 = .ok (.ireturn, 1) := by decide +kernel
theorem s10_78 : am_SndR 10 78 := sn_iret i10_78 d10_78 rfl
theorem al10_0 (K : aK) : ∀ q ∈ [0, 1, 2, 5, 6, 7, 10, 11, 12, 13, 44, 45, 48, 49, 50, 53, 54, 55, 58, 59, 60, 63, 66, 67, 68, 71, 72, 74, 75, 78], am_All K 10 q := List.forall_mem_cons.mpr ⟨am_alS i10_0 (s10_0 K), List.forall_mem_cons.mpr ⟨am_alS i10_1 (s10_1 K), List.forall_mem_cons.mpr ⟨am_alC i10_2 (s10_2 K), List.forall_mem_cons.mpr ⟨am_alS i10_5 (s10_5 K), List.forall_mem_cons.mpr ⟨am_alS i10_6 (s10_6 K), List.forall_mem_cons.mpr ⟨am_alS i10_7 (s10_7 K), List.forall_mem_cons.mpr ⟨am_alS i10_10 (s10_10 K), List.forall_mem_cons.mpr ⟨am_alR i10_11 s10_11, List.forall_mem_cons.mpr ⟨am_alS i10_12 (s10_12 K), List.forall_mem_cons.mpr ⟨am_alS i10_13 (s10_13 K), List.forall_mem_cons.mpr ⟨am_alS i10_44 (s10_44 K), List.forall_mem_cons.mpr ⟨am_alS i10_45 (s10_45 K), List.forall_mem_cons.mpr ⟨am_alR i10_48 s10_48, List.forall_mem_cons.mpr ⟨am_alS i10_49 (s10_49 K), List.forall_mem_cons.mpr ⟨am_alS i10_50 (s10_50 K), List.forall_mem_cons.mpr ⟨am_alR i10_53 s10_53, List.forall_mem_cons.mpr ⟨am_alS i10_54 (s10_54 K), List.forall_mem_cons.mpr ⟨am_alC i10_55 (s10_55 K), List.forall_mem_cons.mpr ⟨am_alR i10_58 s10_58, List.forall_mem_cons.mpr ⟨am_alS i10_59 (s10_59 K), List.forall_mem_cons.mpr ⟨am_alS i10_60 (s10_60 K), List.forall_mem_cons.mpr ⟨am_alC i10_63 (s10_63 K), List.forall_mem_cons.mpr ⟨am_alR i10_66 s10_66, List.forall_mem_cons.mpr ⟨am_alS i10_67 (s10_67 K), List.forall_mem_cons.mpr ⟨am_alS i10_68 (s10_68 K), List.forall_mem_cons.mpr ⟨am_alS i10_71 (s10_71 K), List.forall_mem_cons.mpr ⟨am_alS i10_72 (s10_72 K), List.forall_mem_cons.mpr ⟨am_alS i10_74 (s10_74 K), List.forall_mem_cons.mpr ⟨am_alC i10_75 (s10_75 K), List.forall_mem_cons.mpr ⟨am_alR i10_78 s10_78, fun _ h => absurd h List.not_mem_nil⟩⟩⟩⟩⟩⟩⟩⟩⟩⟩⟩⟩⟩⟩⟩⟩⟩⟩⟩⟩⟩⟩⟩⟩⟩⟩⟩⟩⟩⟩
set_option maxRecDepth 100000 in
theorem al10 (K : aK) : ∀ q ∈ (am_t10).map (fun z => z.1), am_All K 10 q := by
  have e : (am_t10).map (fun z => z.1) = [0, 1, 2, 5, 6, 7, 10, 11, 12, 13, 44, 45, 48, 49, 50, 53, 54, 55, 58, 59, 60, 63, 66, 67, 68, 71, 72, 74, 75, 78] := rfl
  rw [e]
  exact al10_0 K
theorem i11_0 : am_ins 11 0 = (33, 0, 1, 0, []) := by decide +kernel
theorem d11_0 : decode (am_cod 11) 0 = .ok (.aload_n 0, 1) := by decide +kernel
theorem s11_0 (K : aK) : am_Snd K 11 0 := sn_aload_n i11_0 d11_0 rfl
theorem i11_1 : am_ins 11 1 = (1, 1, 1, 0, []) := by decide +kernel
theorem d11_1 : decode (am_cod 11) 1 = .ok (.iload_n 1, 1) := by decide +kernel
theorem s11_1 (K : aK) : am_Snd K 11 1 := sn_iload_n i11_1 d11_1 rfl
theorem i11_2 : am_ins 11 2 = (60, 18, 1, 0, []) := by decide +kernel
theorem d11_2 : decode (am_cod 11) 2 = .ok (.invokevirtual 60, 3) := by decide +kernel
theorem s11_2 (K : aK) : am_SndC K 11 2 := sc_V i11_2 d11_2 co18 w_165 w_167 ws_1 w_1 rfl (rr := (CN0, FT0, 5)) rfl rfl hd18
theorem i11_5 : am_ins 11 5 = (34, 3, 1, 0, []) := by decide +kernel
theorem d11_5 : decode (am_cod 11) 5 = .ok (.astore_n 3, 1) := by decide +kernel
theorem s11_5 (K : aK) : am_Snd K 11 5 := sn_astore_n i11_5 d11_5 rfl (by decide +kernel)
theorem i11_6 : am_ins 11 6 = (33, 3, 1, 0, []) := by decide +kernel
theorem d11_6 : decode (am_cod 11) 6 = .ok (.aload_n 3, 1) := by decide +kernel
theorem s11_6 (K : aK) : am_Snd K 11 6 := sn_aload_n i11_6 d11_6 rfl
theorem i11_7 : am_ins 11 7 = (16, 12, 0, 0, []) := by decide +kernel
theorem d11_7 : decode (am_cod 11) 7 = .ok (.ifnonnull 5, 3) := by decide +kernel
theorem s11_7 (K : aK) : am_Snd K 11 7 := sn_ifnonnull i11_7 d11_7 rfl
theorem i11_10 : am_ins 11 10 = (0, 1, 0, (-1), []) := by decide +kernel
theorem d11_10 : decode (am_cod 11) 10 = .ok (.iconst (-1), 1) := by decide +kernel
theorem s11_10 (K : aK) : am_Snd K 11 10 := sn_const1 i11_10 d11_10 rfl
theorem i11_11 : am_ins 11 11 = (50, 0, 0, 0, []) := by decide +kernel
theorem d11_11 : decode (am_cod 11) 11 = .ok (.ireturn, 1) := by decide +kernel
theorem s11_11 : am_SndR 11 11 := sn_iret i11_11 d11_11 rfl
theorem i11_12 : am_ins 11 12 = (1, 2, 1, 0, []) := by decide +kernel
theorem d11_12 : decode (am_cod 11) 12 = .ok (.iload_n 2, 1) := by decide +kernel
theorem s11_12 (K : aK) : am_Snd K 11 12 := sn_iload_n i11_12 d11_12 rfl
theorem i11_13 : am_ins 11 13 = (0, 2, 0, 30, []) := by decide +kernel
theorem d11_13 : decode (am_cod 11) 13 = .ok (.bipush 30, 2) := by decide +kernel
theorem s11_13 (K : aK) : am_Snd K 11 13 := sn_const2 i11_13 d11_13 (by decide +kernel)
theorem i11_15 : am_ins 11 15 = (4, 1, 0, 0, []) := by decide +kernel
theorem d11_15 : decode (am_cod 11) 15 = .ok (.isub, 1) := by decide +kernel
theorem s11_15 (K : aK) : am_Snd K 11 15 := sn_sub i11_15 d11_15 
theorem i11_16 : am_ins 11 16 = (61, 21, 1, 0, []) := by decide +kernel
theorem d11_16 : decode (am_cod 11) 16 = .ok (.invokestatic 187, 3) := by decide +kernel
theorem s11_16 (K : aK) : am_SndC K 11 16 := sc_S i11_16 d11_16 co21 w_475 w_438 w_1 hd21
theorem i11_19 : am_ins 11 19 = (12, 0, 31, 0, []) := by decide +kernel
theorem d11_19 : decode (am_cod 11) 19 = .ok (.ifCond .eq 12, 3) := by decide +kernel
theorem s11_19 (K : aK) : am_Snd K 11 19 := sn_if_eq i11_19 d11_19 rfl
theorem i11_22 : am_ins 11 22 = (33, 3, 1, 0, []) := by decide +kernel
theorem d11_22 : decode (am_cod 11) 22 = .ok (.aload_n 3, 1) := by decide +kernel
theorem s11_22 (K : aK) : am_Snd K 11 22 := sn_aload_n i11_22 d11_22 rfl
theorem i11_23 : am_ins 11 23 = (1, 2, 1, 0, []) := by decide +kernel
theorem d11_23 : decode (am_cod 11) 23 = .ok (.iload_n 2, 1) := by decide +kernel
theorem s11_23 (K : aK) : am_Snd K 11 23 := sn_iload_n i11_23 d11_23 rfl
theorem i11_24 : am_ins 11 24 = (0, 2, 0, 30, []) := by decide +kernel
theorem d11_24 : decode (am_cod 11) 24 = .ok (.bipush 30, 2) := by decide +kernel
theorem s11_24 (K : aK) : am_Snd K 11 24 := sn_const2 i11_24 d11_24 (by decide +kernel)
theorem i11_26 : am_ins 11 26 = (4, 1, 0, 0, []) := by decide +kernel
theorem d11_26 : decode (am_cod 11) 26 = .ok (.isub, 1) := by decide +kernel
theorem s11_26 (K : aK) : am_Snd K 11 26 := sn_sub i11_26 d11_26 
theorem i11_27 : am_ins 11 27 = (60, 46, 1, 0, []) := by decide +kernel
theorem d11_27 : decode (am_cod 11) 27 = .ok (.invokevirtual 190, 3) := by decide +kernel
theorem s11_27 (K : aK) : am_SndC K 11 27 := sc_V i11_27 d11_27 co46 w_476 w_174 w_175 w_4 rfl (rr := (CN4, FT4, 9)) rfl rfl hd46
theorem i11_30 : am_ins 11 30 = (50, 0, 0, 0, []) := by decide +kernel
theorem d11_30 : decode (am_cod 11) 30 = .ok (.ireturn, 1) := by decide +kernel
theorem s11_30 : am_SndR 11 30 := sn_iret i11_30 d11_30 rfl
theorem i11_31 : am_ins 11 31 = (1, 2, 1, 0, []) := by decide +kernel
theorem d11_31 : decode (am_cod 11) 31 = .ok (.iload_n 2, 1) := by decide +kernel
theorem s11_31 (K : aK) : am_Snd K 11 31 := sn_iload_n i11_31 d11_31 rfl
theorem i11_32 : am_ins 11 32 = (0, 2, 0, 20, []) := by decide +kernel
theorem d11_32 : decode (am_cod 11) 32 = .ok (.bipush 20, 2) := by decide +kernel
theorem s11_32 (K : aK) : am_Snd K 11 32 := sn_const2 i11_32 d11_32 (by decide +kernel)
theorem i11_34 : am_ins 11 34 = (4, 1, 0, 0, []) := by decide +kernel
theorem d11_34 : decode (am_cod 11) 34 = .ok (.isub, 1) := by decide +kernel
theorem s11_34 (K : aK) : am_Snd K 11 34 := sn_sub i11_34 d11_34 
theorem i11_35 : am_ins 11 35 = (61, 21, 1, 0, []) := by decide +kernel
theorem d11_35 : decode (am_cod 11) 35 = .ok (.invokestatic 187, 3) := by decide +kernel
theorem s11_35 (K : aK) : am_SndC K 11 35 := sc_S i11_35 d11_35 co21 w_475 w_438 w_1 hd21
theorem i11_38 : am_ins 11 38 = (12, 0, 53, 0, []) := by decide +kernel
theorem d11_38 : decode (am_cod 11) 38 = .ok (.ifCond .eq 15, 3) := by decide +kernel
theorem s11_38 (K : aK) : am_Snd K 11 38 := sn_if_eq i11_38 d11_38 rfl
theorem i11_41 : am_ins 11 41 = (33, 3, 1, 0, []) := by decide +kernel
theorem d11_41 : decode (am_cod 11) 41 = .ok (.aload_n 3, 1) := by decide +kernel
theorem s11_41 (K : aK) : am_Snd K 11 41 := sn_aload_n i11_41 d11_41 rfl
theorem i11_42 : am_ins 11 42 = (18, 4, 3, 0, []) := by decide +kernel
theorem d11_42 : decode (am_cod 11) 42 = .ok (.getfield 193, 3) := by decide +kernel
theorem s11_42 (K : aK) : am_Snd K 11 42 := sn_get (C0 := CN4) (T := FT4) (Nf := 9) i11_42 d11_42 rfl (by decide +kernel) fin4 w_88 rfl
theorem i11_45 : am_ins 11 45 = (1, 2, 1, 0, []) := by decide +kernel
theorem d11_45 : decode (am_cod 11) 45 = .ok (.iload_n 2, 1) := by decide +kernel
theorem s11_45 (K : aK) : am_Snd K 11 45 := sn_iload_n i11_45 d11_45 rfl
theorem i11_46 : am_ins 11 46 = (0, 2, 0, 20, []) := by decide +kernel
theorem d11_46 : decode (am_cod 11) 46 = .ok (.bipush 20, 2) := by decide +kernel
theorem s11_46 (K : aK) : am_Snd K 11 46 := sn_const2 i11_46 d11_46 (by decide +kernel)
theorem i11_48 : am_ins 11 48 = (4, 1, 0, 0, []) := by decide +kernel
theorem d11_48 : decode (am_cod 11) 48 = .ok (.isub, 1) := by decide +kernel
theorem s11_48 (K : aK) : am_Snd K 11 48 := sn_sub i11_48 d11_48 
theorem i11_49 : am_ins 11 49 = (61, 25, 2, 0, []) := by decide +kernel
theorem d11_49 : decode (am_cod 11) 49 = .ok (.invokestatic 183, 3) := by decide +kernel
theorem s11_49 (K : aK) : am_SndC K 11 49 := sc_S i11_49 d11_49 co25 w_470 w_178 w_1 hd25
theorem i11_52 : am_ins 11 52 = (50, 0, 0, 0, []) := by decide +kernel
theorem d11_52 : decode (am_cod 11) 52 = .ok (.ireturn, 1) := by decide +kernel
theorem s11_52 : am_SndR 11 52 := sn_iret i11_52 d11_52 rfl
theorem i11_53 : am_ins 11 53 = (1, 2, 1, 0, []) := by decide +kernel
theorem d11_53 : decode (am_cod 11) 53 = .ok (.iload_n 2, 1) := by decide +kernel
theorem s11_53 (K : aK) : am_Snd K 11 53 := sn_iload_n i11_53 d11_53 rfl
theorem i11_54 : am_ins 11 54 = (32, 106, 0, 0, [(0, 84), (1, 89), (2, 95), (3, 101)]) := by decide +kernel
theorem d11_54 : decode (am_cod 11) 54 = .ok (.tableswitch 52 0 3 #[30, 35, 41, 47], 30) := by decide +kernel
theorem s11_54 (K : aK) : am_Snd K 11 54 := sn_tsw (ts := [84, 89, 95, 101]) i11_54 d11_54 rfl (by decide) rfl (by decide)
theorem i11_84 : am_ins 11 84 = (33, 3, 1, 0, []) := by decide +kernel
theorem d11_84 : decode (am_cod 11) 84 = .ok (.aload_n 3, 1) := by decide +kernel
theorem s11_84 (K : aK) : am_Snd K 11 84 := sn_aload_n i11_84 d11_84 rfl
theorem i11_85 : am_ins 11 85 = (18, 4, 8, 0, []) := by decide +kernel
theorem d11_85 : decode (am_cod 11) 85 = .ok (.getfield 123, 3) := by decide +kernel
theorem s11_85 (K : aK) : am_Snd K 11 85 := sn_get (C0 := CN4) (T := FT4) (Nf := 9) i11_85 d11_85 rfl (by decide +kernel) fin4 w_95 rfl
theorem i11_88 : am_ins 11 88 = (50, 0, 0, 0, []) := by decide +kernel
theorem d11_88 : decode (am_cod 11) 88 = .ok (.ireturn, 1) := by decide +kernel
theorem s11_88 : am_SndR 11 88 := sn_iret i11_88 d11_88 rfl
theorem i11_89 : am_ins 11 89 = (33, 3, 1, 0, []) := by decide +kernel
theorem d11_89 : decode (am_cod 11) 89 = .ok (.aload_n 3, 1) := by decide +kernel
theorem s11_89 (K : aK) : am_Snd K 11 89 := sn_aload_n i11_89 d11_89 rfl
theorem i11_90 : am_ins 11 90 = (0, 1, 0, 1, []) := by decide +kernel
theorem d11_90 : decode (am_cod 11) 90 = .ok (.iconst 1, 1) := by decide +kernel
theorem s11_90 (K : aK) : am_Snd K 11 90 := sn_const1 i11_90 d11_90 rfl
theorem i11_91 : am_ins 11 91 = (60, 51, 1, 0, []) := by decide +kernel
theorem d11_91 : decode (am_cod 11) 91 = .ok (.invokevirtual 196, 3) := by decide +kernel
theorem s11_91 (K : aK) : am_SndC K 11 91 := sc_V i11_91 d11_91 co51 w_477 w_478 w_479 w_4 rfl (rr := (CN4, FT4, 9)) rfl rfl hd51
theorem i11_94 : am_ins 11 94 = (50, 0, 0, 0, []) := by decide +kernel
theorem d11_94 : decode (am_cod 11) 94 = .ok (.ireturn, 1) := by decide +kernel
theorem s11_94 : am_SndR 11 94 := sn_iret i11_94 d11_94 rfl
theorem i11_95 : am_ins 11 95 = (33, 3, 1, 0, []) := by decide +kernel
theorem d11_95 : decode (am_cod 11) 95 = .ok (.aload_n 3, 1) := by decide +kernel
theorem s11_95 (K : aK) : am_Snd K 11 95 := sn_aload_n i11_95 d11_95 rfl
theorem i11_96 : am_ins 11 96 = (0, 1, 0, 2, []) := by decide +kernel
theorem d11_96 : decode (am_cod 11) 96 = .ok (.iconst 2, 1) := by decide +kernel
theorem s11_96 (K : aK) : am_Snd K 11 96 := sn_const1 i11_96 d11_96 rfl
theorem i11_97 : am_ins 11 97 = (60, 51, 1, 0, []) := by decide +kernel
theorem d11_97 : decode (am_cod 11) 97 = .ok (.invokevirtual 196, 3) := by decide +kernel
theorem s11_97 (K : aK) : am_SndC K 11 97 := sc_V i11_97 d11_97 co51 w_477 w_478 w_479 w_4 rfl (rr := (CN4, FT4, 9)) rfl rfl hd51
theorem i11_100 : am_ins 11 100 = (50, 0, 0, 0, []) := by decide +kernel
theorem d11_100 : decode (am_cod 11) 100 = .ok (.ireturn, 1) := by decide +kernel
theorem s11_100 : am_SndR 11 100 := sn_iret i11_100 d11_100 rfl
theorem i11_101 : am_ins 11 101 = (33, 3, 1, 0, []) := by decide +kernel
theorem d11_101 : decode (am_cod 11) 101 = .ok (.aload_n 3, 1) := by decide +kernel
theorem s11_101 (K : aK) : am_Snd K 11 101 := sn_aload_n i11_101 d11_101 rfl
theorem i11_102 : am_ins 11 102 = (18, 4, 7, 0, []) := by decide +kernel
theorem d11_102 : decode (am_cod 11) 102 = .ok (.getfield 199, 3) := by decide +kernel
theorem s11_102 (K : aK) : am_Snd K 11 102 := sn_get (C0 := CN4) (T := FT4) (Nf := 9) i11_102 d11_102 rfl (by decide +kernel) fin4 w_92 rfl
theorem i11_105 : am_ins 11 105 = (50, 0, 0, 0, []) := by decide +kernel
theorem d11_105 : decode (am_cod 11) 105 = .ok (.ireturn, 1) := by decide +kernel
theorem s11_105 : am_SndR 11 105 := sn_iret i11_105 d11_105 rfl
theorem i11_106 : am_ins 11 106 = (33, 3, 1, 0, []) := by decide +kernel
theorem d11_106 : decode (am_cod 11) 106 = .ok (.aload_n 3, 1) := by decide +kernel
theorem s11_106 (K : aK) : am_Snd K 11 106 := sn_aload_n i11_106 d11_106 rfl
theorem i11_107 : am_ins 11 107 = (18, 4, 2, 0, []) := by decide +kernel
theorem d11_107 : decode (am_cod 11) 107 = .ok (.getfield 143, 3) := by decide +kernel
theorem s11_107 (K : aK) : am_Snd K 11 107 := sn_get (C0 := CN4) (T := FT4) (Nf := 9) i11_107 d11_107 rfl (by decide +kernel) fin4 w_86 rfl
theorem i11_110 : am_ins 11 110 = (1, 2, 1, 0, []) := by decide +kernel
theorem d11_110 : decode (am_cod 11) 110 = .ok (.iload_n 2, 1) := by decide +kernel
theorem s11_110 (K : aK) : am_Snd K 11 110 := sn_iload_n i11_110 d11_110 rfl
theorem i11_111 : am_ins 11 111 = (0, 2, 0, 10, []) := by decide +kernel
theorem d11_111 : decode (am_cod 11) 111 = .ok (.bipush 10, 2) := by decide +kernel
theorem s11_111 (K : aK) : am_Snd K 11 111 := sn_const2 i11_111 d11_111 (by decide +kernel)
theorem i11_113 : am_ins 11 113 = (4, 1, 0, 0, []) := by decide +kernel
theorem d11_113 : decode (am_cod 11) 113 = .ok (.isub, 1) := by decide +kernel
theorem s11_113 (K : aK) : am_Snd K 11 113 := sn_sub i11_113 d11_113 
theorem i11_114 : am_ins 11 114 = (61, 25, 2, 0, []) := by decide +kernel
theorem d11_114 : decode (am_cod 11) 114 = .ok (.invokestatic 183, 3) := by decide +kernel
theorem s11_114 (K : aK) : am_SndC K 11 114 := sc_S i11_114 d11_114 co25 w_470 w_178 w_1 hd25
theorem i11_117 : am_ins 11 117 = (50, 0, 0, 0, []) := by decide +kernel
theorem d11_117 : decode (am_cod 11) 117 = .ok (.ireturn, 1) := by decide +kernel
theorem s11_117 : am_SndR 11 117 := sn_iret i11_117 d11_117 rfl
theorem al11_0 (K : aK) : ∀ q ∈ [0, 1, 2, 5, 6, 7, 10, 11, 12, 13, 15, 16, 19, 22, 23, 24, 26, 27, 30, 31, 32, 34, 35, 38, 41, 42, 45, 46, 48, 49], am_All K 11 q := List.forall_mem_cons.mpr ⟨am_alS i11_0 (s11_0 K), List.forall_mem_cons.mpr ⟨am_alS i11_1 (s11_1 K), List.forall_mem_cons.mpr ⟨am_alC i11_2 (s11_2 K), List.forall_mem_cons.mpr ⟨am_alS i11_5 (s11_5 K), List.forall_mem_cons.mpr ⟨am_alS i11_6 (s11_6 K), List.forall_mem_cons.mpr ⟨am_alS i11_7 (s11_7 K), List.forall_mem_cons.mpr ⟨am_alS i11_10 (s11_10 K), List.forall_mem_cons.mpr ⟨am_alR i11_11 s11_11, List.forall_mem_cons.mpr ⟨am_alS i11_12 (s11_12 K), List.forall_mem_cons.mpr ⟨am_alS i11_13 (s11_13 K), List.forall_mem_cons.mpr ⟨am_alS i11_15 (s11_15 K), List.forall_mem_cons.mpr ⟨am_alC i11_16 (s11_16 K), List.forall_mem_cons.mpr ⟨am_alS i11_19 (s11_19 K), List.forall_mem_cons.mpr ⟨am_alS i11_22 (s11_22 K), List.forall_mem_cons.mpr ⟨am_alS i11_23 (s11_23 K), List.forall_mem_cons.mpr ⟨am_alS i11_24 (s11_24 K), List.forall_mem_cons.mpr ⟨am_alS i11_26 (s11_26 K), List.forall_mem_cons.mpr ⟨am_alC i11_27 (s11_27 K), List.forall_mem_cons.mpr ⟨am_alR i11_30 s11_30, List.forall_mem_cons.mpr ⟨am_alS i11_31 (s11_31 K), List.forall_mem_cons.mpr ⟨am_alS i11_32 (s11_32 K), List.forall_mem_cons.mpr ⟨am_alS i11_34 (s11_34 K), List.forall_mem_cons.mpr ⟨am_alC i11_35 (s11_35 K), List.forall_mem_cons.mpr ⟨am_alS i11_38 (s11_38 K), List.forall_mem_cons.mpr ⟨am_alS i11_41 (s11_41 K), List.forall_mem_cons.mpr ⟨am_alS i11_42 (s11_42 K), List.forall_mem_cons.mpr ⟨am_alS i11_45 (s11_45 K), List.forall_mem_cons.mpr ⟨am_alS i11_46 (s11_46 K), List.forall_mem_cons.mpr ⟨am_alS i11_48 (s11_48 K), List.forall_mem_cons.mpr ⟨am_alC i11_49 (s11_49 K), fun _ h => absurd h List.not_mem_nil⟩⟩⟩⟩⟩⟩⟩⟩⟩⟩⟩⟩⟩⟩⟩⟩⟩⟩⟩⟩⟩⟩⟩⟩⟩⟩⟩⟩⟩⟩
theorem al11_1 (K : aK) : ∀ q ∈ [52, 53, 54, 84, 85, 88, 89, 90, 91, 94, 95, 96, 97, 100, 101, 102, 105, 106, 107, 110, 111, 113, 114, 117], am_All K 11 q := List.forall_mem_cons.mpr ⟨am_alR i11_52 s11_52, List.forall_mem_cons.mpr ⟨am_alS i11_53 (s11_53 K), List.forall_mem_cons.mpr ⟨am_alS i11_54 (s11_54 K), List.forall_mem_cons.mpr ⟨am_alS i11_84 (s11_84 K), List.forall_mem_cons.mpr ⟨am_alS i11_85 (s11_85 K), List.forall_mem_cons.mpr ⟨am_alR i11_88 s11_88, List.forall_mem_cons.mpr ⟨am_alS i11_89 (s11_89 K), List.forall_mem_cons.mpr ⟨am_alS i11_90 (s11_90 K), List.forall_mem_cons.mpr ⟨am_alC i11_91 (s11_91 K), List.forall_mem_cons.mpr ⟨am_alR i11_94 s11_94, List.forall_mem_cons.mpr ⟨am_alS i11_95 (s11_95 K), List.forall_mem_cons.mpr ⟨am_alS i11_96 (s11_96 K), List.forall_mem_cons.mpr ⟨am_alC i11_97 (s11_97 K), List.forall_mem_cons.mpr ⟨am_alR i11_100 s11_100, List.forall_mem_cons.mpr ⟨am_alS i11_101 (s11_101 K), List.forall_mem_cons.mpr ⟨am_alS i11_102 (s11_102 K), List.forall_mem_cons.mpr ⟨am_alR i11_105 s11_105, List.forall_mem_cons.mpr ⟨am_alS i11_106 (s11_106 K), List.forall_mem_cons.mpr ⟨am_alS i11_107 (s11_107 K), List.forall_mem_cons.mpr ⟨am_alS i11_110 (s11_110 K), List.forall_mem_cons.mpr ⟨am_alS i11_111 (s11_111 K), List.forall_mem_cons.mpr ⟨am_alS i11_113 (s11_113 K), List.forall_mem_cons.mpr ⟨am_alC i11_114 (s11_114 K), List.forall_mem_cons.mpr ⟨am_alR i11_117 s11_117, fun _ h => absurd h List.not_mem_nil⟩⟩⟩⟩⟩⟩⟩⟩⟩⟩⟩⟩⟩⟩⟩⟩⟩⟩⟩⟩⟩⟩⟩⟩
set_option maxRecDepth 100000 in
theorem al11 (K : aK) : ∀ q ∈ (am_t11).map (fun z => z.1), am_All K 11 q := by
  have e : (am_t11).map (fun z => z.1) = [0, 1, 2, 5, 6, 7, 10, 11, 12, 13, 15, 16, 19, 22, 23, 24, 26, 27, 30, 31, 32, 34, 35, 38, 41, 42, 45, 46, 48, 49] ++ ([52, 53, 54, 84, 85, 88, 89, 90, 91, 94, 95, 96, 97, 100, 101, 102, 105, 106, 107, 110, 111, 113, 114, 117]) := rfl
  rw [e]
  exact List.forall_mem_append.mpr ⟨al11_0 K, al11_1 K⟩
theorem i12_0 : am_ins 12 0 = (33, 0, 1, 0, []) := by decide +kernel
theorem d12_0 : decode (am_cod 12) 0 = .ok (.aload_n 0, 1) := by decide +kernel
theorem s12_0 (K : aK) : am_Snd K 12 0 := sn_aload_n i12_0 d12_0 rfl
theorem i12_1 : am_ins 12 1 = (1, 1, 1, 0, []) := by decide +kernel
theorem d12_1 : decode (am_cod 12) 1 = .ok (.iload_n 1, 1) := by decide +kernel
theorem s12_1 (K : aK) : am_Snd K 12 1 := sn_iload_n i12_1 d12_1 rfl
theorem i12_2 : am_ins 12 2 = (60, 19, 1, 0, []) := by decide +kernel
theorem d12_2 : decode (am_cod 12) 2 = .ok (.invokevirtual 202, 3) := by decide +kernel
theorem s12_2 (K : aK) : am_SndC K 12 2 := sc_V i12_2 d12_2 co19 w_403 w_405 ws_9 w_1 rfl (rr := (CN0, FT0, 5)) rfl rfl hd19
theorem i12_5 : am_ins 12 5 = (34, 3, 1, 0, []) := by decide +kernel
theorem d12_5 : decode (am_cod 12) 5 = .ok (.astore_n 3, 1) := by decide +kernel
theorem s12_5 (K : aK) : am_Snd K 12 5 := sn_astore_n i12_5 d12_5 rfl (by decide +kernel)
theorem i12_6 : am_ins 12 6 = (33, 3, 1, 0, []) := by decide +kernel
theorem d12_6 : decode (am_cod 12) 6 = .ok (.aload_n 3, 1) := by decide +kernel
theorem s12_6 (K : aK) : am_Snd K 12 6 := sn_aload_n i12_6 d12_6 rfl
theorem i12_7 : am_ins 12 7 = (16, 12, 0, 0, []) := by decide +kernel
theorem d12_7 : decode (am_cod 12) 7 = .ok (.ifnonnull 5, 3) := by decide +kernel
theorem s12_7 (K : aK) : am_Snd K 12 7 := sn_ifnonnull i12_7 d12_7 rfl
theorem i12_10 : am_ins 12 10 = (0, 1, 0, (-1), []) := by decide +kernel
theorem d12_10 : decode (am_cod 12) 10 = .ok (.iconst (-1), 1) := by decide +kernel
theorem s12_10 (K : aK) : am_Snd K 12 10 := sn_const1 i12_10 d12_10 rfl
theorem i12_11 : am_ins 12 11 = (50, 0, 0, 0, []) := by decide +kernel
theorem d12_11 : decode (am_cod 12) 11 = .ok (.ireturn, 1) := by decide +kernel
theorem s12_11 : am_SndR 12 11 := sn_iret i12_11 d12_11 rfl
theorem i12_12 : am_ins 12 12 = (1, 2, 1, 0, []) := by decide +kernel
theorem d12_12 : decode (am_cod 12) 12 = .ok (.iload_n 2, 1) := by decide +kernel
theorem s12_12 (K : aK) : am_Snd K 12 12 := sn_iload_n i12_12 d12_12 rfl
theorem i12_13 : am_ins 12 13 = (0, 2, 0, 10, []) := by decide +kernel
theorem d12_13 : decode (am_cod 12) 13 = .ok (.bipush 10, 2) := by decide +kernel
theorem s12_13 (K : aK) : am_Snd K 12 13 := sn_const2 i12_13 d12_13 (by decide +kernel)
theorem i12_15 : am_ins 12 15 = (4, 1, 0, 0, []) := by decide +kernel
theorem d12_15 : decode (am_cod 12) 15 = .ok (.isub, 1) := by decide +kernel
theorem s12_15 (K : aK) : am_Snd K 12 15 := sn_sub i12_15 d12_15 
theorem i12_16 : am_ins 12 16 = (61, 21, 1, 0, []) := by decide +kernel
theorem d12_16 : decode (am_cod 12) 16 = .ok (.invokestatic 187, 3) := by decide +kernel
theorem s12_16 (K : aK) : am_SndC K 12 16 := sc_S i12_16 d12_16 co21 w_475 w_438 w_1 hd21
theorem i12_19 : am_ins 12 19 = (12, 0, 31, 0, []) := by decide +kernel
theorem d12_19 : decode (am_cod 12) 19 = .ok (.ifCond .eq 12, 3) := by decide +kernel
theorem s12_19 (K : aK) : am_Snd K 12 19 := sn_if_eq i12_19 d12_19 rfl
theorem i12_22 : am_ins 12 22 = (33, 3, 1, 0, []) := by decide +kernel
theorem d12_22 : decode (am_cod 12) 22 = .ok (.aload_n 3, 1) := by decide +kernel
theorem s12_22 (K : aK) : am_Snd K 12 22 := sn_aload_n i12_22 d12_22 rfl
theorem i12_23 : am_ins 12 23 = (1, 2, 1, 0, []) := by decide +kernel
theorem d12_23 : decode (am_cod 12) 23 = .ok (.iload_n 2, 1) := by decide +kernel
theorem s12_23 (K : aK) : am_Snd K 12 23 := sn_iload_n i12_23 d12_23 rfl
theorem i12_24 : am_ins 12 24 = (0, 2, 0, 10, []) := by decide +kernel
theorem d12_24 : decode (am_cod 12) 24 = .ok (.bipush 10, 2) := by decide +kernel
theorem s12_24 (K : aK) : am_Snd K 12 24 := sn_const2 i12_24 d12_24 (by decide +kernel)
theorem i12_26 : am_ins 12 26 = (4, 1, 0, 0, []) := by decide +kernel
theorem d12_26 : decode (am_cod 12) 26 = .ok (.isub, 1) := by decide +kernel
theorem s12_26 (K : aK) : am_Snd K 12 26 := sn_sub i12_26 d12_26 
theorem i12_27 : am_ins 12 27 = (60, 60, 1, 0, []) := by decide +kernel
theorem d12_27 : decode (am_cod 12) 27 = .ok (.invokevirtual 206, 3) := by decide +kernel
theorem s12_27 (K : aK) : am_SndC K 12 27 := sc_V i12_27 d12_27 co60 w_485 w_195 w_196 w_8 rfl (rr := (CN5, FT5, 8)) rfl rfl hd60
theorem i12_30 : am_ins 12 30 = (50, 0, 0, 0, []) := by decide +kernel
theorem d12_30 : decode (am_cod 12) 30 = .ok (.ireturn, 1) := by decide +kernel
theorem s12_30 : am_SndR 12 30 := sn_iret i12_30 d12_30 rfl
theorem i12_31 : am_ins 12 31 = (1, 2, 1, 0, []) := by decide +kernel
theorem d12_31 : decode (am_cod 12) 31 = .ok (.iload_n 2, 1) := by decide +kernel
theorem s12_31 (K : aK) : am_Snd K 12 31 := sn_iload_n i12_31 d12_31 rfl
theorem i12_32 : am_ins 12 32 = (0, 2, 0, 20, []) := by decide +kernel
theorem d12_32 : decode (am_cod 12) 32 = .ok (.bipush 20, 2) := by decide +kernel
theorem s12_32 (K : aK) : am_Snd K 12 32 := sn_const2 i12_32 d12_32 (by decide +kernel)
theorem i12_34 : am_ins 12 34 = (4, 1, 0, 0, []) := by decide +kernel
theorem d12_34 : decode (am_cod 12) 34 = .ok (.isub, 1) := by decide +kernel
theorem s12_34 (K : aK) : am_Snd K 12 34 := sn_sub i12_34 d12_34 
theorem i12_35 : am_ins 12 35 = (61, 22, 1, 0, []) := by decide +kernel
theorem d12_35 : decode (am_cod 12) 35 = .ok (.invokestatic 74, 3) := by decide +kernel
theorem s12_35 (K : aK) : am_SndC K 12 35 := sc_S i12_35 d12_35 co22 w_207 w_208 w_1 hd22
theorem i12_38 : am_ins 12 38 = (12, 0, 61, 0, []) := by decide +kernel
theorem d12_38 : decode (am_cod 12) 38 = .ok (.ifCond .eq 23, 3) := by decide +kernel
theorem s12_38 (K : aK) : am_Snd K 12 38 := sn_if_eq i12_38 d12_38 rfl
theorem i12_41 : am_ins 12 41 = (33, 3, 1, 0, []) := by decide +kernel
theorem d12_41 : decode (am_cod 12) 41 = .ok (.aload_n 3, 1) := by decide +kernel
theorem s12_41 (K : aK) : am_Snd K 12 41 := sn_aload_n i12_41 d12_41 rfl
theorem i12_42 : am_ins 12 42 = (18, 5, 5, 0, []) := by decide +kernel
theorem d12_42 : decode (am_cod 12) 42 = .ok (.getfield 97, 3) := by decide +kernel
theorem s12_42 (K : aK) : am_Snd K 12 42 := sn_get (C0 := CN5) (T := FT5) (Nf := 8) i12_42 d12_42 rfl (by decide +kernel) fin5 w_289 rfl
theorem i12_45 : am_ins 12 45 = (1, 2, 1, 0, []) := by decide +kernel
theorem d12_45 : decode (am_cod 12) 45 = .ok (.iload_n 2, 1) := by decide +kernel
theorem s12_45 (K : aK) : am_Snd K 12 45 := sn_iload_n i12_45 d12_45 rfl
theorem i12_46 : am_ins 12 46 = (0, 2, 0, 20, []) := by decide +kernel
theorem d12_46 : decode (am_cod 12) 46 = .ok (.bipush 20, 2) := by decide +kernel
theorem s12_46 (K : aK) : am_Snd K 12 46 := sn_const2 i12_46 d12_46 (by decide +kernel)
theorem i12_48 : am_ins 12 48 = (4, 1, 0, 0, []) := by decide +kernel
theorem d12_48 : decode (am_cod 12) 48 = .ok (.isub, 1) := by decide +kernel
theorem s12_48 (K : aK) : am_Snd K 12 48 := sn_sub i12_48 d12_48 
theorem i12_49 : am_ins 12 49 = (60, 67, 1, 0, []) := by decide +kernel
theorem d12_49 : decode (am_cod 12) 49 = .ok (.invokevirtual 82, 3) := by decide +kernel
theorem s12_49 (K : aK) : am_SndC K 12 49 := sc_V i12_49 d12_49 co67 w_210 w_211 w_212 w_3 rfl (rr := (CN6, FT6, 2)) rfl rfl hd67
theorem i12_52 : am_ins 12 52 = (12, 0, 59, 0, []) := by decide +kernel
theorem d12_52 : decode (am_cod 12) 52 = .ok (.ifCond .eq 7, 3) := by decide +kernel
theorem s12_52 (K : aK) : am_Snd K 12 52 := sn_if_eq i12_52 d12_52 rfl
theorem i12_55 : am_ins 12 55 = (0, 1, 0, 1, []) := by decide +kernel
theorem d12_55 : decode (am_cod 12) 55 = .ok (.iconst 1, 1) := by decide +kernel
theorem s12_55 (K : aK) : am_Snd K 12 55 := sn_const1 i12_55 d12_55 rfl
theorem i12_56 : am_ins 12 56 = (14, 60, 0, 0, []) := by decide +kernel
theorem d12_56 : decode (am_cod 12) 56 = .ok (.goto 4, 3) := by decide +kernel
theorem s12_56 (K : aK) : am_Snd K 12 56 := sn_goto i12_56 d12_56 rfl
theorem i12_59 : am_ins 12 59 = (0, 1, 0, 0, []) := by decide +kernel
theorem d12_59 : decode (am_cod 12) 59 = .ok (.iconst 0, 1) := by decide +kernel
theorem s12_59 (K : aK) : am_Snd K 12 59 := sn_const1 i12_59 d12_59 rfl
theorem i12_60 : am_ins 12 60 = (50, 0, 0, 0, []) := by decide +kernel
theorem d12_60 : decode (am_cod 12) 60 = .ok (.ireturn, 1) := by decide +kernel
theorem s12_60 : am_SndR 12 60 := sn_iret i12_60 d12_60 rfl
theorem i12_61 : am_ins 12 61 = (1, 2, 1, 0, []) := by decide +kernel
theorem d12_61 : decode (am_cod 12) 61 = .ok (.iload_n 2, 1) := by decide +kernel
theorem s12_61 (K : aK) : am_Snd K 12 61 := sn_iload_n i12_61 d12_61 rfl
theorem i12_62 : am_ins 12 62 = (32, 134, 0, 0, [(0, 92), (1, 97), (2, 113), (3, 126)]) := by decide +kernel
theorem d12_62 : decode (am_cod 12) 62 = .ok (.tableswitch 72 0 3 #[30, 35, 51, 64], 30) := by decide +kernel
theorem s12_62 (K : aK) : am_Snd K 12 62 := sn_tsw (ts := [92, 97, 113, 126]) i12_62 d12_62 rfl (by decide) rfl (by decide)
theorem i12_92 : am_ins 12 92 = (33, 3, 1, 0, []) := by decide +kernel
theorem d12_92 : decode (am_cod 12) 92 = .ok (.aload_n 3, 1) := by decide +kernel
theorem s12_92 (K : aK) : am_Snd K 12 92 := sn_aload_n i12_92 d12_92 rfl
theorem i12_93 : am_ins 12 93 = (18, 5, 1, 0, []) := by decide +kernel
theorem d12_93 : decode (am_cod 12) 93 = .ok (.getfield 209, 3) := by decide +kernel
theorem s12_93 (K : aK) : am_Snd K 12 93 := sn_get (C0 := CN5) (T := FT5) (Nf := 8) i12_93 d12_93 rfl (by decide +kernel) fin5 w_281 rfl
theorem i12_96 : am_ins 12 96 = (50, 0, 0, 0, []) := by decide +kernel
theorem d12_96 : decode (am_cod 12) 96 = .ok (.ireturn, 1) := by decide +kernel
theorem s12_96 : am_SndR 12 96 := sn_iret i12_96 d12_96 rfl
theorem i12_97 : am_ins 12 97 = (33, 3, 1, 0, []) := by decide +kernel
theorem d12_97 : decode (am_cod 12) 97 = .ok (.aload_n 3, 1) := by decide +kernel
theorem s12_97 (K : aK) : am_Snd K 12 97 := sn_aload_n i12_97 d12_97 rfl
theorem i12_98 : am_ins 12 98 = (18, 5, 7, 0, []) := by decide +kernel
theorem d12_98 : decode (am_cod 12) 98 = .ok (.getfield 210, 3) := by decide +kernel
theorem s12_98 (K : aK) : am_Snd K 12 98 := sn_get (C0 := CN5) (T := FT5) (Nf := 8) i12_98 d12_98 rfl (by decide +kernel) fin5 w_297 rfl
theorem i12_101 : am_ins 12 101 = (12, 0, 111, 0, []) := by decide +kernel
theorem d12_101 : decode (am_cod 12) 101 = .ok (.ifCond .eq 10, 3) := by decide +kernel
theorem s12_101 (K : aK) : am_Snd K 12 101 := sn_if_eq i12_101 d12_101 rfl
theorem i12_104 : am_ins 12 104 = (33, 3, 1, 0, []) := by decide +kernel
theorem d12_104 : decode (am_cod 12) 104 = .ok (.aload_n 3, 1) := by decide +kernel
theorem s12_104 (K : aK) : am_Snd K 12 104 := sn_aload_n i12_104 d12_104 rfl
theorem i12_105 : am_ins 12 105 = (18, 5, 6, 0, []) := by decide +kernel
theorem d12_105 : decode (am_cod 12) 105 = .ok (.getfield 214, 3) := by decide +kernel
theorem s12_105 (K : aK) : am_Snd K 12 105 := sn_get (C0 := CN5) (T := FT5) (Nf := 8) i12_105 d12_105 rfl (by decide +kernel) fin5 w_294 rfl
theorem i12_108 : am_ins 12 108 = (14, 112, 0, 0, []) := by decide +kernel
theorem d12_108 : decode (am_cod 12) 108 = .ok (.goto 4, 3) := by decide +kernel
theorem s12_108 (K : aK) : am_Snd K 12 108 := sn_goto i12_108 d12_108 rfl
theorem i12_111 : am_ins 12 111 = (0, 1, 0, (-1), []) := by decide +kernel
theorem d12_111 : decode (am_cod 12) 111 = .ok (.iconst (-1), 1) := by decide +kernel
theorem s12_111 (K : aK) : am_Snd K 12 111 := sn_const1 i12_111 d12_111 rfl
theorem i12_112 : am_ins 12 112 = (50, 0, 0, 0, []) := by decide +kernel
theorem d12_112 : decode (am_cod 12) 112 = .ok (.ireturn, 1) := by decide +kernel
theorem s12_112 : am_SndR 12 112 := sn_iret i12_112 d12_112 rfl
theorem i12_113 : am_ins 12 113 = (33, 3, 1, 0, []) := by decide +kernel
theorem d12_113 : decode (am_cod 12) 113 = .ok (.aload_n 3, 1) := by decide +kernel
theorem s12_113 (K : aK) : am_Snd K 12 113 := sn_aload_n i12_113 d12_113 rfl
theorem i12_114 : am_ins 12 114 = (18, 5, 7, 0, []) := by decide +kernel
theorem d12_114 : decode (am_cod 12) 114 = .ok (.getfield 210, 3) := by decide +kernel
theorem s12_114 (K : aK) : am_Snd K 12 114 := sn_get (C0 := CN5) (T := FT5) (Nf := 8) i12_114 d12_114 rfl (by decide +kernel) fin5 w_297 rfl
theorem i12_117 : am_ins 12 117 = (12, 0, 124, 0, []) := by decide +kernel
theorem d12_117 : decode (am_cod 12) 117 = .ok (.ifCond .eq 7, 3) := by decide +kernel
theorem s12_117 (K : aK) : am_Snd K 12 117 := sn_if_eq i12_117 d12_117 rfl
theorem i12_120 : am_ins 12 120 = (0, 1, 0, 1, []) := by decide +kernel
theorem d12_120 : decode (am_cod 12) 120 = .ok (.iconst 1, 1) := by decide +kernel
theorem s12_120 (K : aK) : am_Snd K 12 120 := sn_const1 i12_120 d12_120 rfl
theorem i12_121 : am_ins 12 121 = (14, 125, 0, 0, []) := by decide +kernel
theorem d12_121 : decode (am_cod 12) 121 = .ok (.goto 4, 3) := by decide +kernel
theorem s12_121 (K : aK) : am_Snd K 12 121 := sn_goto i12_121 d12_121 rfl
theorem i12_124 : am_ins 12 124 = (0, 1, 0, 0, []) := by decide +kernel
theorem d12_124 : decode (am_cod 12) 124 = .ok (.iconst 0, 1) := by decide +kernel
theorem s12_124 (K : aK) : am_Snd K 12 124 := sn_const1 i12_124 d12_124 rfl
theorem i12_125 : am_ins 12 125 = (50, 0, 0, 0, []) := by decide +kernel
theorem d12_125 : decode (am_cod 12) 125 = .ok (.ireturn, 1) := by decide +kernel
theorem s12_125 : am_SndR 12 125 := sn_iret i12_125 d12_125 rfl
theorem i12_126 : am_ins 12 126 = (33, 3, 1, 0, []) := by decide +kernel
theorem d12_126 : decode (am_cod 12) 126 = .ok (.aload_n 3, 1) := by decide +kernel
theorem s12_126 (K : aK) : am_Snd K 12 126 := sn_aload_n i12_126 d12_126 rfl
theorem i12_127 : am_ins 12 127 = (18, 5, 5, 0, []) := by decide +kernel
theorem d12_127 : decode (am_cod 12) 127 = .ok (.getfield 97, 3) := by decide +kernel
theorem s12_127 (K : aK) : am_Snd K 12 127 := sn_get (C0 := CN5) (T := FT5) (Nf := 8) i12_127 d12_127 rfl (by decide +kernel) fin5 w_289 rfl
theorem i12_130 : am_ins 12 130 = (60, 69, 0, 0, []) := by decide +kernel
theorem d12_130 : decode (am_cod 12) 130 = .ok (.invokevirtual 105, 3) := by decide +kernel
theorem s12_130 (K : aK) : am_SndC K 12 130 := sc_V i12_130 d12_130 co69 w_255 w_256 w_257 w_3 rfl (rr := (CN6, FT6, 2)) rfl rfl hd69
theorem i12_133 : am_ins 12 133 = (50, 0, 0, 0, []) := by decide +kernel
theorem d12_133 : decode (am_cod 12) 133 = .ok (.ireturn, 1) := by decide +kernel
theorem s12_133 : am_SndR 12 133 := sn_iret i12_133 d12_133 rfl
theorem i12_134 : am_ins 12 134 = (0, 1, 0, (-1), []) := by decide +kernel
theorem d12_134 : decode (am_cod 12) 134 = .ok (.iconst (-1), 1) := by decide +kernel
theorem s12_134 (K : aK) : am_Snd K 12 134 := sn_const1 i12_134 d12_134 rfl
theorem i12_135 : am_ins 12 135 = (50, 0, 0, 0, []) := by decide +kernel
theorem d12_135 : decode (am_cod 12) 135 = .ok (.ireturn, 1) := by decide +kernel
theorem s12_135 : am_SndR 12 135 := sn_iret i12_135 d12_135 rfl
theorem al12_0 (K : aK) : ∀ q ∈ [0, 1, 2, 5, 6, 7, 10, 11, 12, 13, 15, 16, 19, 22, 23, 24, 26, 27, 30, 31, 32, 34, 35, 38, 41, 42, 45, 46, 48, 49], am_All K 12 q := List.forall_mem_cons.mpr ⟨am_alS i12_0 (s12_0 K), List.forall_mem_cons.mpr ⟨am_alS i12_1 (s12_1 K), List.forall_mem_cons.mpr ⟨am_alC i12_2 (s12_2 K), List.forall_mem_cons.mpr ⟨am_alS i12_5 (s12_5 K), List.forall_mem_cons.mpr ⟨am_alS i12_6 (s12_6 K), List.forall_mem_cons.mpr ⟨am_alS i12_7 (s12_7 K), List.forall_mem_cons.mpr ⟨am_alS i12_10 (s12_10 K), List.forall_mem_cons.mpr ⟨am_alR i12_11 s12_11, List.forall_mem_cons.mpr ⟨am_alS i12_12 (s12_12 K), List.forall_mem_cons.mpr ⟨am_alS i12_13 (s12_13 K), List.forall_mem_cons.mpr ⟨am_alS i12_15 (s12_15 K), List.forall_mem_cons.mpr ⟨am_alC i12_16 (s12_16 K), List.forall_mem_cons.mpr ⟨am_alS i12_19 (s12_19 K), List.forall_mem_cons.mpr ⟨am_alS i12_22 (s12_22 K), List.forall_mem_cons.mpr ⟨am_alS i12_23 (s12_23 K), List.forall_mem_cons.mpr ⟨am_alS i12_24 (s12_24 K), List.forall_mem_cons.mpr ⟨am_alS i12_26 (s12_26 K), List.forall_mem_cons.mpr ⟨am_alC i12_27 (s12_27 K), List.forall_mem_cons.mpr ⟨am_alR i12_30 s12_30, List.forall_mem_cons.mpr ⟨am_alS i12_31 (s12_31 K), List.forall_mem_cons.mpr ⟨am_alS i12_32 (s12_32 K), List.forall_mem_cons.mpr ⟨am_alS i12_34 (s12_34 K), List.forall_mem_cons.mpr ⟨am_alC i12_35 (s12_35 K), List.forall_mem_cons.mpr ⟨am_alS i12_38 (s12_38 K), List.forall_mem_cons.mpr ⟨am_alS i12_41 (s12_41 K), List.forall_mem_cons.mpr ⟨am_alS i12_42 (s12_42 K), List.forall_mem_cons.mpr ⟨am_alS i12_45 (s12_45 K), List.forall_mem_cons.mpr ⟨am_alS i12_46 (s12_46 K), List.forall_mem_cons.mpr ⟨am_alS i12_48 (s12_48 K), List.forall_mem_cons.mpr ⟨am_alC i12_49 (s12_49 K), fun _ h => absurd h List.not_mem_nil⟩⟩⟩⟩⟩⟩⟩⟩⟩⟩⟩⟩⟩⟩⟩⟩⟩⟩⟩⟩⟩⟩⟩⟩⟩⟩⟩⟩⟩⟩
theorem al12_1 (K : aK) : ∀ q ∈ [52, 55, 56, 59, 60, 61, 62, 92, 93, 96, 97, 98, 101, 104, 105, 108, 111, 112, 113, 114, 117, 120, 121, 124, 125, 126, 127, 130, 133, 134], am_All K 12 q := List.forall_mem_cons.mpr ⟨am_alS i12_52 (s12_52 K), List.forall_mem_cons.mpr ⟨am_alS i12_55 (s12_55 K), List.forall_mem_cons.mpr ⟨am_alS i12_56 (s12_56 K), List.forall_mem_cons.mpr ⟨am_alS i12_59 (s12_59 K), List.forall_mem_cons.mpr ⟨am_alR i12_60 s12_60, List.forall_mem_cons.mpr ⟨am_alS i12_61 (s12_61 K), List.forall_mem_cons.mpr ⟨am_alS i12_62 (s12_62 K), List.forall_mem_cons.mpr ⟨am_alS i12_92 (s12_92 K), List.forall_mem_cons.mpr ⟨am_alS i12_93 (s12_93 K), List.forall_mem_cons.mpr ⟨am_alR i12_96 s12_96, List.forall_mem_cons.mpr ⟨am_alS i12_97 (s12_97 K), List.forall_mem_cons.mpr ⟨am_alS i12_98 (s12_98 K), List.forall_mem_cons.mpr ⟨am_alS i12_101 (s12_101 K), List.forall_mem_cons.mpr ⟨am_alS i12_104 (s12_104 K), List.forall_mem_cons.mpr ⟨am_alS i12_105 (s12_105 K), List.forall_mem_cons.mpr ⟨am_alS i12_108 (s12_108 K), List.forall_mem_cons.mpr ⟨am_alS i12_111 (s12_111 K), List.forall_mem_cons.mpr ⟨am_alR i12_112 s12_112, List.forall_mem_cons.mpr ⟨am_alS i12_113 (s12_113 K), List.forall_mem_cons.mpr ⟨am_alS i12_114 (s12_114 K), List.forall_mem_cons.mpr ⟨am_alS i12_117 (s12_117 K), List.forall_mem_cons.mpr ⟨am_alS i12_120 (s12_120 K), List.forall_mem_cons.mpr ⟨am_alS i12_121 (s12_121 K), List.forall_mem_cons.mpr ⟨am_alS i12_124 (s12_124 K), List.forall_mem_cons.mpr ⟨am_alR i12_125 s12_125, List.forall_mem_cons.mpr ⟨am_alS i12_126 (s12_126 K), List.forall_mem_cons.mpr ⟨am_alS i12_127 (s12_127 K), List.forall_mem_cons.mpr ⟨am_alC i12_130 (s12_130 K), List.forall_mem_cons.mpr ⟨am_alR i12_133 s12_133, List.forall_mem_cons.mpr ⟨am_alS i12_134 (s12_134 K), fun _ h => absurd h List.not_mem_nil⟩⟩⟩⟩⟩⟩⟩⟩⟩⟩⟩⟩⟩⟩⟩⟩⟩⟩⟩⟩⟩⟩⟩⟩⟩⟩⟩⟩⟩⟩
theorem al12_2 (K : aK) : ∀ q ∈ [135], am_All K 12 q := List.forall_mem_cons.mpr ⟨am_alR i12_135 s12_135, fun _ h => absurd h List.not_mem_nil⟩
set_option maxRecDepth 100000 in
theorem al12 (K : aK) : ∀ q ∈ (am_t12).map (fun z => z.1), am_All K 12 q := by
  have e : (am_t12).map (fun z => z.1) = [0, 1, 2, 5, 6, 7, 10, 11, 12, 13, 15, 16, 19, 22, 23, 24, 26, 27, 30, 31, 32, 34, 35, 38, 41, 42, 45, 46, 48, 49] ++ ([52, 55, 56, 59, 60, 61, 62, 92, 93, 96, 97, 98, 101, 104, 105, 108, 111, 112, 113, 114, 117, 120, 121, 124, 125, 126, 127, 130, 133, 134] ++ ([135])) := rfl
  rw [e]
  exact List.forall_mem_append.mpr ⟨al12_0 K, List.forall_mem_append.mpr ⟨al12_1 K, al12_2 K⟩⟩
theorem i13_0 : am_ins 13 0 = (33, 0, 1, 0, []) := by decide +kernel
theorem d13_0 : decode (am_cod 13) 0 = .ok (.aload_n 0, 1) := by decide +kernel
theorem s13_0 (K : aK) : am_Snd K 13 0 := sn_aload_n i13_0 d13_0 rfl
theorem i13_1 : am_ins 13 1 = (1, 1, 1, 0, []) := by decide +kernel
theorem d13_1 : decode (am_cod 13) 1 = .ok (.iload_n 1, 1) := by decide +kernel
theorem s13_1 (K : aK) : am_Snd K 13 1 := sn_iload_n i13_1 d13_1 rfl
theorem i13_2 : am_ins 13 2 = (60, 19, 1, 0, []) := by decide +kernel
theorem d13_2 : decode (am_cod 13) 2 = .ok (.invokevirtual 202, 3) := by decide +kernel
theorem s13_2 (K : aK) : am_SndC K 13 2 := sc_V i13_2 d13_2 co19 w_403 w_405 ws_9 w_1 rfl (rr := (CN0, FT0, 5)) rfl rfl hd19
theorem i13_5 : am_ins 13 5 = (34, 3, 1, 0, []) := by decide +kernel
theorem d13_5 : decode (am_cod 13) 5 = .ok (.astore_n 3, 1) := by decide +kernel
theorem s13_5 (K : aK) : am_Snd K 13 5 := sn_astore_n i13_5 d13_5 rfl (by decide +kernel)
theorem i13_6 : am_ins 13 6 = (33, 3, 1, 0, []) := by decide +kernel
theorem d13_6 : decode (am_cod 13) 6 = .ok (.aload_n 3, 1) := by decide +kernel
theorem s13_6 (K : aK) : am_Snd K 13 6 := sn_aload_n i13_6 d13_6 rfl
theorem i13_7 : am_ins 13 7 = (16, 14, 0, 0, []) := by decide +kernel
theorem d13_7 : decode (am_cod 13) 7 = .ok (.ifnonnull 7, 3) := by decide +kernel
theorem s13_7 (K : aK) : am_Snd K 13 7 := sn_ifnonnull i13_7 d13_7 rfl
theorem i13_10 : am_ins 13 10 = (0, 1, 0, 0, []) := by decide +kernel
theorem d13_10 : decode (am_cod 13) 10 = .ok (.iconst 0, 1) := by decide +kernel
theorem s13_10 (K : aK) : am_Snd K 13 10 := sn_const1 i13_10 d13_10 rfl
theorem i13_11 : am_ins 13 11 = (14, 22, 0, 0, []) := by decide +kernel
theorem d13_11 : decode (am_cod 13) 11 = .ok (.goto 11, 3) := by decide +kernel
theorem s13_11 (K : aK) : am_Snd K 13 11 := sn_goto i13_11 d13_11 rfl
theorem i13_14 : am_ins 13 14 = (33, 3, 1, 0, []) := by decide +kernel
theorem d13_14 : decode (am_cod 13) 14 = .ok (.aload_n 3, 1) := by decide +kernel
theorem s13_14 (K : aK) : am_Snd K 13 14 := sn_aload_n i13_14 d13_14 rfl
theorem i13_15 : am_ins 13 15 = (18, 5, 5, 0, []) := by decide +kernel
theorem d13_15 : decode (am_cod 13) 15 = .ok (.getfield 97, 3) := by decide +kernel
theorem s13_15 (K : aK) : am_Snd K 13 15 := sn_get (C0 := CN5) (T := FT5) (Nf := 8) i13_15 d13_15 rfl (by decide +kernel) fin5 w_289 rfl
theorem i13_18 : am_ins 13 18 = (1, 2, 1, 0, []) := by decide +kernel
theorem d13_18 : decode (am_cod 13) 18 = .ok (.iload_n 2, 1) := by decide +kernel
theorem s13_18 (K : aK) : am_Snd K 13 18 := sn_iload_n i13_18 d13_18 rfl
theorem i13_19 : am_ins 13 19 = (60, 68, 1, 0, []) := by decide +kernel
theorem d13_19 : decode (am_cod 13) 19 = .ok (.invokevirtual 87, 3) := by decide +kernel
theorem s13_19 (K : aK) : am_SndC K 13 19 := sc_V i13_19 d13_19 co68 w_215 w_216 w_217 w_3 rfl (rr := (CN6, FT6, 2)) rfl rfl hd68
theorem i13_22 : am_ins 13 22 = (50, 0, 0, 0, []) := by decide +kernel
theorem d13_22 : decode (am_cod 13) 22 = .ok (.ireturn, 1) := by decide +kernel
theorem s13_22 : am_SndR 13 22 := sn_iret i13_22 d13_22 rfl
theorem al13_0 (K : aK) : ∀ q ∈ [0, 1, 2, 5, 6, 7, 10, 11, 14, 15, 18, 19, 22], am_All K 13 q := List.forall_mem_cons.mpr ⟨am_alS i13_0 (s13_0 K), List.forall_mem_cons.mpr ⟨am_alS i13_1 (s13_1 K), List.forall_mem_cons.mpr ⟨am_alC i13_2 (s13_2 K), List.forall_mem_cons.mpr ⟨am_alS i13_5 (s13_5 K), List.forall_mem_cons.mpr ⟨am_alS i13_6 (s13_6 K), List.forall_mem_cons.mpr ⟨am_alS i13_7 (s13_7 K), List.forall_mem_cons.mpr ⟨am_alS i13_10 (s13_10 K), List.forall_mem_cons.mpr ⟨am_alS i13_11 (s13_11 K), List.forall_mem_cons.mpr ⟨am_alS i13_14 (s13_14 K), List.forall_mem_cons.mpr ⟨am_alS i13_15 (s13_15 K), List.forall_mem_cons.mpr ⟨am_alS i13_18 (s13_18 K), List.forall_mem_cons.mpr ⟨am_alC i13_19 (s13_19 K), List.forall_mem_cons.mpr ⟨am_alR i13_22 s13_22, fun _ h => absurd h List.not_mem_nil⟩⟩⟩⟩⟩⟩⟩⟩⟩⟩⟩⟩⟩
set_option maxRecDepth 100000 in
theorem al13 (K : aK) : ∀ q ∈ (am_t13).map (fun z => z.1), am_All K 13 q := by
  have e : (am_t13).map (fun z => z.1) = [0, 1, 2, 5, 6, 7, 10, 11, 14, 15, 18, 19, 22] := rfl
  rw [e]
  exact al13_0 K
theorem i14_0 : am_ins 14 0 = (33, 0, 1, 0, []) := by decide +kernel
theorem d14_0 : decode (am_cod 14) 0 = .ok (.aload_n 0, 1) := by decide +kernel
theorem s14_0 (K : aK) : am_Snd K 14 0 := sn_aload_n i14_0 d14_0 rfl
theorem i14_1 : am_ins 14 1 = (1, 1, 1, 0, []) := by decide +kernel
theorem d14_1 : decode (am_cod 14) 1 = .ok (.iload_n 1, 1) := by decide +kernel
theorem s14_1 (K : aK) : am_Snd K 14 1 := sn_iload_n i14_1 d14_1 rfl
theorem i14_2 : am_ins 14 2 = (60, 18, 1, 0, []) := by decide +kernel
theorem d14_2 : decode (am_cod 14) 2 = .ok (.invokevirtual 60, 3) := by decide +kernel
theorem s14_2 (K : aK) : am_SndC K 14 2 := sc_V i14_2 d14_2 co18 w_165 w_167 ws_1 w_1 rfl (rr := (CN0, FT0, 5)) rfl rfl hd18
theorem i14_5 : am_ins 14 5 = (34, 4, 2, 0, []) := by decide +kernel
theorem d14_5 : decode (am_cod 14) 5 = .ok (.astore 4, 2) := by decide +kernel
theorem s14_5 (K : aK) : am_Snd K 14 5 := sn_astore i14_5 d14_5 (by decide +kernel)
theorem i14_7 : am_ins 14 7 = (33, 4, 2, 0, []) := by decide +kernel
theorem d14_7 : decode (am_cod 14) 7 = .ok (.aload 4, 2) := by decide +kernel
theorem s14_7 (K : aK) : am_Snd K 14 7 := sn_aload i14_7 d14_7 
theorem i14_9 : am_ins 14 9 = (15, 21, 0, 0, []) := by decide +kernel
theorem d14_9 : decode (am_cod 14) 9 = .ok (.ifnull 12, 3) := by decide +kernel
theorem s14_9 (K : aK) : am_Snd K 14 9 := sn_ifnull i14_9 d14_9 rfl
theorem i14_12 : am_ins 14 12 = (33, 4, 2, 0, []) := by decide +kernel
theorem d14_12 : decode (am_cod 14) 12 = .ok (.aload 4, 2) := by decide +kernel
theorem s14_12 (K : aK) : am_Snd K 14 12 := sn_aload i14_12 d14_12 
theorem i14_14 : am_ins 14 14 = (1, 2, 1, 0, []) := by decide +kernel
theorem d14_14 : decode (am_cod 14) 14 = .ok (.iload_n 2, 1) := by decide +kernel
theorem s14_14 (K : aK) : am_Snd K 14 14 := sn_iload_n i14_14 d14_14 rfl
theorem i14_15 : am_ins 14 15 = (60, 44, 1, 0, []) := by decide +kernel
theorem d14_15 : decode (am_cod 14) 15 = .ok (.invokevirtual 217, 3) := by decide +kernel
theorem s14_15 (K : aK) : am_SndC K 14 15 := sc_V i14_15 d14_15 co44 w_494 w_328 w_329 w_4 rfl (rr := (CN4, FT4, 9)) rfl rfl hd44
theorem i14_18 : am_ins 14 18 = (12, 1, 23, 0, []) := by decide +kernel
theorem d14_18 : decode (am_cod 14) 18 = .ok (.ifCond .ne 5, 3) := by decide +kernel
theorem s14_18 (K : aK) : am_Snd K 14 18 := sn_if_ne i14_18 d14_18 rfl
theorem i14_21 : am_ins 14 21 = (0, 1, 0, (-1), []) := by decide +kernel
theorem d14_21 : decode (am_cod 14) 21 = .ok (.iconst (-1), 1) := by decide +kernel
theorem s14_21 (K : aK) : am_Snd K 14 21 := sn_const1 i14_21 d14_21 rfl
theorem i14_22 : am_ins 14 22 = (50, 0, 0, 0, []) := by decide +kernel
theorem d14_22 : decode (am_cod 14) 22 = .ok (.ireturn, 1) := by decide +kernel
theorem s14_22 : am_SndR 14 22 := sn_iret i14_22 d14_22 rfl
theorem i14_23 : am_ins 14 23 = (33, 4, 2, 0, []) := by decide +kernel
theorem d14_23 : decode (am_cod 14) 23 = .ok (.aload 4, 2) := by decide +kernel
theorem s14_23 (K : aK) : am_Snd K 14 23 := sn_aload i14_23 d14_23 
theorem i14_25 : am_ins 14 25 = (1, 2, 1, 0, []) := by decide +kernel
theorem d14_25 : decode (am_cod 14) 25 = .ok (.iload_n 2, 1) := by decide +kernel
theorem s14_25 (K : aK) : am_Snd K 14 25 := sn_iload_n i14_25 d14_25 rfl
theorem i14_26 : am_ins 14 26 = (1, 3, 1, 0, []) := by decide +kernel
theorem d14_26 : decode (am_cod 14) 26 = .ok (.iload_n 3, 1) := by decide +kernel
theorem s14_26 (K : aK) : am_Snd K 14 26 := sn_iload_n i14_26 d14_26 rfl
theorem i14_27 : am_ins 14 27 = (60, 57, 2, 0, []) := by decide +kernel
theorem d14_27 : decode (am_cod 14) 27 = .ok (.invokevirtual 220, 3) := by decide +kernel
theorem s14_27 (K : aK) : am_SndC K 14 27 := sc_V i14_27 d14_27 co57 w_495 w_496 w_497 w_4 rfl (rr := (CN4, FT4, 9)) rfl rfl hd57
theorem i14_30 : am_ins 14 30 = (34, 5, 2, 0, []) := by decide +kernel
theorem d14_30 : decode (am_cod 14) 30 = .ok (.astore 5, 2) := by decide +kernel
theorem s14_30 (K : aK) : am_Snd K 14 30 := sn_astore i14_30 d14_30 (by decide +kernel)
theorem i14_32 : am_ins 14 32 = (33, 5, 2, 0, []) := by decide +kernel
theorem d14_32 : decode (am_cod 14) 32 = .ok (.aload 5, 2) := by decide +kernel
theorem s14_32 (K : aK) : am_Snd K 14 32 := sn_aload i14_32 d14_32 
theorem i14_34 : am_ins 14 34 = (16, 41, 0, 0, []) := by decide +kernel
theorem d14_34 : decode (am_cod 14) 34 = .ok (.ifnonnull 7, 3) := by decide +kernel
theorem s14_34 (K : aK) : am_Snd K 14 34 := sn_ifnonnull i14_34 d14_34 rfl
theorem i14_37 : am_ins 14 37 = (0, 1, 0, (-1), []) := by decide +kernel
theorem d14_37 : decode (am_cod 14) 37 = .ok (.iconst (-1), 1) := by decide +kernel
theorem s14_37 (K : aK) : am_Snd K 14 37 := sn_const1 i14_37 d14_37 rfl
theorem i14_38 : am_ins 14 38 = (14, 46, 0, 0, []) := by decide +kernel
theorem d14_38 : decode (am_cod 14) 38 = .ok (.goto 8, 3) := by decide +kernel
theorem s14_38 (K : aK) : am_Snd K 14 38 := sn_goto i14_38 d14_38 rfl
theorem i14_41 : am_ins 14 41 = (33, 5, 2, 0, []) := by decide +kernel
theorem d14_41 : decode (am_cod 14) 41 = .ok (.aload 5, 2) := by decide +kernel
theorem s14_41 (K : aK) : am_Snd K 14 41 := sn_aload i14_41 d14_41 
theorem i14_43 : am_ins 14 43 = (18, 5, 0, 0, []) := by decide +kernel
theorem d14_43 : decode (am_cod 14) 43 = .ok (.getfield 98, 3) := by decide +kernel
theorem s14_43 (K : aK) : am_Snd K 14 43 := sn_get (C0 := CN5) (T := FT5) (Nf := 8) i14_43 d14_43 rfl (by decide +kernel) fin5 w_278 rfl
theorem i14_46 : am_ins 14 46 = (50, 0, 0, 0, []) := by decide +kernel
theorem d14_46 : decode (am_cod 14) 46 = .ok (.ireturn, 1) := by decide +kernel
theorem s14_46 : am_SndR 14 46 := sn_iret i14_46 d14_46 rfl
theorem al14_0 (K : aK) : ∀ q ∈ [0, 1, 2, 5, 7, 9, 12, 14, 15, 18, 21, 22, 23, 25, 26, 27, 30, 32, 34, 37, 38, 41, 43, 46], am_All K 14 q := List.forall_mem_cons.mpr ⟨am_alS i14_0 (s14_0 K), List.forall_mem_cons.mpr ⟨am_alS i14_1 (s14_1 K), List.forall_mem_cons.mpr ⟨am_alC i14_2 (s14_2 K), List.forall_mem_cons.mpr ⟨am_alS i14_5 (s14_5 K), List.forall_mem_cons.mpr ⟨am_alS i14_7 (s14_7 K), List.forall_mem_cons.mpr ⟨am_alS i14_9 (s14_9 K), List.forall_mem_cons.mpr ⟨am_alS i14_12 (s14_12 K), List.forall_mem_cons.mpr ⟨am_alS i14_14 (s14_14 K), List.forall_mem_cons.mpr ⟨am_alC i14_15 (s14_15 K), List.forall_mem_cons.mpr ⟨am_alS i14_18 (s14_18 K), List.forall_mem_cons.mpr ⟨am_alS i14_21 (s14_21 K), List.forall_mem_cons.mpr ⟨am_alR i14_22 s14_22, List.forall_mem_cons.mpr ⟨am_alS i14_23 (s14_23 K), List.forall_mem_cons.mpr ⟨am_alS i14_25 (s14_25 K), List.forall_mem_cons.mpr ⟨am_alS i14_26 (s14_26 K), List.forall_mem_cons.mpr ⟨am_alC i14_27 (s14_27 K), List.forall_mem_cons.mpr ⟨am_alS i14_30 (s14_30 K), List.forall_mem_cons.mpr ⟨am_alS i14_32 (s14_32 K), List.forall_mem_cons.mpr ⟨am_alS i14_34 (s14_34 K), List.forall_mem_cons.mpr ⟨am_alS i14_37 (s14_37 K), List.forall_mem_cons.mpr ⟨am_alS i14_38 (s14_38 K), List.forall_mem_cons.mpr ⟨am_alS i14_41 (s14_41 K), List.forall_mem_cons.mpr ⟨am_alS i14_43 (s14_43 K), List.forall_mem_cons.mpr ⟨am_alR i14_46 s14_46, fun _ h => absurd h List.not_mem_nil⟩⟩⟩⟩⟩⟩⟩⟩⟩⟩⟩⟩⟩⟩⟩⟩⟩⟩⟩⟩⟩⟩⟩⟩
set_option maxRecDepth 100000 in
theorem al14 (K : aK) : ∀ q ∈ (am_t14).map (fun z => z.1), am_All K 14 q := by
  have e : (am_t14).map (fun z => z.1) = [0, 1, 2, 5, 7, 9, 12, 14, 15, 18, 21, 22, 23, 25, 26, 27, 30, 32, 34, 37, 38, 41, 43, 46] := rfl
  rw [e]
  exact al14_0 K
theorem i15_0 : am_ins 15 0 = (33, 0, 1, 0, []) := by decide +kernel
theorem d15_0 : decode (am_cod 15) 0 = .ok (.aload_n 0, 1) := by decide +kernel
theorem s15_0 (K : aK) : am_Snd K 15 0 := sn_aload_n i15_0 d15_0 rfl
theorem i15_1 : am_ins 15 1 = (1, 1, 1, 0, []) := by decide +kernel
theorem d15_1 : decode (am_cod 15) 1 = .ok (.iload_n 1, 1) := by decide +kernel
theorem s15_1 (K : aK) : am_Snd K 15 1 := sn_iload_n i15_1 d15_1 rfl
theorem i15_2 : am_ins 15 2 = (1, 2, 1, 0, []) := by decide +kernel
theorem d15_2 : decode (am_cod 15) 2 = .ok (.iload_n 2, 1) := by decide +kernel
theorem s15_2 (K : aK) : am_Snd K 15 2 := sn_iload_n i15_2 d15_2 rfl
theorem i15_3 : am_ins 15 3 = (60, 20, 2, 0, []) := by decide +kernel
theorem d15_3 : decode (am_cod 15) 3 = .ok (.invokevirtual 159, 3) := by decide +kernel
theorem s15_3 (K : aK) : am_SndC K 15 3 := sc_V i15_3 d15_3 co20 w_376 w_378 ws_6 w_1 rfl (rr := (CN0, FT0, 5)) rfl rfl hd20
theorem i15_6 : am_ins 15 6 = (34, 4, 2, 0, []) := by decide +kernel
theorem d15_6 : decode (am_cod 15) 6 = .ok (.astore 4, 2) := by decide +kernel
theorem s15_6 (K : aK) : am_Snd K 15 6 := sn_astore i15_6 d15_6 (by decide +kernel)
theorem i15_8 : am_ins 15 8 = (33, 4, 2, 0, []) := by decide +kernel
theorem d15_8 : decode (am_cod 15) 8 = .ok (.aload 4, 2) := by decide +kernel
theorem s15_8 (K : aK) : am_Snd K 15 8 := sn_aload i15_8 d15_8 
theorem i15_10 : am_ins 15 10 = (16, 15, 0, 0, []) := by decide +kernel
theorem d15_10 : decode (am_cod 15) 10 = .ok (.ifnonnull 5, 3) := by decide +kernel
theorem s15_10 (K : aK) : am_Snd K 15 10 := sn_ifnonnull i15_10 d15_10 rfl
theorem i15_13 : am_ins 15 13 = (0, 1, 0, (-1), []) := by decide +kernel
theorem d15_13 : decode (am_cod 15) 13 = .ok (.iconst (-1), 1) := by decide +kernel
theorem s15_13 (K : aK) : am_Snd K 15 13 := sn_const1 i15_13 d15_13 rfl
theorem i15_14 : am_ins 15 14 = (50, 0, 0, 0, []) := by decide +kernel
theorem d15_14 : decode (am_cod 15) 14 = .ok (.ireturn, 1) := by decide +kernel
theorem s15_14 : am_SndR 15 14 := sn_iret i15_14 d15_14 rfl
theorem i15_15 : am_ins 15 15 = (1, 3, 1, 0, []) := by decide +kernel
theorem d15_15 : decode (am_cod 15) 15 = .ok (.iload_n 3, 1) := by decide +kernel
theorem s15_15 (K : aK) : am_Snd K 15 15 := sn_iload_n i15_15 d15_15 rfl
theorem i15_16 : am_ins 15 16 = (32, 92, 0, 0, [(0, 44), (1, 50), (2, 71)]) := by decide +kernel
theorem d15_16 : decode (am_cod 15) 16 = .ok (.tableswitch 76 0 2 #[28, 34, 55], 28) := by decide +kernel
theorem s15_16 (K : aK) : am_Snd K 15 16 := sn_tsw (ts := [44, 50, 71]) i15_16 d15_16 rfl (by decide) rfl (by decide)
theorem i15_44 : am_ins 15 44 = (33, 4, 2, 0, []) := by decide +kernel
theorem d15_44 : decode (am_cod 15) 44 = .ok (.aload 4, 2) := by decide +kernel
theorem s15_44 (K : aK) : am_Snd K 15 44 := sn_aload i15_44 d15_44 
theorem i15_46 : am_ins 15 46 = (18, 2, 2, 0, []) := by decide +kernel
theorem d15_46 : decode (am_cod 15) 46 = .ok (.getfield 224, 3) := by decide +kernel
theorem s15_46 (K : aK) : am_Snd K 15 46 := sn_get (C0 := CN2) (T := FT2) (Nf := 3) i15_46 d15_46 rfl (by decide +kernel) fin2 w_129 rfl
theorem i15_49 : am_ins 15 49 = (50, 0, 0, 0, []) := by decide +kernel
theorem d15_49 : decode (am_cod 15) 49 = .ok (.ireturn, 1) := by decide +kernel
theorem s15_49 : am_SndR 15 49 := sn_iret i15_49 d15_49 rfl
theorem i15_50 : am_ins 15 50 = (33, 4, 2, 0, []) := by decide +kernel
theorem d15_50 : decode (am_cod 15) 50 = .ok (.aload 4, 2) := by decide +kernel
theorem s15_50 (K : aK) : am_Snd K 15 50 := sn_aload i15_50 d15_50 
theorem i15_52 : am_ins 15 52 = (18, 2, 0, 0, []) := by decide +kernel
theorem d15_52 : decode (am_cod 15) 52 = .ok (.getfield 227, 3) := by decide +kernel
theorem s15_52 (K : aK) : am_Snd K 15 52 := sn_get (C0 := CN2) (T := FT2) (Nf := 3) i15_52 d15_52 rfl (by decide +kernel) fin2 w_126 rfl
theorem i15_55 : am_ins 15 55 = (16, 62, 0, 0, []) := by decide +kernel
theorem d15_55 : decode (am_cod 15) 55 = .ok (.ifnonnull 7, 3) := by decide +kernel
theorem s15_55 (K : aK) : am_Snd K 15 55 := sn_ifnonnull i15_55 d15_55 rfl
theorem i15_58 : am_ins 15 58 = (0, 1, 0, 0, []) := by decide +kernel
theorem d15_58 : decode (am_cod 15) 58 = .ok (.iconst 0, 1) := by decide +kernel
theorem s15_58 (K : aK) : am_Snd K 15 58 := sn_const1 i15_58 d15_58 rfl
theorem i15_59 : am_ins 15 59 = (14, 70, 0, 0, []) := by decide +kernel
theorem d15_59 : decode (am_cod 15) 59 = .ok (.goto 11, 3) := by decide +kernel
theorem s15_59 (K : aK) : am_Snd K 15 59 := sn_goto i15_59 d15_59 rfl
theorem i15_62 : am_ins 15 62 = (33, 4, 2, 0, []) := by decide +kernel
theorem d15_62 : decode (am_cod 15) 62 = .ok (.aload 4, 2) := by decide +kernel
theorem s15_62 (K : aK) : am_Snd K 15 62 := sn_aload i15_62 d15_62 
theorem i15_64 : am_ins 15 64 = (18, 2, 0, 0, []) := by decide +kernel
theorem d15_64 : decode (am_cod 15) 64 = .ok (.getfield 227, 3) := by decide +kernel
theorem s15_64 (K : aK) : am_Snd K 15 64 := sn_get (C0 := CN2) (T := FT2) (Nf := 3) i15_64 d15_64 rfl (by decide +kernel) fin2 w_126 rfl
theorem i15_67 : am_ins 15 67 = (18, 3, 0, 0, []) := by decide +kernel
theorem d15_67 : decode (am_cod 15) 67 = .ok (.getfield 171, 3) := by decide +kernel
theorem s15_67 (K : aK) : am_Snd K 15 67 := sn_get (C0 := CN3) (T := FT3) (Nf := 5) i15_67 d15_67 rfl (by decide +kernel) fin3 w_353 rfl
theorem i15_70 : am_ins 15 70 = (50, 0, 0, 0, []) := by decide +kernel
theorem d15_70 : decode (am_cod 15) 70 = .ok (.ireturn, 1) := by decide +kernel
theorem s15_70 : am_SndR 15 70 := sn_iret i15_70 d15_70 rfl
theorem i15_71 : am_ins 15 71 = (33, 4, 2, 0, []) := by decide +kernel
theorem d15_71 : decode (am_cod 15) 71 = .ok (.aload 4, 2) := by decide +kernel
theorem s15_71 (K : aK) : am_Snd K 15 71 := sn_aload i15_71 d15_71 
theorem i15_73 : am_ins 15 73 = (18, 2, 0, 0, []) := by decide +kernel
theorem d15_73 : decode (am_cod 15) 73 = .ok (.getfield 227, 3) := by decide +kernel
theorem s15_73 (K : aK) : am_Snd K 15 73 := sn_get (C0 := CN2) (T := FT2) (Nf := 3) i15_73 d15_73 rfl (by decide +kernel) fin2 w_126 rfl
theorem i15_76 : am_ins 15 76 = (16, 83, 0, 0, []) := by decide +kernel
theorem d15_76 : decode (am_cod 15) 76 = .ok (.ifnonnull 7, 3) := by decide +kernel
theorem s15_76 (K : aK) : am_Snd K 15 76 := sn_ifnonnull i15_76 d15_76 rfl
theorem i15_79 : am_ins 15 79 = (0, 1, 0, (-1), []) := by decide +kernel
theorem d15_79 : decode (am_cod 15) 79 = .ok (.iconst (-1), 1) := by decide +kernel
theorem s15_79 (K : aK) : am_Snd K 15 79 := sn_const1 i15_79 d15_79 rfl
theorem i15_80 : am_ins 15 80 = (14, 91, 0, 0, []) := by decide +kernel
theorem d15_80 : decode (am_cod 15) 80 = .ok (.goto 11, 3) := by decide +kernel
theorem s15_80 (K : aK) : am_Snd K 15 80 := sn_goto i15_80 d15_80 rfl
theorem i15_83 : am_ins 15 83 = (33, 4, 2, 0, []) := by decide +kernel
theorem d15_83 : decode (am_cod 15) 83 = .ok (.aload 4, 2) := by decide +kernel
theorem s15_83 (K : aK) : am_Snd K 15 83 := sn_aload i15_83 d15_83 
theorem i15_85 : am_ins 15 85 = (18, 2, 0, 0, []) := by decide +kernel
theorem d15_85 : decode (am_cod 15) 85 = .ok (.getfield 227, 3) := by decide +kernel
theorem s15_85 (K : aK) : am_Snd K 15 85 := sn_get (C0 := CN2) (T := FT2) (Nf := 3) i15_85 d15_85 rfl (by decide +kernel) fin2 w_126 rfl
theorem i15_88 : am_ins 15 88 = (18, 3, 1, 0, []) := by decide +kernel
theorem d15_88 : decode (am_cod 15) 88 = .ok (.getfield 231, 3) := by decide +kernel
theorem s15_88 (K : aK) : am_Snd K 15 88 := sn_get (C0 := CN3) (T := FT3) (Nf := 5) i15_88 d15_88 rfl (by decide +kernel) fin3 w_355 rfl
theorem i15_91 : am_ins 15 91 = (50, 0, 0, 0, []) := by decide +kernel
theorem d15_91 : decode (am_cod 15) 91 = .ok (.ireturn, 1) := by decide +kernel
theorem s15_91 : am_SndR 15 91 := sn_iret i15_91 d15_91 rfl
theorem i15_92 : am_ins 15 92 = (0, 1, 0, (-1), []) := by decide +kernel
theorem d15_92 : decode (am_cod 15) 92 = .ok (.iconst (-1), 1) := by decide +kernel
theorem s15_92 (K : aK) : am_Snd K 15 92 := sn_const1 i15_92 d15_92 rfl
theorem i15_93 : am_ins 15 93 = (50, 0, 0, 0, []) := by decide +kernel
theorem d15_93 : decode (am_cod 15) 93 = .ok (.ireturn, 1) := by decide +kernel
theorem s15_93 : am_SndR 15 93 := sn_iret i15_93 d15_93 rfl
theorem al15_0 (K : aK) : ∀ q ∈ [0, 1, 2, 3, 6, 8, 10, 13, 14, 15, 16, 44, 46, 49, 50, 52, 55, 58, 59, 62, 64, 67, 70, 71, 73, 76, 79, 80, 83, 85], am_All K 15 q := List.forall_mem_cons.mpr ⟨am_alS i15_0 (s15_0 K), List.forall_mem_cons.mpr ⟨am_alS i15_1 (s15_1 K), List.forall_mem_cons.mpr ⟨am_alS i15_2 (s15_2 K), List.forall_mem_cons.mpr ⟨am_alC i15_3 (s15_3 K), List.forall_mem_cons.mpr ⟨am_alS i15_6 (s15_6 K), List.forall_mem_cons.mpr ⟨am_alS i15_8 (s15_8 K), List.forall_mem_cons.mpr ⟨am_alS i15_10 (s15_10 K), List.forall_mem_cons.mpr ⟨am_alS i15_13 (s15_13 K), List.forall_mem_cons.mpr ⟨am_alR i15_14 s15_14, List.forall_mem_cons.mpr ⟨am_alS i15_15 (s15_15 K), List.forall_mem_cons.mpr ⟨am_alS i15_16 (s15_16 K), List.forall_mem_cons.mpr ⟨am_alS i15_44 (s15_44 K), List.forall_mem_cons.mpr ⟨am_alS i15_46 (s15_46 K), List.forall_mem_cons.mpr ⟨am_alR i15_49 s15_49, List.forall_mem_cons.mpr ⟨am_alS i15_50 (s15_50 K), List.forall_mem_cons.mpr ⟨am_alS i15_52 (s15_52 K), List.forall_mem_cons.mpr ⟨am_alS i15_55 (s15_55 K), List.forall_mem_cons.mpr ⟨am_alS i15_58 (s15_58 K), List.forall_mem_cons.mpr ⟨am_alS i15_59 (s15_59 K), List.forall_mem_cons.mpr ⟨am_alS i15_62 (s15_62 K), List.forall_mem_cons.mpr ⟨am_alS i15_64 (s15_64 K), List.forall_mem_cons.mpr ⟨am_alS i15_67 (s15_67 K), List.forall_mem_cons.mpr ⟨am_alR i15_70 s15_70, List.forall_mem_cons.mpr ⟨am_alS i15_71 (s15_71 K), List.forall_mem_cons.mpr ⟨am_alS i15_73 (s15_73 K), List.forall_mem_cons.mpr ⟨am_alS i15_76 (s15_76 K), List.forall_mem_cons.mpr ⟨am_alS i15_79 (s15_79 K), List.forall_mem_cons.mpr ⟨am_alS i15_80 (s15_80 K), List.forall_mem_cons.mpr ⟨am_alS i15_83 (s15_83 K), List.forall_mem_cons.mpr ⟨am_alS i15_85 (s15_85 K), fun _ h => absurd h List.not_mem_nil⟩⟩⟩⟩⟩⟩⟩⟩⟩⟩⟩⟩⟩⟩⟩⟩⟩⟩⟩⟩⟩⟩⟩⟩⟩⟩⟩⟩⟩⟩
theorem al15_1 (K : aK) : ∀ q ∈ [88, 91, 92, 93], am_All K 15 q := List.forall_mem_cons.mpr ⟨am_alS i15_88 (s15_88 K), List.forall_mem_cons.mpr ⟨am_alR i15_91 s15_91, List.forall_mem_cons.mpr ⟨am_alS i15_92 (s15_92 K), List.forall_mem_cons.mpr ⟨am_alR i15_93 s15_93, fun _ h => absurd h List.not_mem_nil⟩⟩⟩⟩
set_option maxRecDepth 100000 in
theorem al15 (K : aK) : ∀ q ∈ (am_t15).map (fun z => z.1), am_All K 15 q := by
  have e : (am_t15).map (fun z => z.1) = [0, 1, 2, 3, 6, 8, 10, 13, 14, 15, 16, 44, 46, 49, 50, 52, 55, 58, 59, 62, 64, 67, 70, 71, 73, 76, 79, 80, 83, 85] ++ ([88, 91, 92, 93]) := rfl
  rw [e]
  exact List.forall_mem_append.mpr ⟨al15_0 K, al15_1 K⟩
theorem i16_0 : am_ins 16 0 = (1, 1, 1, 0, []) := by decide +kernel
theorem d16_0 : decode (am_cod 16) 0 = .ok (.iload_n 1, 1) := by decide +kernel
theorem s16_0 (K : aK) : am_Snd K 16 0 := sn_iload_n i16_0 d16_0 rfl
theorem i16_1 : am_ins 16 1 = (12, 2, 22, 0, []) := by decide +kernel
theorem d16_1 : decode (am_cod 16) 1 = .ok (.ifCond .lt 21, 3) := by decide +kernel
theorem s16_1 (K : aK) : am_Snd K 16 1 := sn_if_lt i16_1 d16_1 rfl
theorem i16_4 : am_ins 16 4 = (1, 1, 1, 0, []) := by decide +kernel
theorem d16_4 : decode (am_cod 16) 4 = .ok (.iload_n 1, 1) := by decide +kernel
theorem s16_4 (K : aK) : am_Snd K 16 4 := sn_iload_n i16_4 d16_4 rfl
theorem i16_5 : am_ins 16 5 = (33, 0, 1, 0, []) := by decide +kernel
theorem d16_5 : decode (am_cod 16) 5 = .ok (.aload_n 0, 1) := by decide +kernel
theorem s16_5 (K : aK) : am_Snd K 16 5 := sn_aload_n i16_5 d16_5 rfl
theorem i16_6 : am_ins 16 6 = (18, 0, 0, 0, []) := by decide +kernel
theorem d16_6 : decode (am_cod 16) 6 = .ok (.getfield 11, 3) := by decide +kernel
theorem s16_6 (K : aK) : am_Snd K 16 6 := sn_get (C0 := CN0) (T := FT0) (Nf := 5) i16_6 d16_6 rfl (by decide +kernel) fin0 w_138 rfl
theorem i16_9 : am_ins 16 9 = (28, 0, 0, 0, []) := by decide +kernel
theorem d16_9 : decode (am_cod 16) 9 = .ok (.arraylength, 1) := by decide +kernel
theorem s16_9 (K : aK) : am_Snd K 16 9 := sn_alen i16_9 d16_9 
theorem i16_10 : am_ins 16 10 = (13, 3, 22, 0, []) := by decide +kernel
theorem d16_10 : decode (am_cod 16) 10 = .ok (.if_icmp .ge 12, 3) := by decide +kernel
theorem s16_10 (K : aK) : am_Snd K 16 10 := sn_icmp_ge i16_10 d16_10 rfl
theorem i16_13 : am_ins 16 13 = (33, 0, 1, 0, []) := by decide +kernel
theorem d16_13 : decode (am_cod 16) 13 = .ok (.aload_n 0, 1) := by decide +kernel
theorem s16_13 (K : aK) : am_Snd K 16 13 := sn_aload_n i16_13 d16_13 rfl
theorem i16_14 : am_ins 16 14 = (18, 0, 0, 0, []) := by decide +kernel
theorem d16_14 : decode (am_cod 16) 14 = .ok (.getfield 11, 3) := by decide +kernel
theorem s16_14 (K : aK) : am_Snd K 16 14 := sn_get (C0 := CN0) (T := FT0) (Nf := 5) i16_14 d16_14 rfl (by decide +kernel) fin0 w_138 rfl
theorem i16_17 : am_ins 16 17 = (1, 1, 1, 0, []) := by decide +kernel
theorem d16_17 : decode (am_cod 16) 17 = .ok (.iload_n 1, 1) := by decide +kernel
theorem s16_17 (K : aK) : am_Snd K 16 17 := sn_iload_n i16_17 d16_17 rfl
theorem i16_18 : am_ins 16 18 = (26, 0, 0, 0, []) := by decide +kernel
theorem d16_18 : decode (am_cod 16) 18 = .ok (.aaload, 1) := by decide +kernel
theorem s16_18 (K : aK) : am_Snd K 16 18 := sn_aald i16_18 d16_18 
theorem i16_19 : am_ins 16 19 = (14, 23, 0, 0, []) := by decide +kernel
theorem d16_19 : decode (am_cod 16) 19 = .ok (.goto 4, 3) := by decide +kernel
theorem s16_19 (K : aK) : am_Snd K 16 19 := sn_goto i16_19 d16_19 rfl
theorem i16_22 : am_ins 16 22 = (17, 0, 0, 0, []) := by decide +kernel
theorem d16_22 : decode (am_cod 16) 22 = .ok (.aconst_null, 1) := by decide +kernel
theorem s16_22 (K : aK) : am_Snd K 16 22 := sn_null i16_22 d16_22 
theorem i16_23 : am_ins 16 23 = (52, 0, 0, 0, []) := by decide +kernel
theorem d16_23 : decode (am_cod 16) 23 = .ok (.areturn, 1) := by decide +kernel
theorem s16_23 : am_SndR 16 23 := sn_aret i16_23 d16_23 rfl (Or.inl ⟨_, rfl⟩)
theorem al16_0 (K : aK) : ∀ q ∈ [0, 1, 4, 5, 6, 9, 10, 13, 14, 17, 18, 19, 22, 23], am_All K 16 q := List.forall_mem_cons.mpr ⟨am_alS i16_0 (s16_0 K), List.forall_mem_cons.mpr ⟨am_alS i16_1 (s16_1 K), List.forall_mem_cons.mpr ⟨am_alS i16_4 (s16_4 K), List.forall_mem_cons.mpr ⟨am_alS i16_5 (s16_5 K), List.forall_mem_cons.mpr ⟨am_alS i16_6 (s16_6 K), List.forall_mem_cons.mpr ⟨am_alS i16_9 (s16_9 K), List.forall_mem_cons.mpr ⟨am_alS i16_10 (s16_10 K), List.forall_mem_cons.mpr ⟨am_alS i16_13 (s16_13 K), List.forall_mem_cons.mpr ⟨am_alS i16_14 (s16_14 K), List.forall_mem_cons.mpr ⟨am_alS i16_17 (s16_17 K), List.forall_mem_cons.mpr ⟨am_alS i16_18 (s16_18 K), List.forall_mem_cons.mpr ⟨am_alS i16_19 (s16_19 K), List.forall_mem_cons.mpr ⟨am_alS i16_22 (s16_22 K), List.forall_mem_cons.mpr ⟨am_alR i16_23 s16_23, fun _ h => absurd h List.not_mem_nil⟩⟩⟩⟩⟩⟩⟩⟩⟩⟩⟩⟩⟩⟩
set_option maxRecDepth 100000 in
theorem al16 (K : aK) : ∀ q ∈ (am_t16).map (fun z => z.1), am_All K 16 q := by
  have e : (am_t16).map (fun z => z.1) = [0, 1, 4, 5, 6, 9, 10, 13, 14, 17, 18, 19, 22, 23] := rfl
  rw [e]
  exact al16_0 K
theorem i17_0 : am_ins 17 0 = (33, 0, 1, 0, []) := by decide +kernel
theorem d17_0 : decode (am_cod 17) 0 = .ok (.aload_n 0, 1) := by decide +kernel
theorem s17_0 (K : aK) : am_Snd K 17 0 := sn_aload_n i17_0 d17_0 rfl
theorem i17_1 : am_ins 17 1 = (1, 1, 1, 0, []) := by decide +kernel
theorem d17_1 : decode (am_cod 17) 1 = .ok (.iload_n 1, 1) := by decide +kernel
theorem s17_1 (K : aK) : am_Snd K 17 1 := sn_iload_n i17_1 d17_1 rfl
theorem i17_2 : am_ins 17 2 = (60, 16, 1, 0, []) := by decide +kernel
theorem d17_2 : decode (am_cod 17) 2 = .ok (.invokevirtual 46, 3) := by decide +kernel
theorem s17_2 (K : aK) : am_SndC K 17 2 := sc_V i17_2 d17_2 co16 w_158 w_160 ws_0 w_1 rfl (rr := (CN0, FT0, 5)) rfl rfl hd16
theorem i17_5 : am_ins 17 5 = (34, 2, 1, 0, []) := by decide +kernel
theorem d17_5 : decode (am_cod 17) 5 = .ok (.astore_n 2, 1) := by decide +kernel
theorem s17_5 (K : aK) : am_Snd K 17 5 := sn_astore_n i17_5 d17_5 rfl (by decide +kernel)
theorem i17_6 : am_ins 17 6 = (33, 2, 1, 0, []) := by decide +kernel
theorem d17_6 : decode (am_cod 17) 6 = .ok (.aload_n 2, 1) := by decide +kernel
theorem s17_6 (K : aK) : am_Snd K 17 6 := sn_aload_n i17_6 d17_6 rfl
theorem i17_7 : am_ins 17 7 = (15, 22, 0, 0, []) := by decide +kernel
theorem d17_7 : decode (am_cod 17) 7 = .ok (.ifnull 15, 3) := by decide +kernel
theorem s17_7 (K : aK) : am_Snd K 17 7 := sn_ifnull i17_7 d17_7 rfl
theorem i17_10 : am_ins 17 10 = (33, 2, 1, 0, []) := by decide +kernel
theorem d17_10 : decode (am_cod 17) 10 = .ok (.aload_n 2, 1) := by decide +kernel
theorem s17_10 (K : aK) : am_Snd K 17 10 := sn_aload_n i17_10 d17_10 rfl
theorem i17_11 : am_ins 17 11 = (18, 1, 4, 0, []) := by decide +kernel
theorem d17_11 : decode (am_cod 17) 11 = .ok (.getfield 50, 3) := by decide +kernel
theorem s17_11 (K : aK) : am_Snd K 17 11 := sn_get (C0 := CN1) (T := FT1) (Nf := 7) i17_11 d17_11 rfl (by decide +kernel) fin1 w_52 rfl
theorem i17_14 : am_ins 17 14 = (0, 1, 0, 1, []) := by decide +kernel
theorem d17_14 : decode (am_cod 17) 14 = .ok (.iconst 1, 1) := by decide +kernel
theorem s17_14 (K : aK) : am_Snd K 17 14 := sn_const1 i17_14 d17_14 rfl
theorem i17_15 : am_ins 17 15 = (13, 1, 22, 0, []) := by decide +kernel
theorem d17_15 : decode (am_cod 17) 15 = .ok (.if_icmp .ne 7, 3) := by decide +kernel
theorem s17_15 (K : aK) : am_Snd K 17 15 := sn_icmp_ne i17_15 d17_15 rfl
theorem i17_18 : am_ins 17 18 = (33, 2, 1, 0, []) := by decide +kernel
theorem d17_18 : decode (am_cod 17) 18 = .ok (.aload_n 2, 1) := by decide +kernel
theorem s17_18 (K : aK) : am_Snd K 17 18 := sn_aload_n i17_18 d17_18 rfl
theorem i17_19 : am_ins 17 19 = (14, 23, 0, 0, []) := by decide +kernel
theorem d17_19 : decode (am_cod 17) 19 = .ok (.goto 4, 3) := by decide +kernel
theorem s17_19 (K : aK) : am_Snd K 17 19 := sn_goto i17_19 d17_19 rfl
theorem i17_22 : am_ins 17 22 = (17, 0, 0, 0, []) := by decide +kernel
theorem d17_22 : decode (am_cod 17) 22 = .ok (.aconst_null, 1) := by decide +kernel
theorem s17_22 (K : aK) : am_Snd K 17 22 := sn_null i17_22 d17_22 
theorem i17_23 : am_ins 17 23 = (52, 0, 0, 0, []) := by decide +kernel
theorem d17_23 : decode (am_cod 17) 23 = .ok (.areturn, 1) := by decide +kernel
theorem s17_23 : am_SndR 17 23 := sn_aret i17_23 d17_23 rfl (Or.inl ⟨_, rfl⟩)
theorem al17_0 (K : aK) : ∀ q ∈ [0, 1, 2, 5, 6, 7, 10, 11, 14, 15, 18, 19, 22, 23], am_All K 17 q := List.forall_mem_cons.mpr ⟨am_alS i17_0 (s17_0 K), List.forall_mem_cons.mpr ⟨am_alS i17_1 (s17_1 K), List.forall_mem_cons.mpr ⟨am_alC i17_2 (s17_2 K), List.forall_mem_cons.mpr ⟨am_alS i17_5 (s17_5 K), List.forall_mem_cons.mpr ⟨am_alS i17_6 (s17_6 K), List.forall_mem_cons.mpr ⟨am_alS i17_7 (s17_7 K), List.forall_mem_cons.mpr ⟨am_alS i17_10 (s17_10 K), List.forall_mem_cons.mpr ⟨am_alS i17_11 (s17_11 K), List.forall_mem_cons.mpr ⟨am_alS i17_14 (s17_14 K), List.forall_mem_cons.mpr ⟨am_alS i17_15 (s17_15 K), List.forall_mem_cons.mpr ⟨am_alS i17_18 (s17_18 K), List.forall_mem_cons.mpr ⟨am_alS i17_19 (s17_19 K), List.forall_mem_cons.mpr ⟨am_alS i17_22 (s17_22 K), List.forall_mem_cons.mpr ⟨am_alR i17_23 s17_23, fun _ h => absurd h List.not_mem_nil⟩⟩⟩⟩⟩⟩⟩⟩⟩⟩⟩⟩⟩⟩
set_option maxRecDepth 100000 in
theorem al17 (K : aK) : ∀ q ∈ (am_t17).map (fun z => z.1), am_All K 17 q := by
  have e : (am_t17).map (fun z => z.1) = [0, 1, 2, 5, 6, 7, 10, 11, 14, 15, 18, 19, 22, 23] := rfl
  rw [e]
  exact al17_0 K
theorem i18_0 : am_ins 18 0 = (1, 1, 1, 0, []) := by decide +kernel
theorem d18_0 : decode (am_cod 18) 0 = .ok (.iload_n 1, 1) := by decide +kernel
theorem s18_0 (K : aK) : am_Snd K 18 0 := sn_iload_n i18_0 d18_0 rfl
theorem i18_1 : am_ins 18 1 = (12, 2, 22, 0, []) := by decide +kernel
theorem d18_1 : decode (am_cod 18) 1 = .ok (.ifCond .lt 21, 3) := by decide +kernel
theorem s18_1 (K : aK) : am_Snd K 18 1 := sn_if_lt i18_1 d18_1 rfl
theorem i18_4 : am_ins 18 4 = (1, 1, 1, 0, []) := by decide +kernel
theorem d18_4 : decode (am_cod 18) 4 = .ok (.iload_n 1, 1) := by decide +kernel
theorem s18_4 (K : aK) : am_Snd K 18 4 := sn_iload_n i18_4 d18_4 rfl
theorem i18_5 : am_ins 18 5 = (33, 0, 1, 0, []) := by decide +kernel
theorem d18_5 : decode (am_cod 18) 5 = .ok (.aload_n 0, 1) := by decide +kernel
theorem s18_5 (K : aK) : am_Snd K 18 5 := sn_aload_n i18_5 d18_5 rfl
theorem i18_6 : am_ins 18 6 = (18, 0, 1, 0, []) := by decide +kernel
theorem d18_6 : decode (am_cod 18) 6 = .ok (.getfield 20, 3) := by decide +kernel
theorem s18_6 (K : aK) : am_Snd K 18 6 := sn_get (C0 := CN0) (T := FT0) (Nf := 5) i18_6 d18_6 rfl (by decide +kernel) fin0 w_139 rfl
theorem i18_9 : am_ins 18 9 = (28, 0, 0, 0, []) := by decide +kernel
theorem d18_9 : decode (am_cod 18) 9 = .ok (.arraylength, 1) := by decide +kernel
theorem s18_9 (K : aK) : am_Snd K 18 9 := sn_alen i18_9 d18_9 
theorem i18_10 : am_ins 18 10 = (13, 3, 22, 0, []) := by decide +kernel
theorem d18_10 : decode (am_cod 18) 10 = .ok (.if_icmp .ge 12, 3) := by decide +kernel
theorem s18_10 (K : aK) : am_Snd K 18 10 := sn_icmp_ge i18_10 d18_10 rfl
theorem i18_13 : am_ins 18 13 = (33, 0, 1, 0, []) := by decide +kernel
theorem d18_13 : decode (am_cod 18) 13 = .ok (.aload_n 0, 1) := by decide +kernel
theorem s18_13 (K : aK) : am_Snd K 18 13 := sn_aload_n i18_13 d18_13 rfl
theorem i18_14 : am_ins 18 14 = (18, 0, 1, 0, []) := by decide +kernel
theorem d18_14 : decode (am_cod 18) 14 = .ok (.getfield 20, 3) := by decide +kernel
theorem s18_14 (K : aK) : am_Snd K 18 14 := sn_get (C0 := CN0) (T := FT0) (Nf := 5) i18_14 d18_14 rfl (by decide +kernel) fin0 w_139 rfl
theorem i18_17 : am_ins 18 17 = (1, 1, 1, 0, []) := by decide +kernel
theorem d18_17 : decode (am_cod 18) 17 = .ok (.iload_n 1, 1) := by decide +kernel
theorem s18_17 (K : aK) : am_Snd K 18 17 := sn_iload_n i18_17 d18_17 rfl
theorem i18_18 : am_ins 18 18 = (26, 0, 0, 0, []) := by decide +kernel
theorem d18_18 : decode (am_cod 18) 18 = .ok (.aaload, 1) := by decide +kernel
theorem s18_18 (K : aK) : am_Snd K 18 18 := sn_aald i18_18 d18_18 
theorem i18_19 : am_ins 18 19 = (14, 23, 0, 0, []) := by decide +kernel
theorem d18_19 : decode (am_cod 18) 19 = .ok (.goto 4, 3) := by decide +kernel
theorem s18_19 (K : aK) : am_Snd K 18 19 := sn_goto i18_19 d18_19 rfl
theorem i18_22 : am_ins 18 22 = (17, 0, 0, 0, []) := by decide +kernel
theorem d18_22 : decode (am_cod 18) 22 = .ok (.aconst_null, 1) := by decide +kernel
theorem s18_22 (K : aK) : am_Snd K 18 22 := sn_null i18_22 d18_22 
theorem i18_23 : am_ins 18 23 = (52, 0, 0, 0, []) := by decide +kernel
theorem d18_23 : decode (am_cod 18) 23 = .ok (.areturn, 1) := by decide +kernel
theorem s18_23 : am_SndR 18 23 := sn_aret i18_23 d18_23 rfl (Or.inl ⟨_, rfl⟩)
theorem al18_0 (K : aK) : ∀ q ∈ [0, 1, 4, 5, 6, 9, 10, 13, 14, 17, 18, 19, 22, 23], am_All K 18 q := List.forall_mem_cons.mpr ⟨am_alS i18_0 (s18_0 K), List.forall_mem_cons.mpr ⟨am_alS i18_1 (s18_1 K), List.forall_mem_cons.mpr ⟨am_alS i18_4 (s18_4 K), List.forall_mem_cons.mpr ⟨am_alS i18_5 (s18_5 K), List.forall_mem_cons.mpr ⟨am_alS i18_6 (s18_6 K), List.forall_mem_cons.mpr ⟨am_alS i18_9 (s18_9 K), List.forall_mem_cons.mpr ⟨am_alS i18_10 (s18_10 K), List.forall_mem_cons.mpr ⟨am_alS i18_13 (s18_13 K), List.forall_mem_cons.mpr ⟨am_alS i18_14 (s18_14 K), List.forall_mem_cons.mpr ⟨am_alS i18_17 (s18_17 K), List.forall_mem_cons.mpr ⟨am_alS i18_18 (s18_18 K), List.forall_mem_cons.mpr ⟨am_alS i18_19 (s18_19 K), List.forall_mem_cons.mpr ⟨am_alS i18_22 (s18_22 K), List.forall_mem_cons.mpr ⟨am_alR i18_23 s18_23, fun _ h => absurd h List.not_mem_nil⟩⟩⟩⟩⟩⟩⟩⟩⟩⟩⟩⟩⟩⟩
set_option maxRecDepth 100000 in
theorem al18 (K : aK) : ∀ q ∈ (am_t18).map (fun z => z.1), am_All K 18 q := by
  have e : (am_t18).map (fun z => z.1) = [0, 1, 4, 5, 6, 9, 10, 13, 14, 17, 18, 19, 22, 23] := rfl
  rw [e]
  exact al18_0 K
theorem i19_0 : am_ins 19 0 = (1, 1, 1, 0, []) := by decide +kernel
theorem d19_0 : decode (am_cod 19) 0 = .ok (.iload_n 1, 1) := by decide +kernel
theorem s19_0 (K : aK) : am_Snd K 19 0 := sn_iload_n i19_0 d19_0 rfl
theorem i19_1 : am_ins 19 1 = (12, 2, 30, 0, []) := by decide +kernel
theorem d19_1 : decode (am_cod 19) 1 = .ok (.ifCond .lt 29, 3) := by decide +kernel
theorem s19_1 (K : aK) : am_Snd K 19 1 := sn_if_lt i19_1 d19_1 rfl
theorem i19_4 : am_ins 19 4 = (1, 1, 1, 0, []) := by decide +kernel
theorem d19_4 : decode (am_cod 19) 4 = .ok (.iload_n 1, 1) := by decide +kernel
theorem s19_4 (K : aK) : am_Snd K 19 4 := sn_iload_n i19_4 d19_4 rfl
theorem i19_5 : am_ins 19 5 = (33, 0, 1, 0, []) := by decide +kernel
theorem d19_5 : decode (am_cod 19) 5 = .ok (.aload_n 0, 1) := by decide +kernel
theorem s19_5 (K : aK) : am_Snd K 19 5 := sn_aload_n i19_5 d19_5 rfl
theorem i19_6 : am_ins 19 6 = (18, 0, 4, 0, []) := by decide +kernel
theorem d19_6 : decode (am_cod 19) 6 = .ok (.getfield 42, 3) := by decide +kernel
theorem s19_6 (K : aK) : am_Snd K 19 6 := sn_get (C0 := CN0) (T := FT0) (Nf := 5) i19_6 d19_6 rfl (by decide +kernel) fin0 w_142 rfl
theorem i19_9 : am_ins 19 9 = (13, 3, 30, 0, []) := by decide +kernel
theorem d19_9 : decode (am_cod 19) 9 = .ok (.if_icmp .ge 21, 3) := by decide +kernel
theorem s19_9 (K : aK) : am_Snd K 19 9 := sn_icmp_ge i19_9 d19_9 rfl
theorem i19_12 : am_ins 19 12 = (1, 1, 1, 0, []) := by decide +kernel
theorem d19_12 : decode (am_cod 19) 12 = .ok (.iload_n 1, 1) := by decide +kernel
theorem s19_12 (K : aK) : am_Snd K 19 12 := sn_iload_n i19_12 d19_12 rfl
theorem i19_13 : am_ins 19 13 = (33, 0, 1, 0, []) := by decide +kernel
theorem d19_13 : decode (am_cod 19) 13 = .ok (.aload_n 0, 1) := by decide +kernel
theorem s19_13 (K : aK) : am_Snd K 19 13 := sn_aload_n i19_13 d19_13 rfl
theorem i19_14 : am_ins 19 14 = (18, 0, 3, 0, []) := by decide +kernel
theorem d19_14 : decode (am_cod 19) 14 = .ok (.getfield 38, 3) := by decide +kernel
theorem s19_14 (K : aK) : am_Snd K 19 14 := sn_get (C0 := CN0) (T := FT0) (Nf := 5) i19_14 d19_14 rfl (by decide +kernel) fin0 w_141 rfl
theorem i19_17 : am_ins 19 17 = (28, 0, 0, 0, []) := by decide +kernel
theorem d19_17 : decode (am_cod 19) 17 = .ok (.arraylength, 1) := by decide +kernel
theorem s19_17 (K : aK) : am_Snd K 19 17 := sn_alen i19_17 d19_17 
theorem i19_18 : am_ins 19 18 = (13, 3, 30, 0, []) := by decide +kernel
theorem d19_18 : decode (am_cod 19) 18 = .ok (.if_icmp .ge 12, 3) := by decide +kernel
theorem s19_18 (K : aK) : am_Snd K 19 18 := sn_icmp_ge i19_18 d19_18 rfl
theorem i19_21 : am_ins 19 21 = (33, 0, 1, 0, []) := by decide +kernel
theorem d19_21 : decode (am_cod 19) 21 = .ok (.aload_n 0, 1) := by decide +kernel
theorem s19_21 (K : aK) : am_Snd K 19 21 := sn_aload_n i19_21 d19_21 rfl
theorem i19_22 : am_ins 19 22 = (18, 0, 3, 0, []) := by decide +kernel
theorem d19_22 : decode (am_cod 19) 22 = .ok (.getfield 38, 3) := by decide +kernel
theorem s19_22 (K : aK) : am_Snd K 19 22 := sn_get (C0 := CN0) (T := FT0) (Nf := 5) i19_22 d19_22 rfl (by decide +kernel) fin0 w_141 rfl
theorem i19_25 : am_ins 19 25 = (1, 1, 1, 0, []) := by decide +kernel
theorem d19_25 : decode (am_cod 19) 25 = .ok (.iload_n 1, 1) := by decide +kernel
theorem s19_25 (K : aK) : am_Snd K 19 25 := sn_iload_n i19_25 d19_25 rfl
theorem i19_26 : am_ins 19 26 = (26, 0, 0, 0, []) := by decide +kernel
theorem d19_26 : decode (am_cod 19) 26 = .ok (.aaload, 1) := by decide +kernel
theorem s19_26 (K : aK) : am_Snd K 19 26 := sn_aald i19_26 d19_26 
theorem i19_27 : am_ins 19 27 = (14, 31, 0, 0, []) := by decide +kernel
theorem d19_27 : decode (am_cod 19) 27 = .ok (.goto 4, 3) := by decide +kernel
theorem s19_27 (K : aK) : am_Snd K 19 27 := sn_goto i19_27 d19_27 rfl
theorem i19_30 : am_ins 19 30 = (17, 0, 0, 0, []) := by decide +kernel
theorem d19_30 : decode (am_cod 19) 30 = .ok (.aconst_null, 1) := by decide +kernel
theorem s19_30 (K : aK) : am_Snd K 19 30 := sn_null i19_30 d19_30 
theorem i19_31 : am_ins 19 31 = (52, 0, 0, 0, []) := by decide +kernel
theorem d19_31 : decode (am_cod 19) 31 = .ok (.areturn, 1) := by decide +kernel
theorem s19_31 : am_SndR 19 31 := sn_aret i19_31 d19_31 rfl (Or.inl ⟨_, rfl⟩)
theorem al19_0 (K : aK) : ∀ q ∈ [0, 1, 4, 5, 6, 9, 12, 13, 14, 17, 18, 21, 22, 25, 26, 27, 30, 31], am_All K 19 q := List.forall_mem_cons.mpr ⟨am_alS i19_0 (s19_0 K), List.forall_mem_cons.mpr ⟨am_alS i19_1 (s19_1 K), List.forall_mem_cons.mpr ⟨am_alS i19_4 (s19_4 K), List.forall_mem_cons.mpr ⟨am_alS i19_5 (s19_5 K), List.forall_mem_cons.mpr ⟨am_alS i19_6 (s19_6 K), List.forall_mem_cons.mpr ⟨am_alS i19_9 (s19_9 K), List.forall_mem_cons.mpr ⟨am_alS i19_12 (s19_12 K), List.forall_mem_cons.mpr ⟨am_alS i19_13 (s19_13 K), List.forall_mem_cons.mpr ⟨am_alS i19_14 (s19_14 K), List.forall_mem_cons.mpr ⟨am_alS i19_17 (s19_17 K), List.forall_mem_cons.mpr ⟨am_alS i19_18 (s19_18 K), List.forall_mem_cons.mpr ⟨am_alS i19_21 (s19_21 K), List.forall_mem_cons.mpr ⟨am_alS i19_22 (s19_22 K), List.forall_mem_cons.mpr ⟨am_alS i19_25 (s19_25 K), List.forall_mem_cons.mpr ⟨am_alS i19_26 (s19_26 K), List.forall_mem_cons.mpr ⟨am_alS i19_27 (s19_27 K), List.forall_mem_cons.mpr ⟨am_alS i19_30 (s19_30 K), List.forall_mem_cons.mpr ⟨am_alR i19_31 s19_31, fun _ h => absurd h List.not_mem_nil⟩⟩⟩⟩⟩⟩⟩⟩⟩⟩⟩⟩⟩⟩⟩⟩⟩⟩
set_option maxRecDepth 100000 in
theorem al19 (K : aK) : ∀ q ∈ (am_t19).map (fun z => z.1), am_All K 19 q := by
  have e : (am_t19).map (fun z => z.1) = [0, 1, 4, 5, 6, 9, 12, 13, 14, 17, 18, 21, 22, 25, 26, 27, 30, 31] := rfl
  rw [e]
  exact al19_0 K
theorem i20_0 : am_ins 20 0 = (1, 1, 1, 0, []) := by decide +kernel
theorem d20_0 : decode (am_cod 20) 0 = .ok (.iload_n 1, 1) := by decide +kernel
theorem s20_0 (K : aK) : am_Snd K 20 0 := sn_iload_n i20_0 d20_0 rfl
theorem i20_1 : am_ins 20 1 = (12, 2, 20, 0, []) := by decide +kernel
theorem d20_1 : decode (am_cod 20) 1 = .ok (.ifCond .lt 19, 3) := by decide +kernel
theorem s20_1 (K : aK) : am_Snd K 20 1 := sn_if_lt i20_1 d20_1 rfl
theorem i20_4 : am_ins 20 4 = (1, 1, 1, 0, []) := by decide +kernel
theorem d20_4 : decode (am_cod 20) 4 = .ok (.iload_n 1, 1) := by decide +kernel
theorem s20_4 (K : aK) : am_Snd K 20 4 := sn_iload_n i20_4 d20_4 rfl
theorem i20_5 : am_ins 20 5 = (0, 2, 0, 6, []) := by decide +kernel
theorem d20_5 : decode (am_cod 20) 5 = .ok (.bipush 6, 2) := by decide +kernel
theorem s20_5 (K : aK) : am_Snd K 20 5 := sn_const2 i20_5 d20_5 (by decide +kernel)
theorem i20_7 : am_ins 20 7 = (13, 3, 20, 0, []) := by decide +kernel
theorem d20_7 : decode (am_cod 20) 7 = .ok (.if_icmp .ge 13, 3) := by decide +kernel
theorem s20_7 (K : aK) : am_Snd K 20 7 := sn_icmp_ge i20_7 d20_7 rfl
theorem i20_10 : am_ins 20 10 = (1, 2, 1, 0, []) := by decide +kernel
theorem d20_10 : decode (am_cod 20) 10 = .ok (.iload_n 2, 1) := by decide +kernel
theorem s20_10 (K : aK) : am_Snd K 20 10 := sn_iload_n i20_10 d20_10 rfl
theorem i20_11 : am_ins 20 11 = (12, 2, 20, 0, []) := by decide +kernel
theorem d20_11 : decode (am_cod 20) 11 = .ok (.ifCond .lt 9, 3) := by decide +kernel
theorem s20_11 (K : aK) : am_Snd K 20 11 := sn_if_lt i20_11 d20_11 rfl
theorem i20_14 : am_ins 20 14 = (1, 2, 1, 0, []) := by decide +kernel
theorem d20_14 : decode (am_cod 20) 14 = .ok (.iload_n 2, 1) := by decide +kernel
theorem s20_14 (K : aK) : am_Snd K 20 14 := sn_iload_n i20_14 d20_14 rfl
theorem i20_15 : am_ins 20 15 = (0, 2, 0, 6, []) := by decide +kernel
theorem d20_15 : decode (am_cod 20) 15 = .ok (.bipush 6, 2) := by decide +kernel
theorem s20_15 (K : aK) : am_Snd K 20 15 := sn_const2 i20_15 d20_15 (by decide +kernel)
theorem i20_17 : am_ins 20 17 = (13, 2, 22, 0, []) := by decide +kernel
theorem d20_17 : decode (am_cod 20) 17 = .ok (.if_icmp .lt 5, 3) := by decide +kernel
theorem s20_17 (K : aK) : am_Snd K 20 17 := sn_icmp_lt i20_17 d20_17 rfl
theorem i20_20 : am_ins 20 20 = (17, 0, 0, 0, []) := by decide +kernel
theorem d20_20 : decode (am_cod 20) 20 = .ok (.aconst_null, 1) := by decide +kernel
theorem s20_20 (K : aK) : am_Snd K 20 20 := sn_null i20_20 d20_20 
theorem i20_21 : am_ins 20 21 = (52, 0, 0, 0, []) := by decide +kernel
theorem d20_21 : decode (am_cod 20) 21 = .ok (.areturn, 1) := by decide +kernel
theorem s20_21 : am_SndR 20 21 := sn_aret i20_21 d20_21 rfl (Or.inl ⟨_, rfl⟩)
theorem i20_22 : am_ins 20 22 = (1, 1, 1, 0, []) := by decide +kernel
theorem d20_22 : decode (am_cod 20) 22 = .ok (.iload_n 1, 1) := by decide +kernel
theorem s20_22 (K : aK) : am_Snd K 20 22 := sn_iload_n i20_22 d20_22 rfl
theorem i20_23 : am_ins 20 23 = (0, 2, 0, 6, []) := by decide +kernel
theorem d20_23 : decode (am_cod 20) 23 = .ok (.bipush 6, 2) := by decide +kernel
theorem s20_23 (K : aK) : am_Snd K 20 23 := sn_const2 i20_23 d20_23 (by decide +kernel)
theorem i20_25 : am_ins 20 25 = (4, 2, 0, 0, []) := by decide +kernel
theorem d20_25 : decode (am_cod 20) 25 = .ok (.imul, 1) := by decide +kernel
theorem s20_25 (K : aK) : am_Snd K 20 25 := sn_mul i20_25 d20_25 
theorem i20_26 : am_ins 20 26 = (1, 2, 1, 0, []) := by decide +kernel
theorem d20_26 : decode (am_cod 20) 26 = .ok (.iload_n 2, 1) := by decide +kernel
theorem s20_26 (K : aK) : am_Snd K 20 26 := sn_iload_n i20_26 d20_26 rfl
theorem i20_27 : am_ins 20 27 = (4, 0, 0, 0, []) := by decide +kernel
theorem d20_27 : decode (am_cod 20) 27 = .ok (.iadd, 1) := by decide +kernel
theorem s20_27 (K : aK) : am_Snd K 20 27 := sn_add i20_27 d20_27 
theorem i20_28 : am_ins 20 28 = (2, 3, 1, 0, []) := by decide +kernel
theorem d20_28 : decode (am_cod 20) 28 = .ok (.istore_n 3, 1) := by decide +kernel
theorem s20_28 (K : aK) : am_Snd K 20 28 := sn_istore_n i20_28 d20_28 rfl (by decide +kernel)
theorem i20_29 : am_ins 20 29 = (1, 3, 1, 0, []) := by decide +kernel
theorem d20_29 : decode (am_cod 20) 29 = .ok (.iload_n 3, 1) := by decide +kernel
theorem s20_29 (K : aK) : am_Snd K 20 29 := sn_iload_n i20_29 d20_29 rfl
theorem i20_30 : am_ins 20 30 = (33, 0, 1, 0, []) := by decide +kernel
theorem d20_30 : decode (am_cod 20) 30 = .ok (.aload_n 0, 1) := by decide +kernel
theorem s20_30 (K : aK) : am_Snd K 20 30 := sn_aload_n i20_30 d20_30 rfl
theorem i20_31 : am_ins 20 31 = (18, 0, 2, 0, []) := by decide +kernel
theorem d20_31 : decode (am_cod 20) 31 = .ok (.getfield 27, 3) := by decide +kernel
theorem s20_31 (K : aK) : am_Snd K 20 31 := sn_get (C0 := CN0) (T := FT0) (Nf := 5) i20_31 d20_31 rfl (by decide +kernel) fin0 w_140 rfl
theorem i20_34 : am_ins 20 34 = (28, 0, 0, 0, []) := by decide +kernel
theorem d20_34 : decode (am_cod 20) 34 = .ok (.arraylength, 1) := by decide +kernel
theorem s20_34 (K : aK) : am_Snd K 20 34 := sn_alen i20_34 d20_34 
theorem i20_35 : am_ins 20 35 = (13, 3, 47, 0, []) := by decide +kernel
theorem d20_35 : decode (am_cod 20) 35 = .ok (.if_icmp .ge 12, 3) := by decide +kernel
theorem s20_35 (K : aK) : am_Snd K 20 35 := sn_icmp_ge i20_35 d20_35 rfl
theorem i20_38 : am_ins 20 38 = (33, 0, 1, 0, []) := by decide +kernel
theorem d20_38 : decode (am_cod 20) 38 = .ok (.aload_n 0, 1) := by decide +kernel
theorem s20_38 (K : aK) : am_Snd K 20 38 := sn_aload_n i20_38 d20_38 rfl
theorem i20_39 : am_ins 20 39 = (18, 0, 2, 0, []) := by decide +kernel
theorem d20_39 : decode (am_cod 20) 39 = .ok (.getfield 27, 3) := by decide +kernel
theorem s20_39 (K : aK) : am_Snd K 20 39 := sn_get (C0 := CN0) (T := FT0) (Nf := 5) i20_39 d20_39 rfl (by decide +kernel) fin0 w_140 rfl
theorem i20_42 : am_ins 20 42 = (1, 3, 1, 0, []) := by decide +kernel
theorem d20_42 : decode (am_cod 20) 42 = .ok (.iload_n 3, 1) := by decide +kernel
theorem s20_42 (K : aK) : am_Snd K 20 42 := sn_iload_n i20_42 d20_42 rfl
theorem i20_43 : am_ins 20 43 = (26, 0, 0, 0, []) := by decide +kernel
theorem d20_43 : decode (am_cod 20) 43 = .ok (.aaload, 1) := by decide +kernel
theorem s20_43 (K : aK) : am_Snd K 20 43 := sn_aald i20_43 d20_43 
theorem i20_44 : am_ins 20 44 = (14, 48, 0, 0, []) := by decide +kernel
theorem d20_44 : decode (am_cod 20) 44 = .ok (.goto 4, 3) := by decide +kernel
theorem s20_44 (K : aK) : am_Snd K 20 44 := sn_goto i20_44 d20_44 rfl
theorem i20_47 : am_ins 20 47 = (17, 0, 0, 0, []) := by decide +kernel
theorem d20_47 : decode (am_cod 20) 47 = .ok (.aconst_null, 1) := by decide +kernel
theorem s20_47 (K : aK) : am_Snd K 20 47 := sn_null i20_47 d20_47 
theorem i20_48 : am_ins 20 48 = (52, 0, 0, 0, []) := by decide +kernel
theorem d20_48 : decode (am_cod 20) 48 = .ok (.areturn, 1) := by decide +kernel
theorem s20_48 : am_SndR 20 48 := sn_aret i20_48 d20_48 rfl (Or.inl ⟨_, rfl⟩)
theorem al20_0 (K : aK) : ∀ q ∈ [0, 1, 4, 5, 7, 10, 11, 14, 15, 17, 20, 21, 22, 23, 25, 26, 27, 28, 29, 30, 31, 34, 35, 38, 39, 42, 43, 44, 47, 48], am_All K 20 q := List.forall_mem_cons.mpr ⟨am_alS i20_0 (s20_0 K), List.forall_mem_cons.mpr ⟨am_alS i20_1 (s20_1 K), List.forall_mem_cons.mpr ⟨am_alS i20_4 (s20_4 K), List.forall_mem_cons.mpr ⟨am_alS i20_5 (s20_5 K), List.forall_mem_cons.mpr ⟨am_alS i20_7 (s20_7 K), List.forall_mem_cons.mpr ⟨am_alS i20_10 (s20_10 K), List.forall_mem_cons.mpr ⟨am_alS i20_11 (s20_11 K), List.forall_mem_cons.mpr ⟨am_alS i20_14 (s20_14 K), List.forall_mem_cons.mpr ⟨am_alS i20_15 (s20_15 K), List.forall_mem_cons.mpr ⟨am_alS i20_17 (s20_17 K), List.forall_mem_cons.mpr ⟨am_alS i20_20 (s20_20 K), List.forall_mem_cons.mpr ⟨am_alR i20_21 s20_21, List.forall_mem_cons.mpr ⟨am_alS i20_22 (s20_22 K), List.forall_mem_cons.mpr ⟨am_alS i20_23 (s20_23 K), List.forall_mem_cons.mpr ⟨am_alS i20_25 (s20_25 K), List.forall_mem_cons.mpr ⟨am_alS i20_26 (s20_26 K), List.forall_mem_cons.mpr ⟨am_alS i20_27 (s20_27 K), List.forall_mem_cons.mpr ⟨am_alS i20_28 (s20_28 K), List.forall_mem_cons.mpr ⟨am_alS i20_29 (s20_29 K), List.forall_mem_cons.mpr ⟨am_alS i20_30 (s20_30 K), List.forall_mem_cons.mpr ⟨am_alS i20_31 (s20_31 K), List.forall_mem_cons.mpr ⟨am_alS i20_34 (s20_34 K), List.forall_mem_cons.mpr ⟨am_alS i20_35 (s20_35 K), List.forall_mem_cons.mpr ⟨am_alS i20_38 (s20_38 K), List.forall_mem_cons.mpr ⟨am_alS i20_39 (s20_39 K), List.forall_mem_cons.mpr ⟨am_alS i20_42 (s20_42 K), List.forall_mem_cons.mpr ⟨am_alS i20_43 (s20_43 K), List.forall_mem_cons.mpr ⟨am_alS i20_44 (s20_44 K), List.forall_mem_cons.mpr ⟨am_alS i20_47 (s20_47 K), List.forall_mem_cons.mpr ⟨am_alR i20_48 s20_48, fun _ h => absurd h List.not_mem_nil⟩⟩⟩⟩⟩⟩⟩⟩⟩⟩⟩⟩⟩⟩⟩⟩⟩⟩⟩⟩⟩⟩⟩⟩⟩⟩⟩⟩⟩⟩
set_option maxRecDepth 100000 in
theorem al20 (K : aK) : ∀ q ∈ (am_t20).map (fun z => z.1), am_All K 20 q := by
  have e : (am_t20).map (fun z => z.1) = [0, 1, 4, 5, 7, 10, 11, 14, 15, 17, 20, 21, 22, 23, 25, 26, 27, 28, 29, 30, 31, 34, 35, 38, 39, 42, 43, 44, 47, 48] := rfl
  rw [e]
  exact al20_0 K
theorem i21_0 : am_ins 21 0 = (1, 0, 1, 0, []) := by decide +kernel
theorem d21_0 : decode (am_cod 21) 0 = .ok (.iload_n 0, 1) := by decide +kernel
theorem s21_0 (K : aK) : am_Snd K 21 0 := sn_iload_n i21_0 d21_0 rfl
theorem i21_1 : am_ins 21 1 = (12, 2, 13, 0, []) := by decide +kernel
theorem d21_1 : decode (am_cod 21) 1 = .ok (.ifCond .lt 12, 3) := by decide +kernel
theorem s21_1 (K : aK) : am_Snd K 21 1 := sn_if_lt i21_1 d21_1 rfl
theorem i21_4 : am_ins 21 4 = (1, 0, 1, 0, []) := by decide +kernel
theorem d21_4 : decode (am_cod 21) 4 = .ok (.iload_n 0, 1) := by decide +kernel
theorem s21_4 (K : aK) : am_Snd K 21 4 := sn_iload_n i21_4 d21_4 rfl
theorem i21_5 : am_ins 21 5 = (0, 1, 0, 3, []) := by decide +kernel
theorem d21_5 : decode (am_cod 21) 5 = .ok (.iconst 3, 1) := by decide +kernel
theorem s21_5 (K : aK) : am_Snd K 21 5 := sn_const1 i21_5 d21_5 rfl
theorem i21_6 : am_ins 21 6 = (13, 3, 13, 0, []) := by decide +kernel
theorem d21_6 : decode (am_cod 21) 6 = .ok (.if_icmp .ge 7, 3) := by decide +kernel
theorem s21_6 (K : aK) : am_Snd K 21 6 := sn_icmp_ge i21_6 d21_6 rfl
theorem i21_9 : am_ins 21 9 = (0, 1, 0, 1, []) := by decide +kernel
theorem d21_9 : decode (am_cod 21) 9 = .ok (.iconst 1, 1) := by decide +kernel
theorem s21_9 (K : aK) : am_Snd K 21 9 := sn_const1 i21_9 d21_9 rfl
theorem i21_10 : am_ins 21 10 = (14, 14, 0, 0, []) := by decide +kernel
theorem d21_10 : decode (am_cod 21) 10 = .ok (.goto 4, 3) := by decide +kernel
theorem s21_10 (K : aK) : am_Snd K 21 10 := sn_goto i21_10 d21_10 rfl
theorem i21_13 : am_ins 21 13 = (0, 1, 0, 0, []) := by decide +kernel
theorem d21_13 : decode (am_cod 21) 13 = .ok (.iconst 0, 1) := by decide +kernel
theorem s21_13 (K : aK) : am_Snd K 21 13 := sn_const1 i21_13 d21_13 rfl
theorem i21_14 : am_ins 21 14 = (51, 0, 0, 0, []) := by decide +kernel
theorem d21_14 : decode (am_cod 21) 14 = .ok (.ireturn, 1) := by decide +kernel
theorem s21_14 : am_SndR 21 14 := sn_zret i21_14 d21_14 rfl
theorem al21_0 (K : aK) : ∀ q ∈ [0, 1, 4, 5, 6, 9, 10, 13, 14], am_All K 21 q := List.forall_mem_cons.mpr ⟨am_alS i21_0 (s21_0 K), List.forall_mem_cons.mpr ⟨am_alS i21_1 (s21_1 K), List.forall_mem_cons.mpr ⟨am_alS i21_4 (s21_4 K), List.forall_mem_cons.mpr ⟨am_alS i21_5 (s21_5 K), List.forall_mem_cons.mpr ⟨am_alS i21_6 (s21_6 K), List.forall_mem_cons.mpr ⟨am_alS i21_9 (s21_9 K), List.forall_mem_cons.mpr ⟨am_alS i21_10 (s21_10 K), List.forall_mem_cons.mpr ⟨am_alS i21_13 (s21_13 K), List.forall_mem_cons.mpr ⟨am_alR i21_14 s21_14, fun _ h => absurd h List.not_mem_nil⟩⟩⟩⟩⟩⟩⟩⟩⟩
set_option maxRecDepth 100000 in
theorem al21 (K : aK) : ∀ q ∈ (am_t21).map (fun z => z.1), am_All K 21 q := by
  have e : (am_t21).map (fun z => z.1) = [0, 1, 4, 5, 6, 9, 10, 13, 14] := rfl
  rw [e]
  exact al21_0 K
theorem i22_0 : am_ins 22 0 = (1, 0, 1, 0, []) := by decide +kernel
theorem d22_0 : decode (am_cod 22) 0 = .ok (.iload_n 0, 1) := by decide +kernel
theorem s22_0 (K : aK) : am_Snd K 22 0 := sn_iload_n i22_0 d22_0 rfl
theorem i22_1 : am_ins 22 1 = (12, 2, 14, 0, []) := by decide +kernel
theorem d22_1 : decode (am_cod 22) 1 = .ok (.ifCond .lt 13, 3) := by decide +kernel
theorem s22_1 (K : aK) : am_Snd K 22 1 := sn_if_lt i22_1 d22_1 rfl
theorem i22_4 : am_ins 22 4 = (1, 0, 1, 0, []) := by decide +kernel
theorem d22_4 : decode (am_cod 22) 4 = .ok (.iload_n 0, 1) := by decide +kernel
theorem s22_4 (K : aK) : am_Snd K 22 4 := sn_iload_n i22_4 d22_4 rfl
theorem i22_5 : am_ins 22 5 = (0, 2, 0, 8, []) := by decide +kernel
theorem d22_5 : decode (am_cod 22) 5 = .ok (.bipush 8, 2) := by decide +kernel
theorem s22_5 (K : aK) : am_Snd K 22 5 := sn_const2 i22_5 d22_5 (by decide +kernel)
theorem i22_7 : am_ins 22 7 = (13, 3, 14, 0, []) := by decide +kernel
theorem d22_7 : decode (am_cod 22) 7 = .ok (.if_icmp .ge 7, 3) := by decide +kernel
theorem s22_7 (K : aK) : am_Snd K 22 7 := sn_icmp_ge i22_7 d22_7 rfl
theorem i22_10 : am_ins 22 10 = (0, 1, 0, 1, []) := by decide +kernel
theorem d22_10 : decode (am_cod 22) 10 = .ok (.iconst 1, 1) := by decide +kernel
theorem s22_10 (K : aK) : am_Snd K 22 10 := sn_const1 i22_10 d22_10 rfl
theorem i22_11 : am_ins 22 11 = (14, 15, 0, 0, []) := by decide +kernel
theorem d22_11 : decode (am_cod 22) 11 = .ok (.goto 4, 3) := by decide +kernel
theorem s22_11 (K : aK) : am_Snd K 22 11 := sn_goto i22_11 d22_11 rfl
theorem i22_14 : am_ins 22 14 = (0, 1, 0, 0, []) := by decide +kernel
theorem d22_14 : decode (am_cod 22) 14 = .ok (.iconst 0, 1) := by decide +kernel
theorem s22_14 (K : aK) : am_Snd K 22 14 := sn_const1 i22_14 d22_14 rfl
theorem i22_15 : am_ins 22 15 = (51, 0, 0, 0, []) := by decide +kernel
theorem d22_15 : decode (am_cod 22) 15 = .ok (.ireturn, 1) := by decide +kernel
theorem s22_15 : am_SndR 22 15 := sn_zret i22_15 d22_15 rfl
theorem al22_0 (K : aK) : ∀ q ∈ [0, 1, 4, 5, 7, 10, 11, 14, 15], am_All K 22 q := List.forall_mem_cons.mpr ⟨am_alS i22_0 (s22_0 K), List.forall_mem_cons.mpr ⟨am_alS i22_1 (s22_1 K), List.forall_mem_cons.mpr ⟨am_alS i22_4 (s22_4 K), List.forall_mem_cons.mpr ⟨am_alS i22_5 (s22_5 K), List.forall_mem_cons.mpr ⟨am_alS i22_7 (s22_7 K), List.forall_mem_cons.mpr ⟨am_alS i22_10 (s22_10 K), List.forall_mem_cons.mpr ⟨am_alS i22_11 (s22_11 K), List.forall_mem_cons.mpr ⟨am_alS i22_14 (s22_14 K), List.forall_mem_cons.mpr ⟨am_alR i22_15 s22_15, fun _ h => absurd h List.not_mem_nil⟩⟩⟩⟩⟩⟩⟩⟩⟩
set_option maxRecDepth 100000 in
theorem al22 (K : aK) : ∀ q ∈ (am_t22).map (fun z => z.1), am_All K 22 q := by
  have e : (am_t22).map (fun z => z.1) = [0, 1, 4, 5, 7, 10, 11, 14, 15] := rfl
  rw [e]
  exact al22_0 K
theorem i23_0 : am_ins 23 0 = (1, 0, 1, 0, []) := by decide +kernel
theorem d23_0 : decode (am_cod 23) 0 = .ok (.iload_n 0, 1) := by decide +kernel
theorem s23_0 (K : aK) : am_Snd K 23 0 := sn_iload_n i23_0 d23_0 rfl
theorem i23_1 : am_ins 23 1 = (0, 1, 0, 2, []) := by decide +kernel
theorem d23_1 : decode (am_cod 23) 1 = .ok (.iconst 2, 1) := by decide +kernel
theorem s23_1 (K : aK) : am_Snd K 23 1 := sn_const1 i23_1 d23_1 rfl
theorem i23_2 : am_ins 23 2 = (4, 2, 0, 0, []) := by decide +kernel
theorem d23_2 : decode (am_cod 23) 2 = .ok (.imul, 1) := by decide +kernel
theorem s23_2 (K : aK) : am_Snd K 23 2 := sn_mul i23_2 d23_2 
theorem i23_3 : am_ins 23 3 = (50, 0, 0, 0, []) := by decide +kernel
theorem d23_3 : decode (am_cod 23) 3 = .ok (.ireturn, 1) := by decide +kernel
theorem s23_3 : am_SndR 23 3 := sn_iret i23_3 d23_3 rfl
theorem al23_0 (K : aK) : ∀ q ∈ [0, 1, 2, 3], am_All K 23 q := List.forall_mem_cons.mpr ⟨am_alS i23_0 (s23_0 K), List.forall_mem_cons.mpr ⟨am_alS i23_1 (s23_1 K), List.forall_mem_cons.mpr ⟨am_alS i23_2 (s23_2 K), List.forall_mem_cons.mpr ⟨am_alR i23_3 s23_3, fun _ h => absurd h List.not_mem_nil⟩⟩⟩⟩
set_option maxRecDepth 100000 in
theorem al23 (K : aK) : ∀ q ∈ (am_t23).map (fun z => z.1), am_All K 23 q := by
  have e : (am_t23).map (fun z => z.1) = [0, 1, 2, 3] := rfl
  rw [e]
  exact al23_0 K
theorem i24_0 : am_ins 24 0 = (1, 0, 1, 0, []) := by decide +kernel
theorem d24_0 : decode (am_cod 24) 0 = .ok (.iload_n 0, 1) := by decide +kernel
theorem s24_0 (K : aK) : am_Snd K 24 0 := sn_iload_n i24_0 d24_0 rfl
theorem i24_1 : am_ins 24 1 = (0, 1, 0, 2, []) := by decide +kernel
theorem d24_1 : decode (am_cod 24) 1 = .ok (.iconst 2, 1) := by decide +kernel
theorem s24_1 (K : aK) : am_Snd K 24 1 := sn_const1 i24_1 d24_1 rfl
theorem i24_2 : am_ins 24 2 = (5, 0, 0, 0, []) := by decide +kernel
theorem d24_2 : decode (am_cod 24) 2 = .ok (.idiv, 1) := by decide +kernel
theorem s24_2 (K : aK) : am_Snd K 24 2 := sn_div i24_2 d24_2 
theorem i24_3 : am_ins 24 3 = (1, 1, 1, 0, []) := by decide +kernel
theorem d24_3 : decode (am_cod 24) 3 = .ok (.iload_n 1, 1) := by decide +kernel
theorem s24_3 (K : aK) : am_Snd K 24 3 := sn_iload_n i24_3 d24_3 rfl
theorem i24_4 : am_ins 24 4 = (0, 1, 0, 2, []) := by decide +kernel
theorem d24_4 : decode (am_cod 24) 4 = .ok (.iconst 2, 1) := by decide +kernel
theorem s24_4 (K : aK) : am_Snd K 24 4 := sn_const1 i24_4 d24_4 rfl
theorem i24_5 : am_ins 24 5 = (5, 0, 0, 0, []) := by decide +kernel
theorem d24_5 : decode (am_cod 24) 5 = .ok (.idiv, 1) := by decide +kernel
theorem s24_5 (K : aK) : am_Snd K 24 5 := sn_div i24_5 d24_5 
theorem i24_6 : am_ins 24 6 = (13, 1, 13, 0, []) := by decide +kernel
theorem d24_6 : decode (am_cod 24) 6 = .ok (.if_icmp .ne 7, 3) := by decide +kernel
theorem s24_6 (K : aK) : am_Snd K 24 6 := sn_icmp_ne i24_6 d24_6 rfl
theorem i24_9 : am_ins 24 9 = (0, 1, 0, 1, []) := by decide +kernel
theorem d24_9 : decode (am_cod 24) 9 = .ok (.iconst 1, 1) := by decide +kernel
theorem s24_9 (K : aK) : am_Snd K 24 9 := sn_const1 i24_9 d24_9 rfl
theorem i24_10 : am_ins 24 10 = (14, 14, 0, 0, []) := by decide +kernel
theorem d24_10 : decode (am_cod 24) 10 = .ok (.goto 4, 3) := by decide +kernel
theorem s24_10 (K : aK) : am_Snd K 24 10 := sn_goto i24_10 d24_10 rfl
theorem i24_13 : am_ins 24 13 = (0, 1, 0, 0, []) := by decide +kernel
theorem d24_13 : decode (am_cod 24) 13 = .ok (.iconst 0, 1) := by decide +kernel
theorem s24_13 (K : aK) : am_Snd K 24 13 := sn_const1 i24_13 d24_13 rfl
theorem i24_14 : am_ins 24 14 = (2, 2, 1, 0, []) := by decide +kernel
theorem d24_14 : decode (am_cod 24) 14 = .ok (.istore_n 2, 1) := by decide +kernel
theorem s24_14 (K : aK) : am_Snd K 24 14 := sn_istore_n i24_14 d24_14 rfl (by decide +kernel)
theorem i24_15 : am_ins 24 15 = (1, 0, 1, 0, []) := by decide +kernel
theorem d24_15 : decode (am_cod 24) 15 = .ok (.iload_n 0, 1) := by decide +kernel
theorem s24_15 (K : aK) : am_Snd K 24 15 := sn_iload_n i24_15 d24_15 rfl
theorem i24_16 : am_ins 24 16 = (0, 1, 0, 2, []) := by decide +kernel
theorem d24_16 : decode (am_cod 24) 16 = .ok (.iconst 2, 1) := by decide +kernel
theorem s24_16 (K : aK) : am_Snd K 24 16 := sn_const1 i24_16 d24_16 rfl
theorem i24_17 : am_ins 24 17 = (6, 0, 0, 0, []) := by decide +kernel
theorem d24_17 : decode (am_cod 24) 17 = .ok (.irem, 1) := by decide +kernel
theorem s24_17 (K : aK) : am_Snd K 24 17 := sn_rem i24_17 d24_17 
theorem i24_18 : am_ins 24 18 = (1, 1, 1, 0, []) := by decide +kernel
theorem d24_18 : decode (am_cod 24) 18 = .ok (.iload_n 1, 1) := by decide +kernel
theorem s24_18 (K : aK) : am_Snd K 24 18 := sn_iload_n i24_18 d24_18 rfl
theorem i24_19 : am_ins 24 19 = (0, 1, 0, 2, []) := by decide +kernel
theorem d24_19 : decode (am_cod 24) 19 = .ok (.iconst 2, 1) := by decide +kernel
theorem s24_19 (K : aK) : am_Snd K 24 19 := sn_const1 i24_19 d24_19 rfl
theorem i24_20 : am_ins 24 20 = (6, 0, 0, 0, []) := by decide +kernel
theorem d24_20 : decode (am_cod 24) 20 = .ok (.irem, 1) := by decide +kernel
theorem s24_20 (K : aK) : am_Snd K 24 20 := sn_rem i24_20 d24_20 
theorem i24_21 : am_ins 24 21 = (13, 1, 28, 0, []) := by decide +kernel
theorem d24_21 : decode (am_cod 24) 21 = .ok (.if_icmp .ne 7, 3) := by decide +kernel
theorem s24_21 (K : aK) : am_Snd K 24 21 := sn_icmp_ne i24_21 d24_21 rfl
theorem i24_24 : am_ins 24 24 = (0, 1, 0, 1, []) := by decide +kernel
theorem d24_24 : decode (am_cod 24) 24 = .ok (.iconst 1, 1) := by decide +kernel
theorem s24_24 (K : aK) : am_Snd K 24 24 := sn_const1 i24_24 d24_24 rfl
theorem i24_25 : am_ins 24 25 = (14, 29, 0, 0, []) := by decide +kernel
theorem d24_25 : decode (am_cod 24) 25 = .ok (.goto 4, 3) := by decide +kernel
theorem s24_25 (K : aK) : am_Snd K 24 25 := sn_goto i24_25 d24_25 rfl
theorem i24_28 : am_ins 24 28 = (0, 1, 0, 0, []) := by decide +kernel
theorem d24_28 : decode (am_cod 24) 28 = .ok (.iconst 0, 1) := by decide +kernel
theorem s24_28 (K : aK) : am_Snd K 24 28 := sn_const1 i24_28 d24_28 rfl
theorem i24_29 : am_ins 24 29 = (2, 3, 1, 0, []) := by decide +kernel
theorem d24_29 : decode (am_cod 24) 29 = .ok (.istore_n 3, 1) := by decide +kernel
theorem s24_29 (K : aK) : am_Snd K 24 29 := sn_istore_n i24_29 d24_29 rfl (by decide +kernel)
theorem i24_30 : am_ins 24 30 = (1, 2, 1, 0, []) := by decide +kernel
theorem d24_30 : decode (am_cod 24) 30 = .ok (.iload_n 2, 1) := by decide +kernel
theorem s24_30 (K : aK) : am_Snd K 24 30 := sn_iload_n i24_30 d24_30 rfl
theorem i24_31 : am_ins 24 31 = (1, 3, 1, 0, []) := by decide +kernel
theorem d24_31 : decode (am_cod 24) 31 = .ok (.iload_n 3, 1) := by decide +kernel
theorem s24_31 (K : aK) : am_Snd K 24 31 := sn_iload_n i24_31 d24_31 rfl
theorem i24_32 : am_ins 24 32 = (13, 0, 39, 0, []) := by decide +kernel
theorem d24_32 : decode (am_cod 24) 32 = .ok (.if_icmp .eq 7, 3) := by decide +kernel
theorem s24_32 (K : aK) : am_Snd K 24 32 := sn_icmp_eq i24_32 d24_32 rfl
theorem i24_35 : am_ins 24 35 = (0, 1, 0, 1, []) := by decide +kernel
theorem d24_35 : decode (am_cod 24) 35 = .ok (.iconst 1, 1) := by decide +kernel
theorem s24_35 (K : aK) : am_Snd K 24 35 := sn_const1 i24_35 d24_35 rfl
theorem i24_36 : am_ins 24 36 = (14, 40, 0, 0, []) := by decide +kernel
theorem d24_36 : decode (am_cod 24) 36 = .ok (.goto 4, 3) := by decide +kernel
theorem s24_36 (K : aK) : am_Snd K 24 36 := sn_goto i24_36 d24_36 rfl
theorem i24_39 : am_ins 24 39 = (0, 1, 0, 0, []) := by decide +kernel
theorem d24_39 : decode (am_cod 24) 39 = .ok (.iconst 0, 1) := by decide +kernel
theorem s24_39 (K : aK) : am_Snd K 24 39 := sn_const1 i24_39 d24_39 rfl
theorem i24_40 : am_ins 24 40 = (51, 0, 0, 0, []) := by decide +kernel
theorem d24_40 : decode (am_cod 24) 40 = .ok (.ireturn, 1) := by decide +kernel
theorem s24_40 : am_SndR 24 40 := sn_zret i24_40 d24_40 rfl
theorem al24_0 (K : aK) : ∀ q ∈ [0, 1, 2, 3, 4, 5, 6, 9, 10, 13, 14, 15, 16, 17, 18, 19, 20, 21, 24, 25, 28, 29, 30, 31, 32, 35, 36, 39, 40], am_All K 24 q := List.forall_mem_cons.mpr ⟨am_alS i24_0 (s24_0 K), List.forall_mem_cons.mpr ⟨am_alS i24_1 (s24_1 K), List.forall_mem_cons.mpr ⟨am_alS i24_2 (s24_2 K), List.forall_mem_cons.mpr ⟨am_alS i24_3 (s24_3 K), List.forall_mem_cons.mpr ⟨am_alS i24_4 (s24_4 K), List.forall_mem_cons.mpr ⟨am_alS i24_5 (s24_5 K), List.forall_mem_cons.mpr ⟨am_alS i24_6 (s24_6 K), List.forall_mem_cons.mpr ⟨am_alS i24_9 (s24_9 K), List.forall_mem_cons.mpr ⟨am_alS i24_10 (s24_10 K), List.forall_mem_cons.mpr ⟨am_alS i24_13 (s24_13 K), List.forall_mem_cons.mpr ⟨am_alS i24_14 (s24_14 K), List.forall_mem_cons.mpr ⟨am_alS i24_15 (s24_15 K), List.forall_mem_cons.mpr ⟨am_alS i24_16 (s24_16 K), List.forall_mem_cons.mpr ⟨am_alS i24_17 (s24_17 K), List.forall_mem_cons.mpr ⟨am_alS i24_18 (s24_18 K), List.forall_mem_cons.mpr ⟨am_alS i24_19 (s24_19 K), List.forall_mem_cons.mpr ⟨am_alS i24_20 (s24_20 K), List.forall_mem_cons.mpr ⟨am_alS i24_21 (s24_21 K), List.forall_mem_cons.mpr ⟨am_alS i24_24 (s24_24 K), List.forall_mem_cons.mpr ⟨am_alS i24_25 (s24_25 K), List.forall_mem_cons.mpr ⟨am_alS i24_28 (s24_28 K), List.forall_mem_cons.mpr ⟨am_alS i24_29 (s24_29 K), List.forall_mem_cons.mpr ⟨am_alS i24_30 (s24_30 K), List.forall_mem_cons.mpr ⟨am_alS i24_31 (s24_31 K), List.forall_mem_cons.mpr ⟨am_alS i24_32 (s24_32 K), List.forall_mem_cons.mpr ⟨am_alS i24_35 (s24_35 K), List.forall_mem_cons.mpr ⟨am_alS i24_36 (s24_36 K), List.forall_mem_cons.mpr ⟨am_alS i24_39 (s24_39 K), List.forall_mem_cons.mpr ⟨am_alR i24_40 s24_40, fun _ h => absurd h List.not_mem_nil⟩⟩⟩⟩⟩⟩⟩⟩⟩⟩⟩⟩⟩⟩⟩⟩⟩⟩⟩⟩⟩⟩⟩⟩⟩⟩⟩⟩⟩
set_option maxRecDepth 100000 in
theorem al24 (K : aK) : ∀ q ∈ (am_t24).map (fun z => z.1), am_All K 24 q := by
  have e : (am_t24).map (fun z => z.1) = [0, 1, 2, 3, 4, 5, 6, 9, 10, 13, 14, 15, 16, 17, 18, 19, 20, 21, 24, 25, 28, 29, 30, 31, 32, 35, 36, 39, 40] := rfl
  rw [e]
  exact al24_0 K
theorem i25_0 : am_ins 25 0 = (1, 1, 1, 0, []) := by decide +kernel
theorem d25_0 : decode (am_cod 25) 0 = .ok (.iload_n 1, 1) := by decide +kernel
theorem s25_0 (K : aK) : am_Snd K 25 0 := sn_iload_n i25_0 d25_0 rfl
theorem i25_1 : am_ins 25 1 = (12, 2, 16, 0, []) := by decide +kernel
theorem d25_1 : decode (am_cod 25) 1 = .ok (.ifCond .lt 15, 3) := by decide +kernel
theorem s25_1 (K : aK) : am_Snd K 25 1 := sn_if_lt i25_1 d25_1 rfl
theorem i25_4 : am_ins 25 4 = (1, 1, 1, 0, []) := by decide +kernel
theorem d25_4 : decode (am_cod 25) 4 = .ok (.iload_n 1, 1) := by decide +kernel
theorem s25_4 (K : aK) : am_Snd K 25 4 := sn_iload_n i25_4 d25_4 rfl
theorem i25_5 : am_ins 25 5 = (33, 0, 1, 0, []) := by decide +kernel
theorem d25_5 : decode (am_cod 25) 5 = .ok (.aload_n 0, 1) := by decide +kernel
theorem s25_5 (K : aK) : am_Snd K 25 5 := sn_aload_n i25_5 d25_5 rfl
theorem i25_6 : am_ins 25 6 = (28, 0, 0, 0, []) := by decide +kernel
theorem d25_6 : decode (am_cod 25) 6 = .ok (.arraylength, 1) := by decide +kernel
theorem s25_6 (K : aK) : am_Snd K 25 6 := sn_alen i25_6 d25_6 
theorem i25_7 : am_ins 25 7 = (13, 3, 16, 0, []) := by decide +kernel
theorem d25_7 : decode (am_cod 25) 7 = .ok (.if_icmp .ge 9, 3) := by decide +kernel
theorem s25_7 (K : aK) : am_Snd K 25 7 := sn_icmp_ge i25_7 d25_7 rfl
theorem i25_10 : am_ins 25 10 = (33, 0, 1, 0, []) := by decide +kernel
theorem d25_10 : decode (am_cod 25) 10 = .ok (.aload_n 0, 1) := by decide +kernel
theorem s25_10 (K : aK) : am_Snd K 25 10 := sn_aload_n i25_10 d25_10 rfl
theorem i25_11 : am_ins 25 11 = (1, 1, 1, 0, []) := by decide +kernel
theorem d25_11 : decode (am_cod 25) 11 = .ok (.iload_n 1, 1) := by decide +kernel
theorem s25_11 (K : aK) : am_Snd K 25 11 := sn_iload_n i25_11 d25_11 rfl
theorem i25_12 : am_ins 25 12 = (22, 0, 0, 0, []) := by decide +kernel
theorem d25_12 : decode (am_cod 25) 12 = .ok (.iaload, 1) := by decide +kernel
theorem s25_12 (K : aK) : am_Snd K 25 12 := sn_iald i25_12 d25_12 
theorem i25_13 : am_ins 25 13 = (14, 17, 0, 0, []) := by decide +kernel
theorem d25_13 : decode (am_cod 25) 13 = .ok (.goto 4, 3) := by decide +kernel
theorem s25_13 (K : aK) : am_Snd K 25 13 := sn_goto i25_13 d25_13 rfl
theorem i25_16 : am_ins 25 16 = (0, 1, 0, (-1), []) := by decide +kernel
theorem d25_16 : decode (am_cod 25) 16 = .ok (.iconst (-1), 1) := by decide +kernel
theorem s25_16 (K : aK) : am_Snd K 25 16 := sn_const1 i25_16 d25_16 rfl
theorem i25_17 : am_ins 25 17 = (50, 0, 0, 0, []) := by decide +kernel
theorem d25_17 : decode (am_cod 25) 17 = .ok (.ireturn, 1) := by decide +kernel
theorem s25_17 : am_SndR 25 17 := sn_iret i25_17 d25_17 rfl
theorem al25_0 (K : aK) : ∀ q ∈ [0, 1, 4, 5, 6, 7, 10, 11, 12, 13, 16, 17], am_All K 25 q := List.forall_mem_cons.mpr ⟨am_alS i25_0 (s25_0 K), List.forall_mem_cons.mpr ⟨am_alS i25_1 (s25_1 K), List.forall_mem_cons.mpr ⟨am_alS i25_4 (s25_4 K), List.forall_mem_cons.mpr ⟨am_alS i25_5 (s25_5 K), List.forall_mem_cons.mpr ⟨am_alS i25_6 (s25_6 K), List.forall_mem_cons.mpr ⟨am_alS i25_7 (s25_7 K), List.forall_mem_cons.mpr ⟨am_alS i25_10 (s25_10 K), List.forall_mem_cons.mpr ⟨am_alS i25_11 (s25_11 K), List.forall_mem_cons.mpr ⟨am_alS i25_12 (s25_12 K), List.forall_mem_cons.mpr ⟨am_alS i25_13 (s25_13 K), List.forall_mem_cons.mpr ⟨am_alS i25_16 (s25_16 K), List.forall_mem_cons.mpr ⟨am_alR i25_17 s25_17, fun _ h => absurd h List.not_mem_nil⟩⟩⟩⟩⟩⟩⟩⟩⟩⟩⟩⟩
set_option maxRecDepth 100000 in
theorem al25 (K : aK) : ∀ q ∈ (am_t25).map (fun z => z.1), am_All K 25 q := by
  have e : (am_t25).map (fun z => z.1) = [0, 1, 4, 5, 6, 7, 10, 11, 12, 13, 16, 17] := rfl
  rw [e]
  exact al25_0 K
theorem i26_0 : am_ins 26 0 = (33, 1, 1, 0, []) := by decide +kernel
theorem d26_0 : decode (am_cod 26) 0 = .ok (.aload_n 1, 1) := by decide +kernel
theorem s26_0 (K : aK) : am_Snd K 26 0 := sn_aload_n i26_0 d26_0 rfl
theorem i26_1 : am_ins 26 1 = (1, 2, 1, 0, []) := by decide +kernel
theorem d26_1 : decode (am_cod 26) 1 = .ok (.iload_n 2, 1) := by decide +kernel
theorem s26_1 (K : aK) : am_Snd K 26 1 := sn_iload_n i26_1 d26_1 rfl
theorem i26_2 : am_ins 26 2 = (60, 37, 1, 0, []) := by decide +kernel
theorem d26_2 : decode (am_cod 26) 2 = .ok (.invokevirtual 232, 3) := by decide +kernel
theorem s26_2 (K : aK) : am_SndC K 26 2 := sc_V i26_2 d26_2 co37 w_224 w_225 w_226 w_2 rfl (rr := (CN1, FT1, 7)) rfl rfl hd37
theorem i26_5 : am_ins 26 5 = (34, 3, 1, 0, []) := by decide +kernel
theorem d26_5 : decode (am_cod 26) 5 = .ok (.astore_n 3, 1) := by decide +kernel
theorem s26_5 (K : aK) : am_Snd K 26 5 := sn_astore_n i26_5 d26_5 rfl (by decide +kernel)
theorem i26_6 : am_ins 26 6 = (33, 0, 1, 0, []) := by decide +kernel
theorem d26_6 : decode (am_cod 26) 6 = .ok (.aload_n 0, 1) := by decide +kernel
theorem s26_6 (K : aK) : am_Snd K 26 6 := sn_aload_n i26_6 d26_6 rfl
theorem i26_7 : am_ins 26 7 = (33, 1, 1, 0, []) := by decide +kernel
theorem d26_7 : decode (am_cod 26) 7 = .ok (.aload_n 1, 1) := by decide +kernel
theorem s26_7 (K : aK) : am_Snd K 26 7 := sn_aload_n i26_7 d26_7 rfl
theorem i26_8 : am_ins 26 8 = (18, 1, 0, 0, []) := by decide +kernel
theorem d26_8 : decode (am_cod 26) 8 = .ok (.getfield 53, 3) := by decide +kernel
theorem s26_8 (K : aK) : am_Snd K 26 8 := sn_get (C0 := CN1) (T := FT1) (Nf := 7) i26_8 d26_8 rfl (by decide +kernel) fin1 w_44 rfl
theorem i26_11 : am_ins 26 11 = (61, 23, 1, 0, []) := by decide +kernel
theorem d26_11 : decode (am_cod 26) 11 = .ok (.invokestatic 56, 3) := by decide +kernel
theorem s26_11 (K : aK) : am_SndC K 26 11 := sc_S i26_11 d26_11 co23 w_162 w_163 w_1 hd23
theorem i26_14 : am_ins 26 14 = (1, 2, 1, 0, []) := by decide +kernel
theorem d26_14 : decode (am_cod 26) 14 = .ok (.iload_n 2, 1) := by decide +kernel
theorem s26_14 (K : aK) : am_Snd K 26 14 := sn_iload_n i26_14 d26_14 rfl
theorem i26_15 : am_ins 26 15 = (0, 1, 0, 2, []) := by decide +kernel
theorem d26_15 : decode (am_cod 26) 15 = .ok (.iconst 2, 1) := by decide +kernel
theorem s26_15 (K : aK) : am_Snd K 26 15 := sn_const1 i26_15 d26_15 rfl
theorem i26_16 : am_ins 26 16 = (6, 0, 0, 0, []) := by decide +kernel
theorem d26_16 : decode (am_cod 26) 16 = .ok (.irem, 1) := by decide +kernel
theorem s26_16 (K : aK) : am_Snd K 26 16 := sn_rem i26_16 d26_16 
theorem i26_17 : am_ins 26 17 = (4, 0, 0, 0, []) := by decide +kernel
theorem d26_17 : decode (am_cod 26) 17 = .ok (.iadd, 1) := by decide +kernel
theorem s26_17 (K : aK) : am_Snd K 26 17 := sn_add i26_17 d26_17 
theorem i26_18 : am_ins 26 18 = (60, 18, 1, 0, []) := by decide +kernel
theorem d26_18 : decode (am_cod 26) 18 = .ok (.invokevirtual 60, 3) := by decide +kernel
theorem s26_18 (K : aK) : am_SndC K 26 18 := sc_V i26_18 d26_18 co18 w_165 w_167 ws_1 w_1 rfl (rr := (CN0, FT0, 5)) rfl rfl hd18
theorem i26_21 : am_ins 26 21 = (34, 4, 2, 0, []) := by decide +kernel
theorem d26_21 : decode (am_cod 26) 21 = .ok (.astore 4, 2) := by decide +kernel
theorem s26_21 (K : aK) : am_Snd K 26 21 := sn_astore i26_21 d26_21 (by decide +kernel)
theorem i26_23 : am_ins 26 23 = (33, 4, 2, 0, []) := by decide +kernel
theorem d26_23 : decode (am_cod 26) 23 = .ok (.aload 4, 2) := by decide +kernel
theorem s26_23 (K : aK) : am_Snd K 26 23 := sn_aload i26_23 d26_23 
theorem i26_25 : am_ins 26 25 = (16, 32, 0, 0, []) := by decide +kernel
theorem d26_25 : decode (am_cod 26) 25 = .ok (.ifnonnull 7, 3) := by decide +kernel
theorem s26_25 (K : aK) : am_Snd K 26 25 := sn_ifnonnull i26_25 d26_25 rfl
theorem i26_28 : am_ins 26 28 = (17, 0, 0, 0, []) := by decide +kernel
theorem d26_28 : decode (am_cod 26) 28 = .ok (.aconst_null, 1) := by decide +kernel
theorem s26_28 (K : aK) : am_Snd K 26 28 := sn_null i26_28 d26_28 
theorem i26_29 : am_ins 26 29 = (14, 42, 0, 0, []) := by decide +kernel
theorem d26_29 : decode (am_cod 26) 29 = .ok (.goto 13, 3) := by decide +kernel
theorem s26_29 (K : aK) : am_Snd K 26 29 := sn_goto i26_29 d26_29 rfl
theorem i26_32 : am_ins 26 32 = (33, 4, 2, 0, []) := by decide +kernel
theorem d26_32 : decode (am_cod 26) 32 = .ok (.aload 4, 2) := by decide +kernel
theorem s26_32 (K : aK) : am_Snd K 26 32 := sn_aload i26_32 d26_32 
theorem i26_34 : am_ins 26 34 = (1, 2, 1, 0, []) := by decide +kernel
theorem d26_34 : decode (am_cod 26) 34 = .ok (.iload_n 2, 1) := by decide +kernel
theorem s26_34 (K : aK) : am_Snd K 26 34 := sn_iload_n i26_34 d26_34 rfl
theorem i26_35 : am_ins 26 35 = (33, 1, 1, 0, []) := by decide +kernel
theorem d26_35 : decode (am_cod 26) 35 = .ok (.aload_n 1, 1) := by decide +kernel
theorem s26_35 (K : aK) : am_Snd K 26 35 := sn_aload_n i26_35 d26_35 rfl
theorem i26_36 : am_ins 26 36 = (18, 1, 1, 0, []) := by decide +kernel
theorem d26_36 : decode (am_cod 26) 36 = .ok (.getfield 180, 3) := by decide +kernel
theorem s26_36 (K : aK) : am_Snd K 26 36 := sn_get (C0 := CN1) (T := FT1) (Nf := 7) i26_36 d26_36 rfl (by decide +kernel) fin1 w_47 rfl
theorem i26_39 : am_ins 26 39 = (60, 56, 2, 0, []) := by decide +kernel
theorem d26_39 : decode (am_cod 26) 39 = .ok (.invokevirtual 235, 3) := by decide +kernel
theorem s26_39 (K : aK) : am_SndC K 26 39 := sc_V i26_39 d26_39 co56 w_229 w_230 w_231 w_4 rfl (rr := (CN4, FT4, 9)) rfl rfl hd56
theorem i26_42 : am_ins 26 42 = (34, 5, 2, 0, []) := by decide +kernel
theorem d26_42 : decode (am_cod 26) 42 = .ok (.astore 5, 2) := by decide +kernel
theorem s26_42 (K : aK) : am_Snd K 26 42 := sn_astore i26_42 d26_42 (by decide +kernel)
theorem i26_44 : am_ins 26 44 = (33, 3, 1, 0, []) := by decide +kernel
theorem d26_44 : decode (am_cod 26) 44 = .ok (.aload_n 3, 1) := by decide +kernel
theorem s26_44 (K : aK) : am_Snd K 26 44 := sn_aload_n i26_44 d26_44 rfl
theorem i26_45 : am_ins 26 45 = (15, 53, 0, 0, []) := by decide +kernel
theorem d26_45 : decode (am_cod 26) 45 = .ok (.ifnull 8, 3) := by decide +kernel
theorem s26_45 (K : aK) : am_Snd K 26 45 := sn_ifnull i26_45 d26_45 rfl
theorem i26_48 : am_ins 26 48 = (33, 5, 2, 0, []) := by decide +kernel
theorem d26_48 : decode (am_cod 26) 48 = .ok (.aload 5, 2) := by decide +kernel
theorem s26_48 (K : aK) : am_Snd K 26 48 := sn_aload i26_48 d26_48 
theorem i26_50 : am_ins 26 50 = (16, 64, 0, 0, []) := by decide +kernel
theorem d26_50 : decode (am_cod 26) 50 = .ok (.ifnonnull 14, 3) := by decide +kernel
theorem s26_50 (K : aK) : am_Snd K 26 50 := sn_ifnonnull i26_50 d26_50 rfl
theorem i26_53 : am_ins 26 53 = (33, 3, 1, 0, []) := by decide +kernel
theorem d26_53 : decode (am_cod 26) 53 = .ok (.aload_n 3, 1) := by decide +kernel
theorem s26_53 (K : aK) : am_Snd K 26 53 := sn_aload_n i26_53 d26_53 rfl
theorem i26_54 : am_ins 26 54 = (16, 62, 0, 0, []) := by decide +kernel
theorem d26_54 : decode (am_cod 26) 54 = .ok (.ifnonnull 8, 3) := by decide +kernel
theorem s26_54 (K : aK) : am_Snd K 26 54 := sn_ifnonnull i26_54 d26_54 rfl
theorem i26_57 : am_ins 26 57 = (33, 5, 2, 0, []) := by decide +kernel
theorem d26_57 : decode (am_cod 26) 57 = .ok (.aload 5, 2) := by decide +kernel
theorem s26_57 (K : aK) : am_Snd K 26 57 := sn_aload i26_57 d26_57 
theorem i26_59 : am_ins 26 59 = (14, 63, 0, 0, []) := by decide +kernel
theorem d26_59 : decode (am_cod 26) 59 = .ok (.goto 4, 3) := by decide +kernel
theorem s26_59 (K : aK) : am_Snd K 26 59 := sn_goto i26_59 d26_59 rfl
theorem i26_62 : am_ins 26 62 = (33, 3, 1, 0, []) := by decide +kernel
theorem d26_62 : decode (am_cod 26) 62 = .ok (.aload_n 3, 1) := by decide +kernel
theorem s26_62 (K : aK) : am_Snd K 26 62 := sn_aload_n i26_62 d26_62 rfl
theorem i26_63 : am_ins 26 63 = (52, 0, 0, 0, []) := by decide +kernel
theorem d26_63 : decode (am_cod 26) 63 = .ok (.areturn, 1) := by decide +kernel
theorem s26_63 : am_SndR 26 63 := sn_aret i26_63 d26_63 rfl (Or.inl ⟨_, rfl⟩)
theorem i26_64 : am_ins 26 64 = (33, 5, 2, 0, []) := by decide +kernel
theorem d26_64 : decode (am_cod 26) 64 = .ok (.aload 5, 2) := by decide +kernel
theorem s26_64 (K : aK) : am_Snd K 26 64 := sn_aload i26_64 d26_64 
theorem i26_66 : am_ins 26 66 = (33, 3, 1, 0, []) := by decide +kernel
theorem d26_66 : decode (am_cod 26) 66 = .ok (.aload_n 3, 1) := by decide +kernel
theorem s26_66 (K : aK) : am_Snd K 26 66 := sn_aload_n i26_66 d26_66 rfl
theorem i26_67 : am_ins 26 67 = (60, 62, 1, 0, []) := by decide +kernel
theorem d26_67 : decode (am_cod 26) 67 = .ok (.invokevirtual 239, 3) := by decide +kernel
theorem s26_67 (K : aK) : am_SndC K 26 67 := sc_V i26_67 d26_67 co62 w_235 w_236 w_237 w_8 rfl (rr := (CN5, FT5, 8)) rfl rfl hd62
theorem i26_70 : am_ins 26 70 = (12, 0, 78, 0, []) := by decide +kernel
theorem d26_70 : decode (am_cod 26) 70 = .ok (.ifCond .eq 8, 3) := by decide +kernel
theorem s26_70 (K : aK) : am_Snd K 26 70 := sn_if_eq i26_70 d26_70 rfl
theorem i26_73 : am_ins 26 73 = (33, 5, 2, 0, []) := by decide +kernel
theorem d26_73 : decode (am_cod 26) 73 = .ok (.aload 5, 2) := by decide +kernel
theorem s26_73 (K : aK) : am_Snd K 26 73 := sn_aload i26_73 d26_73 
theorem i26_75 : am_ins 26 75 = (14, 79, 0, 0, []) := by decide +kernel
theorem d26_75 : decode (am_cod 26) 75 = .ok (.goto 4, 3) := by decide +kernel
theorem s26_75 (K : aK) : am_Snd K 26 75 := sn_goto i26_75 d26_75 rfl
theorem i26_78 : am_ins 26 78 = (33, 3, 1, 0, []) := by decide +kernel
theorem d26_78 : decode (am_cod 26) 78 = .ok (.aload_n 3, 1) := by decide +kernel
theorem s26_78 (K : aK) : am_Snd K 26 78 := sn_aload_n i26_78 d26_78 rfl
theorem i26_79 : am_ins 26 79 = (52, 0, 0, 0, []) := by decide +kernel
theorem d26_79 : decode (am_cod 26) 79 = .ok (.areturn, 1) := by decide +kernel
theorem s26_79 : am_SndR 26 79 := sn_aret i26_79 d26_79 rfl (Or.inl ⟨_, rfl⟩)
theorem al26_0 (K : aK) : ∀ q ∈ [0, 1, 2, 5, 6, 7, 8, 11, 14, 15, 16, 17, 18, 21, 23, 25, 28, 29, 32, 34, 35, 36, 39, 42, 44, 45, 48, 50, 53, 54], am_All K 26 q := List.forall_mem_cons.mpr ⟨am_alS i26_0 (s26_0 K), List.forall_mem_cons.mpr ⟨am_alS i26_1 (s26_1 K), List.forall_mem_cons.mpr ⟨am_alC i26_2 (s26_2 K), List.forall_mem_cons.mpr ⟨am_alS i26_5 (s26_5 K), List.forall_mem_cons.mpr ⟨am_alS i26_6 (s26_6 K), List.forall_mem_cons.mpr ⟨am_alS i26_7 (s26_7 K), List.forall_mem_cons.mpr ⟨am_alS i26_8 (s26_8 K), List.forall_mem_cons.mpr ⟨am_alC i26_11 (s26_11 K), List.forall_mem_cons.mpr ⟨am_alS i26_14 (s26_14 K), List.forall_mem_cons.mpr ⟨am_alS i26_15 (s26_15 K), List.forall_mem_cons.mpr ⟨am_alS i26_16 (s26_16 K), List.forall_mem_cons.mpr ⟨am_alS i26_17 (s26_17 K), List.forall_mem_cons.mpr ⟨am_alC i26_18 (s26_18 K), List.forall_mem_cons.mpr ⟨am_alS i26_21 (s26_21 K), List.forall_mem_cons.mpr ⟨am_alS i26_23 (s26_23 K), List.forall_mem_cons.mpr ⟨am_alS i26_25 (s26_25 K), List.forall_mem_cons.mpr ⟨am_alS i26_28 (s26_28 K), List.forall_mem_cons.mpr ⟨am_alS i26_29 (s26_29 K), List.forall_mem_cons.mpr ⟨am_alS i26_32 (s26_32 K), List.forall_mem_cons.mpr ⟨am_alS i26_34 (s26_34 K), List.forall_mem_cons.mpr ⟨am_alS i26_35 (s26_35 K), List.forall_mem_cons.mpr ⟨am_alS i26_36 (s26_36 K), List.forall_mem_cons.mpr ⟨am_alC i26_39 (s26_39 K), List.forall_mem_cons.mpr ⟨am_alS i26_42 (s26_42 K), List.forall_mem_cons.mpr ⟨am_alS i26_44 (s26_44 K), List.forall_mem_cons.mpr ⟨am_alS i26_45 (s26_45 K), List.forall_mem_cons.mpr ⟨am_alS i26_48 (s26_48 K), List.forall_mem_cons.mpr ⟨am_alS i26_50 (s26_50 K), List.forall_mem_cons.mpr ⟨am_alS i26_53 (s26_53 K), List.forall_mem_cons.mpr ⟨am_alS i26_54 (s26_54 K), fun _ h => absurd h List.not_mem_nil⟩⟩⟩⟩⟩⟩⟩⟩⟩⟩⟩⟩⟩⟩⟩⟩⟩⟩⟩⟩⟩⟩⟩⟩⟩⟩⟩⟩⟩⟩
theorem al26_1 (K : aK) : ∀ q ∈ [57, 59, 62, 63, 64, 66, 67, 70, 73, 75, 78, 79], am_All K 26 q := List.forall_mem_cons.mpr ⟨am_alS i26_57 (s26_57 K), List.forall_mem_cons.mpr ⟨am_alS i26_59 (s26_59 K), List.forall_mem_cons.mpr ⟨am_alS i26_62 (s26_62 K), List.forall_mem_cons.mpr ⟨am_alR i26_63 s26_63, List.forall_mem_cons.mpr ⟨am_alS i26_64 (s26_64 K), List.forall_mem_cons.mpr ⟨am_alS i26_66 (s26_66 K), List.forall_mem_cons.mpr ⟨am_alC i26_67 (s26_67 K), List.forall_mem_cons.mpr ⟨am_alS i26_70 (s26_70 K), List.forall_mem_cons.mpr ⟨am_alS i26_73 (s26_73 K), List.forall_mem_cons.mpr ⟨am_alS i26_75 (s26_75 K), List.forall_mem_cons.mpr ⟨am_alS i26_78 (s26_78 K), List.forall_mem_cons.mpr ⟨am_alR i26_79 s26_79, fun _ h => absurd h List.not_mem_nil⟩⟩⟩⟩⟩⟩⟩⟩⟩⟩⟩⟩
set_option maxRecDepth 100000 in
theorem al26 (K : aK) : ∀ q ∈ (am_t26).map (fun z => z.1), am_All K 26 q := by
  have e : (am_t26).map (fun z => z.1) = [0, 1, 2, 5, 6, 7, 8, 11, 14, 15, 16, 17, 18, 21, 23, 25, 28, 29, 32, 34, 35, 36, 39, 42, 44, 45, 48, 50, 53, 54] ++ ([57, 59, 62, 63, 64, 66, 67, 70, 73, 75, 78, 79]) := rfl
  rw [e]
  exact List.forall_mem_append.mpr ⟨al26_0 K, al26_1 K⟩
theorem i27_0 : am_ins 27 0 = (33, 1, 1, 0, []) := by decide +kernel
theorem d27_0 : decode (am_cod 27) 0 = .ok (.aload_n 1, 1) := by decide +kernel
theorem s27_0 (K : aK) : am_Snd K 27 0 := sn_aload_n i27_0 d27_0 rfl
theorem i27_1 : am_ins 27 1 = (18, 5, 1, 0, []) := by decide +kernel
theorem d27_1 : decode (am_cod 27) 1 = .ok (.getfield 209, 3) := by decide +kernel
theorem s27_1 (K : aK) : am_Snd K 27 1 := sn_get (C0 := CN5) (T := FT5) (Nf := 8) i27_1 d27_1 rfl (by decide +kernel) fin5 w_281 rfl
theorem i27_4 : am_ins 27 4 = (61, 23, 1, 0, []) := by decide +kernel
theorem d27_4 : decode (am_cod 27) 4 = .ok (.invokestatic 56, 3) := by decide +kernel
theorem s27_4 (K : aK) : am_SndC K 27 4 := sc_S i27_4 d27_4 co23 w_162 w_163 w_1 hd23
theorem i27_7 : am_ins 27 7 = (2, 2, 1, 0, []) := by decide +kernel
theorem d27_7 : decode (am_cod 27) 7 = .ok (.istore_n 2, 1) := by decide +kernel
theorem s27_7 (K : aK) : am_Snd K 27 7 := sn_istore_n i27_7 d27_7 rfl (by decide +kernel)
theorem i27_8 : am_ins 27 8 = (33, 0, 1, 0, []) := by decide +kernel
theorem d27_8 : decode (am_cod 27) 8 = .ok (.aload_n 0, 1) := by decide +kernel
theorem s27_8 (K : aK) : am_Snd K 27 8 := sn_aload_n i27_8 d27_8 rfl
theorem i27_9 : am_ins 27 9 = (1, 2, 1, 0, []) := by decide +kernel
theorem d27_9 : decode (am_cod 27) 9 = .ok (.iload_n 2, 1) := by decide +kernel
theorem s27_9 (K : aK) : am_Snd K 27 9 := sn_iload_n i27_9 d27_9 rfl
theorem i27_10 : am_ins 27 10 = (60, 18, 1, 0, []) := by decide +kernel
theorem d27_10 : decode (am_cod 27) 10 = .ok (.invokevirtual 60, 3) := by decide +kernel
theorem s27_10 (K : aK) : am_SndC K 27 10 := sc_V i27_10 d27_10 co18 w_165 w_167 ws_1 w_1 rfl (rr := (CN0, FT0, 5)) rfl rfl hd18
theorem i27_13 : am_ins 27 13 = (34, 3, 1, 0, []) := by decide +kernel
theorem d27_13 : decode (am_cod 27) 13 = .ok (.astore_n 3, 1) := by decide +kernel
theorem s27_13 (K : aK) : am_Snd K 27 13 := sn_astore_n i27_13 d27_13 rfl (by decide +kernel)
theorem i27_14 : am_ins 27 14 = (33, 3, 1, 0, []) := by decide +kernel
theorem d27_14 : decode (am_cod 27) 14 = .ok (.aload_n 3, 1) := by decide +kernel
theorem s27_14 (K : aK) : am_Snd K 27 14 := sn_aload_n i27_14 d27_14 rfl
theorem i27_15 : am_ins 27 15 = (15, 38, 0, 0, []) := by decide +kernel
theorem d27_15 : decode (am_cod 27) 15 = .ok (.ifnull 23, 3) := by decide +kernel
theorem s27_15 (K : aK) : am_Snd K 27 15 := sn_ifnull i27_15 d27_15 rfl
theorem i27_18 : am_ins 27 18 = (33, 1, 1, 0, []) := by decide +kernel
theorem d27_18 : decode (am_cod 27) 18 = .ok (.aload_n 1, 1) := by decide +kernel
theorem s27_18 (K : aK) : am_Snd K 27 18 := sn_aload_n i27_18 d27_18 rfl
theorem i27_19 : am_ins 27 19 = (18, 5, 5, 0, []) := by decide +kernel
theorem d27_19 : decode (am_cod 27) 19 = .ok (.getfield 97, 3) := by decide +kernel
theorem s27_19 (K : aK) : am_Snd K 27 19 := sn_get (C0 := CN5) (T := FT5) (Nf := 8) i27_19 d27_19 rfl (by decide +kernel) fin5 w_289 rfl
theorem i27_22 : am_ins 27 22 = (33, 3, 1, 0, []) := by decide +kernel
theorem d27_22 : decode (am_cod 27) 22 = .ok (.aload_n 3, 1) := by decide +kernel
theorem s27_22 (K : aK) : am_Snd K 27 22 := sn_aload_n i27_22 d27_22 rfl
theorem i27_23 : am_ins 27 23 = (60, 70, 1, 0, []) := by decide +kernel
theorem d27_23 : decode (am_cod 27) 23 = .ok (.invokevirtual 242, 3) := by decide +kernel
theorem s27_23 (K : aK) : am_SndC K 27 23 := sc_V i27_23 d27_23 co70 w_323 w_324 w_325 w_3 rfl (rr := (CN6, FT6, 2)) rfl rfl hd70
theorem i27_26 : am_ins 27 26 = (12, 0, 38, 0, []) := by decide +kernel
theorem d27_26 : decode (am_cod 27) 26 = .ok (.ifCond .eq 12, 3) := by decide +kernel
theorem s27_26 (K : aK) : am_Snd K 27 26 := sn_if_eq i27_26 d27_26 rfl
theorem i27_29 : am_ins 27 29 = (33, 1, 1, 0, []) := by decide +kernel
theorem d27_29 : decode (am_cod 27) 29 = .ok (.aload_n 1, 1) := by decide +kernel
theorem s27_29 (K : aK) : am_Snd K 27 29 := sn_aload_n i27_29 d27_29 rfl
theorem i27_30 : am_ins 27 30 = (33, 3, 1, 0, []) := by decide +kernel
theorem d27_30 : decode (am_cod 27) 30 = .ok (.aload_n 3, 1) := by decide +kernel
theorem s27_30 (K : aK) : am_Snd K 27 30 := sn_aload_n i27_30 d27_30 rfl
theorem i27_31 : am_ins 27 31 = (33, 1, 1, 0, []) := by decide +kernel
theorem d27_31 : decode (am_cod 27) 31 = .ok (.aload_n 1, 1) := by decide +kernel
theorem s27_31 (K : aK) : am_Snd K 27 31 := sn_aload_n i27_31 d27_31 rfl
theorem i27_32 : am_ins 27 32 = (60, 49, 1, 0, []) := by decide +kernel
theorem d27_32 : decode (am_cod 27) 32 = .ok (.invokevirtual 246, 3) := by decide +kernel
theorem s27_32 (K : aK) : am_SndC K 27 32 := sc_V i27_32 d27_32 co49 w_332 w_333 w_334 w_4 rfl (rr := (CN4, FT4, 9)) rfl rfl hd49
theorem i27_35 : am_ins 27 35 = (60, 59, 1, 0, []) := by decide +kernel
theorem d27_35 : decode (am_cod 27) 35 = .ok (.invokevirtual 250, 3) := by decide +kernel
theorem s27_35 (K : aK) : am_SndC K 27 35 := sc_V i27_35 d27_35 co59 w_341 w_342 w_343 w_8 rfl (rr := (CN5, FT5, 8)) rfl rfl hd59
theorem i27_38 : am_ins 27 38 = (33, 0, 1, 0, []) := by decide +kernel
theorem d27_38 : decode (am_cod 27) 38 = .ok (.aload_n 0, 1) := by decide +kernel
theorem s27_38 (K : aK) : am_Snd K 27 38 := sn_aload_n i27_38 d27_38 rfl
theorem i27_39 : am_ins 27 39 = (1, 2, 1, 0, []) := by decide +kernel
theorem d27_39 : decode (am_cod 27) 39 = .ok (.iload_n 2, 1) := by decide +kernel
theorem s27_39 (K : aK) : am_Snd K 27 39 := sn_iload_n i27_39 d27_39 rfl
theorem i27_40 : am_ins 27 40 = (0, 1, 0, 1, []) := by decide +kernel
theorem d27_40 : decode (am_cod 27) 40 = .ok (.iconst 1, 1) := by decide +kernel
theorem s27_40 (K : aK) : am_Snd K 27 40 := sn_const1 i27_40 d27_40 rfl
theorem i27_41 : am_ins 27 41 = (4, 0, 0, 0, []) := by decide +kernel
theorem d27_41 : decode (am_cod 27) 41 = .ok (.iadd, 1) := by decide +kernel
theorem s27_41 (K : aK) : am_Snd K 27 41 := sn_add i27_41 d27_41 
theorem i27_42 : am_ins 27 42 = (60, 18, 1, 0, []) := by decide +kernel
theorem d27_42 : decode (am_cod 27) 42 = .ok (.invokevirtual 60, 3) := by decide +kernel
theorem s27_42 (K : aK) : am_SndC K 27 42 := sc_V i27_42 d27_42 co18 w_165 w_167 ws_1 w_1 rfl (rr := (CN0, FT0, 5)) rfl rfl hd18
theorem i27_45 : am_ins 27 45 = (34, 4, 2, 0, []) := by decide +kernel
theorem d27_45 : decode (am_cod 27) 45 = .ok (.astore 4, 2) := by decide +kernel
theorem s27_45 (K : aK) : am_Snd K 27 45 := sn_astore i27_45 d27_45 (by decide +kernel)
theorem i27_47 : am_ins 27 47 = (33, 4, 2, 0, []) := by decide +kernel
theorem d27_47 : decode (am_cod 27) 47 = .ok (.aload 4, 2) := by decide +kernel
theorem s27_47 (K : aK) : am_Snd K 27 47 := sn_aload i27_47 d27_47 
theorem i27_49 : am_ins 27 49 = (15, 64, 0, 0, []) := by decide +kernel
theorem d27_49 : decode (am_cod 27) 49 = .ok (.ifnull 15, 3) := by decide +kernel
theorem s27_49 (K : aK) : am_Snd K 27 49 := sn_ifnull i27_49 d27_49 rfl
theorem i27_52 : am_ins 27 52 = (33, 1, 1, 0, []) := by decide +kernel
theorem d27_52 : decode (am_cod 27) 52 = .ok (.aload_n 1, 1) := by decide +kernel
theorem s27_52 (K : aK) : am_Snd K 27 52 := sn_aload_n i27_52 d27_52 rfl
theorem i27_53 : am_ins 27 53 = (18, 5, 5, 0, []) := by decide +kernel
theorem d27_53 : decode (am_cod 27) 53 = .ok (.getfield 97, 3) := by decide +kernel
theorem s27_53 (K : aK) : am_Snd K 27 53 := sn_get (C0 := CN5) (T := FT5) (Nf := 8) i27_53 d27_53 rfl (by decide +kernel) fin5 w_289 rfl
theorem i27_56 : am_ins 27 56 = (33, 4, 2, 0, []) := by decide +kernel
theorem d27_56 : decode (am_cod 27) 56 = .ok (.aload 4, 2) := by decide +kernel
theorem s27_56 (K : aK) : am_Snd K 27 56 := sn_aload i27_56 d27_56 
theorem i27_58 : am_ins 27 58 = (60, 70, 1, 0, []) := by decide +kernel
theorem d27_58 : decode (am_cod 27) 58 = .ok (.invokevirtual 242, 3) := by decide +kernel
theorem s27_58 (K : aK) : am_SndC K 27 58 := sc_V i27_58 d27_58 co70 w_323 w_324 w_325 w_3 rfl (rr := (CN6, FT6, 2)) rfl rfl hd70
theorem i27_61 : am_ins 27 61 = (12, 1, 66, 0, []) := by decide +kernel
theorem d27_61 : decode (am_cod 27) 61 = .ok (.ifCond .ne 5, 3) := by decide +kernel
theorem s27_61 (K : aK) : am_Snd K 27 61 := sn_if_ne i27_61 d27_61 rfl
theorem i27_64 : am_ins 27 64 = (0, 1, 0, 0, []) := by decide +kernel
theorem d27_64 : decode (am_cod 27) 64 = .ok (.iconst 0, 1) := by decide +kernel
theorem s27_64 (K : aK) : am_Snd K 27 64 := sn_const1 i27_64 d27_64 rfl
theorem i27_65 : am_ins 27 65 = (51, 0, 0, 0, []) := by decide +kernel
theorem d27_65 : decode (am_cod 27) 65 = .ok (.ireturn, 1) := by decide +kernel
theorem s27_65 : am_SndR 27 65 := sn_zret i27_65 d27_65 rfl
theorem i27_66 : am_ins 27 66 = (33, 0, 1, 0, []) := by decide +kernel
theorem d27_66 : decode (am_cod 27) 66 = .ok (.aload_n 0, 1) := by decide +kernel
theorem s27_66 (K : aK) : am_Snd K 27 66 := sn_aload_n i27_66 d27_66 rfl
theorem i27_67 : am_ins 27 67 = (1, 2, 1, 0, []) := by decide +kernel
theorem d27_67 : decode (am_cod 27) 67 = .ok (.iload_n 2, 1) := by decide +kernel
theorem s27_67 (K : aK) : am_Snd K 27 67 := sn_iload_n i27_67 d27_67 rfl
theorem i27_68 : am_ins 27 68 = (33, 4, 2, 0, []) := by decide +kernel
theorem d27_68 : decode (am_cod 27) 68 = .ok (.aload 4, 2) := by decide +kernel
theorem s27_68 (K : aK) : am_Snd K 27 68 := sn_aload i27_68 d27_68 
theorem i27_70 : am_ins 27 70 = (18, 4, 0, 0, []) := by decide +kernel
theorem d27_70 : decode (am_cod 27) 70 = .ok (.getfield 137, 3) := by decide +kernel
theorem s27_70 (K : aK) : am_Snd K 27 70 := sn_get (C0 := CN4) (T := FT4) (Nf := 9) i27_70 d27_70 rfl (by decide +kernel) fin4 w_82 rfl
theorem i27_73 : am_ins 27 73 = (29, 3, 0, 0, []) := by decide +kernel
theorem d27_73 : decode (am_cod 27) 73 = .ok (.new 141, 3) := by decide +kernel
theorem s27_73 (K : aK) : am_Snd K 27 73 := sn_new (C0 := CN3) (T := FT3) (Nf := 5) (tyf := FY3) i27_73 d27_73 rfl fin3 ftyok3 w_346 w_347 w_9 rfl fdf3
theorem i27_76 : am_ins 27 76 = (7, 0, 0, 0, []) := by decide +kernel
theorem d27_76 : decode (am_cod 27) 76 = .ok (.dup, 1) := by decide +kernel
theorem s27_76 (K : aK) : am_Snd K 27 76 := sn_dup i27_76 d27_76 
theorem i27_77 : am_ins 27 77 = (0, 1, 0, 1, []) := by decide +kernel
theorem d27_77 : decode (am_cod 27) 77 = .ok (.iconst 1, 1) := by decide +kernel
theorem s27_77 (K : aK) : am_Snd K 27 77 := sn_const1 i27_77 d27_77 rfl
theorem i27_78 : am_ins 27 78 = (33, 1, 1, 0, []) := by decide +kernel
theorem d27_78 : decode (am_cod 27) 78 = .ok (.aload_n 1, 1) := by decide +kernel
theorem s27_78 (K : aK) : am_Snd K 27 78 := sn_aload_n i27_78 d27_78 rfl
theorem i27_79 : am_ins 27 79 = (18, 5, 0, 0, []) := by decide +kernel
theorem d27_79 : decode (am_cod 27) 79 = .ok (.getfield 98, 3) := by decide +kernel
theorem s27_79 (K : aK) : am_Snd K 27 79 := sn_get (C0 := CN5) (T := FT5) (Nf := 8) i27_79 d27_79 rfl (by decide +kernel) fin5 w_278 rfl
theorem i27_82 : am_ins 27 82 = (0, 1, 0, 0, []) := by decide +kernel
theorem d27_82 : decode (am_cod 27) 82 = .ok (.iconst 0, 1) := by decide +kernel
theorem s27_82 (K : aK) : am_Snd K 27 82 := sn_const1 i27_82 d27_82 rfl
theorem i27_83 : am_ins 27 83 = (17, 0, 0, 0, []) := by decide +kernel
theorem d27_83 : decode (am_cod 27) 83 = .ok (.aconst_null, 1) := by decide +kernel
theorem s27_83 (K : aK) : am_Snd K 27 83 := sn_null i27_83 d27_83 
theorem i27_84 : am_ins 27 84 = (62, 42, 4, 0, []) := by decide +kernel
theorem d27_84 : decode (am_cod 27) 84 = .ok (.invokespecial 152, 3) := by decide +kernel
theorem s27_84 (K : aK) : am_SndC K 27 84 := sc_I i27_84 d27_84 co42 rfl rfl w_348 w_349 w_9 hd42
theorem i27_87 : am_ins 27 87 = (60, 32, 3, 0, []) := by decide +kernel
theorem d27_87 : decode (am_cod 27) 87 = .ok (.invokevirtual 155, 3) := by decide +kernel
theorem s27_87 (K : aK) : am_SndC K 27 87 := sc_V i27_87 d27_87 co32 w_372 w_374 ws_5 w_1 rfl (rr := (CN0, FT0, 5)) rfl rfl hd32
theorem i27_90 : am_ins 27 90 = (0, 1, 0, 1, []) := by decide +kernel
theorem d27_90 : decode (am_cod 27) 90 = .ok (.iconst 1, 1) := by decide +kernel
theorem s27_90 (K : aK) : am_Snd K 27 90 := sn_const1 i27_90 d27_90 rfl
theorem i27_91 : am_ins 27 91 = (51, 0, 0, 0, []) := by decide +kernel
theorem d27_91 : decode (am_cod 27) 91 = .ok (.ireturn, 1) := by decide +kernel
theorem s27_91 : am_SndR 27 91 := sn_zret i27_91 d27_91 rfl
theorem al27_0 (K : aK) : ∀ q ∈ [0, 1, 4, 7, 8, 9, 10, 13, 14, 15, 18, 19, 22, 23, 26, 29, 30, 31, 32, 35, 38, 39, 40, 41, 42, 45, 47, 49, 52, 53], am_All K 27 q := List.forall_mem_cons.mpr ⟨am_alS i27_0 (s27_0 K), List.forall_mem_cons.mpr ⟨am_alS i27_1 (s27_1 K), List.forall_mem_cons.mpr ⟨am_alC i27_4 (s27_4 K), List.forall_mem_cons.mpr ⟨am_alS i27_7 (s27_7 K), List.forall_mem_cons.mpr ⟨am_alS i27_8 (s27_8 K), List.forall_mem_cons.mpr ⟨am_alS i27_9 (s27_9 K), List.forall_mem_cons.mpr ⟨am_alC i27_10 (s27_10 K), List.forall_mem_cons.mpr ⟨am_alS i27_13 (s27_13 K), List.forall_mem_cons.mpr ⟨am_alS i27_14 (s27_14 K), List.forall_mem_cons.mpr ⟨am_alS i27_15 (s27_15 K), List.forall_mem_cons.mpr ⟨am_alS i27_18 (s27_18 K), List.forall_mem_cons.mpr ⟨am_alS i27_19 (s27_19 K), List.forall_mem_cons.mpr ⟨am_alS i27_22 (s27_22 K), List.forall_mem_cons.mpr ⟨am_alC i27_23 (s27_23 K), List.forall_mem_cons.mpr ⟨am_alS i27_26 (s27_26 K), List.forall_mem_cons.mpr ⟨am_alS i27_29 (s27_29 K), List.forall_mem_cons.mpr ⟨am_alS i27_30 (s27_30 K), List.forall_mem_cons.mpr ⟨am_alS i27_31 (s27_31 K), List.forall_mem_cons.mpr ⟨am_alC i27_32 (s27_32 K), List.forall_mem_cons.mpr ⟨am_alC i27_35 (s27_35 K), List.forall_mem_cons.mpr ⟨am_alS i27_38 (s27_38 K), List.forall_mem_cons.mpr ⟨am_alS i27_39 (s27_39 K), List.forall_mem_cons.mpr ⟨am_alS i27_40 (s27_40 K), List.forall_mem_cons.mpr ⟨am_alS i27_41 (s27_41 K), List.forall_mem_cons.mpr ⟨am_alC i27_42 (s27_42 K), List.forall_mem_cons.mpr ⟨am_alS i27_45 (s27_45 K), List.forall_mem_cons.mpr ⟨am_alS i27_47 (s27_47 K), List.forall_mem_cons.mpr ⟨am_alS i27_49 (s27_49 K), List.forall_mem_cons.mpr ⟨am_alS i27_52 (s27_52 K), List.forall_mem_cons.mpr ⟨am_alS i27_53 (s27_53 K), fun _ h => absurd h List.not_mem_nil⟩⟩⟩⟩⟩⟩⟩⟩⟩⟩⟩⟩⟩⟩⟩⟩⟩⟩⟩⟩⟩⟩⟩⟩⟩⟩⟩⟩⟩⟩
theorem al27_1 (K : aK) : ∀ q ∈ [56, 58, 61, 64, 65, 66, 67, 68, 70, 73, 76, 77, 78, 79, 82, 83, 84, 87, 90, 91], am_All K 27 q := List.forall_mem_cons.mpr ⟨am_alS i27_56 (s27_56 K), List.forall_mem_cons.mpr ⟨am_alC i27_58 (s27_58 K), List.forall_mem_cons.mpr ⟨am_alS i27_61 (s27_61 K), List.forall_mem_cons.mpr ⟨am_alS i27_64 (s27_64 K), List.forall_mem_cons.mpr ⟨am_alR i27_65 s27_65, List.forall_mem_cons.mpr ⟨am_alS i27_66 (s27_66 K), List.forall_mem_cons.mpr ⟨am_alS i27_67 (s27_67 K), List.forall_mem_cons.mpr ⟨am_alS i27_68 (s27_68 K), List.forall_mem_cons.mpr ⟨am_alS i27_70 (s27_70 K), List.forall_mem_cons.mpr ⟨am_alS i27_73 (s27_73 K), List.forall_mem_cons.mpr ⟨am_alS i27_76 (s27_76 K), List.forall_mem_cons.mpr ⟨am_alS i27_77 (s27_77 K), List.forall_mem_cons.mpr ⟨am_alS i27_78 (s27_78 K), List.forall_mem_cons.mpr ⟨am_alS i27_79 (s27_79 K), List.forall_mem_cons.mpr ⟨am_alS i27_82 (s27_82 K), List.forall_mem_cons.mpr ⟨am_alS i27_83 (s27_83 K), List.forall_mem_cons.mpr ⟨am_alC i27_84 (s27_84 K), List.forall_mem_cons.mpr ⟨am_alC i27_87 (s27_87 K), List.forall_mem_cons.mpr ⟨am_alS i27_90 (s27_90 K), List.forall_mem_cons.mpr ⟨am_alR i27_91 s27_91, fun _ h => absurd h List.not_mem_nil⟩⟩⟩⟩⟩⟩⟩⟩⟩⟩⟩⟩⟩⟩⟩⟩⟩⟩⟩⟩
set_option maxRecDepth 100000 in
theorem al27 (K : aK) : ∀ q ∈ (am_t27).map (fun z => z.1), am_All K 27 q := by
  have e : (am_t27).map (fun z => z.1) = [0, 1, 4, 7, 8, 9, 10, 13, 14, 15, 18, 19, 22, 23, 26, 29, 30, 31, 32, 35, 38, 39, 40, 41, 42, 45, 47, 49, 52, 53] ++ ([56, 58, 61, 64, 65, 66, 67, 68, 70, 73, 76, 77, 78, 79, 82, 83, 84, 87, 90, 91]) := rfl
  rw [e]
  exact List.forall_mem_append.mpr ⟨al27_0 K, al27_1 K⟩
theorem i28_0 : am_ins 28 0 = (33, 1, 1, 0, []) := by decide +kernel
theorem d28_0 : decode (am_cod 28) 0 = .ok (.aload_n 1, 1) := by decide +kernel
theorem s28_0 (K : aK) : am_Snd K 28 0 := sn_aload_n i28_0 d28_0 rfl
theorem i28_1 : am_ins 28 1 = (0, 1, 0, 1, []) := by decide +kernel
theorem d28_1 : decode (am_cod 28) 1 = .ok (.iconst 1, 1) := by decide +kernel
theorem s28_1 (K : aK) : am_Snd K 28 1 := sn_const1 i28_1 d28_1 rfl
theorem i28_2 : am_ins 28 2 = (20, 5, 7, 0, []) := by decide +kernel
theorem d28_2 : decode (am_cod 28) 2 = .ok (.putfield 210, 3) := by decide +kernel
theorem s28_2 (K : aK) : am_Snd K 28 2 := sn_putz (ty := .int) (C0 := CN5) (T := FT5) (Nf := 8) (tyf := FY5) i28_2 d28_2 rfl (by decide +kernel) fin5 ftyok5 fnm5 w_297 rfl rfl rfl
theorem i28_5 : am_ins 28 5 = (33, 1, 1, 0, []) := by decide +kernel
theorem d28_5 : decode (am_cod 28) 5 = .ok (.aload_n 1, 1) := by decide +kernel
theorem s28_5 (K : aK) : am_Snd K 28 5 := sn_aload_n i28_5 d28_5 rfl
theorem i28_6 : am_ins 28 6 = (18, 5, 1, 0, []) := by decide +kernel
theorem d28_6 : decode (am_cod 28) 6 = .ok (.getfield 209, 3) := by decide +kernel
theorem s28_6 (K : aK) : am_Snd K 28 6 := sn_get (C0 := CN5) (T := FT5) (Nf := 8) i28_6 d28_6 rfl (by decide +kernel) fin5 w_281 rfl
theorem i28_9 : am_ins 28 9 = (61, 23, 1, 0, []) := by decide +kernel
theorem d28_9 : decode (am_cod 28) 9 = .ok (.invokestatic 56, 3) := by decide +kernel
theorem s28_9 (K : aK) : am_SndC K 28 9 := sc_S i28_9 d28_9 co23 w_162 w_163 w_1 hd23
theorem i28_12 : am_ins 28 12 = (2, 2, 1, 0, []) := by decide +kernel
theorem d28_12 : decode (am_cod 28) 12 = .ok (.istore_n 2, 1) := by decide +kernel
theorem s28_12 (K : aK) : am_Snd K 28 12 := sn_istore_n i28_12 d28_12 rfl (by decide +kernel)
theorem i28_13 : am_ins 28 13 = (33, 0, 1, 0, []) := by decide +kernel
theorem d28_13 : decode (am_cod 28) 13 = .ok (.aload_n 0, 1) := by decide +kernel
theorem s28_13 (K : aK) : am_Snd K 28 13 := sn_aload_n i28_13 d28_13 rfl
theorem i28_14 : am_ins 28 14 = (1, 2, 1, 0, []) := by decide +kernel
theorem d28_14 : decode (am_cod 28) 14 = .ok (.iload_n 2, 1) := by decide +kernel
theorem s28_14 (K : aK) : am_Snd K 28 14 := sn_iload_n i28_14 d28_14 rfl
theorem i28_15 : am_ins 28 15 = (60, 18, 1, 0, []) := by decide +kernel
theorem d28_15 : decode (am_cod 28) 15 = .ok (.invokevirtual 60, 3) := by decide +kernel
theorem s28_15 (K : aK) : am_SndC K 28 15 := sc_V i28_15 d28_15 co18 w_165 w_167 ws_1 w_1 rfl (rr := (CN0, FT0, 5)) rfl rfl hd18
theorem i28_18 : am_ins 28 18 = (34, 3, 1, 0, []) := by decide +kernel
theorem d28_18 : decode (am_cod 28) 18 = .ok (.astore_n 3, 1) := by decide +kernel
theorem s28_18 (K : aK) : am_Snd K 28 18 := sn_astore_n i28_18 d28_18 rfl (by decide +kernel)
theorem i28_19 : am_ins 28 19 = (33, 3, 1, 0, []) := by decide +kernel
theorem d28_19 : decode (am_cod 28) 19 = .ok (.aload_n 3, 1) := by decide +kernel
theorem s28_19 (K : aK) : am_Snd K 28 19 := sn_aload_n i28_19 d28_19 rfl
theorem i28_20 : am_ins 28 20 = (15, 44, 0, 0, []) := by decide +kernel
theorem d28_20 : decode (am_cod 28) 20 = .ok (.ifnull 24, 3) := by decide +kernel
theorem s28_20 (K : aK) : am_Snd K 28 20 := sn_ifnull i28_20 d28_20 rfl
theorem i28_23 : am_ins 28 23 = (33, 1, 1, 0, []) := by decide +kernel
theorem d28_23 : decode (am_cod 28) 23 = .ok (.aload_n 1, 1) := by decide +kernel
theorem s28_23 (K : aK) : am_Snd K 28 23 := sn_aload_n i28_23 d28_23 rfl
theorem i28_24 : am_ins 28 24 = (18, 5, 5, 0, []) := by decide +kernel
theorem d28_24 : decode (am_cod 28) 24 = .ok (.getfield 97, 3) := by decide +kernel
theorem s28_24 (K : aK) : am_Snd K 28 24 := sn_get (C0 := CN5) (T := FT5) (Nf := 8) i28_24 d28_24 rfl (by decide +kernel) fin5 w_289 rfl
theorem i28_27 : am_ins 28 27 = (33, 3, 1, 0, []) := by decide +kernel
theorem d28_27 : decode (am_cod 28) 27 = .ok (.aload_n 3, 1) := by decide +kernel
theorem s28_27 (K : aK) : am_Snd K 28 27 := sn_aload_n i28_27 d28_27 rfl
theorem i28_28 : am_ins 28 28 = (60, 70, 1, 0, []) := by decide +kernel
theorem d28_28 : decode (am_cod 28) 28 = .ok (.invokevirtual 242, 3) := by decide +kernel
theorem s28_28 (K : aK) : am_SndC K 28 28 := sc_V i28_28 d28_28 co70 w_323 w_324 w_325 w_3 rfl (rr := (CN6, FT6, 2)) rfl rfl hd70
theorem i28_31 : am_ins 28 31 = (12, 0, 44, 0, []) := by decide +kernel
theorem d28_31 : decode (am_cod 28) 31 = .ok (.ifCond .eq 13, 3) := by decide +kernel
theorem s28_31 (K : aK) : am_Snd K 28 31 := sn_if_eq i28_31 d28_31 rfl
theorem i28_34 : am_ins 28 34 = (33, 0, 1, 0, []) := by decide +kernel
theorem d28_34 : decode (am_cod 28) 34 = .ok (.aload_n 0, 1) := by decide +kernel
theorem s28_34 (K : aK) : am_Snd K 28 34 := sn_aload_n i28_34 d28_34 rfl
theorem i28_35 : am_ins 28 35 = (33, 3, 1, 0, []) := by decide +kernel
theorem d28_35 : decode (am_cod 28) 35 = .ok (.aload_n 3, 1) := by decide +kernel
theorem s28_35 (K : aK) : am_Snd K 28 35 := sn_aload_n i28_35 d28_35 rfl
theorem i28_36 : am_ins 28 36 = (33, 1, 1, 0, []) := by decide +kernel
theorem d28_36 : decode (am_cod 28) 36 = .ok (.aload_n 1, 1) := by decide +kernel
theorem s28_36 (K : aK) : am_Snd K 28 36 := sn_aload_n i28_36 d28_36 rfl
theorem i28_37 : am_ins 28 37 = (33, 1, 1, 0, []) := by decide +kernel
theorem d28_37 : decode (am_cod 28) 37 = .ok (.aload_n 1, 1) := by decide +kernel
theorem s28_37 (K : aK) : am_Snd K 28 37 := sn_aload_n i28_37 d28_37 rfl
theorem i28_38 : am_ins 28 38 = (18, 5, 6, 0, []) := by decide +kernel
theorem d28_38 : decode (am_cod 28) 38 = .ok (.getfield 214, 3) := by decide +kernel
theorem s28_38 (K : aK) : am_Snd K 28 38 := sn_get (C0 := CN5) (T := FT5) (Nf := 8) i28_38 d28_38 rfl (by decide +kernel) fin5 w_294 rfl
theorem i28_41 : am_ins 28 41 = (60, 29, 3, 0, []) := by decide +kernel
theorem d28_41 : decode (am_cod 28) 41 = .ok (.invokevirtual 253, 3) := by decide +kernel
theorem s28_41 (K : aK) : am_SndC K 28 41 := sc_V i28_41 d28_41 co29 w_388 w_390 ws_8 w_1 rfl (rr := (CN0, FT0, 5)) rfl rfl hd29
theorem i28_44 : am_ins 28 44 = (33, 0, 1, 0, []) := by decide +kernel
theorem d28_44 : decode (am_cod 28) 44 = .ok (.aload_n 0, 1) := by decide +kernel
theorem s28_44 (K : aK) : am_Snd K 28 44 := sn_aload_n i28_44 d28_44 rfl
theorem i28_45 : am_ins 28 45 = (1, 2, 1, 0, []) := by decide +kernel
theorem d28_45 : decode (am_cod 28) 45 = .ok (.iload_n 2, 1) := by decide +kernel
theorem s28_45 (K : aK) : am_Snd K 28 45 := sn_iload_n i28_45 d28_45 rfl
theorem i28_46 : am_ins 28 46 = (0, 1, 0, 1, []) := by decide +kernel
theorem d28_46 : decode (am_cod 28) 46 = .ok (.iconst 1, 1) := by decide +kernel
theorem s28_46 (K : aK) : am_Snd K 28 46 := sn_const1 i28_46 d28_46 rfl
theorem i28_47 : am_ins 28 47 = (4, 0, 0, 0, []) := by decide +kernel
theorem d28_47 : decode (am_cod 28) 47 = .ok (.iadd, 1) := by decide +kernel
theorem s28_47 (K : aK) : am_Snd K 28 47 := sn_add i28_47 d28_47 
theorem i28_48 : am_ins 28 48 = (60, 18, 1, 0, []) := by decide +kernel
theorem d28_48 : decode (am_cod 28) 48 = .ok (.invokevirtual 60, 3) := by decide +kernel
theorem s28_48 (K : aK) : am_SndC K 28 48 := sc_V i28_48 d28_48 co18 w_165 w_167 ws_1 w_1 rfl (rr := (CN0, FT0, 5)) rfl rfl hd18
theorem i28_51 : am_ins 28 51 = (34, 4, 2, 0, []) := by decide +kernel
theorem d28_51 : decode (am_cod 28) 51 = .ok (.astore 4, 2) := by decide +kernel
theorem s28_51 (K : aK) : am_Snd K 28 51 := sn_astore i28_51 d28_51 (by decide +kernel)
theorem i28_53 : am_ins 28 53 = (33, 4, 2, 0, []) := by decide +kernel
theorem d28_53 : decode (am_cod 28) 53 = .ok (.aload 4, 2) := by decide +kernel
theorem s28_53 (K : aK) : am_Snd K 28 53 := sn_aload i28_53 d28_53 
theorem i28_55 : am_ins 28 55 = (15, 97, 0, 0, []) := by decide +kernel
theorem d28_55 : decode (am_cod 28) 55 = .ok (.ifnull 42, 3) := by decide +kernel
theorem s28_55 (K : aK) : am_Snd K 28 55 := sn_ifnull i28_55 d28_55 rfl
theorem i28_58 : am_ins 28 58 = (33, 1, 1, 0, []) := by decide +kernel
theorem d28_58 : decode (am_cod 28) 58 = .ok (.aload_n 1, 1) := by decide +kernel
theorem s28_58 (K : aK) : am_Snd K 28 58 := sn_aload_n i28_58 d28_58 rfl
theorem i28_59 : am_ins 28 59 = (18, 5, 5, 0, []) := by decide +kernel
theorem d28_59 : decode (am_cod 28) 59 = .ok (.getfield 97, 3) := by decide +kernel
theorem s28_59 (K : aK) : am_Snd K 28 59 := sn_get (C0 := CN5) (T := FT5) (Nf := 8) i28_59 d28_59 rfl (by decide +kernel) fin5 w_289 rfl
theorem i28_62 : am_ins 28 62 = (33, 4, 2, 0, []) := by decide +kernel
theorem d28_62 : decode (am_cod 28) 62 = .ok (.aload 4, 2) := by decide +kernel
theorem s28_62 (K : aK) : am_Snd K 28 62 := sn_aload i28_62 d28_62 
theorem i28_64 : am_ins 28 64 = (60, 70, 1, 0, []) := by decide +kernel
theorem d28_64 : decode (am_cod 28) 64 = .ok (.invokevirtual 242, 3) := by decide +kernel
theorem s28_64 (K : aK) : am_SndC K 28 64 := sc_V i28_64 d28_64 co70 w_323 w_324 w_325 w_3 rfl (rr := (CN6, FT6, 2)) rfl rfl hd70
theorem i28_67 : am_ins 28 67 = (12, 0, 97, 0, []) := by decide +kernel
theorem d28_67 : decode (am_cod 28) 67 = .ok (.ifCond .eq 30, 3) := by decide +kernel
theorem s28_67 (K : aK) : am_Snd K 28 67 := sn_if_eq i28_67 d28_67 rfl
theorem i28_70 : am_ins 28 70 = (33, 0, 1, 0, []) := by decide +kernel
theorem d28_70 : decode (am_cod 28) 70 = .ok (.aload_n 0, 1) := by decide +kernel
theorem s28_70 (K : aK) : am_Snd K 28 70 := sn_aload_n i28_70 d28_70 rfl
theorem i28_71 : am_ins 28 71 = (1, 2, 1, 0, []) := by decide +kernel
theorem d28_71 : decode (am_cod 28) 71 = .ok (.iload_n 2, 1) := by decide +kernel
theorem s28_71 (K : aK) : am_Snd K 28 71 := sn_iload_n i28_71 d28_71 rfl
theorem i28_72 : am_ins 28 72 = (33, 4, 2, 0, []) := by decide +kernel
theorem d28_72 : decode (am_cod 28) 72 = .ok (.aload 4, 2) := by decide +kernel
theorem s28_72 (K : aK) : am_Snd K 28 72 := sn_aload i28_72 d28_72 
theorem i28_74 : am_ins 28 74 = (18, 4, 0, 0, []) := by decide +kernel
theorem d28_74 : decode (am_cod 28) 74 = .ok (.getfield 137, 3) := by decide +kernel
theorem s28_74 (K : aK) : am_Snd K 28 74 := sn_get (C0 := CN4) (T := FT4) (Nf := 9) i28_74 d28_74 rfl (by decide +kernel) fin4 w_82 rfl
theorem i28_77 : am_ins 28 77 = (29, 3, 0, 0, []) := by decide +kernel
theorem d28_77 : decode (am_cod 28) 77 = .ok (.new 141, 3) := by decide +kernel
theorem s28_77 (K : aK) : am_Snd K 28 77 := sn_new (C0 := CN3) (T := FT3) (Nf := 5) (tyf := FY3) i28_77 d28_77 rfl fin3 ftyok3 w_346 w_347 w_9 rfl fdf3
theorem i28_80 : am_ins 28 80 = (7, 0, 0, 0, []) := by decide +kernel
theorem d28_80 : decode (am_cod 28) 80 = .ok (.dup, 1) := by decide +kernel
theorem s28_80 (K : aK) : am_Snd K 28 80 := sn_dup i28_80 d28_80 
theorem i28_81 : am_ins 28 81 = (0, 1, 0, 3, []) := by decide +kernel
theorem d28_81 : decode (am_cod 28) 81 = .ok (.iconst 3, 1) := by decide +kernel
theorem s28_81 (K : aK) : am_Snd K 28 81 := sn_const1 i28_81 d28_81 rfl
theorem i28_82 : am_ins 28 82 = (33, 1, 1, 0, []) := by decide +kernel
theorem d28_82 : decode (am_cod 28) 82 = .ok (.aload_n 1, 1) := by decide +kernel
theorem s28_82 (K : aK) : am_Snd K 28 82 := sn_aload_n i28_82 d28_82 rfl
theorem i28_83 : am_ins 28 83 = (18, 5, 0, 0, []) := by decide +kernel
theorem d28_83 : decode (am_cod 28) 83 = .ok (.getfield 98, 3) := by decide +kernel
theorem s28_83 (K : aK) : am_Snd K 28 83 := sn_get (C0 := CN5) (T := FT5) (Nf := 8) i28_83 d28_83 rfl (by decide +kernel) fin5 w_278 rfl
theorem i28_86 : am_ins 28 86 = (33, 1, 1, 0, []) := by decide +kernel
theorem d28_86 : decode (am_cod 28) 86 = .ok (.aload_n 1, 1) := by decide +kernel
theorem s28_86 (K : aK) : am_Snd K 28 86 := sn_aload_n i28_86 d28_86 rfl
theorem i28_87 : am_ins 28 87 = (18, 5, 6, 0, []) := by decide +kernel
theorem d28_87 : decode (am_cod 28) 87 = .ok (.getfield 214, 3) := by decide +kernel
theorem s28_87 (K : aK) : am_Snd K 28 87 := sn_get (C0 := CN5) (T := FT5) (Nf := 8) i28_87 d28_87 rfl (by decide +kernel) fin5 w_294 rfl
theorem i28_90 : am_ins 28 90 = (17, 0, 0, 0, []) := by decide +kernel
theorem d28_90 : decode (am_cod 28) 90 = .ok (.aconst_null, 1) := by decide +kernel
theorem s28_90 (K : aK) : am_Snd K 28 90 := sn_null i28_90 d28_90 
theorem i28_91 : am_ins 28 91 = (62, 42, 4, 0, []) := by decide +kernel
theorem d28_91 : decode (am_cod 28) 91 = .ok (.invokespecial 152, 3) := by decide +kernel
theorem s28_91 (K : aK) : am_SndC K 28 91 := sc_I i28_91 d28_91 co42 rfl rfl w_348 w_349 w_9 hd42
theorem i28_94 : am_ins 28 94 = (60, 32, 3, 0, []) := by decide +kernel
theorem d28_94 : decode (am_cod 28) 94 = .ok (.invokevirtual 155, 3) := by decide +kernel
theorem s28_94 (K : aK) : am_SndC K 28 94 := sc_V i28_94 d28_94 co32 w_372 w_374 ws_5 w_1 rfl (rr := (CN0, FT0, 5)) rfl rfl hd32
theorem i28_97 : am_ins 28 97 = (33, 1, 1, 0, []) := by decide +kernel
theorem d28_97 : decode (am_cod 28) 97 = .ok (.aload_n 1, 1) := by decide +kernel
theorem s28_97 (K : aK) : am_Snd K 28 97 := sn_aload_n i28_97 d28_97 rfl
theorem i28_98 : am_ins 28 98 = (18, 5, 2, 0, []) := by decide +kernel
theorem d28_98 : decode (am_cod 28) 98 = .ok (.getfield 257, 3) := by decide +kernel
theorem s28_98 (K : aK) : am_Snd K 28 98 := sn_get (C0 := CN5) (T := FT5) (Nf := 8) i28_98 d28_98 rfl (by decide +kernel) fin5 w_283 rfl
theorem i28_101 : am_ins 28 101 = (33, 1, 1, 0, []) := by decide +kernel
theorem d28_101 : decode (am_cod 28) 101 = .ok (.aload_n 1, 1) := by decide +kernel
theorem s28_101 (K : aK) : am_Snd K 28 101 := sn_aload_n i28_101 d28_101 rfl
theorem i28_102 : am_ins 28 102 = (60, 36, 1, 0, []) := by decide +kernel
theorem d28_102 : decode (am_cod 28) 102 = .ok (.invokevirtual 261, 3) := by decide +kernel
theorem s28_102 (K : aK) : am_SndC K 28 102 := sc_V i28_102 d28_102 co36 w_416 w_417 w_418 w_2 rfl (rr := (CN1, FT1, 7)) rfl rfl hd36
theorem i28_105 : am_ins 28 105 = (53, 0, 0, 0, []) := by decide +kernel
theorem d28_105 : decode (am_cod 28) 105 = .ok (.return_, 1) := by decide +kernel
theorem s28_105 : am_SndR 28 105 := sn_vret i28_105 d28_105 rfl
theorem al28_0 (K : aK) : ∀ q ∈ [0, 1, 2, 5, 6, 9, 12, 13, 14, 15, 18, 19, 20, 23, 24, 27, 28, 31, 34, 35, 36, 37, 38, 41, 44, 45, 46, 47, 48, 51], am_All K 28 q := List.forall_mem_cons.mpr ⟨am_alS i28_0 (s28_0 K), List.forall_mem_cons.mpr ⟨am_alS i28_1 (s28_1 K), List.forall_mem_cons.mpr ⟨am_alS i28_2 (s28_2 K), List.forall_mem_cons.mpr ⟨am_alS i28_5 (s28_5 K), List.forall_mem_cons.mpr ⟨am_alS i28_6 (s28_6 K), List.forall_mem_cons.mpr ⟨am_alC i28_9 (s28_9 K), List.forall_mem_cons.mpr ⟨am_alS i28_12 (s28_12 K), List.forall_mem_cons.mpr ⟨am_alS i28_13 (s28_13 K), List.forall_mem_cons.mpr ⟨am_alS i28_14 (s28_14 K), List.forall_mem_cons.mpr ⟨am_alC i28_15 (s28_15 K), List.forall_mem_cons.mpr ⟨am_alS i28_18 (s28_18 K), List.forall_mem_cons.mpr ⟨am_alS i28_19 (s28_19 K), List.forall_mem_cons.mpr ⟨am_alS i28_20 (s28_20 K), List.forall_mem_cons.mpr ⟨am_alS i28_23 (s28_23 K), List.forall_mem_cons.mpr ⟨am_alS i28_24 (s28_24 K), List.forall_mem_cons.mpr ⟨am_alS i28_27 (s28_27 K), List.forall_mem_cons.mpr ⟨am_alC i28_28 (s28_28 K), List.forall_mem_cons.mpr ⟨am_alS i28_31 (s28_31 K), List.forall_mem_cons.mpr ⟨am_alS i28_34 (s28_34 K), List.forall_mem_cons.mpr ⟨am_alS i28_35 (s28_35 K), List.forall_mem_cons.mpr ⟨am_alS i28_36 (s28_36 K), List.forall_mem_cons.mpr ⟨am_alS i28_37 (s28_37 K), List.forall_mem_cons.mpr ⟨am_alS i28_38 (s28_38 K), List.forall_mem_cons.mpr ⟨am_alC i28_41 (s28_41 K), List.forall_mem_cons.mpr ⟨am_alS i28_44 (s28_44 K), List.forall_mem_cons.mpr ⟨am_alS i28_45 (s28_45 K), List.forall_mem_cons.mpr ⟨am_alS i28_46 (s28_46 K), List.forall_mem_cons.mpr ⟨am_alS i28_47 (s28_47 K), List.forall_mem_cons.mpr ⟨am_alC i28_48 (s28_48 K), List.forall_mem_cons.mpr ⟨am_alS i28_51 (s28_51 K), fun _ h => absurd h List.not_mem_nil⟩⟩⟩⟩⟩⟩⟩⟩⟩⟩⟩⟩⟩⟩⟩⟩⟩⟩⟩⟩⟩⟩⟩⟩⟩⟩⟩⟩⟩⟩
theorem al28_1 (K : aK) : ∀ q ∈ [53, 55, 58, 59, 62, 64, 67, 70, 71, 72, 74, 77, 80, 81, 82, 83, 86, 87, 90, 91, 94, 97, 98, 101, 102, 105], am_All K 28 q := List.forall_mem_cons.mpr ⟨am_alS i28_53 (s28_53 K), List.forall_mem_cons.mpr ⟨am_alS i28_55 (s28_55 K), List.forall_mem_cons.mpr ⟨am_alS i28_58 (s28_58 K), List.forall_mem_cons.mpr ⟨am_alS i28_59 (s28_59 K), List.forall_mem_cons.mpr ⟨am_alS i28_62 (s28_62 K), List.forall_mem_cons.mpr ⟨am_alC i28_64 (s28_64 K), List.forall_mem_cons.mpr ⟨am_alS i28_67 (s28_67 K), List.forall_mem_cons.mpr ⟨am_alS i28_70 (s28_70 K), List.forall_mem_cons.mpr ⟨am_alS i28_71 (s28_71 K), List.forall_mem_cons.mpr ⟨am_alS i28_72 (s28_72 K), List.forall_mem_cons.mpr ⟨am_alS i28_74 (s28_74 K), List.forall_mem_cons.mpr ⟨am_alS i28_77 (s28_77 K), List.forall_mem_cons.mpr ⟨am_alS i28_80 (s28_80 K), List.forall_mem_cons.mpr ⟨am_alS i28_81 (s28_81 K), List.forall_mem_cons.mpr ⟨am_alS i28_82 (s28_82 K), List.forall_mem_cons.mpr ⟨am_alS i28_83 (s28_83 K), List.forall_mem_cons.mpr ⟨am_alS i28_86 (s28_86 K), List.forall_mem_cons.mpr ⟨am_alS i28_87 (s28_87 K), List.forall_mem_cons.mpr ⟨am_alS i28_90 (s28_90 K), List.forall_mem_cons.mpr ⟨am_alC i28_91 (s28_91 K), List.forall_mem_cons.mpr ⟨am_alC i28_94 (s28_94 K), List.forall_mem_cons.mpr ⟨am_alS i28_97 (s28_97 K), List.forall_mem_cons.mpr ⟨am_alS i28_98 (s28_98 K), List.forall_mem_cons.mpr ⟨am_alS i28_101 (s28_101 K), List.forall_mem_cons.mpr ⟨am_alC i28_102 (s28_102 K), List.forall_mem_cons.mpr ⟨am_alR i28_105 s28_105, fun _ h => absurd h List.not_mem_nil⟩⟩⟩⟩⟩⟩⟩⟩⟩⟩⟩⟩⟩⟩⟩⟩⟩⟩⟩⟩⟩⟩⟩⟩⟩⟩
set_option maxRecDepth 100000 in
theorem al28 (K : aK) : ∀ q ∈ (am_t28).map (fun z => z.1), am_All K 28 q := by
  have e : (am_t28).map (fun z => z.1) = [0, 1, 2, 5, 6, 9, 12, 13, 14, 15, 18, 19, 20, 23, 24, 27, 28, 31, 34, 35, 36, 37, 38, 41, 44, 45, 46, 47, 48, 51] ++ ([53, 55, 58, 59, 62, 64, 67, 70, 71, 72, 74, 77, 80, 81, 82, 83, 86, 87, 90, 91, 94, 97, 98, 101, 102, 105]) := rfl
  rw [e]
  exact List.forall_mem_append.mpr ⟨al28_0 K, al28_1 K⟩
theorem i29_0 : am_ins 29 0 = (33, 1, 1, 0, []) := by decide +kernel
theorem d29_0 : decode (am_cod 29) 0 = .ok (.aload_n 1, 1) := by decide +kernel
theorem s29_0 (K : aK) : am_Snd K 29 0 := sn_aload_n i29_0 d29_0 rfl
theorem i29_1 : am_ins 29 1 = (33, 2, 1, 0, []) := by decide +kernel
theorem d29_1 : decode (am_cod 29) 1 = .ok (.aload_n 2, 1) := by decide +kernel
theorem s29_1 (K : aK) : am_Snd K 29 1 := sn_aload_n i29_1 d29_1 rfl
theorem i29_2 : am_ins 29 2 = (18, 5, 0, 0, []) := by decide +kernel
theorem d29_2 : decode (am_cod 29) 2 = .ok (.getfield 98, 3) := by decide +kernel
theorem s29_2 (K : aK) : am_Snd K 29 2 := sn_get (C0 := CN5) (T := FT5) (Nf := 8) i29_2 d29_2 rfl (by decide +kernel) fin5 w_278 rfl
theorem i29_5 : am_ins 29 5 = (0, 1, 0, 2, []) := by decide +kernel
theorem d29_5 : decode (am_cod 29) 5 = .ok (.iconst 2, 1) := by decide +kernel
theorem s29_5 (K : aK) : am_Snd K 29 5 := sn_const1 i29_5 d29_5 rfl
theorem i29_6 : am_ins 29 6 = (1, 3, 1, 0, []) := by decide +kernel
theorem d29_6 : decode (am_cod 29) 6 = .ok (.iload_n 3, 1) := by decide +kernel
theorem s29_6 (K : aK) : am_Snd K 29 6 := sn_iload_n i29_6 d29_6 rfl
theorem i29_7 : am_ins 29 7 = (60, 50, 3, 0, []) := by decide +kernel
theorem d29_7 : decode (am_cod 29) 7 = .ok (.invokevirtual 264, 3) := by decide +kernel
theorem s29_7 (K : aK) : am_SndC K 29 7 := sc_V i29_7 d29_7 co50 w_392 w_338 w_339 w_4 rfl (rr := (CN4, FT4, 9)) rfl rfl hd50
theorem i29_10 : am_ins 29 10 = (33, 1, 1, 0, []) := by decide +kernel
theorem d29_10 : decode (am_cod 29) 10 = .ok (.aload_n 1, 1) := by decide +kernel
theorem s29_10 (K : aK) : am_Snd K 29 10 := sn_aload_n i29_10 d29_10 rfl
theorem i29_11 : am_ins 29 11 = (33, 1, 1, 0, []) := by decide +kernel
theorem d29_11 : decode (am_cod 29) 11 = .ok (.aload_n 1, 1) := by decide +kernel
theorem s29_11 (K : aK) : am_Snd K 29 11 := sn_aload_n i29_11 d29_11 rfl
theorem i29_12 : am_ins 29 12 = (18, 4, 8, 0, []) := by decide +kernel
theorem d29_12 : decode (am_cod 29) 12 = .ok (.getfield 123, 3) := by decide +kernel
theorem s29_12 (K : aK) : am_Snd K 29 12 := sn_get (C0 := CN4) (T := FT4) (Nf := 9) i29_12 d29_12 rfl (by decide +kernel) fin4 w_95 rfl
theorem i29_15 : am_ins 29 15 = (1, 3, 1, 0, []) := by decide +kernel
theorem d29_15 : decode (am_cod 29) 15 = .ok (.iload_n 3, 1) := by decide +kernel
theorem s29_15 (K : aK) : am_Snd K 29 15 := sn_iload_n i29_15 d29_15 rfl
theorem i29_16 : am_ins 29 16 = (36, 0, 0, 0, []) := by decide +kernel
theorem d29_16 : decode (am_cod 29) 16 = .ok (.invokestatic 268, 3) := by decide +kernel
theorem s29_16 (K : aK) : am_Snd K 29 16 := sn_max i29_16 d29_16 w_393 w_184 w_7 w_185
theorem i29_19 : am_ins 29 19 = (19, 4, 8, 0, []) := by decide +kernel
theorem d29_19 : decode (am_cod 29) 19 = .ok (.putfield 123, 3) := by decide +kernel
theorem s29_19 (K : aK) : am_Snd K 29 19 := sn_puti (ty := .int) (C0 := CN4) (T := FT4) (Nf := 9) (tyf := FY4) i29_19 d29_19 rfl (by decide +kernel) fin4 ftyok4 fnm4 w_95 rfl rfl rfl
theorem i29_22 : am_ins 29 22 = (0, 1, 0, 0, []) := by decide +kernel
theorem d29_22 : decode (am_cod 29) 22 = .ok (.iconst 0, 1) := by decide +kernel
theorem s29_22 (K : aK) : am_Snd K 29 22 := sn_const1 i29_22 d29_22 rfl
theorem i29_23 : am_ins 29 23 = (2, 4, 2, 0, []) := by decide +kernel
theorem d29_23 : decode (am_cod 29) 23 = .ok (.istore 4, 2) := by decide +kernel
theorem s29_23 (K : aK) : am_Snd K 29 23 := sn_istore i29_23 d29_23 (by decide +kernel)
theorem i29_25 : am_ins 29 25 = (1, 4, 2, 0, []) := by decide +kernel
theorem d29_25 : decode (am_cod 29) 25 = .ok (.iload 4, 2) := by decide +kernel
theorem s29_25 (K : aK) : am_Snd K 29 25 := sn_iload i29_25 d29_25 
theorem i29_27 : am_ins 29 27 = (33, 0, 1, 0, []) := by decide +kernel
theorem d29_27 : decode (am_cod 29) 27 = .ok (.aload_n 0, 1) := by decide +kernel
theorem s29_27 (K : aK) : am_Snd K 29 27 := sn_aload_n i29_27 d29_27 rfl
theorem i29_28 : am_ins 29 28 = (18, 0, 4, 0, []) := by decide +kernel
theorem d29_28 : decode (am_cod 29) 28 = .ok (.getfield 42, 3) := by decide +kernel
theorem s29_28 (K : aK) : am_Snd K 29 28 := sn_get (C0 := CN0) (T := FT0) (Nf := 5) i29_28 d29_28 rfl (by decide +kernel) fin0 w_142 rfl
theorem i29_31 : am_ins 29 31 = (13, 3, 73, 0, []) := by decide +kernel
theorem d29_31 : decode (am_cod 29) 31 = .ok (.if_icmp .ge 42, 3) := by decide +kernel
theorem s29_31 (K : aK) : am_Snd K 29 31 := sn_icmp_ge i29_31 d29_31 rfl
theorem i29_34 : am_ins 29 34 = (33, 0, 1, 0, []) := by decide +kernel
theorem d29_34 : decode (am_cod 29) 34 = .ok (.aload_n 0, 1) := by decide +kernel
theorem s29_34 (K : aK) : am_Snd K 29 34 := sn_aload_n i29_34 d29_34 rfl
theorem i29_35 : am_ins 29 35 = (33, 1, 1, 0, []) := by decide +kernel
theorem d29_35 : decode (am_cod 29) 35 = .ok (.aload_n 1, 1) := by decide +kernel
theorem s29_35 (K : aK) : am_Snd K 29 35 := sn_aload_n i29_35 d29_35 rfl
theorem i29_36 : am_ins 29 36 = (60, 54, 0, 0, []) := by decide +kernel
theorem d29_36 : decode (am_cod 29) 36 = .ok (.invokevirtual 274, 3) := by decide +kernel
theorem s29_36 (K : aK) : am_SndC K 29 36 := sc_V i29_36 d29_36 co54 w_394 w_395 w_396 w_4 rfl (rr := (CN4, FT4, 9)) rfl rfl hd54
theorem i29_39 : am_ins 29 39 = (60, 19, 1, 0, []) := by decide +kernel
theorem d29_39 : decode (am_cod 29) 39 = .ok (.invokevirtual 202, 3) := by decide +kernel
theorem s29_39 (K : aK) : am_SndC K 29 39 := sc_V i29_39 d29_39 co19 w_403 w_405 ws_9 w_1 rfl (rr := (CN0, FT0, 5)) rfl rfl hd19
theorem i29_42 : am_ins 29 42 = (34, 5, 2, 0, []) := by decide +kernel
theorem d29_42 : decode (am_cod 29) 42 = .ok (.astore 5, 2) := by decide +kernel
theorem s29_42 (K : aK) : am_Snd K 29 42 := sn_astore i29_42 d29_42 (by decide +kernel)
theorem i29_44 : am_ins 29 44 = (33, 5, 2, 0, []) := by decide +kernel
theorem d29_44 : decode (am_cod 29) 44 = .ok (.aload 5, 2) := by decide +kernel
theorem s29_44 (K : aK) : am_Snd K 29 44 := sn_aload i29_44 d29_44 
theorem i29_46 : am_ins 29 46 = (16, 50, 0, 0, []) := by decide +kernel
theorem d29_46 : decode (am_cod 29) 46 = .ok (.ifnonnull 4, 3) := by decide +kernel
theorem s29_46 (K : aK) : am_Snd K 29 46 := sn_ifnonnull i29_46 d29_46 rfl
theorem i29_49 : am_ins 29 49 = (53, 0, 0, 0, []) := by decide +kernel
theorem d29_49 : decode (am_cod 29) 49 = .ok (.return_, 1) := by decide +kernel
theorem s29_49 : am_SndR 29 49 := sn_vret i29_49 d29_49 rfl
theorem i29_50 : am_ins 29 50 = (33, 1, 1, 0, []) := by decide +kernel
theorem d29_50 : decode (am_cod 29) 50 = .ok (.aload_n 1, 1) := by decide +kernel
theorem s29_50 (K : aK) : am_Snd K 29 50 := sn_aload_n i29_50 d29_50 rfl
theorem i29_51 : am_ins 29 51 = (33, 5, 2, 0, []) := by decide +kernel
theorem d29_51 : decode (am_cod 29) 51 = .ok (.aload 5, 2) := by decide +kernel
theorem s29_51 (K : aK) : am_Snd K 29 51 := sn_aload i29_51 d29_51 
theorem i29_53 : am_ins 29 53 = (60, 55, 1, 0, []) := by decide +kernel
theorem d29_53 : decode (am_cod 29) 53 = .ok (.invokevirtual 277, 3) := by decide +kernel
theorem s29_53 (K : aK) : am_SndC K 29 53 := sc_V i29_53 d29_53 co55 w_407 w_408 w_409 w_4 rfl (rr := (CN4, FT4, 9)) rfl rfl hd55
theorem i29_56 : am_ins 29 56 = (33, 0, 1, 0, []) := by decide +kernel
theorem d29_56 : decode (am_cod 29) 56 = .ok (.aload_n 0, 1) := by decide +kernel
theorem s29_56 (K : aK) : am_Snd K 29 56 := sn_aload_n i29_56 d29_56 rfl
theorem i29_57 : am_ins 29 57 = (33, 1, 1, 0, []) := by decide +kernel
theorem d29_57 : decode (am_cod 29) 57 = .ok (.aload_n 1, 1) := by decide +kernel
theorem s29_57 (K : aK) : am_Snd K 29 57 := sn_aload_n i29_57 d29_57 rfl
theorem i29_58 : am_ins 29 58 = (0, 1, 0, 4, []) := by decide +kernel
theorem d29_58 : decode (am_cod 29) 58 = .ok (.iconst 4, 1) := by decide +kernel
theorem s29_58 (K : aK) : am_Snd K 29 58 := sn_const1 i29_58 d29_58 rfl
theorem i29_59 : am_ins 29 59 = (33, 5, 2, 0, []) := by decide +kernel
theorem d29_59 : decode (am_cod 29) 59 = .ok (.aload 5, 2) := by decide +kernel
theorem s29_59 (K : aK) : am_Snd K 29 59 := sn_aload i29_59 d29_59 
theorem i29_61 : am_ins 29 61 = (18, 5, 0, 0, []) := by decide +kernel
theorem d29_61 : decode (am_cod 29) 61 = .ok (.getfield 98, 3) := by decide +kernel
theorem s29_61 (K : aK) : am_Snd K 29 61 := sn_get (C0 := CN5) (T := FT5) (Nf := 8) i29_61 d29_61 rfl (by decide +kernel) fin5 w_278 rfl
theorem i29_64 : am_ins 29 64 = (60, 31, 3, 0, []) := by decide +kernel
theorem d29_64 : decode (am_cod 29) 64 = .ok (.invokevirtual 133, 3) := by decide +kernel
theorem s29_64 (K : aK) : am_SndC K 29 64 := sc_V i29_64 d29_64 co31 w_412 w_414 ws_10 w_1 rfl (rr := (CN0, FT0, 5)) rfl rfl hd31
theorem i29_67 : am_ins 29 67 = (3, 4, 3, 1, []) := by decide +kernel
theorem d29_67 : decode (am_cod 29) 67 = .ok (.iinc 4 1, 3) := by decide +kernel
theorem s29_67 (K : aK) : am_Snd K 29 67 := sn_iinc i29_67 d29_67 rfl (by decide +kernel)
theorem i29_70 : am_ins 29 70 = (14, 25, 0, 0, []) := by decide +kernel
theorem d29_70 : decode (am_cod 29) 70 = .ok (.goto (-45), 3) := by decide +kernel
theorem s29_70 (K : aK) : am_Snd K 29 70 := sn_goto i29_70 d29_70 rfl
theorem i29_73 : am_ins 29 73 = (53, 0, 0, 0, []) := by decide +kernel
theorem d29_73 : decode (am_cod 29) 73 = .ok (.return_, 1) := by decide +kernel
theorem s29_73 : am_SndR 29 73 := sn_vret i29_73 d29_73 rfl
theorem al29_0 (K : aK) : ∀ q ∈ [0, 1, 2, 5, 6, 7, 10, 11, 12, 15, 16, 19, 22, 23, 25, 27, 28, 31, 34, 35, 36, 39, 42, 44, 46, 49, 50, 51, 53, 56], am_All K 29 q := List.forall_mem_cons.mpr ⟨am_alS i29_0 (s29_0 K), List.forall_mem_cons.mpr ⟨am_alS i29_1 (s29_1 K), List.forall_mem_cons.mpr ⟨am_alS i29_2 (s29_2 K), List.forall_mem_cons.mpr ⟨am_alS i29_5 (s29_5 K), List.forall_mem_cons.mpr ⟨am_alS i29_6 (s29_6 K), List.forall_mem_cons.mpr ⟨am_alC i29_7 (s29_7 K), List.forall_mem_cons.mpr ⟨am_alS i29_10 (s29_10 K), List.forall_mem_cons.mpr ⟨am_alS i29_11 (s29_11 K), List.forall_mem_cons.mpr ⟨am_alS i29_12 (s29_12 K), List.forall_mem_cons.mpr ⟨am_alS i29_15 (s29_15 K), List.forall_mem_cons.mpr ⟨am_alS i29_16 (s29_16 K), List.forall_mem_cons.mpr ⟨am_alS i29_19 (s29_19 K), List.forall_mem_cons.mpr ⟨am_alS i29_22 (s29_22 K), List.forall_mem_cons.mpr ⟨am_alS i29_23 (s29_23 K), List.forall_mem_cons.mpr ⟨am_alS i29_25 (s29_25 K), List.forall_mem_cons.mpr ⟨am_alS i29_27 (s29_27 K), List.forall_mem_cons.mpr ⟨am_alS i29_28 (s29_28 K), List.forall_mem_cons.mpr ⟨am_alS i29_31 (s29_31 K), List.forall_mem_cons.mpr ⟨am_alS i29_34 (s29_34 K), List.forall_mem_cons.mpr ⟨am_alS i29_35 (s29_35 K), List.forall_mem_cons.mpr ⟨am_alC i29_36 (s29_36 K), List.forall_mem_cons.mpr ⟨am_alC i29_39 (s29_39 K), List.forall_mem_cons.mpr ⟨am_alS i29_42 (s29_42 K), List.forall_mem_cons.mpr ⟨am_alS i29_44 (s29_44 K), List.forall_mem_cons.mpr ⟨am_alS i29_46 (s29_46 K), List.forall_mem_cons.mpr ⟨am_alR i29_49 s29_49, List.forall_mem_cons.mpr ⟨am_alS i29_50 (s29_50 K), List.forall_mem_cons.mpr ⟨am_alS i29_51 (s29_51 K), List.forall_mem_cons.mpr ⟨am_alC i29_53 (s29_53 K), List.forall_mem_cons.mpr ⟨am_alS i29_56 (s29_56 K), fun _ h => absurd h List.not_mem_nil⟩⟩⟩⟩⟩⟩⟩⟩⟩⟩⟩⟩⟩⟩⟩⟩⟩⟩⟩⟩⟩⟩⟩⟩⟩⟩⟩⟩⟩⟩
theorem al29_1 (K : aK) : ∀ q ∈ [57, 58, 59, 61, 64, 67, 70, 73], am_All K 29 q := List.forall_mem_cons.mpr ⟨am_alS i29_57 (s29_57 K), List.forall_mem_cons.mpr ⟨am_alS i29_58 (s29_58 K), List.forall_mem_cons.mpr ⟨am_alS i29_59 (s29_59 K), List.forall_mem_cons.mpr ⟨am_alS i29_61 (s29_61 K), List.forall_mem_cons.mpr ⟨am_alC i29_64 (s29_64 K), List.forall_mem_cons.mpr ⟨am_alS i29_67 (s29_67 K), List.forall_mem_cons.mpr ⟨am_alS i29_70 (s29_70 K), List.forall_mem_cons.mpr ⟨am_alR i29_73 s29_73, fun _ h => absurd h List.not_mem_nil⟩⟩⟩⟩⟩⟩⟩⟩
set_option maxRecDepth 100000 in
theorem al29 (K : aK) : ∀ q ∈ (am_t29).map (fun z => z.1), am_All K 29 q := by
  have e : (am_t29).map (fun z => z.1) = [0, 1, 2, 5, 6, 7, 10, 11, 12, 15, 16, 19, 22, 23, 25, 27, 28, 31, 34, 35, 36, 39, 42, 44, 46, 49, 50, 51, 53, 56] ++ ([57, 58, 59, 61, 64, 67, 70, 73]) := rfl
  rw [e]
  exact List.forall_mem_append.mpr ⟨al29_0 K, al29_1 K⟩
theorem i30_0 : am_ins 30 0 = (33, 0, 1, 0, []) := by decide +kernel
theorem d30_0 : decode (am_cod 30) 0 = .ok (.aload_n 0, 1) := by decide +kernel
theorem s30_0 (K : aK) : am_Snd K 30 0 := sn_aload_n i30_0 d30_0 rfl
theorem i30_1 : am_ins 30 1 = (33, 1, 1, 0, []) := by decide +kernel
theorem d30_1 : decode (am_cod 30) 1 = .ok (.aload_n 1, 1) := by decide +kernel
theorem s30_1 (K : aK) : am_Snd K 30 1 := sn_aload_n i30_1 d30_1 rfl
theorem i30_2 : am_ins 30 2 = (18, 3, 1, 0, []) := by decide +kernel
theorem d30_2 : decode (am_cod 30) 2 = .ok (.getfield 231, 3) := by decide +kernel
theorem s30_2 (K : aK) : am_Snd K 30 2 := sn_get (C0 := CN3) (T := FT3) (Nf := 5) i30_2 d30_2 rfl (by decide +kernel) fin3 w_355 rfl
theorem i30_5 : am_ins 30 5 = (60, 19, 1, 0, []) := by decide +kernel
theorem d30_5 : decode (am_cod 30) 5 = .ok (.invokevirtual 202, 3) := by decide +kernel
theorem s30_5 (K : aK) : am_SndC K 30 5 := sc_V i30_5 d30_5 co19 w_403 w_405 ws_9 w_1 rfl (rr := (CN0, FT0, 5)) rfl rfl hd19
theorem i30_8 : am_ins 30 8 = (34, 4, 2, 0, []) := by decide +kernel
theorem d30_8 : decode (am_cod 30) 8 = .ok (.astore 4, 2) := by decide +kernel
theorem s30_8 (K : aK) : am_Snd K 30 8 := sn_astore i30_8 d30_8 (by decide +kernel)
theorem i30_10 : am_ins 30 10 = (33, 1, 1, 0, []) := by decide +kernel
theorem d30_10 : decode (am_cod 30) 10 = .ok (.aload_n 1, 1) := by decide +kernel
theorem s30_10 (K : aK) : am_Snd K 30 10 := sn_aload_n i30_10 d30_10 rfl
theorem i30_11 : am_ins 30 11 = (18, 3, 0, 0, []) := by decide +kernel
theorem d30_11 : decode (am_cod 30) 11 = .ok (.getfield 171, 3) := by decide +kernel
theorem s30_11 (K : aK) : am_Snd K 30 11 := sn_get (C0 := CN3) (T := FT3) (Nf := 5) i30_11 d30_11 rfl (by decide +kernel) fin3 w_353 rfl
theorem i30_14 : am_ins 30 14 = (0, 1, 0, 5, []) := by decide +kernel
theorem d30_14 : decode (am_cod 30) 14 = .ok (.iconst 5, 1) := by decide +kernel
theorem s30_14 (K : aK) : am_Snd K 30 14 := sn_const1 i30_14 d30_14 rfl
theorem i30_15 : am_ins 30 15 = (13, 1, 33, 0, []) := by decide +kernel
theorem d30_15 : decode (am_cod 30) 15 = .ok (.if_icmp .ne 18, 3) := by decide +kernel
theorem s30_15 (K : aK) : am_Snd K 30 15 := sn_icmp_ne i30_15 d30_15 rfl
theorem i30_18 : am_ins 30 18 = (33, 3, 1, 0, []) := by decide +kernel
theorem d30_18 : decode (am_cod 30) 18 = .ok (.aload_n 3, 1) := by decide +kernel
theorem s30_18 (K : aK) : am_Snd K 30 18 := sn_aload_n i30_18 d30_18 rfl
theorem i30_19 : am_ins 30 19 = (33, 2, 1, 0, []) := by decide +kernel
theorem d30_19 : decode (am_cod 30) 19 = .ok (.aload_n 2, 1) := by decide +kernel
theorem s30_19 (K : aK) : am_Snd K 30 19 := sn_aload_n i30_19 d30_19 rfl
theorem i30_20 : am_ins 30 20 = (18, 4, 1, 0, []) := by decide +kernel
theorem d30_20 : decode (am_cod 30) 20 = .ok (.getfield 129, 3) := by decide +kernel
theorem s30_20 (K : aK) : am_Snd K 30 20 := sn_get (C0 := CN4) (T := FT4) (Nf := 9) i30_20 d30_20 rfl (by decide +kernel) fin4 w_84 rfl
theorem i30_23 : am_ins 30 23 = (33, 1, 1, 0, []) := by decide +kernel
theorem d30_23 : decode (am_cod 30) 23 = .ok (.aload_n 1, 1) := by decide +kernel
theorem s30_23 (K : aK) : am_Snd K 30 23 := sn_aload_n i30_23 d30_23 rfl
theorem i30_24 : am_ins 30 24 = (18, 3, 1, 0, []) := by decide +kernel
theorem d30_24 : decode (am_cod 30) 24 = .ok (.getfield 231, 3) := by decide +kernel
theorem s30_24 (K : aK) : am_Snd K 30 24 := sn_get (C0 := CN3) (T := FT3) (Nf := 5) i30_24 d30_24 rfl (by decide +kernel) fin3 w_355 rfl
theorem i30_27 : am_ins 30 27 = (60, 47, 2, 0, []) := by decide +kernel
theorem d30_27 : decode (am_cod 30) 27 = .ok (.invokevirtual 130, 3) := by decide +kernel
theorem s30_27 (K : aK) : am_SndC K 30 27 := sc_V i30_27 d30_27 co47 w_433 w_434 w_435 w_4 rfl (rr := (CN4, FT4, 9)) rfl rfl hd47
theorem i30_30 : am_ins 30 30 = (14, 168, 0, 0, []) := by decide +kernel
theorem d30_30 : decode (am_cod 30) 30 = .ok (.goto 138, 3) := by decide +kernel
theorem s30_30 (K : aK) : am_Snd K 30 30 := sn_goto i30_30 d30_30 rfl
theorem i30_33 : am_ins 30 33 = (33, 1, 1, 0, []) := by decide +kernel
theorem d30_33 : decode (am_cod 30) 33 = .ok (.aload_n 1, 1) := by decide +kernel
theorem s30_33 (K : aK) : am_Snd K 30 33 := sn_aload_n i30_33 d30_33 rfl
theorem i30_34 : am_ins 30 34 = (18, 3, 0, 0, []) := by decide +kernel
theorem d30_34 : decode (am_cod 30) 34 = .ok (.getfield 171, 3) := by decide +kernel
theorem s30_34 (K : aK) : am_Snd K 30 34 := sn_get (C0 := CN3) (T := FT3) (Nf := 5) i30_34 d30_34 rfl (by decide +kernel) fin3 w_353 rfl
theorem i30_37 : am_ins 30 37 = (0, 2, 0, 6, []) := by decide +kernel
theorem d30_37 : decode (am_cod 30) 37 = .ok (.bipush 6, 2) := by decide +kernel
theorem s30_37 (K : aK) : am_Snd K 30 37 := sn_const2 i30_37 d30_37 (by decide +kernel)
theorem i30_39 : am_ins 30 39 = (13, 1, 53, 0, []) := by decide +kernel
theorem d30_39 : decode (am_cod 30) 39 = .ok (.if_icmp .ne 14, 3) := by decide +kernel
theorem s30_39 (K : aK) : am_Snd K 30 39 := sn_icmp_ne i30_39 d30_39 rfl
theorem i30_42 : am_ins 30 42 = (33, 3, 1, 0, []) := by decide +kernel
theorem d30_42 : decode (am_cod 30) 42 = .ok (.aload_n 3, 1) := by decide +kernel
theorem s30_42 (K : aK) : am_Snd K 30 42 := sn_aload_n i30_42 d30_42 rfl
theorem i30_43 : am_ins 30 43 = (33, 1, 1, 0, []) := by decide +kernel
theorem d30_43 : decode (am_cod 30) 43 = .ok (.aload_n 1, 1) := by decide +kernel
theorem s30_43 (K : aK) : am_Snd K 30 43 := sn_aload_n i30_43 d30_43 rfl
theorem i30_44 : am_ins 30 44 = (18, 3, 3, 0, []) := by decide +kernel
theorem d30_44 : decode (am_cod 30) 44 = .ok (.getfield 280, 3) := by decide +kernel
theorem s30_44 (K : aK) : am_Snd K 30 44 := sn_get (C0 := CN3) (T := FT3) (Nf := 5) i30_44 d30_44 rfl (by decide +kernel) fin3 w_359 rfl
theorem i30_47 : am_ins 30 47 = (60, 48, 1, 0, []) := by decide +kernel
theorem d30_47 : decode (am_cod 30) 47 = .ok (.invokevirtual 283, 3) := by decide +kernel
theorem s30_47 (K : aK) : am_SndC K 30 47 := sc_V i30_47 d30_47 co48 w_458 w_459 w_460 w_4 rfl (rr := (CN4, FT4, 9)) rfl rfl hd48
theorem i30_50 : am_ins 30 50 = (14, 168, 0, 0, []) := by decide +kernel
theorem d30_50 : decode (am_cod 30) 50 = .ok (.goto 118, 3) := by decide +kernel
theorem s30_50 (K : aK) : am_Snd K 30 50 := sn_goto i30_50 d30_50 rfl
theorem i30_53 : am_ins 30 53 = (33, 4, 2, 0, []) := by decide +kernel
theorem d30_53 : decode (am_cod 30) 53 = .ok (.aload 4, 2) := by decide +kernel
theorem s30_53 (K : aK) : am_Snd K 30 53 := sn_aload i30_53 d30_53 
theorem i30_55 : am_ins 30 55 = (16, 59, 0, 0, []) := by decide +kernel
theorem d30_55 : decode (am_cod 30) 55 = .ok (.ifnonnull 4, 3) := by decide +kernel
theorem s30_55 (K : aK) : am_Snd K 30 55 := sn_ifnonnull i30_55 d30_55 rfl
theorem i30_58 : am_ins 30 58 = (53, 0, 0, 0, []) := by decide +kernel
theorem d30_58 : decode (am_cod 30) 58 = .ok (.return_, 1) := by decide +kernel
theorem s30_58 : am_SndR 30 58 := sn_vret i30_58 d30_58 rfl
theorem i30_59 : am_ins 30 59 = (33, 1, 1, 0, []) := by decide +kernel
theorem d30_59 : decode (am_cod 30) 59 = .ok (.aload_n 1, 1) := by decide +kernel
theorem s30_59 (K : aK) : am_Snd K 30 59 := sn_aload_n i30_59 d30_59 rfl
theorem i30_60 : am_ins 30 60 = (18, 3, 0, 0, []) := by decide +kernel
theorem d30_60 : decode (am_cod 30) 60 = .ok (.getfield 171, 3) := by decide +kernel
theorem s30_60 (K : aK) : am_Snd K 30 60 := sn_get (C0 := CN3) (T := FT3) (Nf := 5) i30_60 d30_60 rfl (by decide +kernel) fin3 w_353 rfl
theorem i30_63 : am_ins 30 63 = (0, 1, 0, 1, []) := by decide +kernel
theorem d30_63 : decode (am_cod 30) 63 = .ok (.iconst 1, 1) := by decide +kernel
theorem s30_63 (K : aK) : am_Snd K 30 63 := sn_const1 i30_63 d30_63 rfl
theorem i30_64 : am_ins 30 64 = (13, 1, 106, 0, []) := by decide +kernel
theorem d30_64 : decode (am_cod 30) 64 = .ok (.if_icmp .ne 42, 3) := by decide +kernel
theorem s30_64 (K : aK) : am_Snd K 30 64 := sn_icmp_ne i30_64 d30_64 rfl
theorem i30_67 : am_ins 30 67 = (33, 3, 1, 0, []) := by decide +kernel
theorem d30_67 : decode (am_cod 30) 67 = .ok (.aload_n 3, 1) := by decide +kernel
theorem s30_67 (K : aK) : am_Snd K 30 67 := sn_aload_n i30_67 d30_67 rfl
theorem i30_68 : am_ins 30 68 = (33, 4, 2, 0, []) := by decide +kernel
theorem d30_68 : decode (am_cod 30) 68 = .ok (.aload 4, 2) := by decide +kernel
theorem s30_68 (K : aK) : am_Snd K 30 68 := sn_aload i30_68 d30_68 
theorem i30_70 : am_ins 30 70 = (60, 49, 1, 0, []) := by decide +kernel
theorem d30_70 : decode (am_cod 30) 70 = .ok (.invokevirtual 246, 3) := by decide +kernel
theorem s30_70 (K : aK) : am_SndC K 30 70 := sc_V i30_70 d30_70 co49 w_332 w_333 w_334 w_4 rfl (rr := (CN4, FT4, 9)) rfl rfl hd49
theorem i30_73 : am_ins 30 73 = (2, 5, 2, 0, []) := by decide +kernel
theorem d30_73 : decode (am_cod 30) 73 = .ok (.istore 5, 2) := by decide +kernel
theorem s30_73 (K : aK) : am_Snd K 30 73 := sn_istore i30_73 d30_73 (by decide +kernel)
theorem i30_75 : am_ins 30 75 = (33, 0, 1, 0, []) := by decide +kernel
theorem d30_75 : decode (am_cod 30) 75 = .ok (.aload_n 0, 1) := by decide +kernel
theorem s30_75 (K : aK) : am_Snd K 30 75 := sn_aload_n i30_75 d30_75 rfl
theorem i30_76 : am_ins 30 76 = (33, 3, 1, 0, []) := by decide +kernel
theorem d30_76 : decode (am_cod 30) 76 = .ok (.aload_n 3, 1) := by decide +kernel
theorem s30_76 (K : aK) : am_Snd K 30 76 := sn_aload_n i30_76 d30_76 rfl
theorem i30_77 : am_ins 30 77 = (18, 4, 0, 0, []) := by decide +kernel
theorem d30_77 : decode (am_cod 30) 77 = .ok (.getfield 137, 3) := by decide +kernel
theorem s30_77 (K : aK) : am_Snd K 30 77 := sn_get (C0 := CN4) (T := FT4) (Nf := 9) i30_77 d30_77 rfl (by decide +kernel) fin4 w_82 rfl
theorem i30_80 : am_ins 30 80 = (33, 2, 1, 0, []) := by decide +kernel
theorem d30_80 : decode (am_cod 30) 80 = .ok (.aload_n 2, 1) := by decide +kernel
theorem s30_80 (K : aK) : am_Snd K 30 80 := sn_aload_n i30_80 d30_80 rfl
theorem i30_81 : am_ins 30 81 = (18, 4, 0, 0, []) := by decide +kernel
theorem d30_81 : decode (am_cod 30) 81 = .ok (.getfield 137, 3) := by decide +kernel
theorem s30_81 (K : aK) : am_Snd K 30 81 := sn_get (C0 := CN4) (T := FT4) (Nf := 9) i30_81 d30_81 rfl (by decide +kernel) fin4 w_82 rfl
theorem i30_84 : am_ins 30 84 = (29, 3, 0, 0, []) := by decide +kernel
theorem d30_84 : decode (am_cod 30) 84 = .ok (.new 141, 3) := by decide +kernel
theorem s30_84 (K : aK) : am_Snd K 30 84 := sn_new (C0 := CN3) (T := FT3) (Nf := 5) (tyf := FY3) i30_84 d30_84 rfl fin3 ftyok3 w_346 w_347 w_9 rfl fdf3
theorem i30_87 : am_ins 30 87 = (7, 0, 0, 0, []) := by decide +kernel
theorem d30_87 : decode (am_cod 30) 87 = .ok (.dup, 1) := by decide +kernel
theorem s30_87 (K : aK) : am_Snd K 30 87 := sn_dup i30_87 d30_87 
theorem i30_88 : am_ins 30 88 = (0, 1, 0, 2, []) := by decide +kernel
theorem d30_88 : decode (am_cod 30) 88 = .ok (.iconst 2, 1) := by decide +kernel
theorem s30_88 (K : aK) : am_Snd K 30 88 := sn_const1 i30_88 d30_88 rfl
theorem i30_89 : am_ins 30 89 = (33, 4, 2, 0, []) := by decide +kernel
theorem d30_89 : decode (am_cod 30) 89 = .ok (.aload 4, 2) := by decide +kernel
theorem s30_89 (K : aK) : am_Snd K 30 89 := sn_aload i30_89 d30_89 
theorem i30_91 : am_ins 30 91 = (18, 5, 0, 0, []) := by decide +kernel
theorem d30_91 : decode (am_cod 30) 91 = .ok (.getfield 98, 3) := by decide +kernel
theorem s30_91 (K : aK) : am_Snd K 30 91 := sn_get (C0 := CN5) (T := FT5) (Nf := 8) i30_91 d30_91 rfl (by decide +kernel) fin5 w_278 rfl
theorem i30_94 : am_ins 30 94 = (1, 5, 2, 0, []) := by decide +kernel
theorem d30_94 : decode (am_cod 30) 94 = .ok (.iload 5, 2) := by decide +kernel
theorem s30_94 (K : aK) : am_Snd K 30 94 := sn_iload i30_94 d30_94 
theorem i30_96 : am_ins 30 96 = (17, 0, 0, 0, []) := by decide +kernel
theorem d30_96 : decode (am_cod 30) 96 = .ok (.aconst_null, 1) := by decide +kernel
theorem s30_96 (K : aK) : am_Snd K 30 96 := sn_null i30_96 d30_96 
theorem i30_97 : am_ins 30 97 = (62, 42, 4, 0, []) := by decide +kernel
theorem d30_97 : decode (am_cod 30) 97 = .ok (.invokespecial 152, 3) := by decide +kernel
theorem s30_97 (K : aK) : am_SndC K 30 97 := sc_I i30_97 d30_97 co42 rfl rfl w_348 w_349 w_9 hd42
theorem i30_100 : am_ins 30 100 = (60, 32, 3, 0, []) := by decide +kernel
theorem d30_100 : decode (am_cod 30) 100 = .ok (.invokevirtual 155, 3) := by decide +kernel
theorem s30_100 (K : aK) : am_SndC K 30 100 := sc_V i30_100 d30_100 co32 w_372 w_374 ws_5 w_1 rfl (rr := (CN0, FT0, 5)) rfl rfl hd32
theorem i30_103 : am_ins 30 103 = (14, 168, 0, 0, []) := by decide +kernel
theorem d30_103 : decode (am_cod 30) 103 = .ok (.goto 65, 3) := by decide +kernel
theorem s30_103 (K : aK) : am_Snd K 30 103 := sn_goto i30_103 d30_103 rfl
theorem i30_106 : am_ins 30 106 = (33, 1, 1, 0, []) := by decide +kernel
theorem d30_106 : decode (am_cod 30) 106 = .ok (.aload_n 1, 1) := by decide +kernel
theorem s30_106 (K : aK) : am_Snd K 30 106 := sn_aload_n i30_106 d30_106 rfl
theorem i30_107 : am_ins 30 107 = (18, 3, 0, 0, []) := by decide +kernel
theorem d30_107 : decode (am_cod 30) 107 = .ok (.getfield 171, 3) := by decide +kernel
theorem s30_107 (K : aK) : am_Snd K 30 107 := sn_get (C0 := CN3) (T := FT3) (Nf := 5) i30_107 d30_107 rfl (by decide +kernel) fin3 w_353 rfl
theorem i30_110 : am_ins 30 110 = (0, 1, 0, 2, []) := by decide +kernel
theorem d30_110 : decode (am_cod 30) 110 = .ok (.iconst 2, 1) := by decide +kernel
theorem s30_110 (K : aK) : am_Snd K 30 110 := sn_const1 i30_110 d30_110 rfl
theorem i30_111 : am_ins 30 111 = (13, 1, 132, 0, []) := by decide +kernel
theorem d30_111 : decode (am_cod 30) 111 = .ok (.if_icmp .ne 21, 3) := by decide +kernel
theorem s30_111 (K : aK) : am_Snd K 30 111 := sn_icmp_ne i30_111 d30_111 rfl
theorem i30_114 : am_ins 30 114 = (33, 4, 2, 0, []) := by decide +kernel
theorem d30_114 : decode (am_cod 30) 114 = .ok (.aload 4, 2) := by decide +kernel
theorem s30_114 (K : aK) : am_Snd K 30 114 := sn_aload i30_114 d30_114 
theorem i30_116 : am_ins 30 116 = (33, 1, 1, 0, []) := by decide +kernel
theorem d30_116 : decode (am_cod 30) 116 = .ok (.aload_n 1, 1) := by decide +kernel
theorem s30_116 (K : aK) : am_Snd K 30 116 := sn_aload_n i30_116 d30_116 rfl
theorem i30_117 : am_ins 30 117 = (18, 3, 2, 0, []) := by decide +kernel
theorem d30_117 : decode (am_cod 30) 117 = .ok (.getfield 287, 3) := by decide +kernel
theorem s30_117 (K : aK) : am_Snd K 30 117 := sn_get (C0 := CN3) (T := FT3) (Nf := 5) i30_117 d30_117 rfl (by decide +kernel) fin3 w_357 rfl
theorem i30_120 : am_ins 30 120 = (60, 59, 1, 0, []) := by decide +kernel
theorem d30_120 : decode (am_cod 30) 120 = .ok (.invokevirtual 250, 3) := by decide +kernel
theorem s30_120 (K : aK) : am_SndC K 30 120 := sc_V i30_120 d30_120 co59 w_341 w_342 w_343 w_8 rfl (rr := (CN5, FT5, 8)) rfl rfl hd59
theorem i30_123 : am_ins 30 123 = (33, 0, 1, 0, []) := by decide +kernel
theorem d30_123 : decode (am_cod 30) 123 = .ok (.aload_n 0, 1) := by decide +kernel
theorem s30_123 (K : aK) : am_Snd K 30 123 := sn_aload_n i30_123 d30_123 rfl
theorem i30_124 : am_ins 30 124 = (33, 4, 2, 0, []) := by decide +kernel
theorem d30_124 : decode (am_cod 30) 124 = .ok (.aload 4, 2) := by decide +kernel
theorem s30_124 (K : aK) : am_Snd K 30 124 := sn_aload i30_124 d30_124 
theorem i30_126 : am_ins 30 126 = (60, 28, 1, 0, []) := by decide +kernel
theorem d30_126 : decode (am_cod 30) 126 = .ok (.invokevirtual 119, 3) := by decide +kernel
theorem s30_126 (K : aK) : am_SndC K 30 126 := sc_V i30_126 d30_126 co28 w_384 w_386 ws_7 w_1 rfl (rr := (CN0, FT0, 5)) rfl rfl hd28
theorem i30_129 : am_ins 30 129 = (14, 168, 0, 0, []) := by decide +kernel
theorem d30_129 : decode (am_cod 30) 129 = .ok (.goto 39, 3) := by decide +kernel
theorem s30_129 (K : aK) : am_Snd K 30 129 := sn_goto i30_129 d30_129 rfl
theorem i30_132 : am_ins 30 132 = (33, 1, 1, 0, []) := by decide +kernel
theorem d30_132 : decode (am_cod 30) 132 = .ok (.aload_n 1, 1) := by decide +kernel
theorem s30_132 (K : aK) : am_Snd K 30 132 := sn_aload_n i30_132 d30_132 rfl
theorem i30_133 : am_ins 30 133 = (18, 3, 0, 0, []) := by decide +kernel
theorem d30_133 : decode (am_cod 30) 133 = .ok (.getfield 171, 3) := by decide +kernel
theorem s30_133 (K : aK) : am_Snd K 30 133 := sn_get (C0 := CN3) (T := FT3) (Nf := 5) i30_133 d30_133 rfl (by decide +kernel) fin3 w_353 rfl
theorem i30_136 : am_ins 30 136 = (0, 1, 0, 3, []) := by decide +kernel
theorem d30_136 : decode (am_cod 30) 136 = .ok (.iconst 3, 1) := by decide +kernel
theorem s30_136 (K : aK) : am_Snd K 30 136 := sn_const1 i30_136 d30_136 rfl
theorem i30_137 : am_ins 30 137 = (13, 1, 154, 0, []) := by decide +kernel
theorem d30_137 : decode (am_cod 30) 137 = .ok (.if_icmp .ne 17, 3) := by decide +kernel
theorem s30_137 (K : aK) : am_Snd K 30 137 := sn_icmp_ne i30_137 d30_137 rfl
theorem i30_140 : am_ins 30 140 = (33, 0, 1, 0, []) := by decide +kernel
theorem d30_140 : decode (am_cod 30) 140 = .ok (.aload_n 0, 1) := by decide +kernel
theorem s30_140 (K : aK) : am_Snd K 30 140 := sn_aload_n i30_140 d30_140 rfl
theorem i30_141 : am_ins 30 141 = (33, 3, 1, 0, []) := by decide +kernel
theorem d30_141 : decode (am_cod 30) 141 = .ok (.aload_n 3, 1) := by decide +kernel
theorem s30_141 (K : aK) : am_Snd K 30 141 := sn_aload_n i30_141 d30_141 rfl
theorem i30_142 : am_ins 30 142 = (33, 4, 2, 0, []) := by decide +kernel
theorem d30_142 : decode (am_cod 30) 142 = .ok (.aload 4, 2) := by decide +kernel
theorem s30_142 (K : aK) : am_Snd K 30 142 := sn_aload i30_142 d30_142 
theorem i30_144 : am_ins 30 144 = (33, 1, 1, 0, []) := by decide +kernel
theorem d30_144 : decode (am_cod 30) 144 = .ok (.aload_n 1, 1) := by decide +kernel
theorem s30_144 (K : aK) : am_Snd K 30 144 := sn_aload_n i30_144 d30_144 rfl
theorem i30_145 : am_ins 30 145 = (18, 3, 2, 0, []) := by decide +kernel
theorem d30_145 : decode (am_cod 30) 145 = .ok (.getfield 287, 3) := by decide +kernel
theorem s30_145 (K : aK) : am_Snd K 30 145 := sn_get (C0 := CN3) (T := FT3) (Nf := 5) i30_145 d30_145 rfl (by decide +kernel) fin3 w_357 rfl
theorem i30_148 : am_ins 30 148 = (60, 29, 3, 0, []) := by decide +kernel
theorem d30_148 : decode (am_cod 30) 148 = .ok (.invokevirtual 253, 3) := by decide +kernel
theorem s30_148 (K : aK) : am_SndC K 30 148 := sc_V i30_148 d30_148 co29 w_388 w_390 ws_8 w_1 rfl (rr := (CN0, FT0, 5)) rfl rfl hd29
theorem i30_151 : am_ins 30 151 = (14, 168, 0, 0, []) := by decide +kernel
theorem d30_151 : decode (am_cod 30) 151 = .ok (.goto 17, 3) := by decide +kernel
theorem s30_151 (K : aK) : am_Snd K 30 151 := sn_goto i30_151 d30_151 rfl
theorem i30_154 : am_ins 30 154 = (33, 1, 1, 0, []) := by decide +kernel
theorem d30_154 : decode (am_cod 30) 154 = .ok (.aload_n 1, 1) := by decide +kernel
theorem s30_154 (K : aK) : am_Snd K 30 154 := sn_aload_n i30_154 d30_154 rfl
theorem i30_155 : am_ins 30 155 = (18, 3, 0, 0, []) := by decide +kernel
theorem d30_155 : decode (am_cod 30) 155 = .ok (.getfield 171, 3) := by decide +kernel
theorem s30_155 (K : aK) : am_Snd K 30 155 := sn_get (C0 := CN3) (T := FT3) (Nf := 5) i30_155 d30_155 rfl (by decide +kernel) fin3 w_353 rfl
theorem i30_158 : am_ins 30 158 = (0, 1, 0, 4, []) := by decide +kernel
theorem d30_158 : decode (am_cod 30) 158 = .ok (.iconst 4, 1) := by decide +kernel
theorem s30_158 (K : aK) : am_Snd K 30 158 := sn_const1 i30_158 d30_158 rfl
theorem i30_159 : am_ins 30 159 = (13, 1, 168, 0, []) := by decide +kernel
theorem d30_159 : decode (am_cod 30) 159 = .ok (.if_icmp .ne 9, 3) := by decide +kernel
theorem s30_159 (K : aK) : am_Snd K 30 159 := sn_icmp_ne i30_159 d30_159 rfl
theorem i30_162 : am_ins 30 162 = (33, 3, 1, 0, []) := by decide +kernel
theorem d30_162 : decode (am_cod 30) 162 = .ok (.aload_n 3, 1) := by decide +kernel
theorem s30_162 (K : aK) : am_Snd K 30 162 := sn_aload_n i30_162 d30_162 rfl
theorem i30_163 : am_ins 30 163 = (33, 4, 2, 0, []) := by decide +kernel
theorem d30_163 : decode (am_cod 30) 163 = .ok (.aload 4, 2) := by decide +kernel
theorem s30_163 (K : aK) : am_Snd K 30 163 := sn_aload i30_163 d30_163 
theorem i30_165 : am_ins 30 165 = (60, 55, 1, 0, []) := by decide +kernel
theorem d30_165 : decode (am_cod 30) 165 = .ok (.invokevirtual 277, 3) := by decide +kernel
theorem s30_165 (K : aK) : am_SndC K 30 165 := sc_V i30_165 d30_165 co55 w_407 w_408 w_409 w_4 rfl (rr := (CN4, FT4, 9)) rfl rfl hd55
theorem i30_168 : am_ins 30 168 = (53, 0, 0, 0, []) := by decide +kernel
theorem d30_168 : decode (am_cod 30) 168 = .ok (.return_, 1) := by decide +kernel
theorem s30_168 : am_SndR 30 168 := sn_vret i30_168 d30_168 rfl
theorem al30_0 (K : aK) : ∀ q ∈ [0, 1, 2, 5, 8, 10, 11, 14, 15, 18, 19, 20, 23, 24, 27, 30, 33, 34, 37, 39, 42, 43, 44, 47, 50, 53, 55, 58, 59, 60], am_All K 30 q := List.forall_mem_cons.mpr ⟨am_alS i30_0 (s30_0 K), List.forall_mem_cons.mpr ⟨am_alS i30_1 (s30_1 K), List.forall_mem_cons.mpr ⟨am_alS i30_2 (s30_2 K), List.forall_mem_cons.mpr ⟨am_alC i30_5 (s30_5 K), List.forall_mem_cons.mpr ⟨am_alS i30_8 (s30_8 K), List.forall_mem_cons.mpr ⟨am_alS i30_10 (s30_10 K), List.forall_mem_cons.mpr ⟨am_alS i30_11 (s30_11 K), List.forall_mem_cons.mpr ⟨am_alS i30_14 (s30_14 K), List.forall_mem_cons.mpr ⟨am_alS i30_15 (s30_15 K), List.forall_mem_cons.mpr ⟨am_alS i30_18 (s30_18 K), List.forall_mem_cons.mpr ⟨am_alS i30_19 (s30_19 K), List.forall_mem_cons.mpr ⟨am_alS i30_20 (s30_20 K), List.forall_mem_cons.mpr ⟨am_alS i30_23 (s30_23 K), List.forall_mem_cons.mpr ⟨am_alS i30_24 (s30_24 K), List.forall_mem_cons.mpr ⟨am_alC i30_27 (s30_27 K), List.forall_mem_cons.mpr ⟨am_alS i30_30 (s30_30 K), List.forall_mem_cons.mpr ⟨am_alS i30_33 (s30_33 K), List.forall_mem_cons.mpr ⟨am_alS i30_34 (s30_34 K), List.forall_mem_cons.mpr ⟨am_alS i30_37 (s30_37 K), List.forall_mem_cons.mpr ⟨am_alS i30_39 (s30_39 K), List.forall_mem_cons.mpr ⟨am_alS i30_42 (s30_42 K), List.forall_mem_cons.mpr ⟨am_alS i30_43 (s30_43 K), List.forall_mem_cons.mpr ⟨am_alS i30_44 (s30_44 K), List.forall_mem_cons.mpr ⟨am_alC i30_47 (s30_47 K), List.forall_mem_cons.mpr ⟨am_alS i30_50 (s30_50 K), List.forall_mem_cons.mpr ⟨am_alS i30_53 (s30_53 K), List.forall_mem_cons.mpr ⟨am_alS i30_55 (s30_55 K), List.forall_mem_cons.mpr ⟨am_alR i30_58 s30_58, List.forall_mem_cons.mpr ⟨am_alS i30_59 (s30_59 K), List.forall_mem_cons.mpr ⟨am_alS i30_60 (s30_60 K), fun _ h => absurd h List.not_mem_nil⟩⟩⟩⟩⟩⟩⟩⟩⟩⟩⟩⟩⟩⟩⟩⟩⟩⟩⟩⟩⟩⟩⟩⟩⟩⟩⟩⟩⟩⟩
theorem al30_1 (K : aK) : ∀ q ∈ [63, 64, 67, 68, 70, 73, 75, 76, 77, 80, 81, 84, 87, 88, 89, 91, 94, 96, 97, 100, 103, 106, 107, 110, 111, 114, 116, 117, 120, 123], am_All K 30 q := List.forall_mem_cons.mpr ⟨am_alS i30_63 (s30_63 K), List.forall_mem_cons.mpr ⟨am_alS i30_64 (s30_64 K), List.forall_mem_cons.mpr ⟨am_alS i30_67 (s30_67 K), List.forall_mem_cons.mpr ⟨am_alS i30_68 (s30_68 K), List.forall_mem_cons.mpr ⟨am_alC i30_70 (s30_70 K), List.forall_mem_cons.mpr ⟨am_alS i30_73 (s30_73 K), List.forall_mem_cons.mpr ⟨am_alS i30_75 (s30_75 K), List.forall_mem_cons.mpr ⟨am_alS i30_76 (s30_76 K), List.forall_mem_cons.mpr ⟨am_alS i30_77 (s30_77 K), List.forall_mem_cons.mpr ⟨am_alS i30_80 (s30_80 K), List.forall_mem_cons.mpr ⟨am_alS i30_81 (s30_81 K), List.forall_mem_cons.mpr ⟨am_alS i30_84 (s30_84 K), List.forall_mem_cons.mpr ⟨am_alS i30_87 (s30_87 K), List.forall_mem_cons.mpr ⟨am_alS i30_88 (s30_88 K), List.forall_mem_cons.mpr ⟨am_alS i30_89 (s30_89 K), List.forall_mem_cons.mpr ⟨am_alS i30_91 (s30_91 K), List.forall_mem_cons.mpr ⟨am_alS i30_94 (s30_94 K), List.forall_mem_cons.mpr ⟨am_alS i30_96 (s30_96 K), List.forall_mem_cons.mpr ⟨am_alC i30_97 (s30_97 K), List.forall_mem_cons.mpr ⟨am_alC i30_100 (s30_100 K), List.forall_mem_cons.mpr ⟨am_alS i30_103 (s30_103 K), List.forall_mem_cons.mpr ⟨am_alS i30_106 (s30_106 K), List.forall_mem_cons.mpr ⟨am_alS i30_107 (s30_107 K), List.forall_mem_cons.mpr ⟨am_alS i30_110 (s30_110 K), List.forall_mem_cons.mpr ⟨am_alS i30_111 (s30_111 K), List.forall_mem_cons.mpr ⟨am_alS i30_114 (s30_114 K), List.forall_mem_cons.mpr ⟨am_alS i30_116 (s30_116 K), List.forall_mem_cons.mpr ⟨am_alS i30_117 (s30_117 K), List.forall_mem_cons.mpr ⟨am_alC i30_120 (s30_120 K), List.forall_mem_cons.mpr ⟨am_alS i30_123 (s30_123 K), fun _ h => absurd h List.not_mem_nil⟩⟩⟩⟩⟩⟩⟩⟩⟩⟩⟩⟩⟩⟩⟩⟩⟩⟩⟩⟩⟩⟩⟩⟩⟩⟩⟩⟩⟩⟩
theorem al30_2 (K : aK) : ∀ q ∈ [124, 126, 129, 132, 133, 136, 137, 140, 141, 142, 144, 145, 148, 151, 154, 155, 158, 159, 162, 163, 165, 168], am_All K 30 q := List.forall_mem_cons.mpr ⟨am_alS i30_124 (s30_124 K), List.forall_mem_cons.mpr ⟨am_alC i30_126 (s30_126 K), List.forall_mem_cons.mpr ⟨am_alS i30_129 (s30_129 K), List.forall_mem_cons.mpr ⟨am_alS i30_132 (s30_132 K), List.forall_mem_cons.mpr ⟨am_alS i30_133 (s30_133 K), List.forall_mem_cons.mpr ⟨am_alS i30_136 (s30_136 K), List.forall_mem_cons.mpr ⟨am_alS i30_137 (s30_137 K), List.forall_mem_cons.mpr ⟨am_alS i30_140 (s30_140 K), List.forall_mem_cons.mpr ⟨am_alS i30_141 (s30_141 K), List.forall_mem_cons.mpr ⟨am_alS i30_142 (s30_142 K), List.forall_mem_cons.mpr ⟨am_alS i30_144 (s30_144 K), List.forall_mem_cons.mpr ⟨am_alS i30_145 (s30_145 K), List.forall_mem_cons.mpr ⟨am_alC i30_148 (s30_148 K), List.forall_mem_cons.mpr ⟨am_alS i30_151 (s30_151 K), List.forall_mem_cons.mpr ⟨am_alS i30_154 (s30_154 K), List.forall_mem_cons.mpr ⟨am_alS i30_155 (s30_155 K), List.forall_mem_cons.mpr ⟨am_alS i30_158 (s30_158 K), List.forall_mem_cons.mpr ⟨am_alS i30_159 (s30_159 K), List.forall_mem_cons.mpr ⟨am_alS i30_162 (s30_162 K), List.forall_mem_cons.mpr ⟨am_alS i30_163 (s30_163 K), List.forall_mem_cons.mpr ⟨am_alC i30_165 (s30_165 K), List.forall_mem_cons.mpr ⟨am_alR i30_168 s30_168, fun _ h => absurd h List.not_mem_nil⟩⟩⟩⟩⟩⟩⟩⟩⟩⟩⟩⟩⟩⟩⟩⟩⟩⟩⟩⟩⟩⟩
set_option maxRecDepth 100000 in
theorem al30 (K : aK) : ∀ q ∈ (am_t30).map (fun z => z.1), am_All K 30 q := by
  have e : (am_t30).map (fun z => z.1) = [0, 1, 2, 5, 8, 10, 11, 14, 15, 18, 19, 20, 23, 24, 27, 30, 33, 34, 37, 39, 42, 43, 44, 47, 50, 53, 55, 58, 59, 60] ++ ([63, 64, 67, 68, 70, 73, 75, 76, 77, 80, 81, 84, 87, 88, 89, 91, 94, 96, 97, 100, 103, 106, 107, 110, 111, 114, 116, 117, 120, 123] ++ ([124, 126, 129, 132, 133, 136, 137, 140, 141, 142, 144, 145, 148, 151, 154, 155, 158, 159, 162, 163, 165, 168])) := rfl
  rw [e]
  exact List.forall_mem_append.mpr ⟨al30_0 K, List.forall_mem_append.mpr ⟨al30_1 K, al30_2 K⟩⟩
theorem i31_0 : am_ins 31 0 = (0, 1, 0, 0, []) := by decide +kernel
theorem d31_0 : decode (am_cod 31) 0 = .ok (.iconst 0, 1) := by decide +kernel
theorem s31_0 (K : aK) : am_Snd K 31 0 := sn_const1 i31_0 d31_0 rfl
theorem i31_1 : am_ins 31 1 = (2, 4, 2, 0, []) := by decide +kernel
theorem d31_1 : decode (am_cod 31) 1 = .ok (.istore 4, 2) := by decide +kernel
theorem s31_1 (K : aK) : am_Snd K 31 1 := sn_istore i31_1 d31_1 (by decide +kernel)
theorem i31_3 : am_ins 31 3 = (1, 4, 2, 0, []) := by decide +kernel
theorem d31_3 : decode (am_cod 31) 3 = .ok (.iload 4, 2) := by decide +kernel
theorem s31_3 (K : aK) : am_Snd K 31 3 := sn_iload i31_3 d31_3 
theorem i31_5 : am_ins 31 5 = (0, 1, 0, 3, []) := by decide +kernel
theorem d31_5 : decode (am_cod 31) 5 = .ok (.iconst 3, 1) := by decide +kernel
theorem s31_5 (K : aK) : am_Snd K 31 5 := sn_const1 i31_5 d31_5 rfl
theorem i31_6 : am_ins 31 6 = (13, 3, 59, 0, []) := by decide +kernel
theorem d31_6 : decode (am_cod 31) 6 = .ok (.if_icmp .ge 53, 3) := by decide +kernel
theorem s31_6 (K : aK) : am_Snd K 31 6 := sn_icmp_ge i31_6 d31_6 rfl
theorem i31_9 : am_ins 31 9 = (1, 4, 2, 0, []) := by decide +kernel
theorem d31_9 : decode (am_cod 31) 9 = .ok (.iload 4, 2) := by decide +kernel
theorem s31_9 (K : aK) : am_Snd K 31 9 := sn_iload i31_9 d31_9 
theorem i31_11 : am_ins 31 11 = (33, 1, 1, 0, []) := by decide +kernel
theorem d31_11 : decode (am_cod 31) 11 = .ok (.aload_n 1, 1) := by decide +kernel
theorem s31_11 (K : aK) : am_Snd K 31 11 := sn_aload_n i31_11 d31_11 rfl
theorem i31_12 : am_ins 31 12 = (18, 4, 1, 0, []) := by decide +kernel
theorem d31_12 : decode (am_cod 31) 12 = .ok (.getfield 129, 3) := by decide +kernel
theorem s31_12 (K : aK) : am_Snd K 31 12 := sn_get (C0 := CN4) (T := FT4) (Nf := 9) i31_12 d31_12 rfl (by decide +kernel) fin4 w_84 rfl
theorem i31_15 : am_ins 31 15 = (13, 0, 53, 0, []) := by decide +kernel
theorem d31_15 : decode (am_cod 31) 15 = .ok (.if_icmp .eq 38, 3) := by decide +kernel
theorem s31_15 (K : aK) : am_Snd K 31 15 := sn_icmp_eq i31_15 d31_15 rfl
theorem i31_18 : am_ins 31 18 = (1, 4, 2, 0, []) := by decide +kernel
theorem d31_18 : decode (am_cod 31) 18 = .ok (.iload 4, 2) := by decide +kernel
theorem s31_18 (K : aK) : am_Snd K 31 18 := sn_iload i31_18 d31_18 
theorem i31_20 : am_ins 31 20 = (61, 23, 1, 0, []) := by decide +kernel
theorem d31_20 : decode (am_cod 31) 20 = .ok (.invokestatic 56, 3) := by decide +kernel
theorem s31_20 (K : aK) : am_SndC K 31 20 := sc_S i31_20 d31_20 co23 w_162 w_163 w_1 hd23
theorem i31_23 : am_ins 31 23 = (33, 1, 1, 0, []) := by decide +kernel
theorem d31_23 : decode (am_cod 31) 23 = .ok (.aload_n 1, 1) := by decide +kernel
theorem s31_23 (K : aK) : am_Snd K 31 23 := sn_aload_n i31_23 d31_23 rfl
theorem i31_24 : am_ins 31 24 = (18, 4, 0, 0, []) := by decide +kernel
theorem d31_24 : decode (am_cod 31) 24 = .ok (.getfield 137, 3) := by decide +kernel
theorem s31_24 (K : aK) : am_Snd K 31 24 := sn_get (C0 := CN4) (T := FT4) (Nf := 9) i31_24 d31_24 rfl (by decide +kernel) fin4 w_82 rfl
theorem i31_27 : am_ins 31 27 = (0, 1, 0, 2, []) := by decide +kernel
theorem d31_27 : decode (am_cod 31) 27 = .ok (.iconst 2, 1) := by decide +kernel
theorem s31_27 (K : aK) : am_Snd K 31 27 := sn_const1 i31_27 d31_27 rfl
theorem i31_28 : am_ins 31 28 = (6, 0, 0, 0, []) := by decide +kernel
theorem d31_28 : decode (am_cod 31) 28 = .ok (.irem, 1) := by decide +kernel
theorem s31_28 (K : aK) : am_Snd K 31 28 := sn_rem i31_28 d31_28 
theorem i31_29 : am_ins 31 29 = (4, 0, 0, 0, []) := by decide +kernel
theorem d31_29 : decode (am_cod 31) 29 = .ok (.iadd, 1) := by decide +kernel
theorem s31_29 (K : aK) : am_Snd K 31 29 := sn_add i31_29 d31_29 
theorem i31_30 : am_ins 31 30 = (2, 5, 2, 0, []) := by decide +kernel
theorem d31_30 : decode (am_cod 31) 30 = .ok (.istore 5, 2) := by decide +kernel
theorem s31_30 (K : aK) : am_Snd K 31 30 := sn_istore i31_30 d31_30 (by decide +kernel)
theorem i31_32 : am_ins 31 32 = (33, 0, 1, 0, []) := by decide +kernel
theorem d31_32 : decode (am_cod 31) 32 = .ok (.aload_n 0, 1) := by decide +kernel
theorem s31_32 (K : aK) : am_Snd K 31 32 := sn_aload_n i31_32 d31_32 rfl
theorem i31_33 : am_ins 31 33 = (33, 1, 1, 0, []) := by decide +kernel
theorem d31_33 : decode (am_cod 31) 33 = .ok (.aload_n 1, 1) := by decide +kernel
theorem s31_33 (K : aK) : am_Snd K 31 33 := sn_aload_n i31_33 d31_33 rfl
theorem i31_34 : am_ins 31 34 = (18, 4, 0, 0, []) := by decide +kernel
theorem d31_34 : decode (am_cod 31) 34 = .ok (.getfield 137, 3) := by decide +kernel
theorem s31_34 (K : aK) : am_Snd K 31 34 := sn_get (C0 := CN4) (T := FT4) (Nf := 9) i31_34 d31_34 rfl (by decide +kernel) fin4 w_82 rfl
theorem i31_37 : am_ins 31 37 = (1, 5, 2, 0, []) := by decide +kernel
theorem d31_37 : decode (am_cod 31) 37 = .ok (.iload 5, 2) := by decide +kernel
theorem s31_37 (K : aK) : am_Snd K 31 37 := sn_iload i31_37 d31_37 
theorem i31_39 : am_ins 31 39 = (29, 3, 0, 0, []) := by decide +kernel
theorem d31_39 : decode (am_cod 31) 39 = .ok (.new 141, 3) := by decide +kernel
theorem s31_39 (K : aK) : am_Snd K 31 39 := sn_new (C0 := CN3) (T := FT3) (Nf := 5) (tyf := FY3) i31_39 d31_39 rfl fin3 ftyok3 w_346 w_347 w_9 rfl fdf3
theorem i31_42 : am_ins 31 42 = (7, 0, 0, 0, []) := by decide +kernel
theorem d31_42 : decode (am_cod 31) 42 = .ok (.dup, 1) := by decide +kernel
theorem s31_42 (K : aK) : am_Snd K 31 42 := sn_dup i31_42 d31_42 
theorem i31_43 : am_ins 31 43 = (1, 2, 1, 0, []) := by decide +kernel
theorem d31_43 : decode (am_cod 31) 43 = .ok (.iload_n 2, 1) := by decide +kernel
theorem s31_43 (K : aK) : am_Snd K 31 43 := sn_iload_n i31_43 d31_43 rfl
theorem i31_44 : am_ins 31 44 = (1, 3, 1, 0, []) := by decide +kernel
theorem d31_44 : decode (am_cod 31) 44 = .ok (.iload_n 3, 1) := by decide +kernel
theorem s31_44 (K : aK) : am_Snd K 31 44 := sn_iload_n i31_44 d31_44 rfl
theorem i31_45 : am_ins 31 45 = (0, 1, 0, 0, []) := by decide +kernel
theorem d31_45 : decode (am_cod 31) 45 = .ok (.iconst 0, 1) := by decide +kernel
theorem s31_45 (K : aK) : am_Snd K 31 45 := sn_const1 i31_45 d31_45 rfl
theorem i31_46 : am_ins 31 46 = (17, 0, 0, 0, []) := by decide +kernel
theorem d31_46 : decode (am_cod 31) 46 = .ok (.aconst_null, 1) := by decide +kernel
theorem s31_46 (K : aK) : am_Snd K 31 46 := sn_null i31_46 d31_46 
theorem i31_47 : am_ins 31 47 = (62, 42, 4, 0, []) := by decide +kernel
theorem d31_47 : decode (am_cod 31) 47 = .ok (.invokespecial 152, 3) := by decide +kernel
theorem s31_47 (K : aK) : am_SndC K 31 47 := sc_I i31_47 d31_47 co42 rfl rfl w_348 w_349 w_9 hd42
theorem i31_50 : am_ins 31 50 = (60, 32, 3, 0, []) := by decide +kernel
theorem d31_50 : decode (am_cod 31) 50 = .ok (.invokevirtual 155, 3) := by decide +kernel
theorem s31_50 (K : aK) : am_SndC K 31 50 := sc_V i31_50 d31_50 co32 w_372 w_374 ws_5 w_1 rfl (rr := (CN0, FT0, 5)) rfl rfl hd32
theorem i31_53 : am_ins 31 53 = (3, 4, 3, 1, []) := by decide +kernel
theorem d31_53 : decode (am_cod 31) 53 = .ok (.iinc 4 1, 3) := by decide +kernel
theorem s31_53 (K : aK) : am_Snd K 31 53 := sn_iinc i31_53 d31_53 rfl (by decide +kernel)
theorem i31_56 : am_ins 31 56 = (14, 3, 0, 0, []) := by decide +kernel
theorem d31_56 : decode (am_cod 31) 56 = .ok (.goto (-53), 3) := by decide +kernel
theorem s31_56 (K : aK) : am_Snd K 31 56 := sn_goto i31_56 d31_56 rfl
theorem i31_59 : am_ins 31 59 = (53, 0, 0, 0, []) := by decide +kernel
theorem d31_59 : decode (am_cod 31) 59 = .ok (.return_, 1) := by decide +kernel
theorem s31_59 : am_SndR 31 59 := sn_vret i31_59 d31_59 rfl
theorem al31_0 (K : aK) : ∀ q ∈ [0, 1, 3, 5, 6, 9, 11, 12, 15, 18, 20, 23, 24, 27, 28, 29, 30, 32, 33, 34, 37, 39, 42, 43, 44, 45, 46, 47, 50, 53], am_All K 31 q := List.forall_mem_cons.mpr ⟨am_alS i31_0 (s31_0 K), List.forall_mem_cons.mpr ⟨am_alS i31_1 (s31_1 K), List.forall_mem_cons.mpr ⟨am_alS i31_3 (s31_3 K), List.forall_mem_cons.mpr ⟨am_alS i31_5 (s31_5 K), List.forall_mem_cons.mpr ⟨am_alS i31_6 (s31_6 K), List.forall_mem_cons.mpr ⟨am_alS i31_9 (s31_9 K), List.forall_mem_cons.mpr ⟨am_alS i31_11 (s31_11 K), List.forall_mem_cons.mpr ⟨am_alS i31_12 (s31_12 K), List.forall_mem_cons.mpr ⟨am_alS i31_15 (s31_15 K), List.forall_mem_cons.mpr ⟨am_alS i31_18 (s31_18 K), List.forall_mem_cons.mpr ⟨am_alC i31_20 (s31_20 K), List.forall_mem_cons.mpr ⟨am_alS i31_23 (s31_23 K), List.forall_mem_cons.mpr ⟨am_alS i31_24 (s31_24 K), List.forall_mem_cons.mpr ⟨am_alS i31_27 (s31_27 K), List.forall_mem_cons.mpr ⟨am_alS i31_28 (s31_28 K), List.forall_mem_cons.mpr ⟨am_alS i31_29 (s31_29 K), List.forall_mem_cons.mpr ⟨am_alS i31_30 (s31_30 K), List.forall_mem_cons.mpr ⟨am_alS i31_32 (s31_32 K), List.forall_mem_cons.mpr ⟨am_alS i31_33 (s31_33 K), List.forall_mem_cons.mpr ⟨am_alS i31_34 (s31_34 K), List.forall_mem_cons.mpr ⟨am_alS i31_37 (s31_37 K), List.forall_mem_cons.mpr ⟨am_alS i31_39 (s31_39 K), List.forall_mem_cons.mpr ⟨am_alS i31_42 (s31_42 K), List.forall_mem_cons.mpr ⟨am_alS i31_43 (s31_43 K), List.forall_mem_cons.mpr ⟨am_alS i31_44 (s31_44 K), List.forall_mem_cons.mpr ⟨am_alS i31_45 (s31_45 K), List.forall_mem_cons.mpr ⟨am_alS i31_46 (s31_46 K), List.forall_mem_cons.mpr ⟨am_alC i31_47 (s31_47 K), List.forall_mem_cons.mpr ⟨am_alC i31_50 (s31_50 K), List.forall_mem_cons.mpr ⟨am_alS i31_53 (s31_53 K), fun _ h => absurd h List.not_mem_nil⟩⟩⟩⟩⟩⟩⟩⟩⟩⟩⟩⟩⟩⟩⟩⟩⟩⟩⟩⟩⟩⟩⟩⟩⟩⟩⟩⟩⟩⟩
theorem al31_1 (K : aK) : ∀ q ∈ [56, 59], am_All K 31 q := List.forall_mem_cons.mpr ⟨am_alS i31_56 (s31_56 K), List.forall_mem_cons.mpr ⟨am_alR i31_59 s31_59, fun _ h => absurd h List.not_mem_nil⟩⟩
set_option maxRecDepth 100000 in
theorem al31 (K : aK) : ∀ q ∈ (am_t31).map (fun z => z.1), am_All K 31 q := by
  have e : (am_t31).map (fun z => z.1) = [0, 1, 3, 5, 6, 9, 11, 12, 15, 18, 20, 23, 24, 27, 28, 29, 30, 32, 33, 34, 37, 39, 42, 43, 44, 45, 46, 47, 50, 53] ++ ([56, 59]) := rfl
  rw [e]
  exact List.forall_mem_append.mpr ⟨al31_0 K, al31_1 K⟩
theorem i32_0 : am_ins 32 0 = (33, 0, 1, 0, []) := by decide +kernel
theorem d32_0 : decode (am_cod 32) 0 = .ok (.aload_n 0, 1) := by decide +kernel
theorem s32_0 (K : aK) : am_Snd K 32 0 := sn_aload_n i32_0 d32_0 rfl
theorem i32_1 : am_ins 32 1 = (1, 1, 1, 0, []) := by decide +kernel
theorem d32_1 : decode (am_cod 32) 1 = .ok (.iload_n 1, 1) := by decide +kernel
theorem s32_1 (K : aK) : am_Snd K 32 1 := sn_iload_n i32_1 d32_1 rfl
theorem i32_2 : am_ins 32 2 = (1, 2, 1, 0, []) := by decide +kernel
theorem d32_2 : decode (am_cod 32) 2 = .ok (.iload_n 2, 1) := by decide +kernel
theorem s32_2 (K : aK) : am_Snd K 32 2 := sn_iload_n i32_2 d32_2 rfl
theorem i32_3 : am_ins 32 3 = (60, 20, 2, 0, []) := by decide +kernel
theorem d32_3 : decode (am_cod 32) 3 = .ok (.invokevirtual 159, 3) := by decide +kernel
theorem s32_3 (K : aK) : am_SndC K 32 3 := sc_V i32_3 d32_3 co20 w_376 w_378 ws_6 w_1 rfl (rr := (CN0, FT0, 5)) rfl rfl hd20
theorem i32_6 : am_ins 32 6 = (34, 4, 2, 0, []) := by decide +kernel
theorem d32_6 : decode (am_cod 32) 6 = .ok (.astore 4, 2) := by decide +kernel
theorem s32_6 (K : aK) : am_Snd K 32 6 := sn_astore i32_6 d32_6 (by decide +kernel)
theorem i32_8 : am_ins 32 8 = (33, 4, 2, 0, []) := by decide +kernel
theorem d32_8 : decode (am_cod 32) 8 = .ok (.aload 4, 2) := by decide +kernel
theorem s32_8 (K : aK) : am_Snd K 32 8 := sn_aload i32_8 d32_8 
theorem i32_10 : am_ins 32 10 = (15, 19, 0, 0, []) := by decide +kernel
theorem d32_10 : decode (am_cod 32) 10 = .ok (.ifnull 9, 3) := by decide +kernel
theorem s32_10 (K : aK) : am_Snd K 32 10 := sn_ifnull i32_10 d32_10 rfl
theorem i32_13 : am_ins 32 13 = (33, 4, 2, 0, []) := by decide +kernel
theorem d32_13 : decode (am_cod 32) 13 = .ok (.aload 4, 2) := by decide +kernel
theorem s32_13 (K : aK) : am_Snd K 32 13 := sn_aload i32_13 d32_13 
theorem i32_15 : am_ins 32 15 = (33, 3, 1, 0, []) := by decide +kernel
theorem d32_15 : decode (am_cod 32) 15 = .ok (.aload_n 3, 1) := by decide +kernel
theorem s32_15 (K : aK) : am_Snd K 32 15 := sn_aload_n i32_15 d32_15 rfl
theorem i32_16 : am_ins 32 16 = (60, 40, 1, 0, []) := by decide +kernel
theorem d32_16 : decode (am_cod 32) 16 = .ok (.invokevirtual 288, 3) := by decide +kernel
theorem s32_16 (K : aK) : am_SndC K 32 16 := sc_V i32_16 d32_16 co40 w_380 w_381 w_382 w_5 rfl (rr := (CN2, FT2, 3)) rfl rfl hd40
theorem i32_19 : am_ins 32 19 = (53, 0, 0, 0, []) := by decide +kernel
theorem d32_19 : decode (am_cod 32) 19 = .ok (.return_, 1) := by decide +kernel
theorem s32_19 : am_SndR 32 19 := sn_vret i32_19 d32_19 rfl
theorem al32_0 (K : aK) : ∀ q ∈ [0, 1, 2, 3, 6, 8, 10, 13, 15, 16, 19], am_All K 32 q := List.forall_mem_cons.mpr ⟨am_alS i32_0 (s32_0 K), List.forall_mem_cons.mpr ⟨am_alS i32_1 (s32_1 K), List.forall_mem_cons.mpr ⟨am_alS i32_2 (s32_2 K), List.forall_mem_cons.mpr ⟨am_alC i32_3 (s32_3 K), List.forall_mem_cons.mpr ⟨am_alS i32_6 (s32_6 K), List.forall_mem_cons.mpr ⟨am_alS i32_8 (s32_8 K), List.forall_mem_cons.mpr ⟨am_alS i32_10 (s32_10 K), List.forall_mem_cons.mpr ⟨am_alS i32_13 (s32_13 K), List.forall_mem_cons.mpr ⟨am_alS i32_15 (s32_15 K), List.forall_mem_cons.mpr ⟨am_alC i32_16 (s32_16 K), List.forall_mem_cons.mpr ⟨am_alR i32_19 s32_19, fun _ h => absurd h List.not_mem_nil⟩⟩⟩⟩⟩⟩⟩⟩⟩⟩⟩
set_option maxRecDepth 100000 in
theorem al32 (K : aK) : ∀ q ∈ (am_t32).map (fun z => z.1), am_All K 32 q := by
  have e : (am_t32).map (fun z => z.1) = [0, 1, 2, 3, 6, 8, 10, 13, 15, 16, 19] := rfl
  rw [e]
  exact al32_0 K
theorem i33_0 : am_ins 33 0 = (33, 0, 1, 0, []) := by decide +kernel
theorem d33_0 : decode (am_cod 33) 0 = .ok (.aload_n 0, 1) := by decide +kernel
theorem s33_0 (K : aK) : am_Snd K 33 0 := sn_aload_n i33_0 d33_0 rfl
theorem i33_1 : am_ins 33 1 = (35, 0, 0, 0, []) := by decide +kernel
theorem d33_1 : decode (am_cod 33) 1 = .ok (.invokespecial 3, 3) := by decide +kernel
theorem s33_1 (K : aK) : am_Snd K 33 1 := sn_oinit i33_1 d33_1 w_24 w_16 w_17
theorem i33_4 : am_ins 33 4 = (33, 0, 1, 0, []) := by decide +kernel
theorem d33_4 : decode (am_cod 33) 4 = .ok (.aload_n 0, 1) := by decide +kernel
theorem s33_4 (K : aK) : am_Snd K 33 4 := sn_aload_n i33_4 d33_4 rfl
theorem i33_5 : am_ins 33 5 = (0, 1, 0, 3, []) := by decide +kernel
theorem d33_5 : decode (am_cod 33) 5 = .ok (.iconst 3, 1) := by decide +kernel
theorem s33_5 (K : aK) : am_Snd K 33 5 := sn_const1 i33_5 d33_5 rfl
theorem i33_6 : am_ins 33 6 = (30, 0, 0, 0, []) := by decide +kernel
theorem d33_6 : decode (am_cod 33) 6 = .ok (.newarray .int, 2) := by decide +kernel
theorem s33_6 (K : aK) : am_Snd K 33 6 := sn_newI i33_6 d33_6 w_40
theorem i33_8 : am_ins 33 8 = (21, 1, 1, 0, []) := by decide +kernel
theorem d33_8 : decode (am_cod 33) 8 = .ok (.putfield 9, 3) := by decide +kernel
theorem s33_8 (K : aK) : am_Snd K 33 8 := sn_putrF (ty := .array .int) (C0 := CN1) (T := FT1) (Nf := 7) (tyf := FY1) i33_8 d33_8 rfl (by decide +kernel) fin1 ftyok1 fnm1 w_45 rfl rfl rfl rfl rfl rfl
theorem i33_11 : am_ins 33 11 = (33, 0, 1, 0, []) := by decide +kernel
theorem d33_11 : decode (am_cod 33) 11 = .ok (.aload_n 0, 1) := by decide +kernel
theorem s33_11 (K : aK) : am_Snd K 33 11 := sn_aload_n i33_11 d33_11 rfl
theorem i33_12 : am_ins 33 12 = (0, 2, 0, 8, []) := by decide +kernel
theorem d33_12 : decode (am_cod 33) 12 = .ok (.bipush 8, 2) := by decide +kernel
theorem s33_12 (K : aK) : am_Snd K 33 12 := sn_const2 i33_12 d33_12 (by decide +kernel)
theorem i33_14 : am_ins 33 14 = (31, 5, 0, 0, []) := by decide +kernel
theorem d33_14 : decode (am_cod 33) 14 = .ok (.anewarray 15, 3) := by decide +kernel
theorem s33_14 (K : aK) : am_Snd K 33 14 := sn_anew (C0 := CN5) i33_14 d33_14 w_25 nwAO5 rfl (by decide +kernel)
theorem i33_17 : am_ins 33 17 = (21, 1, 2, 0, []) := by decide +kernel
theorem d33_17 : decode (am_cod 33) 17 = .ok (.putfield 17, 3) := by decide +kernel
theorem s33_17 (K : aK) : am_Snd K 33 17 := sn_putrF (ty := .array (.object "CausalPlaces$Transaction")) (C0 := CN1) (T := FT1) (Nf := 7) (tyf := FY1) i33_17 d33_17 rfl (by decide +kernel) fin1 ftyok1 fnm1 w_48 rfl rfl rfl rfl rfl rfl
theorem i33_20 : am_ins 33 20 = (33, 0, 1, 0, []) := by decide +kernel
theorem d33_20 : decode (am_cod 33) 20 = .ok (.aload_n 0, 1) := by decide +kernel
theorem s33_20 (K : aK) : am_Snd K 33 20 := sn_aload_n i33_20 d33_20 rfl
theorem i33_21 : am_ins 33 21 = (29, 6, 0, 0, []) := by decide +kernel
theorem d33_21 : decode (am_cod 33) 21 = .ok (.new 21, 3) := by decide +kernel
theorem s33_21 (K : aK) : am_Snd K 33 21 := sn_new (C0 := CN6) (T := FT6) (Nf := 2) (tyf := FY6) i33_21 d33_21 rfl fin6 ftyok6 w_27 w_28 w_3 rfl fdf6
theorem i33_24 : am_ins 33 24 = (7, 0, 0, 0, []) := by decide +kernel
theorem d33_24 : decode (am_cod 33) 24 = .ok (.dup, 1) := by decide +kernel
theorem s33_24 (K : aK) : am_Snd K 33 24 := sn_dup i33_24 d33_24 
theorem i33_25 : am_ins 33 25 = (62, 63, 0, 0, []) := by decide +kernel
theorem d33_25 : decode (am_cod 33) 25 = .ok (.invokespecial 23, 3) := by decide +kernel
theorem s33_25 (K : aK) : am_SndC K 33 25 := sc_IN i33_25 d33_25 co63 rfl rfl nw_29 w_30 w_3 hd63
theorem i33_28 : am_ins 33 28 = (21, 1, 3, 0, []) := by decide +kernel
theorem d33_28 : decode (am_cod 33) 28 = .ok (.putfield 24, 3) := by decide +kernel
theorem s33_28 (K : aK) : am_Snd K 33 28 := sn_putrF (ty := .object "CausalPlaces$Writes") (C0 := CN1) (T := FT1) (Nf := 7) (tyf := FY1) i33_28 d33_28 rfl (by decide +kernel) fin1 ftyok1 fnm1 w_49 rfl rfl rfl rfl rfl rfl
theorem i33_31 : am_ins 33 31 = (33, 0, 1, 0, []) := by decide +kernel
theorem d33_31 : decode (am_cod 33) 31 = .ok (.aload_n 0, 1) := by decide +kernel
theorem s33_31 (K : aK) : am_Snd K 33 31 := sn_aload_n i33_31 d33_31 rfl
theorem i33_32 : am_ins 33 32 = (1, 1, 1, 0, []) := by decide +kernel
theorem d33_32 : decode (am_cod 33) 32 = .ok (.iload_n 1, 1) := by decide +kernel
theorem s33_32 (K : aK) : am_Snd K 33 32 := sn_iload_n i33_32 d33_32 rfl
theorem i33_33 : am_ins 33 33 = (19, 1, 0, 0, []) := by decide +kernel
theorem d33_33 : decode (am_cod 33) 33 = .ok (.putfield 28, 3) := by decide +kernel
theorem s33_33 (K : aK) : am_Snd K 33 33 := sn_putiF (ty := .int) (C0 := CN1) (T := FT1) (Nf := 7) (tyf := FY1) i33_33 d33_33 rfl (by decide +kernel) fin1 ftyok1 fnm1 w_43 rfl rfl rfl rfl rfl
theorem i33_36 : am_ins 33 36 = (53, 0, 0, 0, []) := by decide +kernel
theorem d33_36 : decode (am_cod 33) 36 = .ok (.return_, 1) := by decide +kernel
theorem s33_36 : am_SndR 33 36 := sn_vret i33_36 d33_36 rfl
theorem al33_0 (K : aK) : ∀ q ∈ [0, 1, 4, 5, 6, 8, 11, 12, 14, 17, 20, 21, 24, 25, 28, 31, 32, 33, 36], am_All K 33 q := List.forall_mem_cons.mpr ⟨am_alS i33_0 (s33_0 K), List.forall_mem_cons.mpr ⟨am_alS i33_1 (s33_1 K), List.forall_mem_cons.mpr ⟨am_alS i33_4 (s33_4 K), List.forall_mem_cons.mpr ⟨am_alS i33_5 (s33_5 K), List.forall_mem_cons.mpr ⟨am_alS i33_6 (s33_6 K), List.forall_mem_cons.mpr ⟨am_alS i33_8 (s33_8 K), List.forall_mem_cons.mpr ⟨am_alS i33_11 (s33_11 K), List.forall_mem_cons.mpr ⟨am_alS i33_12 (s33_12 K), List.forall_mem_cons.mpr ⟨am_alS i33_14 (s33_14 K), List.forall_mem_cons.mpr ⟨am_alS i33_17 (s33_17 K), List.forall_mem_cons.mpr ⟨am_alS i33_20 (s33_20 K), List.forall_mem_cons.mpr ⟨am_alS i33_21 (s33_21 K), List.forall_mem_cons.mpr ⟨am_alS i33_24 (s33_24 K), List.forall_mem_cons.mpr ⟨am_alC i33_25 (s33_25 K), List.forall_mem_cons.mpr ⟨am_alS i33_28 (s33_28 K), List.forall_mem_cons.mpr ⟨am_alS i33_31 (s33_31 K), List.forall_mem_cons.mpr ⟨am_alS i33_32 (s33_32 K), List.forall_mem_cons.mpr ⟨am_alS i33_33 (s33_33 K), List.forall_mem_cons.mpr ⟨am_alR i33_36 s33_36, fun _ h => absurd h List.not_mem_nil⟩⟩⟩⟩⟩⟩⟩⟩⟩⟩⟩⟩⟩⟩⟩⟩⟩⟩⟩
set_option maxRecDepth 100000 in
theorem al33 (K : aK) : ∀ q ∈ (am_t33).map (fun z => z.1), am_All K 33 q := by
  have e : (am_t33).map (fun z => z.1) = [0, 1, 4, 5, 6, 8, 11, 12, 14, 17, 20, 21, 24, 25, 28, 31, 32, 33, 36] := rfl
  rw [e]
  exact al33_0 K
theorem i34_0 : am_ins 34 0 = (0, 1, 0, 0, []) := by decide +kernel
theorem d34_0 : decode (am_cod 34) 0 = .ok (.iconst 0, 1) := by decide +kernel
theorem s34_0 (K : aK) : am_Snd K 34 0 := sn_const1 i34_0 d34_0 rfl
theorem i34_1 : am_ins 34 1 = (2, 2, 1, 0, []) := by decide +kernel
theorem d34_1 : decode (am_cod 34) 1 = .ok (.istore_n 2, 1) := by decide +kernel
theorem s34_1 (K : aK) : am_Snd K 34 1 := sn_istore_n i34_1 d34_1 rfl (by decide +kernel)
theorem i34_2 : am_ins 34 2 = (1, 2, 1, 0, []) := by decide +kernel
theorem d34_2 : decode (am_cod 34) 2 = .ok (.iload_n 2, 1) := by decide +kernel
theorem s34_2 (K : aK) : am_Snd K 34 2 := sn_iload_n i34_2 d34_2 rfl
theorem i34_3 : am_ins 34 3 = (0, 1, 0, 3, []) := by decide +kernel
theorem d34_3 : decode (am_cod 34) 3 = .ok (.iconst 3, 1) := by decide +kernel
theorem s34_3 (K : aK) : am_Snd K 34 3 := sn_const1 i34_3 d34_3 rfl
theorem i34_4 : am_ins 34 4 = (13, 3, 33, 0, []) := by decide +kernel
theorem d34_4 : decode (am_cod 34) 4 = .ok (.if_icmp .ge 29, 3) := by decide +kernel
theorem s34_4 (K : aK) : am_Snd K 34 4 := sn_icmp_ge i34_4 d34_4 rfl
theorem i34_7 : am_ins 34 7 = (33, 0, 1, 0, []) := by decide +kernel
theorem d34_7 : decode (am_cod 34) 7 = .ok (.aload_n 0, 1) := by decide +kernel
theorem s34_7 (K : aK) : am_Snd K 34 7 := sn_aload_n i34_7 d34_7 rfl
theorem i34_8 : am_ins 34 8 = (18, 1, 1, 0, []) := by decide +kernel
theorem d34_8 : decode (am_cod 34) 8 = .ok (.getfield 9, 3) := by decide +kernel
theorem s34_8 (K : aK) : am_Snd K 34 8 := sn_get (C0 := CN1) (T := FT1) (Nf := 7) i34_8 d34_8 rfl (by decide +kernel) fin1 w_45 rfl
theorem i34_11 : am_ins 34 11 = (1, 2, 1, 0, []) := by decide +kernel
theorem d34_11 : decode (am_cod 34) 11 = .ok (.iload_n 2, 1) := by decide +kernel
theorem s34_11 (K : aK) : am_Snd K 34 11 := sn_iload_n i34_11 d34_11 rfl
theorem i34_12 : am_ins 34 12 = (33, 0, 1, 0, []) := by decide +kernel
theorem d34_12 : decode (am_cod 34) 12 = .ok (.aload_n 0, 1) := by decide +kernel
theorem s34_12 (K : aK) : am_Snd K 34 12 := sn_aload_n i34_12 d34_12 rfl
theorem i34_13 : am_ins 34 13 = (18, 1, 1, 0, []) := by decide +kernel
theorem d34_13 : decode (am_cod 34) 13 = .ok (.getfield 9, 3) := by decide +kernel
theorem s34_13 (K : aK) : am_Snd K 34 13 := sn_get (C0 := CN1) (T := FT1) (Nf := 7) i34_13 d34_13 rfl (by decide +kernel) fin1 w_45 rfl
theorem i34_16 : am_ins 34 16 = (1, 2, 1, 0, []) := by decide +kernel
theorem d34_16 : decode (am_cod 34) 16 = .ok (.iload_n 2, 1) := by decide +kernel
theorem s34_16 (K : aK) : am_Snd K 34 16 := sn_iload_n i34_16 d34_16 rfl
theorem i34_17 : am_ins 34 17 = (22, 0, 0, 0, []) := by decide +kernel
theorem d34_17 : decode (am_cod 34) 17 = .ok (.iaload, 1) := by decide +kernel
theorem s34_17 (K : aK) : am_Snd K 34 17 := sn_iald i34_17 d34_17 
theorem i34_18 : am_ins 34 18 = (33, 1, 1, 0, []) := by decide +kernel
theorem d34_18 : decode (am_cod 34) 18 = .ok (.aload_n 1, 1) := by decide +kernel
theorem s34_18 (K : aK) : am_Snd K 34 18 := sn_aload_n i34_18 d34_18 rfl
theorem i34_19 : am_ins 34 19 = (1, 2, 1, 0, []) := by decide +kernel
theorem d34_19 : decode (am_cod 34) 19 = .ok (.iload_n 2, 1) := by decide +kernel
theorem s34_19 (K : aK) : am_Snd K 34 19 := sn_iload_n i34_19 d34_19 rfl
theorem i34_20 : am_ins 34 20 = (60, 46, 1, 0, []) := by decide +kernel
theorem d34_20 : decode (am_cod 34) 20 = .ok (.invokevirtual 32, 3) := by decide +kernel
theorem s34_20 (K : aK) : am_SndC K 34 20 := sc_V i34_20 d34_20 co46 w_173 w_174 w_175 w_4 rfl (rr := (CN4, FT4, 9)) rfl rfl hd46
theorem i34_23 : am_ins 34 23 = (36, 0, 0, 0, []) := by decide +kernel
theorem d34_23 : decode (am_cod 34) 23 = .ok (.invokestatic 38, 3) := by decide +kernel
theorem s34_23 (K : aK) : am_Snd K 34 23 := sn_max i34_23 d34_23 w_183 w_184 w_7 w_185
theorem i34_26 : am_ins 34 26 = (23, 0, 0, 0, []) := by decide +kernel
theorem d34_26 : decode (am_cod 34) 26 = .ok (.iastore, 1) := by decide +kernel
theorem s34_26 (K : aK) : am_Snd K 34 26 := sn_iast i34_26 d34_26 
theorem i34_27 : am_ins 34 27 = (3, 2, 3, 1, []) := by decide +kernel
theorem d34_27 : decode (am_cod 34) 27 = .ok (.iinc 2 1, 3) := by decide +kernel
theorem s34_27 (K : aK) : am_Snd K 34 27 := sn_iinc i34_27 d34_27 rfl (by decide +kernel)
theorem i34_30 : am_ins 34 30 = (14, 2, 0, 0, []) := by decide +kernel
theorem d34_30 : decode (am_cod 34) 30 = .ok (.goto (-28), 3) := by decide +kernel
theorem s34_30 (K : aK) : am_Snd K 34 30 := sn_goto i34_30 d34_30 rfl
theorem i34_33 : am_ins 34 33 = (53, 0, 0, 0, []) := by decide +kernel
theorem d34_33 : decode (am_cod 34) 33 = .ok (.return_, 1) := by decide +kernel
theorem s34_33 : am_SndR 34 33 := sn_vret i34_33 d34_33 rfl
theorem al34_0 (K : aK) : ∀ q ∈ [0, 1, 2, 3, 4, 7, 8, 11, 12, 13, 16, 17, 18, 19, 20, 23, 26, 27, 30, 33], am_All K 34 q := List.forall_mem_cons.mpr ⟨am_alS i34_0 (s34_0 K), List.forall_mem_cons.mpr ⟨am_alS i34_1 (s34_1 K), List.forall_mem_cons.mpr ⟨am_alS i34_2 (s34_2 K), List.forall_mem_cons.mpr ⟨am_alS i34_3 (s34_3 K), List.forall_mem_cons.mpr ⟨am_alS i34_4 (s34_4 K), List.forall_mem_cons.mpr ⟨am_alS i34_7 (s34_7 K), List.forall_mem_cons.mpr ⟨am_alS i34_8 (s34_8 K), List.forall_mem_cons.mpr ⟨am_alS i34_11 (s34_11 K), List.forall_mem_cons.mpr ⟨am_alS i34_12 (s34_12 K), List.forall_mem_cons.mpr ⟨am_alS i34_13 (s34_13 K), List.forall_mem_cons.mpr ⟨am_alS i34_16 (s34_16 K), List.forall_mem_cons.mpr ⟨am_alS i34_17 (s34_17 K), List.forall_mem_cons.mpr ⟨am_alS i34_18 (s34_18 K), List.forall_mem_cons.mpr ⟨am_alS i34_19 (s34_19 K), List.forall_mem_cons.mpr ⟨am_alC i34_20 (s34_20 K), List.forall_mem_cons.mpr ⟨am_alS i34_23 (s34_23 K), List.forall_mem_cons.mpr ⟨am_alS i34_26 (s34_26 K), List.forall_mem_cons.mpr ⟨am_alS i34_27 (s34_27 K), List.forall_mem_cons.mpr ⟨am_alS i34_30 (s34_30 K), List.forall_mem_cons.mpr ⟨am_alR i34_33 s34_33, fun _ h => absurd h List.not_mem_nil⟩⟩⟩⟩⟩⟩⟩⟩⟩⟩⟩⟩⟩⟩⟩⟩⟩⟩⟩⟩
set_option maxRecDepth 100000 in
theorem al34 (K : aK) : ∀ q ∈ (am_t34).map (fun z => z.1), am_All K 34 q := by
  have e : (am_t34).map (fun z => z.1) = [0, 1, 2, 3, 4, 7, 8, 11, 12, 13, 16, 17, 18, 19, 20, 23, 26, 27, 30, 33] := rfl
  rw [e]
  exact al34_0 K
