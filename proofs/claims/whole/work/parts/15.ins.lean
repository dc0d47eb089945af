theorem i101_0 : am_ins 101 0 = (1, 1, 1, 0, []) := by decide +kernel
theorem d101_0 : decode (am_cod 101) 0 = .ok (.iload_n 1, 1) := by decide +kernel
theorem s101_0 (K : aK) : am_Snd K 101 0 := sn_iload_n i101_0 d101_0 rfl
theorem i101_1 : am_ins 101 1 = (1, 2, 1, 0, []) := by decide +kernel
theorem d101_1 : decode (am_cod 101) 1 = .ok (.iload_n 2, 1) := by decide +kernel
theorem s101_1 (K : aK) : am_Snd K 101 1 := sn_iload_n i101_1 d101_1 rfl
theorem i101_2 : am_ins 101 2 = (61, 77, 2, 0, []) := by decide +kernel
theorem d101_2 : decode (am_cod 101) 2 = .ok (.invokestatic 160, 3) := by decide +kernel
theorem s101_2 (K : aK) : am_SndC K 101 2 := sc_S i101_2 d101_2 co77 w_691 w_692 w_6 hd77
theorem i101_5 : am_ins 101 5 = (12, 1, 10, 0, []) := by decide +kernel
theorem d101_5 : decode (am_cod 101) 5 = .ok (.ifCond .ne 5, 3) := by decide +kernel
theorem s101_5 (K : aK) : am_Snd K 101 5 := sn_if_ne i101_5 d101_5 rfl
theorem i101_8 : am_ins 101 8 = (0, 1, 0, (-1), []) := by decide +kernel
theorem d101_8 : decode (am_cod 101) 8 = .ok (.iconst (-1), 1) := by decide +kernel
theorem s101_8 (K : aK) : am_Snd K 101 8 := sn_const1 i101_8 d101_8 rfl
theorem i101_9 : am_ins 101 9 = (50, 0, 0, 0, []) := by decide +kernel
theorem d101_9 : decode (am_cod 101) 9 = .ok (.ireturn, 1) := by decide +kernel
theorem s101_9 : am_SndR 101 9 := sn_iret i101_9 d101_9 rfl
theorem i101_10 : am_ins 101 10 = (33, 0, 1, 0, []) := by decide +kernel
theorem d101_10 : decode (am_cod 101) 10 = .ok (.aload_n 0, 1) := by decide +kernel
theorem s101_10 (K : aK) : am_Snd K 101 10 := sn_aload_n i101_10 d101_10 rfl
theorem i101_11 : am_ins 101 11 = (1, 1, 1, 0, []) := by decide +kernel
theorem d101_11 : decode (am_cod 101) 11 = .ok (.iload_n 1, 1) := by decide +kernel
theorem s101_11 (K : aK) : am_Snd K 101 11 := sn_iload_n i101_11 d101_11 rfl
theorem i101_12 : am_ins 101 12 = (1, 2, 1, 0, []) := by decide +kernel
theorem d101_12 : decode (am_cod 101) 12 = .ok (.iload_n 2, 1) := by decide +kernel
theorem s101_12 (K : aK) : am_Snd K 101 12 := sn_iload_n i101_12 d101_12 rfl
theorem i101_13 : am_ins 101 13 = (60, 86, 2, 0, []) := by decide +kernel
theorem d101_13 : decode (am_cod 101) 13 = .ok (.invokevirtual 163, 3) := by decide +kernel
theorem s101_13 (K : aK) : am_SndC K 101 13 := sc_V i101_13 d101_13 co86 w_694 w_696 ws_27 w_6 rfl (rr := (CN7, FT7, 24)) rfl rfl hd86
theorem i101_16 : am_ins 101 16 = (2, 3, 1, 0, []) := by decide +kernel
theorem d101_16 : decode (am_cod 101) 16 = .ok (.istore_n 3, 1) := by decide +kernel
theorem s101_16 (K : aK) : am_Snd K 101 16 := sn_istore_n i101_16 d101_16 rfl (by decide +kernel)
theorem i101_17 : am_ins 101 17 = (1, 3, 1, 0, []) := by decide +kernel
theorem d101_17 : decode (am_cod 101) 17 = .ok (.iload_n 3, 1) := by decide +kernel
theorem s101_17 (K : aK) : am_Snd K 101 17 := sn_iload_n i101_17 d101_17 rfl
theorem i101_18 : am_ins 101 18 = (0, 1, 0, (-1), []) := by decide +kernel
theorem d101_18 : decode (am_cod 101) 18 = .ok (.iconst (-1), 1) := by decide +kernel
theorem s101_18 (K : aK) : am_Snd K 101 18 := sn_const1 i101_18 d101_18 rfl
theorem i101_19 : am_ins 101 19 = (13, 1, 24, 0, []) := by decide +kernel
theorem d101_19 : decode (am_cod 101) 19 = .ok (.if_icmp .ne 5, 3) := by decide +kernel
theorem s101_19 (K : aK) : am_Snd K 101 19 := sn_icmp_ne i101_19 d101_19 rfl
theorem i101_22 : am_ins 101 22 = (0, 1, 0, 0, []) := by decide +kernel
theorem d101_22 : decode (am_cod 101) 22 = .ok (.iconst 0, 1) := by decide +kernel
theorem s101_22 (K : aK) : am_Snd K 101 22 := sn_const1 i101_22 d101_22 rfl
theorem i101_23 : am_ins 101 23 = (50, 0, 0, 0, []) := by decide +kernel
theorem d101_23 : decode (am_cod 101) 23 = .ok (.ireturn, 1) := by decide +kernel
theorem s101_23 : am_SndR 101 23 := sn_iret i101_23 d101_23 rfl
theorem i101_24 : am_ins 101 24 = (33, 0, 1, 0, []) := by decide +kernel
theorem d101_24 : decode (am_cod 101) 24 = .ok (.aload_n 0, 1) := by decide +kernel
theorem s101_24 (K : aK) : am_Snd K 101 24 := sn_aload_n i101_24 d101_24 rfl
theorem i101_25 : am_ins 101 25 = (18, 7, 23, 0, []) := by decide +kernel
theorem d101_25 : decode (am_cod 101) 25 = .ok (.getfield 74, 3) := by decide +kernel
theorem s101_25 (K : aK) : am_Snd K 101 25 := sn_get (C0 := CN7) (T := FT7) (Nf := 24) i101_25 d101_25 rfl (by decide +kernel) fin7 w_532 rfl
theorem i101_28 : am_ins 101 28 = (0, 2, 0, 7, []) := by decide +kernel
theorem d101_28 : decode (am_cod 101) 28 = .ok (.bipush 7, 2) := by decide +kernel
theorem s101_28 (K : aK) : am_Snd K 101 28 := sn_const2 i101_28 d101_28 (by decide +kernel)
theorem i101_30 : am_ins 101 30 = (1, 3, 1, 0, []) := by decide +kernel
theorem d101_30 : decode (am_cod 101) 30 = .ok (.iload_n 3, 1) := by decide +kernel
theorem s101_30 (K : aK) : am_Snd K 101 30 := sn_iload_n i101_30 d101_30 rfl
theorem i101_31 : am_ins 101 31 = (4, 2, 0, 0, []) := by decide +kernel
theorem d101_31 : decode (am_cod 101) 31 = .ok (.imul, 1) := by decide +kernel
theorem s101_31 (K : aK) : am_Snd K 101 31 := sn_mul i101_31 d101_31 
theorem i101_32 : am_ins 101 32 = (0, 1, 0, 2, []) := by decide +kernel
theorem d101_32 : decode (am_cod 101) 32 = .ok (.iconst 2, 1) := by decide +kernel
theorem s101_32 (K : aK) : am_Snd K 101 32 := sn_const1 i101_32 d101_32 rfl
theorem i101_33 : am_ins 101 33 = (4, 0, 0, 0, []) := by decide +kernel
theorem d101_33 : decode (am_cod 101) 33 = .ok (.iadd, 1) := by decide +kernel
theorem s101_33 (K : aK) : am_Snd K 101 33 := sn_add i101_33 d101_33 
theorem i101_34 : am_ins 101 34 = (22, 0, 0, 0, []) := by decide +kernel
theorem d101_34 : decode (am_cod 101) 34 = .ok (.iaload, 1) := by decide +kernel
theorem s101_34 (K : aK) : am_Snd K 101 34 := sn_iald i101_34 d101_34 
theorem i101_35 : am_ins 101 35 = (2, 4, 2, 0, []) := by decide +kernel
theorem d101_35 : decode (am_cod 101) 35 = .ok (.istore 4, 2) := by decide +kernel
theorem s101_35 (K : aK) : am_Snd K 101 35 := sn_istore i101_35 d101_35 (by decide +kernel)
theorem i101_37 : am_ins 101 37 = (33, 0, 1, 0, []) := by decide +kernel
theorem d101_37 : decode (am_cod 101) 37 = .ok (.aload_n 0, 1) := by decide +kernel
theorem s101_37 (K : aK) : am_Snd K 101 37 := sn_aload_n i101_37 d101_37 rfl
theorem i101_38 : am_ins 101 38 = (18, 7, 23, 0, []) := by decide +kernel
theorem d101_38 : decode (am_cod 101) 38 = .ok (.getfield 74, 3) := by decide +kernel
theorem s101_38 (K : aK) : am_Snd K 101 38 := sn_get (C0 := CN7) (T := FT7) (Nf := 24) i101_38 d101_38 rfl (by decide +kernel) fin7 w_532 rfl
theorem i101_41 : am_ins 101 41 = (0, 2, 0, 7, []) := by decide +kernel
theorem d101_41 : decode (am_cod 101) 41 = .ok (.bipush 7, 2) := by decide +kernel
theorem s101_41 (K : aK) : am_Snd K 101 41 := sn_const2 i101_41 d101_41 (by decide +kernel)
theorem i101_43 : am_ins 101 43 = (1, 3, 1, 0, []) := by decide +kernel
theorem d101_43 : decode (am_cod 101) 43 = .ok (.iload_n 3, 1) := by decide +kernel
theorem s101_43 (K : aK) : am_Snd K 101 43 := sn_iload_n i101_43 d101_43 rfl
theorem i101_44 : am_ins 101 44 = (4, 2, 0, 0, []) := by decide +kernel
theorem d101_44 : decode (am_cod 101) 44 = .ok (.imul, 1) := by decide +kernel
theorem s101_44 (K : aK) : am_Snd K 101 44 := sn_mul i101_44 d101_44 
theorem i101_45 : am_ins 101 45 = (0, 1, 0, 3, []) := by decide +kernel
theorem d101_45 : decode (am_cod 101) 45 = .ok (.iconst 3, 1) := by decide +kernel
theorem s101_45 (K : aK) : am_Snd K 101 45 := sn_const1 i101_45 d101_45 rfl
theorem i101_46 : am_ins 101 46 = (4, 0, 0, 0, []) := by decide +kernel
theorem d101_46 : decode (am_cod 101) 46 = .ok (.iadd, 1) := by decide +kernel
theorem s101_46 (K : aK) : am_Snd K 101 46 := sn_add i101_46 d101_46 
theorem i101_47 : am_ins 101 47 = (22, 0, 0, 0, []) := by decide +kernel
theorem d101_47 : decode (am_cod 101) 47 = .ok (.iaload, 1) := by decide +kernel
theorem s101_47 (K : aK) : am_Snd K 101 47 := sn_iald i101_47 d101_47 
theorem i101_48 : am_ins 101 48 = (2, 5, 2, 0, []) := by decide +kernel
theorem d101_48 : decode (am_cod 101) 48 = .ok (.istore 5, 2) := by decide +kernel
theorem s101_48 (K : aK) : am_Snd K 101 48 := sn_istore i101_48 d101_48 (by decide +kernel)
theorem i101_50 : am_ins 101 50 = (33, 0, 1, 0, []) := by decide +kernel
theorem d101_50 : decode (am_cod 101) 50 = .ok (.aload_n 0, 1) := by decide +kernel
theorem s101_50 (K : aK) : am_Snd K 101 50 := sn_aload_n i101_50 d101_50 rfl
theorem i101_51 : am_ins 101 51 = (18, 7, 23, 0, []) := by decide +kernel
theorem d101_51 : decode (am_cod 101) 51 = .ok (.getfield 74, 3) := by decide +kernel
theorem s101_51 (K : aK) : am_Snd K 101 51 := sn_get (C0 := CN7) (T := FT7) (Nf := 24) i101_51 d101_51 rfl (by decide +kernel) fin7 w_532 rfl
theorem i101_54 : am_ins 101 54 = (0, 2, 0, 7, []) := by decide +kernel
theorem d101_54 : decode (am_cod 101) 54 = .ok (.bipush 7, 2) := by decide +kernel
theorem s101_54 (K : aK) : am_Snd K 101 54 := sn_const2 i101_54 d101_54 (by decide +kernel)
theorem i101_56 : am_ins 101 56 = (1, 3, 1, 0, []) := by decide +kernel
theorem d101_56 : decode (am_cod 101) 56 = .ok (.iload_n 3, 1) := by decide +kernel
theorem s101_56 (K : aK) : am_Snd K 101 56 := sn_iload_n i101_56 d101_56 rfl
theorem i101_57 : am_ins 101 57 = (4, 2, 0, 0, []) := by decide +kernel
theorem d101_57 : decode (am_cod 101) 57 = .ok (.imul, 1) := by decide +kernel
theorem s101_57 (K : aK) : am_Snd K 101 57 := sn_mul i101_57 d101_57 
theorem i101_58 : am_ins 101 58 = (0, 1, 0, 4, []) := by decide +kernel
theorem d101_58 : decode (am_cod 101) 58 = .ok (.iconst 4, 1) := by decide +kernel
theorem s101_58 (K : aK) : am_Snd K 101 58 := sn_const1 i101_58 d101_58 rfl
theorem i101_59 : am_ins 101 59 = (4, 0, 0, 0, []) := by decide +kernel
theorem d101_59 : decode (am_cod 101) 59 = .ok (.iadd, 1) := by decide +kernel
theorem s101_59 (K : aK) : am_Snd K 101 59 := sn_add i101_59 d101_59 
theorem i101_60 : am_ins 101 60 = (22, 0, 0, 0, []) := by decide +kernel
theorem d101_60 : decode (am_cod 101) 60 = .ok (.iaload, 1) := by decide +kernel
theorem s101_60 (K : aK) : am_Snd K 101 60 := sn_iald i101_60 d101_60 
theorem i101_61 : am_ins 101 61 = (2, 6, 2, 0, []) := by decide +kernel
theorem d101_61 : decode (am_cod 101) 61 = .ok (.istore 6, 2) := by decide +kernel
theorem s101_61 (K : aK) : am_Snd K 101 61 := sn_istore i101_61 d101_61 (by decide +kernel)
theorem i101_63 : am_ins 101 63 = (33, 0, 1, 0, []) := by decide +kernel
theorem d101_63 : decode (am_cod 101) 63 = .ok (.aload_n 0, 1) := by decide +kernel
theorem s101_63 (K : aK) : am_Snd K 101 63 := sn_aload_n i101_63 d101_63 rfl
theorem i101_64 : am_ins 101 64 = (18, 7, 23, 0, []) := by decide +kernel
theorem d101_64 : decode (am_cod 101) 64 = .ok (.getfield 74, 3) := by decide +kernel
theorem s101_64 (K : aK) : am_Snd K 101 64 := sn_get (C0 := CN7) (T := FT7) (Nf := 24) i101_64 d101_64 rfl (by decide +kernel) fin7 w_532 rfl
theorem i101_67 : am_ins 101 67 = (0, 2, 0, 7, []) := by decide +kernel
theorem d101_67 : decode (am_cod 101) 67 = .ok (.bipush 7, 2) := by decide +kernel
theorem s101_67 (K : aK) : am_Snd K 101 67 := sn_const2 i101_67 d101_67 (by decide +kernel)
theorem i101_69 : am_ins 101 69 = (1, 3, 1, 0, []) := by decide +kernel
theorem d101_69 : decode (am_cod 101) 69 = .ok (.iload_n 3, 1) := by decide +kernel
theorem s101_69 (K : aK) : am_Snd K 101 69 := sn_iload_n i101_69 d101_69 rfl
theorem i101_70 : am_ins 101 70 = (4, 2, 0, 0, []) := by decide +kernel
theorem d101_70 : decode (am_cod 101) 70 = .ok (.imul, 1) := by decide +kernel
theorem s101_70 (K : aK) : am_Snd K 101 70 := sn_mul i101_70 d101_70 
theorem i101_71 : am_ins 101 71 = (0, 1, 0, 5, []) := by decide +kernel
theorem d101_71 : decode (am_cod 101) 71 = .ok (.iconst 5, 1) := by decide +kernel
theorem s101_71 (K : aK) : am_Snd K 101 71 := sn_const1 i101_71 d101_71 rfl
theorem i101_72 : am_ins 101 72 = (4, 0, 0, 0, []) := by decide +kernel
theorem d101_72 : decode (am_cod 101) 72 = .ok (.iadd, 1) := by decide +kernel
theorem s101_72 (K : aK) : am_Snd K 101 72 := sn_add i101_72 d101_72 
theorem i101_73 : am_ins 101 73 = (22, 0, 0, 0, []) := by decide +kernel
theorem d101_73 : decode (am_cod 101) 73 = .ok (.iaload, 1) := by decide +kernel
theorem s101_73 (K : aK) : am_Snd K 101 73 := sn_iald i101_73 d101_73 
theorem i101_74 : am_ins 101 74 = (2, 7, 2, 0, []) := by decide +kernel
theorem d101_74 : decode (am_cod 101) 74 = .ok (.istore 7, 2) := by decide +kernel
theorem s101_74 (K : aK) : am_Snd K 101 74 := sn_istore i101_74 d101_74 (by decide +kernel)
theorem i101_76 : am_ins 101 76 = (33, 0, 1, 0, []) := by decide +kernel
theorem d101_76 : decode (am_cod 101) 76 = .ok (.aload_n 0, 1) := by decide +kernel
theorem s101_76 (K : aK) : am_Snd K 101 76 := sn_aload_n i101_76 d101_76 rfl
theorem i101_77 : am_ins 101 77 = (18, 7, 23, 0, []) := by decide +kernel
theorem d101_77 : decode (am_cod 101) 77 = .ok (.getfield 74, 3) := by decide +kernel
theorem s101_77 (K : aK) : am_Snd K 101 77 := sn_get (C0 := CN7) (T := FT7) (Nf := 24) i101_77 d101_77 rfl (by decide +kernel) fin7 w_532 rfl
theorem i101_80 : am_ins 101 80 = (0, 2, 0, 7, []) := by decide +kernel
theorem d101_80 : decode (am_cod 101) 80 = .ok (.bipush 7, 2) := by decide +kernel
theorem s101_80 (K : aK) : am_Snd K 101 80 := sn_const2 i101_80 d101_80 (by decide +kernel)
theorem i101_82 : am_ins 101 82 = (1, 3, 1, 0, []) := by decide +kernel
theorem d101_82 : decode (am_cod 101) 82 = .ok (.iload_n 3, 1) := by decide +kernel
theorem s101_82 (K : aK) : am_Snd K 101 82 := sn_iload_n i101_82 d101_82 rfl
theorem i101_83 : am_ins 101 83 = (4, 2, 0, 0, []) := by decide +kernel
theorem d101_83 : decode (am_cod 101) 83 = .ok (.imul, 1) := by decide +kernel
theorem s101_83 (K : aK) : am_Snd K 101 83 := sn_mul i101_83 d101_83 
theorem i101_84 : am_ins 101 84 = (0, 2, 0, 6, []) := by decide +kernel
theorem d101_84 : decode (am_cod 101) 84 = .ok (.bipush 6, 2) := by decide +kernel
theorem s101_84 (K : aK) : am_Snd K 101 84 := sn_const2 i101_84 d101_84 (by decide +kernel)
theorem i101_86 : am_ins 101 86 = (4, 0, 0, 0, []) := by decide +kernel
theorem d101_86 : decode (am_cod 101) 86 = .ok (.iadd, 1) := by decide +kernel
theorem s101_86 (K : aK) : am_Snd K 101 86 := sn_add i101_86 d101_86 
theorem i101_87 : am_ins 101 87 = (22, 0, 0, 0, []) := by decide +kernel
theorem d101_87 : decode (am_cod 101) 87 = .ok (.iaload, 1) := by decide +kernel
theorem s101_87 (K : aK) : am_Snd K 101 87 := sn_iald i101_87 d101_87 
theorem i101_88 : am_ins 101 88 = (2, 8, 2, 0, []) := by decide +kernel
theorem d101_88 : decode (am_cod 101) 88 = .ok (.istore 8, 2) := by decide +kernel
theorem s101_88 (K : aK) : am_Snd K 101 88 := sn_istore i101_88 d101_88 (by decide +kernel)
theorem i101_90 : am_ins 101 90 = (33, 0, 1, 0, []) := by decide +kernel
theorem d101_90 : decode (am_cod 101) 90 = .ok (.aload_n 0, 1) := by decide +kernel
theorem s101_90 (K : aK) : am_Snd K 101 90 := sn_aload_n i101_90 d101_90 rfl
theorem i101_91 : am_ins 101 91 = (7, 0, 0, 0, []) := by decide +kernel
theorem d101_91 : decode (am_cod 101) 91 = .ok (.dup, 1) := by decide +kernel
theorem s101_91 (K : aK) : am_Snd K 101 91 := sn_dup i101_91 d101_91 
theorem i101_92 : am_ins 101 92 = (18, 7, 22, 0, []) := by decide +kernel
theorem d101_92 : decode (am_cod 101) 92 = .ok (.getfield 103, 3) := by decide +kernel
theorem s101_92 (K : aK) : am_Snd K 101 92 := sn_get (C0 := CN7) (T := FT7) (Nf := 24) i101_92 d101_92 rfl (by decide +kernel) fin7 w_531 rfl
theorem i101_95 : am_ins 101 95 = (0, 1, 0, 1, []) := by decide +kernel
theorem d101_95 : decode (am_cod 101) 95 = .ok (.iconst 1, 1) := by decide +kernel
theorem s101_95 (K : aK) : am_Snd K 101 95 := sn_const1 i101_95 d101_95 rfl
theorem i101_96 : am_ins 101 96 = (4, 1, 0, 0, []) := by decide +kernel
theorem d101_96 : decode (am_cod 101) 96 = .ok (.isub, 1) := by decide +kernel
theorem s101_96 (K : aK) : am_Snd K 101 96 := sn_sub i101_96 d101_96 
theorem i101_97 : am_ins 101 97 = (19, 7, 22, 0, []) := by decide +kernel
theorem d101_97 : decode (am_cod 101) 97 = .ok (.putfield 103, 3) := by decide +kernel
theorem s101_97 (K : aK) : am_Snd K 101 97 := sn_puti (ty := .int) (C0 := CN7) (T := FT7) (Nf := 24) (tyf := FY7) i101_97 d101_97 rfl (by decide +kernel) fin7 ftyok7 fnm7 w_531 rfl rfl rfl
theorem i101_100 : am_ins 101 100 = (0, 2, 0, 7, []) := by decide +kernel
theorem d101_100 : decode (am_cod 101) 100 = .ok (.bipush 7, 2) := by decide +kernel
theorem s101_100 (K : aK) : am_Snd K 101 100 := sn_const2 i101_100 d101_100 (by decide +kernel)
theorem i101_102 : am_ins 101 102 = (1, 3, 1, 0, []) := by decide +kernel
theorem d101_102 : decode (am_cod 101) 102 = .ok (.iload_n 3, 1) := by decide +kernel
theorem s101_102 (K : aK) : am_Snd K 101 102 := sn_iload_n i101_102 d101_102 rfl
theorem i101_103 : am_ins 101 103 = (4, 2, 0, 0, []) := by decide +kernel
theorem d101_103 : decode (am_cod 101) 103 = .ok (.imul, 1) := by decide +kernel
theorem s101_103 (K : aK) : am_Snd K 101 103 := sn_mul i101_103 d101_103 
theorem i101_104 : am_ins 101 104 = (2, 9, 2, 0, []) := by decide +kernel
theorem d101_104 : decode (am_cod 101) 104 = .ok (.istore 9, 2) := by decide +kernel
theorem s101_104 (K : aK) : am_Snd K 101 104 := sn_istore i101_104 d101_104 (by decide +kernel)
theorem i101_106 : am_ins 101 106 = (1, 9, 2, 0, []) := by decide +kernel
theorem d101_106 : decode (am_cod 101) 106 = .ok (.iload 9, 2) := by decide +kernel
theorem s101_106 (K : aK) : am_Snd K 101 106 := sn_iload i101_106 d101_106 
theorem i101_108 : am_ins 101 108 = (0, 2, 0, 7, []) := by decide +kernel
theorem d101_108 : decode (am_cod 101) 108 = .ok (.bipush 7, 2) := by decide +kernel
theorem s101_108 (K : aK) : am_Snd K 101 108 := sn_const2 i101_108 d101_108 (by decide +kernel)
theorem i101_110 : am_ins 101 110 = (33, 0, 1, 0, []) := by decide +kernel
theorem d101_110 : decode (am_cod 101) 110 = .ok (.aload_n 0, 1) := by decide +kernel
theorem s101_110 (K : aK) : am_Snd K 101 110 := sn_aload_n i101_110 d101_110 rfl
theorem i101_111 : am_ins 101 111 = (18, 7, 22, 0, []) := by decide +kernel
theorem d101_111 : decode (am_cod 101) 111 = .ok (.getfield 103, 3) := by decide +kernel
theorem s101_111 (K : aK) : am_Snd K 101 111 := sn_get (C0 := CN7) (T := FT7) (Nf := 24) i101_111 d101_111 rfl (by decide +kernel) fin7 w_531 rfl
theorem i101_114 : am_ins 101 114 = (4, 2, 0, 0, []) := by decide +kernel
theorem d101_114 : decode (am_cod 101) 114 = .ok (.imul, 1) := by decide +kernel
theorem s101_114 (K : aK) : am_Snd K 101 114 := sn_mul i101_114 d101_114 
theorem i101_115 : am_ins 101 115 = (13, 3, 141, 0, []) := by decide +kernel
theorem d101_115 : decode (am_cod 101) 115 = .ok (.if_icmp .ge 26, 3) := by decide +kernel
theorem s101_115 (K : aK) : am_Snd K 101 115 := sn_icmp_ge i101_115 d101_115 rfl
theorem i101_118 : am_ins 101 118 = (33, 0, 1, 0, []) := by decide +kernel
theorem d101_118 : decode (am_cod 101) 118 = .ok (.aload_n 0, 1) := by decide +kernel
theorem s101_118 (K : aK) : am_Snd K 101 118 := sn_aload_n i101_118 d101_118 rfl
theorem i101_119 : am_ins 101 119 = (18, 7, 23, 0, []) := by decide +kernel
theorem d101_119 : decode (am_cod 101) 119 = .ok (.getfield 74, 3) := by decide +kernel
theorem s101_119 (K : aK) : am_Snd K 101 119 := sn_get (C0 := CN7) (T := FT7) (Nf := 24) i101_119 d101_119 rfl (by decide +kernel) fin7 w_532 rfl
theorem i101_122 : am_ins 101 122 = (1, 9, 2, 0, []) := by decide +kernel
theorem d101_122 : decode (am_cod 101) 122 = .ok (.iload 9, 2) := by decide +kernel
theorem s101_122 (K : aK) : am_Snd K 101 122 := sn_iload i101_122 d101_122 
theorem i101_124 : am_ins 101 124 = (33, 0, 1, 0, []) := by decide +kernel
theorem d101_124 : decode (am_cod 101) 124 = .ok (.aload_n 0, 1) := by decide +kernel
theorem s101_124 (K : aK) : am_Snd K 101 124 := sn_aload_n i101_124 d101_124 rfl
theorem i101_125 : am_ins 101 125 = (18, 7, 23, 0, []) := by decide +kernel
theorem d101_125 : decode (am_cod 101) 125 = .ok (.getfield 74, 3) := by decide +kernel
theorem s101_125 (K : aK) : am_Snd K 101 125 := sn_get (C0 := CN7) (T := FT7) (Nf := 24) i101_125 d101_125 rfl (by decide +kernel) fin7 w_532 rfl
theorem i101_128 : am_ins 101 128 = (1, 9, 2, 0, []) := by decide +kernel
theorem d101_128 : decode (am_cod 101) 128 = .ok (.iload 9, 2) := by decide +kernel
theorem s101_128 (K : aK) : am_Snd K 101 128 := sn_iload i101_128 d101_128 
theorem i101_130 : am_ins 101 130 = (0, 2, 0, 7, []) := by decide +kernel
theorem d101_130 : decode (am_cod 101) 130 = .ok (.bipush 7, 2) := by decide +kernel
theorem s101_130 (K : aK) : am_Snd K 101 130 := sn_const2 i101_130 d101_130 (by decide +kernel)
theorem i101_132 : am_ins 101 132 = (4, 0, 0, 0, []) := by decide +kernel
theorem d101_132 : decode (am_cod 101) 132 = .ok (.iadd, 1) := by decide +kernel
theorem s101_132 (K : aK) : am_Snd K 101 132 := sn_add i101_132 d101_132 
theorem i101_133 : am_ins 101 133 = (22, 0, 0, 0, []) := by decide +kernel
theorem d101_133 : decode (am_cod 101) 133 = .ok (.iaload, 1) := by decide +kernel
theorem s101_133 (K : aK) : am_Snd K 101 133 := sn_iald i101_133 d101_133 
theorem i101_134 : am_ins 101 134 = (23, 0, 0, 0, []) := by decide +kernel
theorem d101_134 : decode (am_cod 101) 134 = .ok (.iastore, 1) := by decide +kernel
theorem s101_134 (K : aK) : am_Snd K 101 134 := sn_iast i101_134 d101_134 
theorem i101_135 : am_ins 101 135 = (3, 9, 3, 1, []) := by decide +kernel
theorem d101_135 : decode (am_cod 101) 135 = .ok (.iinc 9 1, 3) := by decide +kernel
theorem s101_135 (K : aK) : am_Snd K 101 135 := sn_iinc i101_135 d101_135 rfl (by decide +kernel)
theorem i101_138 : am_ins 101 138 = (14, 106, 0, 0, []) := by decide +kernel
theorem d101_138 : decode (am_cod 101) 138 = .ok (.goto (-32), 3) := by decide +kernel
theorem s101_138 (K : aK) : am_Snd K 101 138 := sn_goto i101_138 d101_138 rfl
theorem i101_141 : am_ins 101 141 = (33, 0, 1, 0, []) := by decide +kernel
theorem d101_141 : decode (am_cod 101) 141 = .ok (.aload_n 0, 1) := by decide +kernel
theorem s101_141 (K : aK) : am_Snd K 101 141 := sn_aload_n i101_141 d101_141 rfl
theorem i101_142 : am_ins 101 142 = (1, 1, 1, 0, []) := by decide +kernel
theorem d101_142 : decode (am_cod 101) 142 = .ok (.iload_n 1, 1) := by decide +kernel
theorem s101_142 (K : aK) : am_Snd K 101 142 := sn_iload_n i101_142 d101_142 rfl
theorem i101_143 : am_ins 101 143 = (1, 2, 1, 0, []) := by decide +kernel
theorem d101_143 : decode (am_cod 101) 143 = .ok (.iload_n 2, 1) := by decide +kernel
theorem s101_143 (K : aK) : am_Snd K 101 143 := sn_iload_n i101_143 d101_143 rfl
theorem i101_144 : am_ins 101 144 = (1, 4, 2, 0, []) := by decide +kernel
theorem d101_144 : decode (am_cod 101) 144 = .ok (.iload 4, 2) := by decide +kernel
theorem s101_144 (K : aK) : am_Snd K 101 144 := sn_iload i101_144 d101_144 
theorem i101_146 : am_ins 101 146 = (1, 5, 2, 0, []) := by decide +kernel
theorem d101_146 : decode (am_cod 101) 146 = .ok (.iload 5, 2) := by decide +kernel
theorem s101_146 (K : aK) : am_Snd K 101 146 := sn_iload i101_146 d101_146 
theorem i101_148 : am_ins 101 148 = (1, 6, 2, 0, []) := by decide +kernel
theorem d101_148 : decode (am_cod 101) 148 = .ok (.iload 6, 2) := by decide +kernel
theorem s101_148 (K : aK) : am_Snd K 101 148 := sn_iload i101_148 d101_148 
theorem i101_150 : am_ins 101 150 = (1, 7, 2, 0, []) := by decide +kernel
theorem d101_150 : decode (am_cod 101) 150 = .ok (.iload 7, 2) := by decide +kernel
theorem s101_150 (K : aK) : am_Snd K 101 150 := sn_iload i101_150 d101_150 
theorem i101_152 : am_ins 101 152 = (1, 8, 2, 0, []) := by decide +kernel
theorem d101_152 : decode (am_cod 101) 152 = .ok (.iload 8, 2) := by decide +kernel
theorem s101_152 (K : aK) : am_Snd K 101 152 := sn_iload i101_152 d101_152 
theorem i101_154 : am_ins 101 154 = (60, 87, 7, 0, []) := by decide +kernel
theorem d101_154 : decode (am_cod 101) 154 = .ok (.invokevirtual 99, 3) := by decide +kernel
theorem s101_154 (K : aK) : am_SndC K 101 154 := sc_V i101_154 d101_154 co87 w_649 w_651 ws_21 w_6 rfl (rr := (CN7, FT7, 24)) rfl rfl hd87
theorem i101_157 : am_ins 101 157 = (1, 4, 2, 0, []) := by decide +kernel
theorem d101_157 : decode (am_cod 101) 157 = .ok (.iload 4, 2) := by decide +kernel
theorem s101_157 (K : aK) : am_Snd K 101 157 := sn_iload i101_157 d101_157 
theorem i101_159 : am_ins 101 159 = (50, 0, 0, 0, []) := by decide +kernel
theorem d101_159 : decode (am_cod 101) 159 = .ok (.ireturn, 1) := by decide +kernel
theorem s101_159 : am_SndR 101 159 := sn_iret i101_159 d101_159 rfl
theorem al101_0 (K : aK) : ∀ q ∈ [0, 1, 2, 5, 8, 9, 10, 11, 12, 13, 16, 17, 18, 19, 22, 23, 24, 25, 28, 30, 31, 32, 33, 34, 35, 37, 38, 41, 43, 44], am_All K 101 q := List.forall_mem_cons.mpr ⟨am_alS i101_0 (s101_0 K), List.forall_mem_cons.mpr ⟨am_alS i101_1 (s101_1 K), List.forall_mem_cons.mpr ⟨am_alC i101_2 (s101_2 K), List.forall_mem_cons.mpr ⟨am_alS i101_5 (s101_5 K), List.forall_mem_cons.mpr ⟨am_alS i101_8 (s101_8 K), List.forall_mem_cons.mpr ⟨am_alR i101_9 s101_9, List.forall_mem_cons.mpr ⟨am_alS i101_10 (s101_10 K), List.forall_mem_cons.mpr ⟨am_alS i101_11 (s101_11 K), List.forall_mem_cons.mpr ⟨am_alS i101_12 (s101_12 K), List.forall_mem_cons.mpr ⟨am_alC i101_13 (s101_13 K), List.forall_mem_cons.mpr ⟨am_alS i101_16 (s101_16 K), List.forall_mem_cons.mpr ⟨am_alS i101_17 (s101_17 K), List.forall_mem_cons.mpr ⟨am_alS i101_18 (s101_18 K), List.forall_mem_cons.mpr ⟨am_alS i101_19 (s101_19 K), List.forall_mem_cons.mpr ⟨am_alS i101_22 (s101_22 K), List.forall_mem_cons.mpr ⟨am_alR i101_23 s101_23, List.forall_mem_cons.mpr ⟨am_alS i101_24 (s101_24 K), List.forall_mem_cons.mpr ⟨am_alS i101_25 (s101_25 K), List.forall_mem_cons.mpr ⟨am_alS i101_28 (s101_28 K), List.forall_mem_cons.mpr ⟨am_alS i101_30 (s101_30 K), List.forall_mem_cons.mpr ⟨am_alS i101_31 (s101_31 K), List.forall_mem_cons.mpr ⟨am_alS i101_32 (s101_32 K), List.forall_mem_cons.mpr ⟨am_alS i101_33 (s101_33 K), List.forall_mem_cons.mpr ⟨am_alS i101_34 (s101_34 K), List.forall_mem_cons.mpr ⟨am_alS i101_35 (s101_35 K), List.forall_mem_cons.mpr ⟨am_alS i101_37 (s101_37 K), List.forall_mem_cons.mpr ⟨am_alS i101_38 (s101_38 K), List.forall_mem_cons.mpr ⟨am_alS i101_41 (s101_41 K), List.forall_mem_cons.mpr ⟨am_alS i101_43 (s101_43 K), List.forall_mem_cons.mpr ⟨am_alS i101_44 (s101_44 K), fun _ h => absurd h List.not_mem_nil⟩⟩⟩⟩⟩⟩⟩⟩⟩⟩⟩⟩⟩⟩⟩⟩⟩⟩⟩⟩⟩⟩⟩⟩⟩⟩⟩⟩⟩⟩
theorem al101_1 (K : aK) : ∀ q ∈ [45, 46, 47, 48, 50, 51, 54, 56, 57, 58, 59, 60, 61, 63, 64, 67, 69, 70, 71, 72, 73, 74, 76, 77, 80, 82, 83, 84, 86, 87], am_All K 101 q := List.forall_mem_cons.mpr ⟨am_alS i101_45 (s101_45 K), List.forall_mem_cons.mpr ⟨am_alS i101_46 (s101_46 K), List.forall_mem_cons.mpr ⟨am_alS i101_47 (s101_47 K), List.forall_mem_cons.mpr ⟨am_alS i101_48 (s101_48 K), List.forall_mem_cons.mpr ⟨am_alS i101_50 (s101_50 K), List.forall_mem_cons.mpr ⟨am_alS i101_51 (s101_51 K), List.forall_mem_cons.mpr ⟨am_alS i101_54 (s101_54 K), List.forall_mem_cons.mpr ⟨am_alS i101_56 (s101_56 K), List.forall_mem_cons.mpr ⟨am_alS i101_57 (s101_57 K), List.forall_mem_cons.mpr ⟨am_alS i101_58 (s101_58 K), List.forall_mem_cons.mpr ⟨am_alS i101_59 (s101_59 K), List.forall_mem_cons.mpr ⟨am_alS i101_60 (s101_60 K), List.forall_mem_cons.mpr ⟨am_alS i101_61 (s101_61 K), List.forall_mem_cons.mpr ⟨am_alS i101_63 (s101_63 K), List.forall_mem_cons.mpr ⟨am_alS i101_64 (s101_64 K), List.forall_mem_cons.mpr ⟨am_alS i101_67 (s101_67 K), List.forall_mem_cons.mpr ⟨am_alS i101_69 (s101_69 K), List.forall_mem_cons.mpr ⟨am_alS i101_70 (s101_70 K), List.forall_mem_cons.mpr ⟨am_alS i101_71 (s101_71 K), List.forall_mem_cons.mpr ⟨am_alS i101_72 (s101_72 K), List.forall_mem_cons.mpr ⟨am_alS i101_73 (s101_73 K), List.forall_mem_cons.mpr ⟨am_alS i101_74 (s101_74 K), List.forall_mem_cons.mpr ⟨am_alS i101_76 (s101_76 K), List.forall_mem_cons.mpr ⟨am_alS i101_77 (s101_77 K), List.forall_mem_cons.mpr ⟨am_alS i101_80 (s101_80 K), List.forall_mem_cons.mpr ⟨am_alS i101_82 (s101_82 K), List.forall_mem_cons.mpr ⟨am_alS i101_83 (s101_83 K), List.forall_mem_cons.mpr ⟨am_alS i101_84 (s101_84 K), List.forall_mem_cons.mpr ⟨am_alS i101_86 (s101_86 K), List.forall_mem_cons.mpr ⟨am_alS i101_87 (s101_87 K), fun _ h => absurd h List.not_mem_nil⟩⟩⟩⟩⟩⟩⟩⟩⟩⟩⟩⟩⟩⟩⟩⟩⟩⟩⟩⟩⟩⟩⟩⟩⟩⟩⟩⟩⟩⟩
theorem al101_2 (K : aK) : ∀ q ∈ [88, 90, 91, 92, 95, 96, 97, 100, 102, 103, 104, 106, 108, 110, 111, 114, 115, 118, 119, 122, 124, 125, 128, 130, 132, 133, 134, 135, 138, 141], am_All K 101 q := List.forall_mem_cons.mpr ⟨am_alS i101_88 (s101_88 K), List.forall_mem_cons.mpr ⟨am_alS i101_90 (s101_90 K), List.forall_mem_cons.mpr ⟨am_alS i101_91 (s101_91 K), List.forall_mem_cons.mpr ⟨am_alS i101_92 (s101_92 K), List.forall_mem_cons.mpr ⟨am_alS i101_95 (s101_95 K), List.forall_mem_cons.mpr ⟨am_alS i101_96 (s101_96 K), List.forall_mem_cons.mpr ⟨am_alS i101_97 (s101_97 K), List.forall_mem_cons.mpr ⟨am_alS i101_100 (s101_100 K), List.forall_mem_cons.mpr ⟨am_alS i101_102 (s101_102 K), List.forall_mem_cons.mpr ⟨am_alS i101_103 (s101_103 K), List.forall_mem_cons.mpr ⟨am_alS i101_104 (s101_104 K), List.forall_mem_cons.mpr ⟨am_alS i101_106 (s101_106 K), List.forall_mem_cons.mpr ⟨am_alS i101_108 (s101_108 K), List.forall_mem_cons.mpr ⟨am_alS i101_110 (s101_110 K), List.forall_mem_cons.mpr ⟨am_alS i101_111 (s101_111 K), List.forall_mem_cons.mpr ⟨am_alS i101_114 (s101_114 K), List.forall_mem_cons.mpr ⟨am_alS i101_115 (s101_115 K), List.forall_mem_cons.mpr ⟨am_alS i101_118 (s101_118 K), List.forall_mem_cons.mpr ⟨am_alS i101_119 (s101_119 K), List.forall_mem_cons.mpr ⟨am_alS i101_122 (s101_122 K), List.forall_mem_cons.mpr ⟨am_alS i101_124 (s101_124 K), List.forall_mem_cons.mpr ⟨am_alS i101_125 (s101_125 K), List.forall_mem_cons.mpr ⟨am_alS i101_128 (s101_128 K), List.forall_mem_cons.mpr ⟨am_alS i101_130 (s101_130 K), List.forall_mem_cons.mpr ⟨am_alS i101_132 (s101_132 K), List.forall_mem_cons.mpr ⟨am_alS i101_133 (s101_133 K), List.forall_mem_cons.mpr ⟨am_alS i101_134 (s101_134 K), List.forall_mem_cons.mpr ⟨am_alS i101_135 (s101_135 K), List.forall_mem_cons.mpr ⟨am_alS i101_138 (s101_138 K), List.forall_mem_cons.mpr ⟨am_alS i101_141 (s101_141 K), fun _ h => absurd h List.not_mem_nil⟩⟩⟩⟩⟩⟩⟩⟩⟩⟩⟩⟩⟩⟩⟩⟩⟩⟩⟩⟩⟩⟩⟩⟩⟩⟩⟩⟩⟩⟩
theorem al101_3 (K : aK) : ∀ q ∈ [142, 143, 144, 146, 148, 150, 152, 154, 157, 159], am_All K 101 q := List.forall_mem_cons.mpr ⟨am_alS i101_142 (s101_142 K), List.forall_mem_cons.mpr ⟨am_alS i101_143 (s101_143 K), List.forall_mem_cons.mpr ⟨am_alS i101_144 (s101_144 K), List.forall_mem_cons.mpr ⟨am_alS i101_146 (s101_146 K), List.forall_mem_cons.mpr ⟨am_alS i101_148 (s101_148 K), List.forall_mem_cons.mpr ⟨am_alS i101_150 (s101_150 K), List.forall_mem_cons.mpr ⟨am_alS i101_152 (s101_152 K), List.forall_mem_cons.mpr ⟨am_alC i101_154 (s101_154 K), List.forall_mem_cons.mpr ⟨am_alS i101_157 (s101_157 K), List.forall_mem_cons.mpr ⟨am_alR i101_159 s101_159, fun _ h => absurd h List.not_mem_nil⟩⟩⟩⟩⟩⟩⟩⟩⟩⟩
set_option maxRecDepth 100000 in
theorem al101 (K : aK) : ∀ q ∈ (am_t101).map (fun z => z.1), am_All K 101 q := by
  have e : (am_t101).map (fun z => z.1) = [0, 1, 2, 5, 8, 9, 10, 11, 12, 13, 16, 17, 18, 19, 22, 23, 24, 25, 28, 30, 31, 32, 33, 34, 35, 37, 38, 41, 43, 44] ++ ([45, 46, 47, 48, 50, 51, 54, 56, 57, 58, 59, 60, 61, 63, 64, 67, 69, 70, 71, 72, 73, 74, 76, 77, 80, 82, 83, 84, 86, 87] ++ ([88, 90, 91, 92, 95, 96, 97, 100, 102, 103, 104, 106, 108, 110, 111, 114, 115, 118, 119, 122, 124, 125, 128, 130, 132, 133, 134, 135, 138, 141] ++ ([142, 143, 144, 146, 148, 150, 152, 154, 157, 159]))) := rfl
  rw [e]
  exact List.forall_mem_append.mpr ⟨al101_0 K, List.forall_mem_append.mpr ⟨al101_1 K, List.forall_mem_append.mpr ⟨al101_2 K, al101_3 K⟩⟩⟩
theorem i102_0 : am_ins 102 0 = (0, 1, 0, 0, []) := by decide +kernel
theorem d102_0 : decode (am_cod 102) 0 = .ok (.iconst 0, 1) := by decide +kernel
theorem s102_0 (K : aK) : am_Snd K 102 0 := sn_const1 i102_0 d102_0 rfl
theorem i102_1 : am_ins 102 1 = (2, 1, 1, 0, []) := by decide +kernel
theorem d102_1 : decode (am_cod 102) 1 = .ok (.istore_n 1, 1) := by decide +kernel
theorem s102_1 (K : aK) : am_Snd K 102 1 := sn_istore_n i102_1 d102_1 rfl (by decide +kernel)
theorem i102_2 : am_ins 102 2 = (0, 1, 0, 0, []) := by decide +kernel
theorem d102_2 : decode (am_cod 102) 2 = .ok (.iconst 0, 1) := by decide +kernel
theorem s102_2 (K : aK) : am_Snd K 102 2 := sn_const1 i102_2 d102_2 rfl
theorem i102_3 : am_ins 102 3 = (2, 2, 1, 0, []) := by decide +kernel
theorem d102_3 : decode (am_cod 102) 3 = .ok (.istore_n 2, 1) := by decide +kernel
theorem s102_3 (K : aK) : am_Snd K 102 3 := sn_istore_n i102_3 d102_3 rfl (by decide +kernel)
theorem i102_4 : am_ins 102 4 = (1, 2, 1, 0, []) := by decide +kernel
theorem d102_4 : decode (am_cod 102) 4 = .ok (.iload_n 2, 1) := by decide +kernel
theorem s102_4 (K : aK) : am_Snd K 102 4 := sn_iload_n i102_4 d102_4 rfl
theorem i102_5 : am_ins 102 5 = (0, 2, 0, 8, []) := by decide +kernel
theorem d102_5 : decode (am_cod 102) 5 = .ok (.bipush 8, 2) := by decide +kernel
theorem s102_5 (K : aK) : am_Snd K 102 5 := sn_const2 i102_5 d102_5 (by decide +kernel)
theorem i102_7 : am_ins 102 7 = (13, 3, 24, 0, []) := by decide +kernel
theorem d102_7 : decode (am_cod 102) 7 = .ok (.if_icmp .ge 17, 3) := by decide +kernel
theorem s102_7 (K : aK) : am_Snd K 102 7 := sn_icmp_ge i102_7 d102_7 rfl
theorem i102_10 : am_ins 102 10 = (1, 1, 1, 0, []) := by decide +kernel
theorem d102_10 : decode (am_cod 102) 10 = .ok (.iload_n 1, 1) := by decide +kernel
theorem s102_10 (K : aK) : am_Snd K 102 10 := sn_iload_n i102_10 d102_10 rfl
theorem i102_11 : am_ins 102 11 = (1, 0, 1, 0, []) := by decide +kernel
theorem d102_11 : decode (am_cod 102) 11 = .ok (.iload_n 0, 1) := by decide +kernel
theorem s102_11 (K : aK) : am_Snd K 102 11 := sn_iload_n i102_11 d102_11 rfl
theorem i102_12 : am_ins 102 12 = (1, 2, 1, 0, []) := by decide +kernel
theorem d102_12 : decode (am_cod 102) 12 = .ok (.iload_n 2, 1) := by decide +kernel
theorem s102_12 (K : aK) : am_Snd K 102 12 := sn_iload_n i102_12 d102_12 rfl
theorem i102_13 : am_ins 102 13 = (4, 7, 0, 0, []) := by decide +kernel
theorem d102_13 : decode (am_cod 102) 13 = .ok (.ishr, 1) := by decide +kernel
theorem s102_13 (K : aK) : am_Snd K 102 13 := sn_shr i102_13 d102_13 
theorem i102_14 : am_ins 102 14 = (0, 1, 0, 1, []) := by decide +kernel
theorem d102_14 : decode (am_cod 102) 14 = .ok (.iconst 1, 1) := by decide +kernel
theorem s102_14 (K : aK) : am_Snd K 102 14 := sn_const1 i102_14 d102_14 rfl
theorem i102_15 : am_ins 102 15 = (4, 3, 0, 0, []) := by decide +kernel
theorem d102_15 : decode (am_cod 102) 15 = .ok (.iand, 1) := by decide +kernel
theorem s102_15 (K : aK) : am_Snd K 102 15 := sn_and i102_15 d102_15 
theorem i102_16 : am_ins 102 16 = (4, 0, 0, 0, []) := by decide +kernel
theorem d102_16 : decode (am_cod 102) 16 = .ok (.iadd, 1) := by decide +kernel
theorem s102_16 (K : aK) : am_Snd K 102 16 := sn_add i102_16 d102_16 
theorem i102_17 : am_ins 102 17 = (2, 1, 1, 0, []) := by decide +kernel
theorem d102_17 : decode (am_cod 102) 17 = .ok (.istore_n 1, 1) := by decide +kernel
theorem s102_17 (K : aK) : am_Snd K 102 17 := sn_istore_n i102_17 d102_17 rfl (by decide +kernel)
theorem i102_18 : am_ins 102 18 = (3, 2, 3, 1, []) := by decide +kernel
theorem d102_18 : decode (am_cod 102) 18 = .ok (.iinc 2 1, 3) := by decide +kernel
theorem s102_18 (K : aK) : am_Snd K 102 18 := sn_iinc i102_18 d102_18 rfl (by decide +kernel)
theorem i102_21 : am_ins 102 21 = (14, 4, 0, 0, []) := by decide +kernel
theorem d102_21 : decode (am_cod 102) 21 = .ok (.goto (-17), 3) := by decide +kernel
theorem s102_21 (K : aK) : am_Snd K 102 21 := sn_goto i102_21 d102_21 rfl
theorem i102_24 : am_ins 102 24 = (1, 1, 1, 0, []) := by decide +kernel
theorem d102_24 : decode (am_cod 102) 24 = .ok (.iload_n 1, 1) := by decide +kernel
theorem s102_24 (K : aK) : am_Snd K 102 24 := sn_iload_n i102_24 d102_24 rfl
theorem i102_25 : am_ins 102 25 = (50, 0, 0, 0, []) := by decide +kernel
theorem d102_25 : decode (am_cod 102) 25 = .ok (.ireturn, 1) := by decide +kernel
theorem s102_25 : am_SndR 102 25 := sn_iret i102_25 d102_25 rfl
theorem al102_0 (K : aK) : ∀ q ∈ [0, 1, 2, 3, 4, 5, 7, 10, 11, 12, 13, 14, 15, 16, 17, 18, 21, 24, 25], am_All K 102 q := List.forall_mem_cons.mpr ⟨am_alS i102_0 (s102_0 K), List.forall_mem_cons.mpr ⟨am_alS i102_1 (s102_1 K), List.forall_mem_cons.mpr ⟨am_alS i102_2 (s102_2 K), List.forall_mem_cons.mpr ⟨am_alS i102_3 (s102_3 K), List.forall_mem_cons.mpr ⟨am_alS i102_4 (s102_4 K), List.forall_mem_cons.mpr ⟨am_alS i102_5 (s102_5 K), List.forall_mem_cons.mpr ⟨am_alS i102_7 (s102_7 K), List.forall_mem_cons.mpr ⟨am_alS i102_10 (s102_10 K), List.forall_mem_cons.mpr ⟨am_alS i102_11 (s102_11 K), List.forall_mem_cons.mpr ⟨am_alS i102_12 (s102_12 K), List.forall_mem_cons.mpr ⟨am_alS i102_13 (s102_13 K), List.forall_mem_cons.mpr ⟨am_alS i102_14 (s102_14 K), List.forall_mem_cons.mpr ⟨am_alS i102_15 (s102_15 K), List.forall_mem_cons.mpr ⟨am_alS i102_16 (s102_16 K), List.forall_mem_cons.mpr ⟨am_alS i102_17 (s102_17 K), List.forall_mem_cons.mpr ⟨am_alS i102_18 (s102_18 K), List.forall_mem_cons.mpr ⟨am_alS i102_21 (s102_21 K), List.forall_mem_cons.mpr ⟨am_alS i102_24 (s102_24 K), List.forall_mem_cons.mpr ⟨am_alR i102_25 s102_25, fun _ h => absurd h List.not_mem_nil⟩⟩⟩⟩⟩⟩⟩⟩⟩⟩⟩⟩⟩⟩⟩⟩⟩⟩⟩
set_option maxRecDepth 100000 in
theorem al102 (K : aK) : ∀ q ∈ (am_t102).map (fun z => z.1), am_All K 102 q := by
  have e : (am_t102).map (fun z => z.1) = [0, 1, 2, 3, 4, 5, 7, 10, 11, 12, 13, 14, 15, 16, 17, 18, 21, 24, 25] := rfl
  rw [e]
  exact al102_0 K
theorem i103_0 : am_ins 103 0 = (1, 1, 1, 0, []) := by decide +kernel
theorem d103_0 : decode (am_cod 103) 0 = .ok (.iload_n 1, 1) := by decide +kernel
theorem s103_0 (K : aK) : am_Snd K 103 0 := sn_iload_n i103_0 d103_0 rfl
theorem i103_1 : am_ins 103 1 = (61, 72, 1, 0, []) := by decide +kernel
theorem d103_1 : decode (am_cod 103) 1 = .ok (.invokestatic 141, 3) := by decide +kernel
theorem s103_1 (K : aK) : am_SndC K 103 1 := sc_S i103_1 d103_1 co72 w_586 w_587 w_6 hd72
theorem i103_4 : am_ins 103 4 = (12, 1, 9, 0, []) := by decide +kernel
theorem d103_4 : decode (am_cod 103) 4 = .ok (.ifCond .ne 5, 3) := by decide +kernel
theorem s103_4 (K : aK) : am_Snd K 103 4 := sn_if_ne i103_4 d103_4 rfl
theorem i103_7 : am_ins 103 7 = (0, 1, 0, (-1), []) := by decide +kernel
theorem d103_7 : decode (am_cod 103) 7 = .ok (.iconst (-1), 1) := by decide +kernel
theorem s103_7 (K : aK) : am_Snd K 103 7 := sn_const1 i103_7 d103_7 rfl
theorem i103_8 : am_ins 103 8 = (50, 0, 0, 0, []) := by decide +kernel
theorem d103_8 : decode (am_cod 103) 8 = .ok (.ireturn, 1) := by decide +kernel
theorem s103_8 : am_SndR 103 8 := sn_iret i103_8 d103_8 rfl
theorem i103_9 : am_ins 103 9 = (1, 2, 1, 0, []) := by decide +kernel
theorem d103_9 : decode (am_cod 103) 9 = .ok (.iload_n 2, 1) := by decide +kernel
theorem s103_9 (K : aK) : am_Snd K 103 9 := sn_iload_n i103_9 d103_9 rfl
theorem i103_10 : am_ins 103 10 = (0, 2, 0, 10, []) := by decide +kernel
theorem d103_10 : decode (am_cod 103) 10 = .ok (.bipush 10, 2) := by decide +kernel
theorem s103_10 (K : aK) : am_Snd K 103 10 := sn_const2 i103_10 d103_10 (by decide +kernel)
theorem i103_12 : am_ins 103 12 = (13, 2, 35, 0, []) := by decide +kernel
theorem d103_12 : decode (am_cod 103) 12 = .ok (.if_icmp .lt 23, 3) := by decide +kernel
theorem s103_12 (K : aK) : am_Snd K 103 12 := sn_icmp_lt i103_12 d103_12 rfl
theorem i103_15 : am_ins 103 15 = (1, 2, 1, 0, []) := by decide +kernel
theorem d103_15 : decode (am_cod 103) 15 = .ok (.iload_n 2, 1) := by decide +kernel
theorem s103_15 (K : aK) : am_Snd K 103 15 := sn_iload_n i103_15 d103_15 rfl
theorem i103_16 : am_ins 103 16 = (0, 2, 0, 13, []) := by decide +kernel
theorem d103_16 : decode (am_cod 103) 16 = .ok (.bipush 13, 2) := by decide +kernel
theorem s103_16 (K : aK) : am_Snd K 103 16 := sn_const2 i103_16 d103_16 (by decide +kernel)
theorem i103_18 : am_ins 103 18 = (13, 3, 35, 0, []) := by decide +kernel
theorem d103_18 : decode (am_cod 103) 18 = .ok (.if_icmp .ge 17, 3) := by decide +kernel
theorem s103_18 (K : aK) : am_Snd K 103 18 := sn_icmp_ge i103_18 d103_18 rfl
theorem i103_21 : am_ins 103 21 = (33, 0, 1, 0, []) := by decide +kernel
theorem d103_21 : decode (am_cod 103) 21 = .ok (.aload_n 0, 1) := by decide +kernel
theorem s103_21 (K : aK) : am_Snd K 103 21 := sn_aload_n i103_21 d103_21 rfl
theorem i103_22 : am_ins 103 22 = (18, 7, 17, 0, []) := by decide +kernel
theorem d103_22 : decode (am_cod 103) 22 = .ok (.getfield 59, 3) := by decide +kernel
theorem s103_22 (K : aK) : am_Snd K 103 22 := sn_get (C0 := CN7) (T := FT7) (Nf := 24) i103_22 d103_22 rfl (by decide +kernel) fin7 w_526 rfl
theorem i103_25 : am_ins 103 25 = (0, 1, 0, 3, []) := by decide +kernel
theorem d103_25 : decode (am_cod 103) 25 = .ok (.iconst 3, 1) := by decide +kernel
theorem s103_25 (K : aK) : am_Snd K 103 25 := sn_const1 i103_25 d103_25 rfl
theorem i103_26 : am_ins 103 26 = (1, 1, 1, 0, []) := by decide +kernel
theorem d103_26 : decode (am_cod 103) 26 = .ok (.iload_n 1, 1) := by decide +kernel
theorem s103_26 (K : aK) : am_Snd K 103 26 := sn_iload_n i103_26 d103_26 rfl
theorem i103_27 : am_ins 103 27 = (4, 2, 0, 0, []) := by decide +kernel
theorem d103_27 : decode (am_cod 103) 27 = .ok (.imul, 1) := by decide +kernel
theorem s103_27 (K : aK) : am_Snd K 103 27 := sn_mul i103_27 d103_27 
theorem i103_28 : am_ins 103 28 = (1, 2, 1, 0, []) := by decide +kernel
theorem d103_28 : decode (am_cod 103) 28 = .ok (.iload_n 2, 1) := by decide +kernel
theorem s103_28 (K : aK) : am_Snd K 103 28 := sn_iload_n i103_28 d103_28 rfl
theorem i103_29 : am_ins 103 29 = (4, 0, 0, 0, []) := by decide +kernel
theorem d103_29 : decode (am_cod 103) 29 = .ok (.iadd, 1) := by decide +kernel
theorem s103_29 (K : aK) : am_Snd K 103 29 := sn_add i103_29 d103_29 
theorem i103_30 : am_ins 103 30 = (0, 2, 0, 10, []) := by decide +kernel
theorem d103_30 : decode (am_cod 103) 30 = .ok (.bipush 10, 2) := by decide +kernel
theorem s103_30 (K : aK) : am_Snd K 103 30 := sn_const2 i103_30 d103_30 (by decide +kernel)
theorem i103_32 : am_ins 103 32 = (4, 1, 0, 0, []) := by decide +kernel
theorem d103_32 : decode (am_cod 103) 32 = .ok (.isub, 1) := by decide +kernel
theorem s103_32 (K : aK) : am_Snd K 103 32 := sn_sub i103_32 d103_32 
theorem i103_33 : am_ins 103 33 = (22, 0, 0, 0, []) := by decide +kernel
theorem d103_33 : decode (am_cod 103) 33 = .ok (.iaload, 1) := by decide +kernel
theorem s103_33 (K : aK) : am_Snd K 103 33 := sn_iald i103_33 d103_33 
theorem i103_34 : am_ins 103 34 = (50, 0, 0, 0, []) := by decide +kernel
theorem d103_34 : decode (am_cod 103) 34 = .ok (.ireturn, 1) := by decide +kernel
theorem s103_34 : am_SndR 103 34 := sn_iret i103_34 d103_34 rfl
theorem i103_35 : am_ins 103 35 = (1, 2, 1, 0, []) := by decide +kernel
theorem d103_35 : decode (am_cod 103) 35 = .ok (.iload_n 2, 1) := by decide +kernel
theorem s103_35 (K : aK) : am_Snd K 103 35 := sn_iload_n i103_35 d103_35 rfl
theorem i103_36 : am_ins 103 36 = (32, 136, 0, 0, [(0, 68), (1, 75), (2, 82), (3, 126)]) := by decide +kernel
theorem d103_36 : decode (am_cod 103) 36 = .ok (.tableswitch 100 0 3 #[32, 39, 46, 90], 32) := by decide +kernel
theorem s103_36 (K : aK) : am_Snd K 103 36 := sn_tsw (ts := [68, 75, 82, 126]) i103_36 d103_36 rfl (by decide) rfl (by decide)
theorem i103_68 : am_ins 103 68 = (33, 0, 1, 0, []) := by decide +kernel
theorem d103_68 : decode (am_cod 103) 68 = .ok (.aload_n 0, 1) := by decide +kernel
theorem s103_68 (K : aK) : am_Snd K 103 68 := sn_aload_n i103_68 d103_68 rfl
theorem i103_69 : am_ins 103 69 = (18, 7, 15, 0, []) := by decide +kernel
theorem d103_69 : decode (am_cod 103) 69 = .ok (.getfield 53, 3) := by decide +kernel
theorem s103_69 (K : aK) : am_Snd K 103 69 := sn_get (C0 := CN7) (T := FT7) (Nf := 24) i103_69 d103_69 rfl (by decide +kernel) fin7 w_524 rfl
theorem i103_72 : am_ins 103 72 = (1, 1, 1, 0, []) := by decide +kernel
theorem d103_72 : decode (am_cod 103) 72 = .ok (.iload_n 1, 1) := by decide +kernel
theorem s103_72 (K : aK) : am_Snd K 103 72 := sn_iload_n i103_72 d103_72 rfl
theorem i103_73 : am_ins 103 73 = (22, 0, 0, 0, []) := by decide +kernel
theorem d103_73 : decode (am_cod 103) 73 = .ok (.iaload, 1) := by decide +kernel
theorem s103_73 (K : aK) : am_Snd K 103 73 := sn_iald i103_73 d103_73 
theorem i103_74 : am_ins 103 74 = (50, 0, 0, 0, []) := by decide +kernel
theorem d103_74 : decode (am_cod 103) 74 = .ok (.ireturn, 1) := by decide +kernel
theorem s103_74 : am_SndR 103 74 := sn_iret i103_74 d103_74 rfl
theorem i103_75 : am_ins 103 75 = (33, 0, 1, 0, []) := by decide +kernel
theorem d103_75 : decode (am_cod 103) 75 = .ok (.aload_n 0, 1) := by decide +kernel
theorem s103_75 (K : aK) : am_Snd K 103 75 := sn_aload_n i103_75 d103_75 rfl
theorem i103_76 : am_ins 103 76 = (18, 7, 16, 0, []) := by decide +kernel
theorem d103_76 : decode (am_cod 103) 76 = .ok (.getfield 56, 3) := by decide +kernel
theorem s103_76 (K : aK) : am_Snd K 103 76 := sn_get (C0 := CN7) (T := FT7) (Nf := 24) i103_76 d103_76 rfl (by decide +kernel) fin7 w_525 rfl
theorem i103_79 : am_ins 103 79 = (1, 1, 1, 0, []) := by decide +kernel
theorem d103_79 : decode (am_cod 103) 79 = .ok (.iload_n 1, 1) := by decide +kernel
theorem s103_79 (K : aK) : am_Snd K 103 79 := sn_iload_n i103_79 d103_79 rfl
theorem i103_80 : am_ins 103 80 = (22, 0, 0, 0, []) := by decide +kernel
theorem d103_80 : decode (am_cod 103) 80 = .ok (.iaload, 1) := by decide +kernel
theorem s103_80 (K : aK) : am_Snd K 103 80 := sn_iald i103_80 d103_80 
theorem i103_81 : am_ins 103 81 = (50, 0, 0, 0, []) := by decide +kernel
theorem d103_81 : decode (am_cod 103) 81 = .ok (.ireturn, 1) := by decide +kernel
theorem s103_81 : am_SndR 103 81 := sn_iret i103_81 d103_81 rfl
theorem i103_82 : am_ins 103 82 = (0, 1, 0, 0, []) := by decide +kernel
theorem d103_82 : decode (am_cod 103) 82 = .ok (.iconst 0, 1) := by decide +kernel
theorem s103_82 (K : aK) : am_Snd K 103 82 := sn_const1 i103_82 d103_82 rfl
theorem i103_83 : am_ins 103 83 = (2, 3, 1, 0, []) := by decide +kernel
theorem d103_83 : decode (am_cod 103) 83 = .ok (.istore_n 3, 1) := by decide +kernel
theorem s103_83 (K : aK) : am_Snd K 103 83 := sn_istore_n i103_83 d103_83 rfl (by decide +kernel)
theorem i103_84 : am_ins 103 84 = (0, 1, 0, 0, []) := by decide +kernel
theorem d103_84 : decode (am_cod 103) 84 = .ok (.iconst 0, 1) := by decide +kernel
theorem s103_84 (K : aK) : am_Snd K 103 84 := sn_const1 i103_84 d103_84 rfl
theorem i103_85 : am_ins 103 85 = (2, 4, 2, 0, []) := by decide +kernel
theorem d103_85 : decode (am_cod 103) 85 = .ok (.istore 4, 2) := by decide +kernel
theorem s103_85 (K : aK) : am_Snd K 103 85 := sn_istore i103_85 d103_85 (by decide +kernel)
theorem i103_87 : am_ins 103 87 = (1, 4, 2, 0, []) := by decide +kernel
theorem d103_87 : decode (am_cod 103) 87 = .ok (.iload 4, 2) := by decide +kernel
theorem s103_87 (K : aK) : am_Snd K 103 87 := sn_iload i103_87 d103_87 
theorem i103_89 : am_ins 103 89 = (0, 2, 0, 8, []) := by decide +kernel
theorem d103_89 : decode (am_cod 103) 89 = .ok (.bipush 8, 2) := by decide +kernel
theorem s103_89 (K : aK) : am_Snd K 103 89 := sn_const2 i103_89 d103_89 (by decide +kernel)
theorem i103_91 : am_ins 103 91 = (13, 3, 124, 0, []) := by decide +kernel
theorem d103_91 : decode (am_cod 103) 91 = .ok (.if_icmp .ge 33, 3) := by decide +kernel
theorem s103_91 (K : aK) : am_Snd K 103 91 := sn_icmp_ge i103_91 d103_91 rfl
theorem i103_94 : am_ins 103 94 = (1, 3, 1, 0, []) := by decide +kernel
theorem d103_94 : decode (am_cod 103) 94 = .ok (.iload_n 3, 1) := by decide +kernel
theorem s103_94 (K : aK) : am_Snd K 103 94 := sn_iload_n i103_94 d103_94 rfl
theorem i103_95 : am_ins 103 95 = (33, 0, 1, 0, []) := by decide +kernel
theorem d103_95 : decode (am_cod 103) 95 = .ok (.aload_n 0, 1) := by decide +kernel
theorem s103_95 (K : aK) : am_Snd K 103 95 := sn_aload_n i103_95 d103_95 rfl
theorem i103_96 : am_ins 103 96 = (18, 7, 18, 0, []) := by decide +kernel
theorem d103_96 : decode (am_cod 103) 96 = .ok (.getfield 62, 3) := by decide +kernel
theorem s103_96 (K : aK) : am_Snd K 103 96 := sn_get (C0 := CN7) (T := FT7) (Nf := 24) i103_96 d103_96 rfl (by decide +kernel) fin7 w_527 rfl
theorem i103_99 : am_ins 103 99 = (0, 2, 0, 8, []) := by decide +kernel
theorem d103_99 : decode (am_cod 103) 99 = .ok (.bipush 8, 2) := by decide +kernel
theorem s103_99 (K : aK) : am_Snd K 103 99 := sn_const2 i103_99 d103_99 (by decide +kernel)
theorem i103_101 : am_ins 103 101 = (1, 1, 1, 0, []) := by decide +kernel
theorem d103_101 : decode (am_cod 103) 101 = .ok (.iload_n 1, 1) := by decide +kernel
theorem s103_101 (K : aK) : am_Snd K 103 101 := sn_iload_n i103_101 d103_101 rfl
theorem i103_102 : am_ins 103 102 = (4, 2, 0, 0, []) := by decide +kernel
theorem d103_102 : decode (am_cod 103) 102 = .ok (.imul, 1) := by decide +kernel
theorem s103_102 (K : aK) : am_Snd K 103 102 := sn_mul i103_102 d103_102 
theorem i103_103 : am_ins 103 103 = (1, 4, 2, 0, []) := by decide +kernel
theorem d103_103 : decode (am_cod 103) 103 = .ok (.iload 4, 2) := by decide +kernel
theorem s103_103 (K : aK) : am_Snd K 103 103 := sn_iload i103_103 d103_103 
theorem i103_105 : am_ins 103 105 = (4, 0, 0, 0, []) := by decide +kernel
theorem d103_105 : decode (am_cod 103) 105 = .ok (.iadd, 1) := by decide +kernel
theorem s103_105 (K : aK) : am_Snd K 103 105 := sn_add i103_105 d103_105 
theorem i103_106 : am_ins 103 106 = (22, 0, 0, 0, []) := by decide +kernel
theorem d103_106 : decode (am_cod 103) 106 = .ok (.iaload, 1) := by decide +kernel
theorem s103_106 (K : aK) : am_Snd K 103 106 := sn_iald i103_106 d103_106 
theorem i103_107 : am_ins 103 107 = (0, 1, 0, (-1), []) := by decide +kernel
theorem d103_107 : decode (am_cod 103) 107 = .ok (.iconst (-1), 1) := by decide +kernel
theorem s103_107 (K : aK) : am_Snd K 103 107 := sn_const1 i103_107 d103_107 rfl
theorem i103_108 : am_ins 103 108 = (13, 1, 115, 0, []) := by decide +kernel
theorem d103_108 : decode (am_cod 103) 108 = .ok (.if_icmp .ne 7, 3) := by decide +kernel
theorem s103_108 (K : aK) : am_Snd K 103 108 := sn_icmp_ne i103_108 d103_108 rfl
theorem i103_111 : am_ins 103 111 = (0, 1, 0, 0, []) := by decide +kernel
theorem d103_111 : decode (am_cod 103) 111 = .ok (.iconst 0, 1) := by decide +kernel
theorem s103_111 (K : aK) : am_Snd K 103 111 := sn_const1 i103_111 d103_111 rfl
theorem i103_112 : am_ins 103 112 = (14, 116, 0, 0, []) := by decide +kernel
theorem d103_112 : decode (am_cod 103) 112 = .ok (.goto 4, 3) := by decide +kernel
theorem s103_112 (K : aK) : am_Snd K 103 112 := sn_goto i103_112 d103_112 rfl
theorem i103_115 : am_ins 103 115 = (0, 1, 0, 1, []) := by decide +kernel
theorem d103_115 : decode (am_cod 103) 115 = .ok (.iconst 1, 1) := by decide +kernel
theorem s103_115 (K : aK) : am_Snd K 103 115 := sn_const1 i103_115 d103_115 rfl
theorem i103_116 : am_ins 103 116 = (4, 0, 0, 0, []) := by decide +kernel
theorem d103_116 : decode (am_cod 103) 116 = .ok (.iadd, 1) := by decide +kernel
theorem s103_116 (K : aK) : am_Snd K 103 116 := sn_add i103_116 d103_116 
theorem i103_117 : am_ins 103 117 = (2, 3, 1, 0, []) := by decide +kernel
theorem d103_117 : decode (am_cod 103) 117 = .ok (.istore_n 3, 1) := by decide +kernel
theorem s103_117 (K : aK) : am_Snd K 103 117 := sn_istore_n i103_117 d103_117 rfl (by decide +kernel)
theorem i103_118 : am_ins 103 118 = (3, 4, 3, 1, []) := by decide +kernel
theorem d103_118 : decode (am_cod 103) 118 = .ok (.iinc 4 1, 3) := by decide +kernel
theorem s103_118 (K : aK) : am_Snd K 103 118 := sn_iinc i103_118 d103_118 rfl (by decide +kernel)
theorem i103_121 : am_ins 103 121 = (14, 87, 0, 0, []) := by decide +kernel
theorem d103_121 : decode (am_cod 103) 121 = .ok (.goto (-34), 3) := by decide +kernel
theorem s103_121 (K : aK) : am_Snd K 103 121 := sn_goto i103_121 d103_121 rfl
theorem i103_124 : am_ins 103 124 = (1, 3, 1, 0, []) := by decide +kernel
theorem d103_124 : decode (am_cod 103) 124 = .ok (.iload_n 3, 1) := by decide +kernel
theorem s103_124 (K : aK) : am_Snd K 103 124 := sn_iload_n i103_124 d103_124 rfl
theorem i103_125 : am_ins 103 125 = (50, 0, 0, 0, []) := by decide +kernel
theorem d103_125 : decode (am_cod 103) 125 = .ok (.ireturn, 1) := by decide +kernel
theorem s103_125 : am_SndR 103 125 := sn_iret i103_125 d103_125 rfl
theorem i103_126 : am_ins 103 126 = (33, 0, 1, 0, []) := by decide +kernel
theorem d103_126 : decode (am_cod 103) 126 = .ok (.aload_n 0, 1) := by decide +kernel
theorem s103_126 (K : aK) : am_Snd K 103 126 := sn_aload_n i103_126 d103_126 rfl
theorem i103_127 : am_ins 103 127 = (18, 7, 19, 0, []) := by decide +kernel
theorem d103_127 : decode (am_cod 103) 127 = .ok (.getfield 65, 3) := by decide +kernel
theorem s103_127 (K : aK) : am_Snd K 103 127 := sn_get (C0 := CN7) (T := FT7) (Nf := 24) i103_127 d103_127 rfl (by decide +kernel) fin7 w_528 rfl
theorem i103_130 : am_ins 103 130 = (1, 1, 1, 0, []) := by decide +kernel
theorem d103_130 : decode (am_cod 103) 130 = .ok (.iload_n 1, 1) := by decide +kernel
theorem s103_130 (K : aK) : am_Snd K 103 130 := sn_iload_n i103_130 d103_130 rfl
theorem i103_131 : am_ins 103 131 = (22, 0, 0, 0, []) := by decide +kernel
theorem d103_131 : decode (am_cod 103) 131 = .ok (.iaload, 1) := by decide +kernel
theorem s103_131 (K : aK) : am_Snd K 103 131 := sn_iald i103_131 d103_131 
theorem i103_132 : am_ins 103 132 = (61, 102, 1, 0, []) := by decide +kernel
theorem d103_132 : decode (am_cod 103) 132 = .ok (.invokestatic 166, 3) := by decide +kernel
theorem s103_132 (K : aK) : am_SndC K 103 132 := sc_S i103_132 d103_132 co102 w_702 w_703 w_6 hd102
theorem i103_135 : am_ins 103 135 = (50, 0, 0, 0, []) := by decide +kernel
theorem d103_135 : decode (am_cod 103) 135 = .ok (.ireturn, 1) := by decide +kernel
theorem s103_135 : am_SndR 103 135 := sn_iret i103_135 d103_135 rfl
theorem i103_136 : am_ins 103 136 = (0, 1, 0, (-1), []) := by decide +kernel
theorem d103_136 : decode (am_cod 103) 136 = .ok (.iconst (-1), 1) := by decide +kernel
theorem s103_136 (K : aK) : am_Snd K 103 136 := sn_const1 i103_136 d103_136 rfl
theorem i103_137 : am_ins 103 137 = (50, 0, 0, 0, []) := by decide +kernel
theorem d103_137 : decode (am_cod 103) 137 = .ok (.ireturn, 1) := by decide +kernel
theorem s103_137 : am_SndR 103 137 := sn_iret i103_137 d103_137 rfl
theorem al103_0 (K : aK) : ∀ q ∈ [0, 1, 4, 7, 8, 9, 10, 12, 15, 16, 18, 21, 22, 25, 26, 27, 28, 29, 30, 32, 33, 34, 35, 36, 68, 69, 72, 73, 74, 75], am_All K 103 q := List.forall_mem_cons.mpr ⟨am_alS i103_0 (s103_0 K), List.forall_mem_cons.mpr ⟨am_alC i103_1 (s103_1 K), List.forall_mem_cons.mpr ⟨am_alS i103_4 (s103_4 K), List.forall_mem_cons.mpr ⟨am_alS i103_7 (s103_7 K), List.forall_mem_cons.mpr ⟨am_alR i103_8 s103_8, List.forall_mem_cons.mpr ⟨am_alS i103_9 (s103_9 K), List.forall_mem_cons.mpr ⟨am_alS i103_10 (s103_10 K), List.forall_mem_cons.mpr ⟨am_alS i103_12 (s103_12 K), List.forall_mem_cons.mpr ⟨am_alS i103_15 (s103_15 K), List.forall_mem_cons.mpr ⟨am_alS i103_16 (s103_16 K), List.forall_mem_cons.mpr ⟨am_alS i103_18 (s103_18 K), List.forall_mem_cons.mpr ⟨am_alS i103_21 (s103_21 K), List.forall_mem_cons.mpr ⟨am_alS i103_22 (s103_22 K), List.forall_mem_cons.mpr ⟨am_alS i103_25 (s103_25 K), List.forall_mem_cons.mpr ⟨am_alS i103_26 (s103_26 K), List.forall_mem_cons.mpr ⟨am_alS i103_27 (s103_27 K), List.forall_mem_cons.mpr ⟨am_alS i103_28 (s103_28 K), List.forall_mem_cons.mpr ⟨am_alS i103_29 (s103_29 K), List.forall_mem_cons.mpr ⟨am_alS i103_30 (s103_30 K), List.forall_mem_cons.mpr ⟨am_alS i103_32 (s103_32 K), List.forall_mem_cons.mpr ⟨am_alS i103_33 (s103_33 K), List.forall_mem_cons.mpr ⟨am_alR i103_34 s103_34, List.forall_mem_cons.mpr ⟨am_alS i103_35 (s103_35 K), List.forall_mem_cons.mpr ⟨am_alS i103_36 (s103_36 K), List.forall_mem_cons.mpr ⟨am_alS i103_68 (s103_68 K), List.forall_mem_cons.mpr ⟨am_alS i103_69 (s103_69 K), List.forall_mem_cons.mpr ⟨am_alS i103_72 (s103_72 K), List.forall_mem_cons.mpr ⟨am_alS i103_73 (s103_73 K), List.forall_mem_cons.mpr ⟨am_alR i103_74 s103_74, List.forall_mem_cons.mpr ⟨am_alS i103_75 (s103_75 K), fun _ h => absurd h List.not_mem_nil⟩⟩⟩⟩⟩⟩⟩⟩⟩⟩⟩⟩⟩⟩⟩⟩⟩⟩⟩⟩⟩⟩⟩⟩⟩⟩⟩⟩⟩⟩
theorem al103_1 (K : aK) : ∀ q ∈ [76, 79, 80, 81, 82, 83, 84, 85, 87, 89, 91, 94, 95, 96, 99, 101, 102, 103, 105, 106, 107, 108, 111, 112, 115, 116, 117, 118, 121, 124], am_All K 103 q := List.forall_mem_cons.mpr ⟨am_alS i103_76 (s103_76 K), List.forall_mem_cons.mpr ⟨am_alS i103_79 (s103_79 K), List.forall_mem_cons.mpr ⟨am_alS i103_80 (s103_80 K), List.forall_mem_cons.mpr ⟨am_alR i103_81 s103_81, List.forall_mem_cons.mpr ⟨am_alS i103_82 (s103_82 K), List.forall_mem_cons.mpr ⟨am_alS i103_83 (s103_83 K), List.forall_mem_cons.mpr ⟨am_alS i103_84 (s103_84 K), List.forall_mem_cons.mpr ⟨am_alS i103_85 (s103_85 K), List.forall_mem_cons.mpr ⟨am_alS i103_87 (s103_87 K), List.forall_mem_cons.mpr ⟨am_alS i103_89 (s103_89 K), List.forall_mem_cons.mpr ⟨am_alS i103_91 (s103_91 K), List.forall_mem_cons.mpr ⟨am_alS i103_94 (s103_94 K), List.forall_mem_cons.mpr ⟨am_alS i103_95 (s103_95 K), List.forall_mem_cons.mpr ⟨am_alS i103_96 (s103_96 K), List.forall_mem_cons.mpr ⟨am_alS i103_99 (s103_99 K), List.forall_mem_cons.mpr ⟨am_alS i103_101 (s103_101 K), List.forall_mem_cons.mpr ⟨am_alS i103_102 (s103_102 K), List.forall_mem_cons.mpr ⟨am_alS i103_103 (s103_103 K), List.forall_mem_cons.mpr ⟨am_alS i103_105 (s103_105 K), List.forall_mem_cons.mpr ⟨am_alS i103_106 (s103_106 K), List.forall_mem_cons.mpr ⟨am_alS i103_107 (s103_107 K), List.forall_mem_cons.mpr ⟨am_alS i103_108 (s103_108 K), List.forall_mem_cons.mpr ⟨am_alS i103_111 (s103_111 K), List.forall_mem_cons.mpr ⟨am_alS i103_112 (s103_112 K), List.forall_mem_cons.mpr ⟨am_alS i103_115 (s103_115 K), List.forall_mem_cons.mpr ⟨am_alS i103_116 (s103_116 K), List.forall_mem_cons.mpr ⟨am_alS i103_117 (s103_117 K), List.forall_mem_cons.mpr ⟨am_alS i103_118 (s103_118 K), List.forall_mem_cons.mpr ⟨am_alS i103_121 (s103_121 K), List.forall_mem_cons.mpr ⟨am_alS i103_124 (s103_124 K), fun _ h => absurd h List.not_mem_nil⟩⟩⟩⟩⟩⟩⟩⟩⟩⟩⟩⟩⟩⟩⟩⟩⟩⟩⟩⟩⟩⟩⟩⟩⟩⟩⟩⟩⟩⟩
theorem al103_2 (K : aK) : ∀ q ∈ [125, 126, 127, 130, 131, 132, 135, 136, 137], am_All K 103 q := List.forall_mem_cons.mpr ⟨am_alR i103_125 s103_125, List.forall_mem_cons.mpr ⟨am_alS i103_126 (s103_126 K), List.forall_mem_cons.mpr ⟨am_alS i103_127 (s103_127 K), List.forall_mem_cons.mpr ⟨am_alS i103_130 (s103_130 K), List.forall_mem_cons.mpr ⟨am_alS i103_131 (s103_131 K), List.forall_mem_cons.mpr ⟨am_alC i103_132 (s103_132 K), List.forall_mem_cons.mpr ⟨am_alR i103_135 s103_135, List.forall_mem_cons.mpr ⟨am_alS i103_136 (s103_136 K), List.forall_mem_cons.mpr ⟨am_alR i103_137 s103_137, fun _ h => absurd h List.not_mem_nil⟩⟩⟩⟩⟩⟩⟩⟩⟩
set_option maxRecDepth 100000 in
theorem al103 (K : aK) : ∀ q ∈ (am_t103).map (fun z => z.1), am_All K 103 q := by
  have e : (am_t103).map (fun z => z.1) = [0, 1, 4, 7, 8, 9, 10, 12, 15, 16, 18, 21, 22, 25, 26, 27, 28, 29, 30, 32, 33, 34, 35, 36, 68, 69, 72, 73, 74, 75] ++ ([76, 79, 80, 81, 82, 83, 84, 85, 87, 89, 91, 94, 95, 96, 99, 101, 102, 103, 105, 106, 107, 108, 111, 112, 115, 116, 117, 118, 121, 124] ++ ([125, 126, 127, 130, 131, 132, 135, 136, 137])) := rfl
  rw [e]
  exact List.forall_mem_append.mpr ⟨al103_0 K, List.forall_mem_append.mpr ⟨al103_1 K, al103_2 K⟩⟩
theorem i104_0 : am_ins 104 0 = (0, 1, 0, 0, []) := by decide +kernel
theorem d104_0 : decode (am_cod 104) 0 = .ok (.iconst 0, 1) := by decide +kernel
theorem s104_0 (K : aK) : am_Snd K 104 0 := sn_const1 i104_0 d104_0 rfl
theorem i104_1 : am_ins 104 1 = (2, 3, 1, 0, []) := by decide +kernel
theorem d104_1 : decode (am_cod 104) 1 = .ok (.istore_n 3, 1) := by decide +kernel
theorem s104_1 (K : aK) : am_Snd K 104 1 := sn_istore_n i104_1 d104_1 rfl (by decide +kernel)
theorem i104_2 : am_ins 104 2 = (0, 1, 0, 0, []) := by decide +kernel
theorem d104_2 : decode (am_cod 104) 2 = .ok (.iconst 0, 1) := by decide +kernel
theorem s104_2 (K : aK) : am_Snd K 104 2 := sn_const1 i104_2 d104_2 rfl
theorem i104_3 : am_ins 104 3 = (2, 4, 2, 0, []) := by decide +kernel
theorem d104_3 : decode (am_cod 104) 3 = .ok (.istore 4, 2) := by decide +kernel
theorem s104_3 (K : aK) : am_Snd K 104 3 := sn_istore i104_3 d104_3 (by decide +kernel)
theorem i104_5 : am_ins 104 5 = (1, 4, 2, 0, []) := by decide +kernel
theorem d104_5 : decode (am_cod 104) 5 = .ok (.iload 4, 2) := by decide +kernel
theorem s104_5 (K : aK) : am_Snd K 104 5 := sn_iload i104_5 d104_5 
theorem i104_7 : am_ins 104 7 = (33, 0, 1, 0, []) := by decide +kernel
theorem d104_7 : decode (am_cod 104) 7 = .ok (.aload_n 0, 1) := by decide +kernel
theorem s104_7 (K : aK) : am_Snd K 104 7 := sn_aload_n i104_7 d104_7 rfl
theorem i104_8 : am_ins 104 8 = (18, 7, 0, 0, []) := by decide +kernel
theorem d104_8 : decode (am_cod 104) 8 = .ok (.getfield 132, 3) := by decide +kernel
theorem s104_8 (K : aK) : am_Snd K 104 8 := sn_get (C0 := CN7) (T := FT7) (Nf := 24) i104_8 d104_8 rfl (by decide +kernel) fin7 w_509 rfl
theorem i104_11 : am_ins 104 11 = (13, 3, 45, 0, []) := by decide +kernel
theorem d104_11 : decode (am_cod 104) 11 = .ok (.if_icmp .ge 34, 3) := by decide +kernel
theorem s104_11 (K : aK) : am_Snd K 104 11 := sn_icmp_ge i104_11 d104_11 rfl
theorem i104_14 : am_ins 104 14 = (1, 3, 1, 0, []) := by decide +kernel
theorem d104_14 : decode (am_cod 104) 14 = .ok (.iload_n 3, 1) := by decide +kernel
theorem s104_14 (K : aK) : am_Snd K 104 14 := sn_iload_n i104_14 d104_14 rfl
theorem i104_15 : am_ins 104 15 = (33, 0, 1, 0, []) := by decide +kernel
theorem d104_15 : decode (am_cod 104) 15 = .ok (.aload_n 0, 1) := by decide +kernel
theorem s104_15 (K : aK) : am_Snd K 104 15 := sn_aload_n i104_15 d104_15 rfl
theorem i104_16 : am_ins 104 16 = (18, 7, 11, 0, []) := by decide +kernel
theorem d104_16 : decode (am_cod 104) 16 = .ok (.getfield 41, 3) := by decide +kernel
theorem s104_16 (K : aK) : am_Snd K 104 16 := sn_get (C0 := CN7) (T := FT7) (Nf := 24) i104_16 d104_16 rfl (by decide +kernel) fin7 w_520 rfl
theorem i104_19 : am_ins 104 19 = (0, 3, 0, 200, []) := by decide +kernel
theorem d104_19 : decode (am_cod 104) 19 = .ok (.sipush 200, 3) := by decide +kernel
theorem s104_19 (K : aK) : am_Snd K 104 19 := sn_const3 i104_19 d104_19 (by decide +kernel)
theorem i104_22 : am_ins 104 22 = (1, 1, 1, 0, []) := by decide +kernel
theorem d104_22 : decode (am_cod 104) 22 = .ok (.iload_n 1, 1) := by decide +kernel
theorem s104_22 (K : aK) : am_Snd K 104 22 := sn_iload_n i104_22 d104_22 rfl
theorem i104_23 : am_ins 104 23 = (4, 2, 0, 0, []) := by decide +kernel
theorem d104_23 : decode (am_cod 104) 23 = .ok (.imul, 1) := by decide +kernel
theorem s104_23 (K : aK) : am_Snd K 104 23 := sn_mul i104_23 d104_23 
theorem i104_24 : am_ins 104 24 = (1, 4, 2, 0, []) := by decide +kernel
theorem d104_24 : decode (am_cod 104) 24 = .ok (.iload 4, 2) := by decide +kernel
theorem s104_24 (K : aK) : am_Snd K 104 24 := sn_iload i104_24 d104_24 
theorem i104_26 : am_ins 104 26 = (4, 0, 0, 0, []) := by decide +kernel
theorem d104_26 : decode (am_cod 104) 26 = .ok (.iadd, 1) := by decide +kernel
theorem s104_26 (K : aK) : am_Snd K 104 26 := sn_add i104_26 d104_26 
theorem i104_27 : am_ins 104 27 = (22, 0, 0, 0, []) := by decide +kernel
theorem d104_27 : decode (am_cod 104) 27 = .ok (.iaload, 1) := by decide +kernel
theorem s104_27 (K : aK) : am_Snd K 104 27 := sn_iald i104_27 d104_27 
theorem i104_28 : am_ins 104 28 = (1, 2, 1, 0, []) := by decide +kernel
theorem d104_28 : decode (am_cod 104) 28 = .ok (.iload_n 2, 1) := by decide +kernel
theorem s104_28 (K : aK) : am_Snd K 104 28 := sn_iload_n i104_28 d104_28 rfl
theorem i104_29 : am_ins 104 29 = (13, 1, 36, 0, []) := by decide +kernel
theorem d104_29 : decode (am_cod 104) 29 = .ok (.if_icmp .ne 7, 3) := by decide +kernel
theorem s104_29 (K : aK) : am_Snd K 104 29 := sn_icmp_ne i104_29 d104_29 rfl
theorem i104_32 : am_ins 104 32 = (0, 1, 0, 1, []) := by decide +kernel
theorem d104_32 : decode (am_cod 104) 32 = .ok (.iconst 1, 1) := by decide +kernel
theorem s104_32 (K : aK) : am_Snd K 104 32 := sn_const1 i104_32 d104_32 rfl
theorem i104_33 : am_ins 104 33 = (14, 37, 0, 0, []) := by decide +kernel
theorem d104_33 : decode (am_cod 104) 33 = .ok (.goto 4, 3) := by decide +kernel
theorem s104_33 (K : aK) : am_Snd K 104 33 := sn_goto i104_33 d104_33 rfl
theorem i104_36 : am_ins 104 36 = (0, 1, 0, 0, []) := by decide +kernel
theorem d104_36 : decode (am_cod 104) 36 = .ok (.iconst 0, 1) := by decide +kernel
theorem s104_36 (K : aK) : am_Snd K 104 36 := sn_const1 i104_36 d104_36 rfl
theorem i104_37 : am_ins 104 37 = (4, 0, 0, 0, []) := by decide +kernel
theorem d104_37 : decode (am_cod 104) 37 = .ok (.iadd, 1) := by decide +kernel
theorem s104_37 (K : aK) : am_Snd K 104 37 := sn_add i104_37 d104_37 
theorem i104_38 : am_ins 104 38 = (2, 3, 1, 0, []) := by decide +kernel
theorem d104_38 : decode (am_cod 104) 38 = .ok (.istore_n 3, 1) := by decide +kernel
theorem s104_38 (K : aK) : am_Snd K 104 38 := sn_istore_n i104_38 d104_38 rfl (by decide +kernel)
theorem i104_39 : am_ins 104 39 = (3, 4, 3, 1, []) := by decide +kernel
theorem d104_39 : decode (am_cod 104) 39 = .ok (.iinc 4 1, 3) := by decide +kernel
theorem s104_39 (K : aK) : am_Snd K 104 39 := sn_iinc i104_39 d104_39 rfl (by decide +kernel)
theorem i104_42 : am_ins 104 42 = (14, 5, 0, 0, []) := by decide +kernel
theorem d104_42 : decode (am_cod 104) 42 = .ok (.goto (-37), 3) := by decide +kernel
theorem s104_42 (K : aK) : am_Snd K 104 42 := sn_goto i104_42 d104_42 rfl
theorem i104_45 : am_ins 104 45 = (1, 3, 1, 0, []) := by decide +kernel
theorem d104_45 : decode (am_cod 104) 45 = .ok (.iload_n 3, 1) := by decide +kernel
theorem s104_45 (K : aK) : am_Snd K 104 45 := sn_iload_n i104_45 d104_45 rfl
theorem i104_46 : am_ins 104 46 = (50, 0, 0, 0, []) := by decide +kernel
theorem d104_46 : decode (am_cod 104) 46 = .ok (.ireturn, 1) := by decide +kernel
theorem s104_46 : am_SndR 104 46 := sn_iret i104_46 d104_46 rfl
theorem al104_0 (K : aK) : ∀ q ∈ [0, 1, 2, 3, 5, 7, 8, 11, 14, 15, 16, 19, 22, 23, 24, 26, 27, 28, 29, 32, 33, 36, 37, 38, 39, 42, 45, 46], am_All K 104 q := List.forall_mem_cons.mpr ⟨am_alS i104_0 (s104_0 K), List.forall_mem_cons.mpr ⟨am_alS i104_1 (s104_1 K), List.forall_mem_cons.mpr ⟨am_alS i104_2 (s104_2 K), List.forall_mem_cons.mpr ⟨am_alS i104_3 (s104_3 K), List.forall_mem_cons.mpr ⟨am_alS i104_5 (s104_5 K), List.forall_mem_cons.mpr ⟨am_alS i104_7 (s104_7 K), List.forall_mem_cons.mpr ⟨am_alS i104_8 (s104_8 K), List.forall_mem_cons.mpr ⟨am_alS i104_11 (s104_11 K), List.forall_mem_cons.mpr ⟨am_alS i104_14 (s104_14 K), List.forall_mem_cons.mpr ⟨am_alS i104_15 (s104_15 K), List.forall_mem_cons.mpr ⟨am_alS i104_16 (s104_16 K), List.forall_mem_cons.mpr ⟨am_alS i104_19 (s104_19 K), List.forall_mem_cons.mpr ⟨am_alS i104_22 (s104_22 K), List.forall_mem_cons.mpr ⟨am_alS i104_23 (s104_23 K), List.forall_mem_cons.mpr ⟨am_alS i104_24 (s104_24 K), List.forall_mem_cons.mpr ⟨am_alS i104_26 (s104_26 K), List.forall_mem_cons.mpr ⟨am_alS i104_27 (s104_27 K), List.forall_mem_cons.mpr ⟨am_alS i104_28 (s104_28 K), List.forall_mem_cons.mpr ⟨am_alS i104_29 (s104_29 K), List.forall_mem_cons.mpr ⟨am_alS i104_32 (s104_32 K), List.forall_mem_cons.mpr ⟨am_alS i104_33 (s104_33 K), List.forall_mem_cons.mpr ⟨am_alS i104_36 (s104_36 K), List.forall_mem_cons.mpr ⟨am_alS i104_37 (s104_37 K), List.forall_mem_cons.mpr ⟨am_alS i104_38 (s104_38 K), List.forall_mem_cons.mpr ⟨am_alS i104_39 (s104_39 K), List.forall_mem_cons.mpr ⟨am_alS i104_42 (s104_42 K), List.forall_mem_cons.mpr ⟨am_alS i104_45 (s104_45 K), List.forall_mem_cons.mpr ⟨am_alR i104_46 s104_46, fun _ h => absurd h List.not_mem_nil⟩⟩⟩⟩⟩⟩⟩⟩⟩⟩⟩⟩⟩⟩⟩⟩⟩⟩⟩⟩⟩⟩⟩⟩⟩⟩⟩⟩
set_option maxRecDepth 100000 in
theorem al104 (K : aK) : ∀ q ∈ (am_t104).map (fun z => z.1), am_All K 104 q := by
  have e : (am_t104).map (fun z => z.1) = [0, 1, 2, 3, 5, 7, 8, 11, 14, 15, 16, 19, 22, 23, 24, 26, 27, 28, 29, 32, 33, 36, 37, 38, 39, 42, 45, 46] := rfl
  rw [e]
  exact al104_0 K
theorem i105_0 : am_ins 105 0 = (1, 1, 1, 0, []) := by decide +kernel
theorem d105_0 : decode (am_cod 105) 0 = .ok (.iload_n 1, 1) := by decide +kernel
theorem s105_0 (K : aK) : am_Snd K 105 0 := sn_iload_n i105_0 d105_0 rfl
theorem i105_1 : am_ins 105 1 = (61, 73, 1, 0, []) := by decide +kernel
theorem d105_1 : decode (am_cod 105) 1 = .ok (.invokestatic 77, 3) := by decide +kernel
theorem s105_1 (K : aK) : am_SndC K 105 1 := sc_S i105_1 d105_1 co73 w_684 w_685 w_6 hd73
theorem i105_4 : am_ins 105 4 = (12, 1, 9, 0, []) := by decide +kernel
theorem d105_4 : decode (am_cod 105) 4 = .ok (.ifCond .ne 5, 3) := by decide +kernel
theorem s105_4 (K : aK) : am_Snd K 105 4 := sn_if_ne i105_4 d105_4 rfl
theorem i105_7 : am_ins 105 7 = (0, 1, 0, (-1), []) := by decide +kernel
theorem d105_7 : decode (am_cod 105) 7 = .ok (.iconst (-1), 1) := by decide +kernel
theorem s105_7 (K : aK) : am_Snd K 105 7 := sn_const1 i105_7 d105_7 rfl
theorem i105_8 : am_ins 105 8 = (50, 0, 0, 0, []) := by decide +kernel
theorem d105_8 : decode (am_cod 105) 8 = .ok (.ireturn, 1) := by decide +kernel
theorem s105_8 : am_SndR 105 8 := sn_iret i105_8 d105_8 rfl
theorem i105_9 : am_ins 105 9 = (1, 2, 1, 0, []) := by decide +kernel
theorem d105_9 : decode (am_cod 105) 9 = .ok (.iload_n 2, 1) := by decide +kernel
theorem s105_9 (K : aK) : am_Snd K 105 9 := sn_iload_n i105_9 d105_9 rfl
theorem i105_10 : am_ins 105 10 = (0, 2, 0, 10, []) := by decide +kernel
theorem d105_10 : decode (am_cod 105) 10 = .ok (.bipush 10, 2) := by decide +kernel
theorem s105_10 (K : aK) : am_Snd K 105 10 := sn_const2 i105_10 d105_10 (by decide +kernel)
theorem i105_12 : am_ins 105 12 = (13, 2, 35, 0, []) := by decide +kernel
theorem d105_12 : decode (am_cod 105) 12 = .ok (.if_icmp .lt 23, 3) := by decide +kernel
theorem s105_12 (K : aK) : am_Snd K 105 12 := sn_icmp_lt i105_12 d105_12 rfl
theorem i105_15 : am_ins 105 15 = (1, 2, 1, 0, []) := by decide +kernel
theorem d105_15 : decode (am_cod 105) 15 = .ok (.iload_n 2, 1) := by decide +kernel
theorem s105_15 (K : aK) : am_Snd K 105 15 := sn_iload_n i105_15 d105_15 rfl
theorem i105_16 : am_ins 105 16 = (0, 2, 0, 13, []) := by decide +kernel
theorem d105_16 : decode (am_cod 105) 16 = .ok (.bipush 13, 2) := by decide +kernel
theorem s105_16 (K : aK) : am_Snd K 105 16 := sn_const2 i105_16 d105_16 (by decide +kernel)
theorem i105_18 : am_ins 105 18 = (13, 3, 35, 0, []) := by decide +kernel
theorem d105_18 : decode (am_cod 105) 18 = .ok (.if_icmp .ge 17, 3) := by decide +kernel
theorem s105_18 (K : aK) : am_Snd K 105 18 := sn_icmp_ge i105_18 d105_18 rfl
theorem i105_21 : am_ins 105 21 = (33, 0, 1, 0, []) := by decide +kernel
theorem d105_21 : decode (am_cod 105) 21 = .ok (.aload_n 0, 1) := by decide +kernel
theorem s105_21 (K : aK) : am_Snd K 105 21 := sn_aload_n i105_21 d105_21 rfl
theorem i105_22 : am_ins 105 22 = (18, 7, 13, 0, []) := by decide +kernel
theorem d105_22 : decode (am_cod 105) 22 = .ok (.getfield 47, 3) := by decide +kernel
theorem s105_22 (K : aK) : am_Snd K 105 22 := sn_get (C0 := CN7) (T := FT7) (Nf := 24) i105_22 d105_22 rfl (by decide +kernel) fin7 w_522 rfl
theorem i105_25 : am_ins 105 25 = (0, 1, 0, 3, []) := by decide +kernel
theorem d105_25 : decode (am_cod 105) 25 = .ok (.iconst 3, 1) := by decide +kernel
theorem s105_25 (K : aK) : am_Snd K 105 25 := sn_const1 i105_25 d105_25 rfl
theorem i105_26 : am_ins 105 26 = (1, 1, 1, 0, []) := by decide +kernel
theorem d105_26 : decode (am_cod 105) 26 = .ok (.iload_n 1, 1) := by decide +kernel
theorem s105_26 (K : aK) : am_Snd K 105 26 := sn_iload_n i105_26 d105_26 rfl
theorem i105_27 : am_ins 105 27 = (4, 2, 0, 0, []) := by decide +kernel
theorem d105_27 : decode (am_cod 105) 27 = .ok (.imul, 1) := by decide +kernel
theorem s105_27 (K : aK) : am_Snd K 105 27 := sn_mul i105_27 d105_27 
theorem i105_28 : am_ins 105 28 = (1, 2, 1, 0, []) := by decide +kernel
theorem d105_28 : decode (am_cod 105) 28 = .ok (.iload_n 2, 1) := by decide +kernel
theorem s105_28 (K : aK) : am_Snd K 105 28 := sn_iload_n i105_28 d105_28 rfl
theorem i105_29 : am_ins 105 29 = (4, 0, 0, 0, []) := by decide +kernel
theorem d105_29 : decode (am_cod 105) 29 = .ok (.iadd, 1) := by decide +kernel
theorem s105_29 (K : aK) : am_Snd K 105 29 := sn_add i105_29 d105_29 
theorem i105_30 : am_ins 105 30 = (0, 2, 0, 10, []) := by decide +kernel
theorem d105_30 : decode (am_cod 105) 30 = .ok (.bipush 10, 2) := by decide +kernel
theorem s105_30 (K : aK) : am_Snd K 105 30 := sn_const2 i105_30 d105_30 (by decide +kernel)
theorem i105_32 : am_ins 105 32 = (4, 1, 0, 0, []) := by decide +kernel
theorem d105_32 : decode (am_cod 105) 32 = .ok (.isub, 1) := by decide +kernel
theorem s105_32 (K : aK) : am_Snd K 105 32 := sn_sub i105_32 d105_32 
theorem i105_33 : am_ins 105 33 = (22, 0, 0, 0, []) := by decide +kernel
theorem d105_33 : decode (am_cod 105) 33 = .ok (.iaload, 1) := by decide +kernel
theorem s105_33 (K : aK) : am_Snd K 105 33 := sn_iald i105_33 d105_33 
theorem i105_34 : am_ins 105 34 = (50, 0, 0, 0, []) := by decide +kernel
theorem d105_34 : decode (am_cod 105) 34 = .ok (.ireturn, 1) := by decide +kernel
theorem s105_34 : am_SndR 105 34 := sn_iret i105_34 d105_34 rfl
theorem i105_35 : am_ins 105 35 = (1, 2, 1, 0, []) := by decide +kernel
theorem d105_35 : decode (am_cod 105) 35 = .ok (.iload_n 2, 1) := by decide +kernel
theorem s105_35 (K : aK) : am_Snd K 105 35 := sn_iload_n i105_35 d105_35 rfl
theorem i105_36 : am_ins 105 36 = (0, 2, 0, 20, []) := by decide +kernel
theorem d105_36 : decode (am_cod 105) 36 = .ok (.bipush 20, 2) := by decide +kernel
theorem s105_36 (K : aK) : am_Snd K 105 36 := sn_const2 i105_36 d105_36 (by decide +kernel)
theorem i105_38 : am_ins 105 38 = (13, 2, 61, 0, []) := by decide +kernel
theorem d105_38 : decode (am_cod 105) 38 = .ok (.if_icmp .lt 23, 3) := by decide +kernel
theorem s105_38 (K : aK) : am_Snd K 105 38 := sn_icmp_lt i105_38 d105_38 rfl
theorem i105_41 : am_ins 105 41 = (1, 2, 1, 0, []) := by decide +kernel
theorem d105_41 : decode (am_cod 105) 41 = .ok (.iload_n 2, 1) := by decide +kernel
theorem s105_41 (K : aK) : am_Snd K 105 41 := sn_iload_n i105_41 d105_41 rfl
theorem i105_42 : am_ins 105 42 = (0, 2, 0, 23, []) := by decide +kernel
theorem d105_42 : decode (am_cod 105) 42 = .ok (.bipush 23, 2) := by decide +kernel
theorem s105_42 (K : aK) : am_Snd K 105 42 := sn_const2 i105_42 d105_42 (by decide +kernel)
theorem i105_44 : am_ins 105 44 = (13, 3, 61, 0, []) := by decide +kernel
theorem d105_44 : decode (am_cod 105) 44 = .ok (.if_icmp .ge 17, 3) := by decide +kernel
theorem s105_44 (K : aK) : am_Snd K 105 44 := sn_icmp_ge i105_44 d105_44 rfl
theorem i105_47 : am_ins 105 47 = (33, 0, 1, 0, []) := by decide +kernel
theorem d105_47 : decode (am_cod 105) 47 = .ok (.aload_n 0, 1) := by decide +kernel
theorem s105_47 (K : aK) : am_Snd K 105 47 := sn_aload_n i105_47 d105_47 rfl
theorem i105_48 : am_ins 105 48 = (18, 7, 14, 0, []) := by decide +kernel
theorem d105_48 : decode (am_cod 105) 48 = .ok (.getfield 50, 3) := by decide +kernel
theorem s105_48 (K : aK) : am_Snd K 105 48 := sn_get (C0 := CN7) (T := FT7) (Nf := 24) i105_48 d105_48 rfl (by decide +kernel) fin7 w_523 rfl
theorem i105_51 : am_ins 105 51 = (0, 1, 0, 3, []) := by decide +kernel
theorem d105_51 : decode (am_cod 105) 51 = .ok (.iconst 3, 1) := by decide +kernel
theorem s105_51 (K : aK) : am_Snd K 105 51 := sn_const1 i105_51 d105_51 rfl
theorem i105_52 : am_ins 105 52 = (1, 1, 1, 0, []) := by decide +kernel
theorem d105_52 : decode (am_cod 105) 52 = .ok (.iload_n 1, 1) := by decide +kernel
theorem s105_52 (K : aK) : am_Snd K 105 52 := sn_iload_n i105_52 d105_52 rfl
theorem i105_53 : am_ins 105 53 = (4, 2, 0, 0, []) := by decide +kernel
theorem d105_53 : decode (am_cod 105) 53 = .ok (.imul, 1) := by decide +kernel
theorem s105_53 (K : aK) : am_Snd K 105 53 := sn_mul i105_53 d105_53 
theorem i105_54 : am_ins 105 54 = (1, 2, 1, 0, []) := by decide +kernel
theorem d105_54 : decode (am_cod 105) 54 = .ok (.iload_n 2, 1) := by decide +kernel
theorem s105_54 (K : aK) : am_Snd K 105 54 := sn_iload_n i105_54 d105_54 rfl
theorem i105_55 : am_ins 105 55 = (4, 0, 0, 0, []) := by decide +kernel
theorem d105_55 : decode (am_cod 105) 55 = .ok (.iadd, 1) := by decide +kernel
theorem s105_55 (K : aK) : am_Snd K 105 55 := sn_add i105_55 d105_55 
theorem i105_56 : am_ins 105 56 = (0, 2, 0, 20, []) := by decide +kernel
theorem d105_56 : decode (am_cod 105) 56 = .ok (.bipush 20, 2) := by decide +kernel
theorem s105_56 (K : aK) : am_Snd K 105 56 := sn_const2 i105_56 d105_56 (by decide +kernel)
theorem i105_58 : am_ins 105 58 = (4, 1, 0, 0, []) := by decide +kernel
theorem d105_58 : decode (am_cod 105) 58 = .ok (.isub, 1) := by decide +kernel
theorem s105_58 (K : aK) : am_Snd K 105 58 := sn_sub i105_58 d105_58 
theorem i105_59 : am_ins 105 59 = (22, 0, 0, 0, []) := by decide +kernel
theorem d105_59 : decode (am_cod 105) 59 = .ok (.iaload, 1) := by decide +kernel
theorem s105_59 (K : aK) : am_Snd K 105 59 := sn_iald i105_59 d105_59 
theorem i105_60 : am_ins 105 60 = (50, 0, 0, 0, []) := by decide +kernel
theorem d105_60 : decode (am_cod 105) 60 = .ok (.ireturn, 1) := by decide +kernel
theorem s105_60 : am_SndR 105 60 := sn_iret i105_60 d105_60 rfl
theorem i105_61 : am_ins 105 61 = (1, 2, 1, 0, []) := by decide +kernel
theorem d105_61 : decode (am_cod 105) 61 = .ok (.iload_n 2, 1) := by decide +kernel
theorem s105_61 (K : aK) : am_Snd K 105 61 := sn_iload_n i105_61 d105_61 rfl
theorem i105_62 : am_ins 105 62 = (0, 2, 0, 30, []) := by decide +kernel
theorem d105_62 : decode (am_cod 105) 62 = .ok (.bipush 30, 2) := by decide +kernel
theorem s105_62 (K : aK) : am_Snd K 105 62 := sn_const2 i105_62 d105_62 (by decide +kernel)
theorem i105_64 : am_ins 105 64 = (13, 2, 83, 0, []) := by decide +kernel
theorem d105_64 : decode (am_cod 105) 64 = .ok (.if_icmp .lt 19, 3) := by decide +kernel
theorem s105_64 (K : aK) : am_Snd K 105 64 := sn_icmp_lt i105_64 d105_64 rfl
theorem i105_67 : am_ins 105 67 = (1, 2, 1, 0, []) := by decide +kernel
theorem d105_67 : decode (am_cod 105) 67 = .ok (.iload_n 2, 1) := by decide +kernel
theorem s105_67 (K : aK) : am_Snd K 105 67 := sn_iload_n i105_67 d105_67 rfl
theorem i105_68 : am_ins 105 68 = (0, 2, 0, 33, []) := by decide +kernel
theorem d105_68 : decode (am_cod 105) 68 = .ok (.bipush 33, 2) := by decide +kernel
theorem s105_68 (K : aK) : am_Snd K 105 68 := sn_const2 i105_68 d105_68 (by decide +kernel)
theorem i105_70 : am_ins 105 70 = (13, 3, 83, 0, []) := by decide +kernel
theorem d105_70 : decode (am_cod 105) 70 = .ok (.if_icmp .ge 13, 3) := by decide +kernel
theorem s105_70 (K : aK) : am_Snd K 105 70 := sn_icmp_ge i105_70 d105_70 rfl
theorem i105_73 : am_ins 105 73 = (33, 0, 1, 0, []) := by decide +kernel
theorem d105_73 : decode (am_cod 105) 73 = .ok (.aload_n 0, 1) := by decide +kernel
theorem s105_73 (K : aK) : am_Snd K 105 73 := sn_aload_n i105_73 d105_73 rfl
theorem i105_74 : am_ins 105 74 = (1, 1, 1, 0, []) := by decide +kernel
theorem d105_74 : decode (am_cod 105) 74 = .ok (.iload_n 1, 1) := by decide +kernel
theorem s105_74 (K : aK) : am_Snd K 105 74 := sn_iload_n i105_74 d105_74 rfl
theorem i105_75 : am_ins 105 75 = (1, 2, 1, 0, []) := by decide +kernel
theorem d105_75 : decode (am_cod 105) 75 = .ok (.iload_n 2, 1) := by decide +kernel
theorem s105_75 (K : aK) : am_Snd K 105 75 := sn_iload_n i105_75 d105_75 rfl
theorem i105_76 : am_ins 105 76 = (0, 2, 0, 30, []) := by decide +kernel
theorem d105_76 : decode (am_cod 105) 76 = .ok (.bipush 30, 2) := by decide +kernel
theorem s105_76 (K : aK) : am_Snd K 105 76 := sn_const2 i105_76 d105_76 (by decide +kernel)
theorem i105_78 : am_ins 105 78 = (4, 1, 0, 0, []) := by decide +kernel
theorem d105_78 : decode (am_cod 105) 78 = .ok (.isub, 1) := by decide +kernel
theorem s105_78 (K : aK) : am_Snd K 105 78 := sn_sub i105_78 d105_78 
theorem i105_79 : am_ins 105 79 = (60, 93, 2, 0, []) := by decide +kernel
theorem d105_79 : decode (am_cod 105) 79 = .ok (.invokevirtual 144, 3) := by decide +kernel
theorem s105_79 (K : aK) : am_SndC K 105 79 := sc_V i105_79 d105_79 co93 w_589 w_591 ws_12 w_6 rfl (rr := (CN7, FT7, 24)) rfl rfl hd93
theorem i105_82 : am_ins 105 82 = (50, 0, 0, 0, []) := by decide +kernel
theorem d105_82 : decode (am_cod 105) 82 = .ok (.ireturn, 1) := by decide +kernel
theorem s105_82 : am_SndR 105 82 := sn_iret i105_82 d105_82 rfl
theorem i105_83 : am_ins 105 83 = (1, 2, 1, 0, []) := by decide +kernel
theorem d105_83 : decode (am_cod 105) 83 = .ok (.iload_n 2, 1) := by decide +kernel
theorem s105_83 (K : aK) : am_Snd K 105 83 := sn_iload_n i105_83 d105_83 rfl
theorem i105_84 : am_ins 105 84 = (32, 144, 0, 0, [(0, 116), (1, 123), (2, 130), (3, 137)]) := by decide +kernel
theorem d105_84 : decode (am_cod 105) 84 = .ok (.tableswitch 60 0 3 #[32, 39, 46, 53], 32) := by decide +kernel
theorem s105_84 (K : aK) : am_Snd K 105 84 := sn_tsw (ts := [116, 123, 130, 137]) i105_84 d105_84 rfl (by decide) rfl (by decide)
theorem i105_116 : am_ins 105 116 = (33, 0, 1, 0, []) := by decide +kernel
theorem d105_116 : decode (am_cod 105) 116 = .ok (.aload_n 0, 1) := by decide +kernel
theorem s105_116 (K : aK) : am_Snd K 105 116 := sn_aload_n i105_116 d105_116 rfl
theorem i105_117 : am_ins 105 117 = (18, 7, 10, 0, []) := by decide +kernel
theorem d105_117 : decode (am_cod 105) 117 = .ok (.getfield 38, 3) := by decide +kernel
theorem s105_117 (K : aK) : am_Snd K 105 117 := sn_get (C0 := CN7) (T := FT7) (Nf := 24) i105_117 d105_117 rfl (by decide +kernel) fin7 w_519 rfl
theorem i105_120 : am_ins 105 120 = (1, 1, 1, 0, []) := by decide +kernel
theorem d105_120 : decode (am_cod 105) 120 = .ok (.iload_n 1, 1) := by decide +kernel
theorem s105_120 (K : aK) : am_Snd K 105 120 := sn_iload_n i105_120 d105_120 rfl
theorem i105_121 : am_ins 105 121 = (22, 0, 0, 0, []) := by decide +kernel
theorem d105_121 : decode (am_cod 105) 121 = .ok (.iaload, 1) := by decide +kernel
theorem s105_121 (K : aK) : am_Snd K 105 121 := sn_iald i105_121 d105_121 
theorem i105_122 : am_ins 105 122 = (50, 0, 0, 0, []) := by decide +kernel
theorem d105_122 : decode (am_cod 105) 122 = .ok (.ireturn, 1) := by decide +kernel
theorem s105_122 : am_SndR 105 122 := sn_iret i105_122 d105_122 rfl
theorem i105_123 : am_ins 105 123 = (33, 0, 1, 0, []) := by decide +kernel
theorem d105_123 : decode (am_cod 105) 123 = .ok (.aload_n 0, 1) := by decide +kernel
theorem s105_123 (K : aK) : am_Snd K 105 123 := sn_aload_n i105_123 d105_123 rfl
theorem i105_124 : am_ins 105 124 = (1, 1, 1, 0, []) := by decide +kernel
theorem d105_124 : decode (am_cod 105) 124 = .ok (.iload_n 1, 1) := by decide +kernel
theorem s105_124 (K : aK) : am_Snd K 105 124 := sn_iload_n i105_124 d105_124 rfl
theorem i105_125 : am_ins 105 125 = (0, 1, 0, 1, []) := by decide +kernel
theorem d105_125 : decode (am_cod 105) 125 = .ok (.iconst 1, 1) := by decide +kernel
theorem s105_125 (K : aK) : am_Snd K 105 125 := sn_const1 i105_125 d105_125 rfl
theorem i105_126 : am_ins 105 126 = (60, 104, 2, 0, []) := by decide +kernel
theorem d105_126 : decode (am_cod 105) 126 = .ok (.invokevirtual 169, 3) := by decide +kernel
theorem s105_126 (K : aK) : am_SndC K 105 126 := sc_V i105_126 d105_126 co104 w_709 w_711 ws_28 w_6 rfl (rr := (CN7, FT7, 24)) rfl rfl hd104
theorem i105_129 : am_ins 105 129 = (50, 0, 0, 0, []) := by decide +kernel
theorem d105_129 : decode (am_cod 105) 129 = .ok (.ireturn, 1) := by decide +kernel
theorem s105_129 : am_SndR 105 129 := sn_iret i105_129 d105_129 rfl
theorem i105_130 : am_ins 105 130 = (33, 0, 1, 0, []) := by decide +kernel
theorem d105_130 : decode (am_cod 105) 130 = .ok (.aload_n 0, 1) := by decide +kernel
theorem s105_130 (K : aK) : am_Snd K 105 130 := sn_aload_n i105_130 d105_130 rfl
theorem i105_131 : am_ins 105 131 = (1, 1, 1, 0, []) := by decide +kernel
theorem d105_131 : decode (am_cod 105) 131 = .ok (.iload_n 1, 1) := by decide +kernel
theorem s105_131 (K : aK) : am_Snd K 105 131 := sn_iload_n i105_131 d105_131 rfl
theorem i105_132 : am_ins 105 132 = (0, 1, 0, 2, []) := by decide +kernel
theorem d105_132 : decode (am_cod 105) 132 = .ok (.iconst 2, 1) := by decide +kernel
theorem s105_132 (K : aK) : am_Snd K 105 132 := sn_const1 i105_132 d105_132 rfl
theorem i105_133 : am_ins 105 133 = (60, 104, 2, 0, []) := by decide +kernel
theorem d105_133 : decode (am_cod 105) 133 = .ok (.invokevirtual 169, 3) := by decide +kernel
theorem s105_133 (K : aK) : am_SndC K 105 133 := sc_V i105_133 d105_133 co104 w_709 w_711 ws_28 w_6 rfl (rr := (CN7, FT7, 24)) rfl rfl hd104
theorem i105_136 : am_ins 105 136 = (50, 0, 0, 0, []) := by decide +kernel
theorem d105_136 : decode (am_cod 105) 136 = .ok (.ireturn, 1) := by decide +kernel
theorem s105_136 : am_SndR 105 136 := sn_iret i105_136 d105_136 rfl
theorem i105_137 : am_ins 105 137 = (33, 0, 1, 0, []) := by decide +kernel
theorem d105_137 : decode (am_cod 105) 137 = .ok (.aload_n 0, 1) := by decide +kernel
theorem s105_137 (K : aK) : am_Snd K 105 137 := sn_aload_n i105_137 d105_137 rfl
theorem i105_138 : am_ins 105 138 = (1, 1, 1, 0, []) := by decide +kernel
theorem d105_138 : decode (am_cod 105) 138 = .ok (.iload_n 1, 1) := by decide +kernel
theorem s105_138 (K : aK) : am_Snd K 105 138 := sn_iload_n i105_138 d105_138 rfl
theorem i105_139 : am_ins 105 139 = (0, 1, 0, 3, []) := by decide +kernel
theorem d105_139 : decode (am_cod 105) 139 = .ok (.iconst 3, 1) := by decide +kernel
theorem s105_139 (K : aK) : am_Snd K 105 139 := sn_const1 i105_139 d105_139 rfl
theorem i105_140 : am_ins 105 140 = (60, 104, 2, 0, []) := by decide +kernel
theorem d105_140 : decode (am_cod 105) 140 = .ok (.invokevirtual 169, 3) := by decide +kernel
theorem s105_140 (K : aK) : am_SndC K 105 140 := sc_V i105_140 d105_140 co104 w_709 w_711 ws_28 w_6 rfl (rr := (CN7, FT7, 24)) rfl rfl hd104
theorem i105_143 : am_ins 105 143 = (50, 0, 0, 0, []) := by decide +kernel
theorem d105_143 : decode (am_cod 105) 143 = .ok (.ireturn, 1) := by decide +kernel
theorem s105_143 : am_SndR 105 143 := sn_iret i105_143 d105_143 rfl
theorem i105_144 : am_ins 105 144 = (0, 1, 0, (-1), []) := by decide +kernel
theorem d105_144 : decode (am_cod 105) 144 = .ok (.iconst (-1), 1) := by decide +kernel
theorem s105_144 (K : aK) : am_Snd K 105 144 := sn_const1 i105_144 d105_144 rfl
theorem i105_145 : am_ins 105 145 = (50, 0, 0, 0, []) := by decide +kernel
theorem d105_145 : decode (am_cod 105) 145 = .ok (.ireturn, 1) := by decide +kernel
theorem s105_145 : am_SndR 105 145 := sn_iret i105_145 d105_145 rfl
theorem al105_0 (K : aK) : ∀ q ∈ [0, 1, 4, 7, 8, 9, 10, 12, 15, 16, 18, 21, 22, 25, 26, 27, 28, 29, 30, 32, 33, 34, 35, 36, 38, 41, 42, 44, 47, 48], am_All K 105 q := List.forall_mem_cons.mpr ⟨am_alS i105_0 (s105_0 K), List.forall_mem_cons.mpr ⟨am_alC i105_1 (s105_1 K), List.forall_mem_cons.mpr ⟨am_alS i105_4 (s105_4 K), List.forall_mem_cons.mpr ⟨am_alS i105_7 (s105_7 K), List.forall_mem_cons.mpr ⟨am_alR i105_8 s105_8, List.forall_mem_cons.mpr ⟨am_alS i105_9 (s105_9 K), List.forall_mem_cons.mpr ⟨am_alS i105_10 (s105_10 K), List.forall_mem_cons.mpr ⟨am_alS i105_12 (s105_12 K), List.forall_mem_cons.mpr ⟨am_alS i105_15 (s105_15 K), List.forall_mem_cons.mpr ⟨am_alS i105_16 (s105_16 K), List.forall_mem_cons.mpr ⟨am_alS i105_18 (s105_18 K), List.forall_mem_cons.mpr ⟨am_alS i105_21 (s105_21 K), List.forall_mem_cons.mpr ⟨am_alS i105_22 (s105_22 K), List.forall_mem_cons.mpr ⟨am_alS i105_25 (s105_25 K), List.forall_mem_cons.mpr ⟨am_alS i105_26 (s105_26 K), List.forall_mem_cons.mpr ⟨am_alS i105_27 (s105_27 K), List.forall_mem_cons.mpr ⟨am_alS i105_28 (s105_28 K), List.forall_mem_cons.mpr ⟨am_alS i105_29 (s105_29 K), List.forall_mem_cons.mpr ⟨am_alS i105_30 (s105_30 K), List.forall_mem_cons.mpr ⟨am_alS i105_32 (s105_32 K), List.forall_mem_cons.mpr ⟨am_alS i105_33 (s105_33 K), List.forall_mem_cons.mpr ⟨am_alR i105_34 s105_34, List.forall_mem_cons.mpr ⟨am_alS i105_35 (s105_35 K), List.forall_mem_cons.mpr ⟨am_alS i105_36 (s105_36 K), List.forall_mem_cons.mpr ⟨am_alS i105_38 (s105_38 K), List.forall_mem_cons.mpr ⟨am_alS i105_41 (s105_41 K), List.forall_mem_cons.mpr ⟨am_alS i105_42 (s105_42 K), List.forall_mem_cons.mpr ⟨am_alS i105_44 (s105_44 K), List.forall_mem_cons.mpr ⟨am_alS i105_47 (s105_47 K), List.forall_mem_cons.mpr ⟨am_alS i105_48 (s105_48 K), fun _ h => absurd h List.not_mem_nil⟩⟩⟩⟩⟩⟩⟩⟩⟩⟩⟩⟩⟩⟩⟩⟩⟩⟩⟩⟩⟩⟩⟩⟩⟩⟩⟩⟩⟩⟩
theorem al105_1 (K : aK) : ∀ q ∈ [51, 52, 53, 54, 55, 56, 58, 59, 60, 61, 62, 64, 67, 68, 70, 73, 74, 75, 76, 78, 79, 82, 83, 84, 116, 117, 120, 121, 122, 123], am_All K 105 q := List.forall_mem_cons.mpr ⟨am_alS i105_51 (s105_51 K), List.forall_mem_cons.mpr ⟨am_alS i105_52 (s105_52 K), List.forall_mem_cons.mpr ⟨am_alS i105_53 (s105_53 K), List.forall_mem_cons.mpr ⟨am_alS i105_54 (s105_54 K), List.forall_mem_cons.mpr ⟨am_alS i105_55 (s105_55 K), List.forall_mem_cons.mpr ⟨am_alS i105_56 (s105_56 K), List.forall_mem_cons.mpr ⟨am_alS i105_58 (s105_58 K), List.forall_mem_cons.mpr ⟨am_alS i105_59 (s105_59 K), List.forall_mem_cons.mpr ⟨am_alR i105_60 s105_60, List.forall_mem_cons.mpr ⟨am_alS i105_61 (s105_61 K), List.forall_mem_cons.mpr ⟨am_alS i105_62 (s105_62 K), List.forall_mem_cons.mpr ⟨am_alS i105_64 (s105_64 K), List.forall_mem_cons.mpr ⟨am_alS i105_67 (s105_67 K), List.forall_mem_cons.mpr ⟨am_alS i105_68 (s105_68 K), List.forall_mem_cons.mpr ⟨am_alS i105_70 (s105_70 K), List.forall_mem_cons.mpr ⟨am_alS i105_73 (s105_73 K), List.forall_mem_cons.mpr ⟨am_alS i105_74 (s105_74 K), List.forall_mem_cons.mpr ⟨am_alS i105_75 (s105_75 K), List.forall_mem_cons.mpr ⟨am_alS i105_76 (s105_76 K), List.forall_mem_cons.mpr ⟨am_alS i105_78 (s105_78 K), List.forall_mem_cons.mpr ⟨am_alC i105_79 (s105_79 K), List.forall_mem_cons.mpr ⟨am_alR i105_82 s105_82, List.forall_mem_cons.mpr ⟨am_alS i105_83 (s105_83 K), List.forall_mem_cons.mpr ⟨am_alS i105_84 (s105_84 K), List.forall_mem_cons.mpr ⟨am_alS i105_116 (s105_116 K), List.forall_mem_cons.mpr ⟨am_alS i105_117 (s105_117 K), List.forall_mem_cons.mpr ⟨am_alS i105_120 (s105_120 K), List.forall_mem_cons.mpr ⟨am_alS i105_121 (s105_121 K), List.forall_mem_cons.mpr ⟨am_alR i105_122 s105_122, List.forall_mem_cons.mpr ⟨am_alS i105_123 (s105_123 K), fun _ h => absurd h List.not_mem_nil⟩⟩⟩⟩⟩⟩⟩⟩⟩⟩⟩⟩⟩⟩⟩⟩⟩⟩⟩⟩⟩⟩⟩⟩⟩⟩⟩⟩⟩⟩
theorem al105_2 (K : aK) : ∀ q ∈ [124, 125, 126, 129, 130, 131, 132, 133, 136, 137, 138, 139, 140, 143, 144, 145], am_All K 105 q := List.forall_mem_cons.mpr ⟨am_alS i105_124 (s105_124 K), List.forall_mem_cons.mpr ⟨am_alS i105_125 (s105_125 K), List.forall_mem_cons.mpr ⟨am_alC i105_126 (s105_126 K), List.forall_mem_cons.mpr ⟨am_alR i105_129 s105_129, List.forall_mem_cons.mpr ⟨am_alS i105_130 (s105_130 K), List.forall_mem_cons.mpr ⟨am_alS i105_131 (s105_131 K), List.forall_mem_cons.mpr ⟨am_alS i105_132 (s105_132 K), List.forall_mem_cons.mpr ⟨am_alC i105_133 (s105_133 K), List.forall_mem_cons.mpr ⟨am_alR i105_136 s105_136, List.forall_mem_cons.mpr ⟨am_alS i105_137 (s105_137 K), List.forall_mem_cons.mpr ⟨am_alS i105_138 (s105_138 K), List.forall_mem_cons.mpr ⟨am_alS i105_139 (s105_139 K), List.forall_mem_cons.mpr ⟨am_alC i105_140 (s105_140 K), List.forall_mem_cons.mpr ⟨am_alR i105_143 s105_143, List.forall_mem_cons.mpr ⟨am_alS i105_144 (s105_144 K), List.forall_mem_cons.mpr ⟨am_alR i105_145 s105_145, fun _ h => absurd h List.not_mem_nil⟩⟩⟩⟩⟩⟩⟩⟩⟩⟩⟩⟩⟩⟩⟩⟩
set_option maxRecDepth 100000 in
theorem al105 (K : aK) : ∀ q ∈ (am_t105).map (fun z => z.1), am_All K 105 q := by
  have e : (am_t105).map (fun z => z.1) = [0, 1, 4, 7, 8, 9, 10, 12, 15, 16, 18, 21, 22, 25, 26, 27, 28, 29, 30, 32, 33, 34, 35, 36, 38, 41, 42, 44, 47, 48] ++ ([51, 52, 53, 54, 55, 56, 58, 59, 60, 61, 62, 64, 67, 68, 70, 73, 74, 75, 76, 78, 79, 82, 83, 84, 116, 117, 120, 121, 122, 123] ++ ([124, 125, 126, 129, 130, 131, 132, 133, 136, 137, 138, 139, 140, 143, 144, 145])) := rfl
  rw [e]
  exact List.forall_mem_append.mpr ⟨al105_0 K, List.forall_mem_append.mpr ⟨al105_1 K, al105_2 K⟩⟩
theorem i106_0 : am_ins 106 0 = (1, 1, 1, 0, []) := by decide +kernel
theorem d106_0 : decode (am_cod 106) 0 = .ok (.iload_n 1, 1) := by decide +kernel
theorem s106_0 (K : aK) : am_Snd K 106 0 := sn_iload_n i106_0 d106_0 rfl
theorem i106_1 : am_ins 106 1 = (12, 2, 12, 0, []) := by decide +kernel
theorem d106_1 : decode (am_cod 106) 1 = .ok (.ifCond .lt 11, 3) := by decide +kernel
theorem s106_1 (K : aK) : am_Snd K 106 1 := sn_if_lt i106_1 d106_1 rfl
theorem i106_4 : am_ins 106 4 = (1, 1, 1, 0, []) := by decide +kernel
theorem d106_4 : decode (am_cod 106) 4 = .ok (.iload_n 1, 1) := by decide +kernel
theorem s106_4 (K : aK) : am_Snd K 106 4 := sn_iload_n i106_4 d106_4 rfl
theorem i106_5 : am_ins 106 5 = (33, 0, 1, 0, []) := by decide +kernel
theorem d106_5 : decode (am_cod 106) 5 = .ok (.aload_n 0, 1) := by decide +kernel
theorem s106_5 (K : aK) : am_Snd K 106 5 := sn_aload_n i106_5 d106_5 rfl
theorem i106_6 : am_ins 106 6 = (18, 7, 0, 0, []) := by decide +kernel
theorem d106_6 : decode (am_cod 106) 6 = .ok (.getfield 132, 3) := by decide +kernel
theorem s106_6 (K : aK) : am_Snd K 106 6 := sn_get (C0 := CN7) (T := FT7) (Nf := 24) i106_6 d106_6 rfl (by decide +kernel) fin7 w_509 rfl
theorem i106_9 : am_ins 106 9 = (13, 2, 14, 0, []) := by decide +kernel
theorem d106_9 : decode (am_cod 106) 9 = .ok (.if_icmp .lt 5, 3) := by decide +kernel
theorem s106_9 (K : aK) : am_Snd K 106 9 := sn_icmp_lt i106_9 d106_9 rfl
theorem i106_12 : am_ins 106 12 = (0, 1, 0, (-1), []) := by decide +kernel
theorem d106_12 : decode (am_cod 106) 12 = .ok (.iconst (-1), 1) := by decide +kernel
theorem s106_12 (K : aK) : am_Snd K 106 12 := sn_const1 i106_12 d106_12 rfl
theorem i106_13 : am_ins 106 13 = (50, 0, 0, 0, []) := by decide +kernel
theorem d106_13 : decode (am_cod 106) 13 = .ok (.ireturn, 1) := by decide +kernel
theorem s106_13 : am_SndR 106 13 := sn_iret i106_13 d106_13 rfl
theorem i106_14 : am_ins 106 14 = (1, 2, 1, 0, []) := by decide +kernel
theorem d106_14 : decode (am_cod 106) 14 = .ok (.iload_n 2, 1) := by decide +kernel
theorem s106_14 (K : aK) : am_Snd K 106 14 := sn_iload_n i106_14 d106_14 rfl
theorem i106_15 : am_ins 106 15 = (0, 2, 0, 10, []) := by decide +kernel
theorem d106_15 : decode (am_cod 106) 15 = .ok (.bipush 10, 2) := by decide +kernel
theorem s106_15 (K : aK) : am_Snd K 106 15 := sn_const2 i106_15 d106_15 (by decide +kernel)
theorem i106_17 : am_ins 106 17 = (13, 2, 36, 0, []) := by decide +kernel
theorem d106_17 : decode (am_cod 106) 17 = .ok (.if_icmp .lt 19, 3) := by decide +kernel
theorem s106_17 (K : aK) : am_Snd K 106 17 := sn_icmp_lt i106_17 d106_17 rfl
theorem i106_20 : am_ins 106 20 = (1, 2, 1, 0, []) := by decide +kernel
theorem d106_20 : decode (am_cod 106) 20 = .ok (.iload_n 2, 1) := by decide +kernel
theorem s106_20 (K : aK) : am_Snd K 106 20 := sn_iload_n i106_20 d106_20 rfl
theorem i106_21 : am_ins 106 21 = (0, 2, 0, 13, []) := by decide +kernel
theorem d106_21 : decode (am_cod 106) 21 = .ok (.bipush 13, 2) := by decide +kernel
theorem s106_21 (K : aK) : am_Snd K 106 21 := sn_const2 i106_21 d106_21 (by decide +kernel)
theorem i106_23 : am_ins 106 23 = (13, 3, 36, 0, []) := by decide +kernel
theorem d106_23 : decode (am_cod 106) 23 = .ok (.if_icmp .ge 13, 3) := by decide +kernel
theorem s106_23 (K : aK) : am_Snd K 106 23 := sn_icmp_ge i106_23 d106_23 rfl
theorem i106_26 : am_ins 106 26 = (33, 0, 1, 0, []) := by decide +kernel
theorem d106_26 : decode (am_cod 106) 26 = .ok (.aload_n 0, 1) := by decide +kernel
theorem s106_26 (K : aK) : am_Snd K 106 26 := sn_aload_n i106_26 d106_26 rfl
theorem i106_27 : am_ins 106 27 = (1, 1, 1, 0, []) := by decide +kernel
theorem d106_27 : decode (am_cod 106) 27 = .ok (.iload_n 1, 1) := by decide +kernel
theorem s106_27 (K : aK) : am_Snd K 106 27 := sn_iload_n i106_27 d106_27 rfl
theorem i106_28 : am_ins 106 28 = (1, 2, 1, 0, []) := by decide +kernel
theorem d106_28 : decode (am_cod 106) 28 = .ok (.iload_n 2, 1) := by decide +kernel
theorem s106_28 (K : aK) : am_Snd K 106 28 := sn_iload_n i106_28 d106_28 rfl
theorem i106_29 : am_ins 106 29 = (0, 2, 0, 10, []) := by decide +kernel
theorem d106_29 : decode (am_cod 106) 29 = .ok (.bipush 10, 2) := by decide +kernel
theorem s106_29 (K : aK) : am_Snd K 106 29 := sn_const2 i106_29 d106_29 (by decide +kernel)
theorem i106_31 : am_ins 106 31 = (4, 1, 0, 0, []) := by decide +kernel
theorem d106_31 : decode (am_cod 106) 31 = .ok (.isub, 1) := by decide +kernel
theorem s106_31 (K : aK) : am_Snd K 106 31 := sn_sub i106_31 d106_31 
theorem i106_32 : am_ins 106 32 = (60, 80, 2, 0, []) := by decide +kernel
theorem d106_32 : decode (am_cod 106) 32 = .ok (.invokevirtual 88, 3) := by decide +kernel
theorem s106_32 (K : aK) : am_SndC K 106 32 := sc_V i106_32 d106_32 co80 w_599 w_601 ws_14 w_6 rfl (rr := (CN7, FT7, 24)) rfl rfl hd80
theorem i106_35 : am_ins 106 35 = (50, 0, 0, 0, []) := by decide +kernel
theorem d106_35 : decode (am_cod 106) 35 = .ok (.ireturn, 1) := by decide +kernel
theorem s106_35 : am_SndR 106 35 := sn_iret i106_35 d106_35 rfl
theorem i106_36 : am_ins 106 36 = (1, 2, 1, 0, []) := by decide +kernel
theorem d106_36 : decode (am_cod 106) 36 = .ok (.iload_n 2, 1) := by decide +kernel
theorem s106_36 (K : aK) : am_Snd K 106 36 := sn_iload_n i106_36 d106_36 rfl
theorem i106_37 : am_ins 106 37 = (0, 2, 0, 20, []) := by decide +kernel
theorem d106_37 : decode (am_cod 106) 37 = .ok (.bipush 20, 2) := by decide +kernel
theorem s106_37 (K : aK) : am_Snd K 106 37 := sn_const2 i106_37 d106_37 (by decide +kernel)
theorem i106_39 : am_ins 106 39 = (13, 2, 66, 0, []) := by decide +kernel
theorem d106_39 : decode (am_cod 106) 39 = .ok (.if_icmp .lt 27, 3) := by decide +kernel
theorem s106_39 (K : aK) : am_Snd K 106 39 := sn_icmp_lt i106_39 d106_39 rfl
theorem i106_42 : am_ins 106 42 = (1, 2, 1, 0, []) := by decide +kernel
theorem d106_42 : decode (am_cod 106) 42 = .ok (.iload_n 2, 1) := by decide +kernel
theorem s106_42 (K : aK) : am_Snd K 106 42 := sn_iload_n i106_42 d106_42 rfl
theorem i106_43 : am_ins 106 43 = (0, 2, 0, 28, []) := by decide +kernel
theorem d106_43 : decode (am_cod 106) 43 = .ok (.bipush 28, 2) := by decide +kernel
theorem s106_43 (K : aK) : am_Snd K 106 43 := sn_const2 i106_43 d106_43 (by decide +kernel)
theorem i106_45 : am_ins 106 45 = (13, 3, 66, 0, []) := by decide +kernel
theorem d106_45 : decode (am_cod 106) 45 = .ok (.if_icmp .ge 21, 3) := by decide +kernel
theorem s106_45 (K : aK) : am_Snd K 106 45 := sn_icmp_ge i106_45 d106_45 rfl
theorem i106_48 : am_ins 106 48 = (33, 0, 1, 0, []) := by decide +kernel
theorem d106_48 : decode (am_cod 106) 48 = .ok (.aload_n 0, 1) := by decide +kernel
theorem s106_48 (K : aK) : am_Snd K 106 48 := sn_aload_n i106_48 d106_48 rfl
theorem i106_49 : am_ins 106 49 = (1, 1, 1, 0, []) := by decide +kernel
theorem d106_49 : decode (am_cod 106) 49 = .ok (.iload_n 1, 1) := by decide +kernel
theorem s106_49 (K : aK) : am_Snd K 106 49 := sn_iload_n i106_49 d106_49 rfl
theorem i106_50 : am_ins 106 50 = (1, 2, 1, 0, []) := by decide +kernel
theorem d106_50 : decode (am_cod 106) 50 = .ok (.iload_n 2, 1) := by decide +kernel
theorem s106_50 (K : aK) : am_Snd K 106 50 := sn_iload_n i106_50 d106_50 rfl
theorem i106_51 : am_ins 106 51 = (0, 2, 0, 20, []) := by decide +kernel
theorem d106_51 : decode (am_cod 106) 51 = .ok (.bipush 20, 2) := by decide +kernel
theorem s106_51 (K : aK) : am_Snd K 106 51 := sn_const2 i106_51 d106_51 (by decide +kernel)
theorem i106_53 : am_ins 106 53 = (4, 1, 0, 0, []) := by decide +kernel
theorem d106_53 : decode (am_cod 106) 53 = .ok (.isub, 1) := by decide +kernel
theorem s106_53 (K : aK) : am_Snd K 106 53 := sn_sub i106_53 d106_53 
theorem i106_54 : am_ins 106 54 = (60, 79, 2, 0, []) := by decide +kernel
theorem d106_54 : decode (am_cod 106) 54 = .ok (.invokevirtual 92, 3) := by decide +kernel
theorem s106_54 (K : aK) : am_SndC K 106 54 := sc_V i106_54 d106_54 co79 w_618 w_620 ws_17 w_6 rfl (rr := (CN7, FT7, 24)) rfl rfl hd79
theorem i106_57 : am_ins 106 57 = (12, 0, 64, 0, []) := by decide +kernel
theorem d106_57 : decode (am_cod 106) 57 = .ok (.ifCond .eq 7, 3) := by decide +kernel
theorem s106_57 (K : aK) : am_Snd K 106 57 := sn_if_eq i106_57 d106_57 rfl
theorem i106_60 : am_ins 106 60 = (0, 1, 0, 1, []) := by decide +kernel
theorem d106_60 : decode (am_cod 106) 60 = .ok (.iconst 1, 1) := by decide +kernel
theorem s106_60 (K : aK) : am_Snd K 106 60 := sn_const1 i106_60 d106_60 rfl
theorem i106_61 : am_ins 106 61 = (14, 65, 0, 0, []) := by decide +kernel
theorem d106_61 : decode (am_cod 106) 61 = .ok (.goto 4, 3) := by decide +kernel
theorem s106_61 (K : aK) : am_Snd K 106 61 := sn_goto i106_61 d106_61 rfl
theorem i106_64 : am_ins 106 64 = (0, 1, 0, 0, []) := by decide +kernel
theorem d106_64 : decode (am_cod 106) 64 = .ok (.iconst 0, 1) := by decide +kernel
theorem s106_64 (K : aK) : am_Snd K 106 64 := sn_const1 i106_64 d106_64 rfl
theorem i106_65 : am_ins 106 65 = (50, 0, 0, 0, []) := by decide +kernel
theorem d106_65 : decode (am_cod 106) 65 = .ok (.ireturn, 1) := by decide +kernel
theorem s106_65 : am_SndR 106 65 := sn_iret i106_65 d106_65 rfl
theorem i106_66 : am_ins 106 66 = (1, 2, 1, 0, []) := by decide +kernel
theorem d106_66 : decode (am_cod 106) 66 = .ok (.iload_n 2, 1) := by decide +kernel
theorem s106_66 (K : aK) : am_Snd K 106 66 := sn_iload_n i106_66 d106_66 rfl
theorem i106_67 : am_ins 106 67 = (32, 147, 0, 0, [(0, 96), (1, 102), (2, 122), (3, 137)]) := by decide +kernel
theorem d106_67 : decode (am_cod 106) 67 = .ok (.tableswitch 80 0 3 #[29, 35, 55, 70], 29) := by decide +kernel
theorem s106_67 (K : aK) : am_Snd K 106 67 := sn_tsw (ts := [96, 102, 122, 137]) i106_67 d106_67 rfl (by decide) rfl (by decide)
theorem i106_96 : am_ins 106 96 = (33, 0, 1, 0, []) := by decide +kernel
theorem d106_96 : decode (am_cod 106) 96 = .ok (.aload_n 0, 1) := by decide +kernel
theorem s106_96 (K : aK) : am_Snd K 106 96 := sn_aload_n i106_96 d106_96 rfl
theorem i106_97 : am_ins 106 97 = (1, 1, 1, 0, []) := by decide +kernel
theorem d106_97 : decode (am_cod 106) 97 = .ok (.iload_n 1, 1) := by decide +kernel
theorem s106_97 (K : aK) : am_Snd K 106 97 := sn_iload_n i106_97 d106_97 rfl
theorem i106_98 : am_ins 106 98 = (60, 78, 1, 0, []) := by decide +kernel
theorem d106_98 : decode (am_cod 106) 98 = .ok (.invokevirtual 85, 3) := by decide +kernel
theorem s106_98 (K : aK) : am_SndC K 106 98 := sc_V i106_98 d106_98 co78 w_603 w_605 ws_15 w_6 rfl (rr := (CN7, FT7, 24)) rfl rfl hd78
theorem i106_101 : am_ins 106 101 = (50, 0, 0, 0, []) := by decide +kernel
theorem d106_101 : decode (am_cod 106) 101 = .ok (.ireturn, 1) := by decide +kernel
theorem s106_101 : am_SndR 106 101 := sn_iret i106_101 d106_101 rfl
theorem i106_102 : am_ins 106 102 = (33, 0, 1, 0, []) := by decide +kernel
theorem d106_102 : decode (am_cod 106) 102 = .ok (.aload_n 0, 1) := by decide +kernel
theorem s106_102 (K : aK) : am_Snd K 106 102 := sn_aload_n i106_102 d106_102 rfl
theorem i106_103 : am_ins 106 103 = (18, 7, 8, 0, []) := by decide +kernel
theorem d106_103 : decode (am_cod 106) 103 = .ok (.getfield 31, 3) := by decide +kernel
theorem s106_103 (K : aK) : am_Snd K 106 103 := sn_get (C0 := CN7) (T := FT7) (Nf := 24) i106_103 d106_103 rfl (by decide +kernel) fin7 w_517 rfl
theorem i106_106 : am_ins 106 106 = (1, 1, 1, 0, []) := by decide +kernel
theorem d106_106 : decode (am_cod 106) 106 = .ok (.iload_n 1, 1) := by decide +kernel
theorem s106_106 (K : aK) : am_Snd K 106 106 := sn_iload_n i106_106 d106_106 rfl
theorem i106_107 : am_ins 106 107 = (24, 0, 0, 0, []) := by decide +kernel
theorem d106_107 : decode (am_cod 106) 107 = .ok (.baload, 1) := by decide +kernel
theorem s106_107 (K : aK) : am_Snd K 106 107 := sn_zald i106_107 d106_107 
theorem i106_108 : am_ins 106 108 = (12, 0, 120, 0, []) := by decide +kernel
theorem d106_108 : decode (am_cod 106) 108 = .ok (.ifCond .eq 12, 3) := by decide +kernel
theorem s106_108 (K : aK) : am_Snd K 106 108 := sn_if_eq i106_108 d106_108 rfl
theorem i106_111 : am_ins 106 111 = (33, 0, 1, 0, []) := by decide +kernel
theorem d106_111 : decode (am_cod 106) 111 = .ok (.aload_n 0, 1) := by decide +kernel
theorem s106_111 (K : aK) : am_Snd K 106 111 := sn_aload_n i106_111 d106_111 rfl
theorem i106_112 : am_ins 106 112 = (18, 7, 9, 0, []) := by decide +kernel
theorem d106_112 : decode (am_cod 106) 112 = .ok (.getfield 35, 3) := by decide +kernel
theorem s106_112 (K : aK) : am_Snd K 106 112 := sn_get (C0 := CN7) (T := FT7) (Nf := 24) i106_112 d106_112 rfl (by decide +kernel) fin7 w_518 rfl
theorem i106_115 : am_ins 106 115 = (1, 1, 1, 0, []) := by decide +kernel
theorem d106_115 : decode (am_cod 106) 115 = .ok (.iload_n 1, 1) := by decide +kernel
theorem s106_115 (K : aK) : am_Snd K 106 115 := sn_iload_n i106_115 d106_115 rfl
theorem i106_116 : am_ins 106 116 = (22, 0, 0, 0, []) := by decide +kernel
theorem d106_116 : decode (am_cod 106) 116 = .ok (.iaload, 1) := by decide +kernel
theorem s106_116 (K : aK) : am_Snd K 106 116 := sn_iald i106_116 d106_116 
theorem i106_117 : am_ins 106 117 = (14, 121, 0, 0, []) := by decide +kernel
theorem d106_117 : decode (am_cod 106) 117 = .ok (.goto 4, 3) := by decide +kernel
theorem s106_117 (K : aK) : am_Snd K 106 117 := sn_goto i106_117 d106_117 rfl
theorem i106_120 : am_ins 106 120 = (0, 1, 0, (-1), []) := by decide +kernel
theorem d106_120 : decode (am_cod 106) 120 = .ok (.iconst (-1), 1) := by decide +kernel
theorem s106_120 (K : aK) : am_Snd K 106 120 := sn_const1 i106_120 d106_120 rfl
theorem i106_121 : am_ins 106 121 = (50, 0, 0, 0, []) := by decide +kernel
theorem d106_121 : decode (am_cod 106) 121 = .ok (.ireturn, 1) := by decide +kernel
theorem s106_121 : am_SndR 106 121 := sn_iret i106_121 d106_121 rfl
theorem i106_122 : am_ins 106 122 = (33, 0, 1, 0, []) := by decide +kernel
theorem d106_122 : decode (am_cod 106) 122 = .ok (.aload_n 0, 1) := by decide +kernel
theorem s106_122 (K : aK) : am_Snd K 106 122 := sn_aload_n i106_122 d106_122 rfl
theorem i106_123 : am_ins 106 123 = (18, 7, 8, 0, []) := by decide +kernel
theorem d106_123 : decode (am_cod 106) 123 = .ok (.getfield 31, 3) := by decide +kernel
theorem s106_123 (K : aK) : am_Snd K 106 123 := sn_get (C0 := CN7) (T := FT7) (Nf := 24) i106_123 d106_123 rfl (by decide +kernel) fin7 w_517 rfl
theorem i106_126 : am_ins 106 126 = (1, 1, 1, 0, []) := by decide +kernel
theorem d106_126 : decode (am_cod 106) 126 = .ok (.iload_n 1, 1) := by decide +kernel
theorem s106_126 (K : aK) : am_Snd K 106 126 := sn_iload_n i106_126 d106_126 rfl
theorem i106_127 : am_ins 106 127 = (24, 0, 0, 0, []) := by decide +kernel
theorem d106_127 : decode (am_cod 106) 127 = .ok (.baload, 1) := by decide +kernel
theorem s106_127 (K : aK) : am_Snd K 106 127 := sn_zald i106_127 d106_127 
theorem i106_128 : am_ins 106 128 = (12, 0, 135, 0, []) := by decide +kernel
theorem d106_128 : decode (am_cod 106) 128 = .ok (.ifCond .eq 7, 3) := by decide +kernel
theorem s106_128 (K : aK) : am_Snd K 106 128 := sn_if_eq i106_128 d106_128 rfl
theorem i106_131 : am_ins 106 131 = (0, 1, 0, 1, []) := by decide +kernel
theorem d106_131 : decode (am_cod 106) 131 = .ok (.iconst 1, 1) := by decide +kernel
theorem s106_131 (K : aK) : am_Snd K 106 131 := sn_const1 i106_131 d106_131 rfl
theorem i106_132 : am_ins 106 132 = (14, 136, 0, 0, []) := by decide +kernel
theorem d106_132 : decode (am_cod 106) 132 = .ok (.goto 4, 3) := by decide +kernel
theorem s106_132 (K : aK) : am_Snd K 106 132 := sn_goto i106_132 d106_132 rfl
theorem i106_135 : am_ins 106 135 = (0, 1, 0, 0, []) := by decide +kernel
theorem d106_135 : decode (am_cod 106) 135 = .ok (.iconst 0, 1) := by decide +kernel
theorem s106_135 (K : aK) : am_Snd K 106 135 := sn_const1 i106_135 d106_135 rfl
theorem i106_136 : am_ins 106 136 = (50, 0, 0, 0, []) := by decide +kernel
theorem d106_136 : decode (am_cod 106) 136 = .ok (.ireturn, 1) := by decide +kernel
theorem s106_136 : am_SndR 106 136 := sn_iret i106_136 d106_136 rfl
theorem i106_137 : am_ins 106 137 = (33, 0, 1, 0, []) := by decide +kernel
theorem d106_137 : decode (am_cod 106) 137 = .ok (.aload_n 0, 1) := by decide +kernel
theorem s106_137 (K : aK) : am_Snd K 106 137 := sn_aload_n i106_137 d106_137 rfl
theorem i106_138 : am_ins 106 138 = (18, 7, 4, 0, []) := by decide +kernel
theorem d106_138 : decode (am_cod 106) 138 = .ok (.getfield 19, 3) := by decide +kernel
theorem s106_138 (K : aK) : am_Snd K 106 138 := sn_get (C0 := CN7) (T := FT7) (Nf := 24) i106_138 d106_138 rfl (by decide +kernel) fin7 w_513 rfl
theorem i106_141 : am_ins 106 141 = (1, 1, 1, 0, []) := by decide +kernel
theorem d106_141 : decode (am_cod 106) 141 = .ok (.iload_n 1, 1) := by decide +kernel
theorem s106_141 (K : aK) : am_Snd K 106 141 := sn_iload_n i106_141 d106_141 rfl
theorem i106_142 : am_ins 106 142 = (22, 0, 0, 0, []) := by decide +kernel
theorem d106_142 : decode (am_cod 106) 142 = .ok (.iaload, 1) := by decide +kernel
theorem s106_142 (K : aK) : am_Snd K 106 142 := sn_iald i106_142 d106_142 
theorem i106_143 : am_ins 106 143 = (61, 102, 1, 0, []) := by decide +kernel
theorem d106_143 : decode (am_cod 106) 143 = .ok (.invokestatic 166, 3) := by decide +kernel
theorem s106_143 (K : aK) : am_SndC K 106 143 := sc_S i106_143 d106_143 co102 w_702 w_703 w_6 hd102
theorem i106_146 : am_ins 106 146 = (50, 0, 0, 0, []) := by decide +kernel
theorem d106_146 : decode (am_cod 106) 146 = .ok (.ireturn, 1) := by decide +kernel
theorem s106_146 : am_SndR 106 146 := sn_iret i106_146 d106_146 rfl
theorem i106_147 : am_ins 106 147 = (0, 1, 0, (-1), []) := by decide +kernel
theorem d106_147 : decode (am_cod 106) 147 = .ok (.iconst (-1), 1) := by decide +kernel
theorem s106_147 (K : aK) : am_Snd K 106 147 := sn_const1 i106_147 d106_147 rfl
theorem i106_148 : am_ins 106 148 = (50, 0, 0, 0, []) := by decide +kernel
theorem d106_148 : decode (am_cod 106) 148 = .ok (.ireturn, 1) := by decide +kernel
theorem s106_148 : am_SndR 106 148 := sn_iret i106_148 d106_148 rfl
theorem al106_0 (K : aK) : ∀ q ∈ [0, 1, 4, 5, 6, 9, 12, 13, 14, 15, 17, 20, 21, 23, 26, 27, 28, 29, 31, 32, 35, 36, 37, 39, 42, 43, 45, 48, 49, 50], am_All K 106 q := List.forall_mem_cons.mpr ⟨am_alS i106_0 (s106_0 K), List.forall_mem_cons.mpr ⟨am_alS i106_1 (s106_1 K), List.forall_mem_cons.mpr ⟨am_alS i106_4 (s106_4 K), List.forall_mem_cons.mpr ⟨am_alS i106_5 (s106_5 K), List.forall_mem_cons.mpr ⟨am_alS i106_6 (s106_6 K), List.forall_mem_cons.mpr ⟨am_alS i106_9 (s106_9 K), List.forall_mem_cons.mpr ⟨am_alS i106_12 (s106_12 K), List.forall_mem_cons.mpr ⟨am_alR i106_13 s106_13, List.forall_mem_cons.mpr ⟨am_alS i106_14 (s106_14 K), List.forall_mem_cons.mpr ⟨am_alS i106_15 (s106_15 K), List.forall_mem_cons.mpr ⟨am_alS i106_17 (s106_17 K), List.forall_mem_cons.mpr ⟨am_alS i106_20 (s106_20 K), List.forall_mem_cons.mpr ⟨am_alS i106_21 (s106_21 K), List.forall_mem_cons.mpr ⟨am_alS i106_23 (s106_23 K), List.forall_mem_cons.mpr ⟨am_alS i106_26 (s106_26 K), List.forall_mem_cons.mpr ⟨am_alS i106_27 (s106_27 K), List.forall_mem_cons.mpr ⟨am_alS i106_28 (s106_28 K), List.forall_mem_cons.mpr ⟨am_alS i106_29 (s106_29 K), List.forall_mem_cons.mpr ⟨am_alS i106_31 (s106_31 K), List.forall_mem_cons.mpr ⟨am_alC i106_32 (s106_32 K), List.forall_mem_cons.mpr ⟨am_alR i106_35 s106_35, List.forall_mem_cons.mpr ⟨am_alS i106_36 (s106_36 K), List.forall_mem_cons.mpr ⟨am_alS i106_37 (s106_37 K), List.forall_mem_cons.mpr ⟨am_alS i106_39 (s106_39 K), List.forall_mem_cons.mpr ⟨am_alS i106_42 (s106_42 K), List.forall_mem_cons.mpr ⟨am_alS i106_43 (s106_43 K), List.forall_mem_cons.mpr ⟨am_alS i106_45 (s106_45 K), List.forall_mem_cons.mpr ⟨am_alS i106_48 (s106_48 K), List.forall_mem_cons.mpr ⟨am_alS i106_49 (s106_49 K), List.forall_mem_cons.mpr ⟨am_alS i106_50 (s106_50 K), fun _ h => absurd h List.not_mem_nil⟩⟩⟩⟩⟩⟩⟩⟩⟩⟩⟩⟩⟩⟩⟩⟩⟩⟩⟩⟩⟩⟩⟩⟩⟩⟩⟩⟩⟩⟩
theorem al106_1 (K : aK) : ∀ q ∈ [51, 53, 54, 57, 60, 61, 64, 65, 66, 67, 96, 97, 98, 101, 102, 103, 106, 107, 108, 111, 112, 115, 116, 117, 120, 121, 122, 123, 126, 127], am_All K 106 q := List.forall_mem_cons.mpr ⟨am_alS i106_51 (s106_51 K), List.forall_mem_cons.mpr ⟨am_alS i106_53 (s106_53 K), List.forall_mem_cons.mpr ⟨am_alC i106_54 (s106_54 K), List.forall_mem_cons.mpr ⟨am_alS i106_57 (s106_57 K), List.forall_mem_cons.mpr ⟨am_alS i106_60 (s106_60 K), List.forall_mem_cons.mpr ⟨am_alS i106_61 (s106_61 K), List.forall_mem_cons.mpr ⟨am_alS i106_64 (s106_64 K), List.forall_mem_cons.mpr ⟨am_alR i106_65 s106_65, List.forall_mem_cons.mpr ⟨am_alS i106_66 (s106_66 K), List.forall_mem_cons.mpr ⟨am_alS i106_67 (s106_67 K), List.forall_mem_cons.mpr ⟨am_alS i106_96 (s106_96 K), List.forall_mem_cons.mpr ⟨am_alS i106_97 (s106_97 K), List.forall_mem_cons.mpr ⟨am_alC i106_98 (s106_98 K), List.forall_mem_cons.mpr ⟨am_alR i106_101 s106_101, List.forall_mem_cons.mpr ⟨am_alS i106_102 (s106_102 K), List.forall_mem_cons.mpr ⟨am_alS i106_103 (s106_103 K), List.forall_mem_cons.mpr ⟨am_alS i106_106 (s106_106 K), List.forall_mem_cons.mpr ⟨am_alS i106_107 (s106_107 K), List.forall_mem_cons.mpr ⟨am_alS i106_108 (s106_108 K), List.forall_mem_cons.mpr ⟨am_alS i106_111 (s106_111 K), List.forall_mem_cons.mpr ⟨am_alS i106_112 (s106_112 K), List.forall_mem_cons.mpr ⟨am_alS i106_115 (s106_115 K), List.forall_mem_cons.mpr ⟨am_alS i106_116 (s106_116 K), List.forall_mem_cons.mpr ⟨am_alS i106_117 (s106_117 K), List.forall_mem_cons.mpr ⟨am_alS i106_120 (s106_120 K), List.forall_mem_cons.mpr ⟨am_alR i106_121 s106_121, List.forall_mem_cons.mpr ⟨am_alS i106_122 (s106_122 K), List.forall_mem_cons.mpr ⟨am_alS i106_123 (s106_123 K), List.forall_mem_cons.mpr ⟨am_alS i106_126 (s106_126 K), List.forall_mem_cons.mpr ⟨am_alS i106_127 (s106_127 K), fun _ h => absurd h List.not_mem_nil⟩⟩⟩⟩⟩⟩⟩⟩⟩⟩⟩⟩⟩⟩⟩⟩⟩⟩⟩⟩⟩⟩⟩⟩⟩⟩⟩⟩⟩⟩
theorem al106_2 (K : aK) : ∀ q ∈ [128, 131, 132, 135, 136, 137, 138, 141, 142, 143, 146, 147, 148], am_All K 106 q := List.forall_mem_cons.mpr ⟨am_alS i106_128 (s106_128 K), List.forall_mem_cons.mpr ⟨am_alS i106_131 (s106_131 K), List.forall_mem_cons.mpr ⟨am_alS i106_132 (s106_132 K), List.forall_mem_cons.mpr ⟨am_alS i106_135 (s106_135 K), List.forall_mem_cons.mpr ⟨am_alR i106_136 s106_136, List.forall_mem_cons.mpr ⟨am_alS i106_137 (s106_137 K), List.forall_mem_cons.mpr ⟨am_alS i106_138 (s106_138 K), List.forall_mem_cons.mpr ⟨am_alS i106_141 (s106_141 K), List.forall_mem_cons.mpr ⟨am_alS i106_142 (s106_142 K), List.forall_mem_cons.mpr ⟨am_alC i106_143 (s106_143 K), List.forall_mem_cons.mpr ⟨am_alR i106_146 s106_146, List.forall_mem_cons.mpr ⟨am_alS i106_147 (s106_147 K), List.forall_mem_cons.mpr ⟨am_alR i106_148 s106_148, fun _ h => absurd h List.not_mem_nil⟩⟩⟩⟩⟩⟩⟩⟩⟩⟩⟩⟩⟩
set_option maxRecDepth 100000 in
theorem al106 (K : aK) : ∀ q ∈ (am_t106).map (fun z => z.1), am_All K 106 q := by
  have e : (am_t106).map (fun z => z.1) = [0, 1, 4, 5, 6, 9, 12, 13, 14, 15, 17, 20, 21, 23, 26, 27, 28, 29, 31, 32, 35, 36, 37, 39, 42, 43, 45, 48, 49, 50] ++ ([51, 53, 54, 57, 60, 61, 64, 65, 66, 67, 96, 97, 98, 101, 102, 103, 106, 107, 108, 111, 112, 115, 116, 117, 120, 121, 122, 123, 126, 127] ++ ([128, 131, 132, 135, 136, 137, 138, 141, 142, 143, 146, 147, 148])) := rfl
  rw [e]
  exact List.forall_mem_append.mpr ⟨al106_0 K, List.forall_mem_append.mpr ⟨al106_1 K, al106_2 K⟩⟩
theorem i107_0 : am_ins 107 0 = (1, 1, 1, 0, []) := by decide +kernel
theorem d107_0 : decode (am_cod 107) 0 = .ok (.iload_n 1, 1) := by decide +kernel
theorem s107_0 (K : aK) : am_Snd K 107 0 := sn_iload_n i107_0 d107_0 rfl
theorem i107_1 : am_ins 107 1 = (12, 2, 33, 0, []) := by decide +kernel
theorem d107_1 : decode (am_cod 107) 1 = .ok (.ifCond .lt 32, 3) := by decide +kernel
theorem s107_1 (K : aK) : am_Snd K 107 1 := sn_if_lt i107_1 d107_1 rfl
theorem i107_4 : am_ins 107 4 = (1, 1, 1, 0, []) := by decide +kernel
theorem d107_4 : decode (am_cod 107) 4 = .ok (.iload_n 1, 1) := by decide +kernel
theorem s107_4 (K : aK) : am_Snd K 107 4 := sn_iload_n i107_4 d107_4 rfl
theorem i107_5 : am_ins 107 5 = (33, 0, 1, 0, []) := by decide +kernel
theorem d107_5 : decode (am_cod 107) 5 = .ok (.aload_n 0, 1) := by decide +kernel
theorem s107_5 (K : aK) : am_Snd K 107 5 := sn_aload_n i107_5 d107_5 rfl
theorem i107_6 : am_ins 107 6 = (18, 7, 0, 0, []) := by decide +kernel
theorem d107_6 : decode (am_cod 107) 6 = .ok (.getfield 132, 3) := by decide +kernel
theorem s107_6 (K : aK) : am_Snd K 107 6 := sn_get (C0 := CN7) (T := FT7) (Nf := 24) i107_6 d107_6 rfl (by decide +kernel) fin7 w_509 rfl
theorem i107_9 : am_ins 107 9 = (13, 3, 33, 0, []) := by decide +kernel
theorem d107_9 : decode (am_cod 107) 9 = .ok (.if_icmp .ge 24, 3) := by decide +kernel
theorem s107_9 (K : aK) : am_Snd K 107 9 := sn_icmp_ge i107_9 d107_9 rfl
theorem i107_12 : am_ins 107 12 = (1, 2, 1, 0, []) := by decide +kernel
theorem d107_12 : decode (am_cod 107) 12 = .ok (.iload_n 2, 1) := by decide +kernel
theorem s107_12 (K : aK) : am_Snd K 107 12 := sn_iload_n i107_12 d107_12 rfl
theorem i107_13 : am_ins 107 13 = (61, 74, 1, 0, []) := by decide +kernel
theorem d107_13 : decode (am_cod 107) 13 = .ok (.invokestatic 150, 3) := by decide +kernel
theorem s107_13 (K : aK) : am_SndC K 107 13 := sc_S i107_13 d107_13 co74 w_611 w_612 w_6 hd74
theorem i107_16 : am_ins 107 16 = (12, 0, 33, 0, []) := by decide +kernel
theorem d107_16 : decode (am_cod 107) 16 = .ok (.ifCond .eq 17, 3) := by decide +kernel
theorem s107_16 (K : aK) : am_Snd K 107 16 := sn_if_eq i107_16 d107_16 rfl
theorem i107_19 : am_ins 107 19 = (33, 0, 1, 0, []) := by decide +kernel
theorem d107_19 : decode (am_cod 107) 19 = .ok (.aload_n 0, 1) := by decide +kernel
theorem s107_19 (K : aK) : am_Snd K 107 19 := sn_aload_n i107_19 d107_19 rfl
theorem i107_20 : am_ins 107 20 = (18, 7, 5, 0, []) := by decide +kernel
theorem d107_20 : decode (am_cod 107) 20 = .ok (.getfield 22, 3) := by decide +kernel
theorem s107_20 (K : aK) : am_Snd K 107 20 := sn_get (C0 := CN7) (T := FT7) (Nf := 24) i107_20 d107_20 rfl (by decide +kernel) fin7 w_514 rfl
theorem i107_23 : am_ins 107 23 = (0, 2, 0, 8, []) := by decide +kernel
theorem d107_23 : decode (am_cod 107) 23 = .ok (.bipush 8, 2) := by decide +kernel
theorem s107_23 (K : aK) : am_Snd K 107 23 := sn_const2 i107_23 d107_23 (by decide +kernel)
theorem i107_25 : am_ins 107 25 = (1, 1, 1, 0, []) := by decide +kernel
theorem d107_25 : decode (am_cod 107) 25 = .ok (.iload_n 1, 1) := by decide +kernel
theorem s107_25 (K : aK) : am_Snd K 107 25 := sn_iload_n i107_25 d107_25 rfl
theorem i107_26 : am_ins 107 26 = (4, 2, 0, 0, []) := by decide +kernel
theorem d107_26 : decode (am_cod 107) 26 = .ok (.imul, 1) := by decide +kernel
theorem s107_26 (K : aK) : am_Snd K 107 26 := sn_mul i107_26 d107_26 
theorem i107_27 : am_ins 107 27 = (1, 2, 1, 0, []) := by decide +kernel
theorem d107_27 : decode (am_cod 107) 27 = .ok (.iload_n 2, 1) := by decide +kernel
theorem s107_27 (K : aK) : am_Snd K 107 27 := sn_iload_n i107_27 d107_27 rfl
theorem i107_28 : am_ins 107 28 = (4, 0, 0, 0, []) := by decide +kernel
theorem d107_28 : decode (am_cod 107) 28 = .ok (.iadd, 1) := by decide +kernel
theorem s107_28 (K : aK) : am_Snd K 107 28 := sn_add i107_28 d107_28 
theorem i107_29 : am_ins 107 29 = (22, 0, 0, 0, []) := by decide +kernel
theorem d107_29 : decode (am_cod 107) 29 = .ok (.iaload, 1) := by decide +kernel
theorem s107_29 (K : aK) : am_Snd K 107 29 := sn_iald i107_29 d107_29 
theorem i107_30 : am_ins 107 30 = (14, 34, 0, 0, []) := by decide +kernel
theorem d107_30 : decode (am_cod 107) 30 = .ok (.goto 4, 3) := by decide +kernel
theorem s107_30 (K : aK) : am_Snd K 107 30 := sn_goto i107_30 d107_30 rfl
theorem i107_33 : am_ins 107 33 = (0, 1, 0, 0, []) := by decide +kernel
theorem d107_33 : decode (am_cod 107) 33 = .ok (.iconst 0, 1) := by decide +kernel
theorem s107_33 (K : aK) : am_Snd K 107 33 := sn_const1 i107_33 d107_33 rfl
theorem i107_34 : am_ins 107 34 = (50, 0, 0, 0, []) := by decide +kernel
theorem d107_34 : decode (am_cod 107) 34 = .ok (.ireturn, 1) := by decide +kernel
theorem s107_34 : am_SndR 107 34 := sn_iret i107_34 d107_34 rfl
theorem al107_0 (K : aK) : ∀ q ∈ [0, 1, 4, 5, 6, 9, 12, 13, 16, 19, 20, 23, 25, 26, 27, 28, 29, 30, 33, 34], am_All K 107 q := List.forall_mem_cons.mpr ⟨am_alS i107_0 (s107_0 K), List.forall_mem_cons.mpr ⟨am_alS i107_1 (s107_1 K), List.forall_mem_cons.mpr ⟨am_alS i107_4 (s107_4 K), List.forall_mem_cons.mpr ⟨am_alS i107_5 (s107_5 K), List.forall_mem_cons.mpr ⟨am_alS i107_6 (s107_6 K), List.forall_mem_cons.mpr ⟨am_alS i107_9 (s107_9 K), List.forall_mem_cons.mpr ⟨am_alS i107_12 (s107_12 K), List.forall_mem_cons.mpr ⟨am_alC i107_13 (s107_13 K), List.forall_mem_cons.mpr ⟨am_alS i107_16 (s107_16 K), List.forall_mem_cons.mpr ⟨am_alS i107_19 (s107_19 K), List.forall_mem_cons.mpr ⟨am_alS i107_20 (s107_20 K), List.forall_mem_cons.mpr ⟨am_alS i107_23 (s107_23 K), List.forall_mem_cons.mpr ⟨am_alS i107_25 (s107_25 K), List.forall_mem_cons.mpr ⟨am_alS i107_26 (s107_26 K), List.forall_mem_cons.mpr ⟨am_alS i107_27 (s107_27 K), List.forall_mem_cons.mpr ⟨am_alS i107_28 (s107_28 K), List.forall_mem_cons.mpr ⟨am_alS i107_29 (s107_29 K), List.forall_mem_cons.mpr ⟨am_alS i107_30 (s107_30 K), List.forall_mem_cons.mpr ⟨am_alS i107_33 (s107_33 K), List.forall_mem_cons.mpr ⟨am_alR i107_34 s107_34, fun _ h => absurd h List.not_mem_nil⟩⟩⟩⟩⟩⟩⟩⟩⟩⟩⟩⟩⟩⟩⟩⟩⟩⟩⟩⟩
set_option maxRecDepth 100000 in
theorem al107 (K : aK) : ∀ q ∈ (am_t107).map (fun z => z.1), am_All K 107 q := by
  have e : (am_t107).map (fun z => z.1) = [0, 1, 4, 5, 6, 9, 12, 13, 16, 19, 20, 23, 25, 26, 27, 28, 29, 30, 33, 34] := rfl
  rw [e]
  exact al107_0 K
theorem i108_0 : am_ins 108 0 = (1, 1, 1, 0, []) := by decide +kernel
theorem d108_0 : decode (am_cod 108) 0 = .ok (.iload_n 1, 1) := by decide +kernel
theorem s108_0 (K : aK) : am_Snd K 108 0 := sn_iload_n i108_0 d108_0 rfl
theorem i108_1 : am_ins 108 1 = (61, 73, 1, 0, []) := by decide +kernel
theorem d108_1 : decode (am_cod 108) 1 = .ok (.invokestatic 77, 3) := by decide +kernel
theorem s108_1 (K : aK) : am_SndC K 108 1 := sc_S i108_1 d108_1 co73 w_684 w_685 w_6 hd73
theorem i108_4 : am_ins 108 4 = (12, 0, 22, 0, []) := by decide +kernel
theorem d108_4 : decode (am_cod 108) 4 = .ok (.ifCond .eq 18, 3) := by decide +kernel
theorem s108_4 (K : aK) : am_Snd K 108 4 := sn_if_eq i108_4 d108_4 rfl
theorem i108_7 : am_ins 108 7 = (1, 2, 1, 0, []) := by decide +kernel
theorem d108_7 : decode (am_cod 108) 7 = .ok (.iload_n 2, 1) := by decide +kernel
theorem s108_7 (K : aK) : am_Snd K 108 7 := sn_iload_n i108_7 d108_7 rfl
theorem i108_8 : am_ins 108 8 = (61, 74, 1, 0, []) := by decide +kernel
theorem d108_8 : decode (am_cod 108) 8 = .ok (.invokestatic 150, 3) := by decide +kernel
theorem s108_8 (K : aK) : am_SndC K 108 8 := sc_S i108_8 d108_8 co74 w_611 w_612 w_6 hd74
theorem i108_11 : am_ins 108 11 = (12, 0, 22, 0, []) := by decide +kernel
theorem d108_11 : decode (am_cod 108) 11 = .ok (.ifCond .eq 11, 3) := by decide +kernel
theorem s108_11 (K : aK) : am_Snd K 108 11 := sn_if_eq i108_11 d108_11 rfl
theorem i108_14 : am_ins 108 14 = (1, 1, 1, 0, []) := by decide +kernel
theorem d108_14 : decode (am_cod 108) 14 = .ok (.iload_n 1, 1) := by decide +kernel
theorem s108_14 (K : aK) : am_Snd K 108 14 := sn_iload_n i108_14 d108_14 rfl
theorem i108_15 : am_ins 108 15 = (1, 2, 1, 0, []) := by decide +kernel
theorem d108_15 : decode (am_cod 108) 15 = .ok (.iload_n 2, 1) := by decide +kernel
theorem s108_15 (K : aK) : am_Snd K 108 15 := sn_iload_n i108_15 d108_15 rfl
theorem i108_16 : am_ins 108 16 = (61, 76, 2, 0, []) := by decide +kernel
theorem d108_16 : decode (am_cod 108) 16 = .ok (.invokestatic 96, 3) := by decide +kernel
theorem s108_16 (K : aK) : am_SndC K 108 16 := sc_S i108_16 d108_16 co76 w_642 w_643 w_6 hd76
theorem i108_19 : am_ins 108 19 = (12, 1, 24, 0, []) := by decide +kernel
theorem d108_19 : decode (am_cod 108) 19 = .ok (.ifCond .ne 5, 3) := by decide +kernel
theorem s108_19 (K : aK) : am_Snd K 108 19 := sn_if_ne i108_19 d108_19 rfl
theorem i108_22 : am_ins 108 22 = (0, 1, 0, (-1), []) := by decide +kernel
theorem d108_22 : decode (am_cod 108) 22 = .ok (.iconst (-1), 1) := by decide +kernel
theorem s108_22 (K : aK) : am_Snd K 108 22 := sn_const1 i108_22 d108_22 rfl
theorem i108_23 : am_ins 108 23 = (50, 0, 0, 0, []) := by decide +kernel
theorem d108_23 : decode (am_cod 108) 23 = .ok (.ireturn, 1) := by decide +kernel
theorem s108_23 : am_SndR 108 23 := sn_iret i108_23 d108_23 rfl
theorem i108_24 : am_ins 108 24 = (0, 1, 0, 0, []) := by decide +kernel
theorem d108_24 : decode (am_cod 108) 24 = .ok (.iconst 0, 1) := by decide +kernel
theorem s108_24 (K : aK) : am_Snd K 108 24 := sn_const1 i108_24 d108_24 rfl
theorem i108_25 : am_ins 108 25 = (2, 4, 2, 0, []) := by decide +kernel
theorem d108_25 : decode (am_cod 108) 25 = .ok (.istore 4, 2) := by decide +kernel
theorem s108_25 (K : aK) : am_Snd K 108 25 := sn_istore i108_25 d108_25 (by decide +kernel)
theorem i108_27 : am_ins 108 27 = (1, 4, 2, 0, []) := by decide +kernel
theorem d108_27 : decode (am_cod 108) 27 = .ok (.iload 4, 2) := by decide +kernel
theorem s108_27 (K : aK) : am_Snd K 108 27 := sn_iload i108_27 d108_27 
theorem i108_29 : am_ins 108 29 = (33, 0, 1, 0, []) := by decide +kernel
theorem d108_29 : decode (am_cod 108) 29 = .ok (.aload_n 0, 1) := by decide +kernel
theorem s108_29 (K : aK) : am_Snd K 108 29 := sn_aload_n i108_29 d108_29 rfl
theorem i108_30 : am_ins 108 30 = (18, 7, 0, 0, []) := by decide +kernel
theorem d108_30 : decode (am_cod 108) 30 = .ok (.getfield 132, 3) := by decide +kernel
theorem s108_30 (K : aK) : am_Snd K 108 30 := sn_get (C0 := CN7) (T := FT7) (Nf := 24) i108_30 d108_30 rfl (by decide +kernel) fin7 w_509 rfl
theorem i108_33 : am_ins 108 33 = (13, 3, 111, 0, []) := by decide +kernel
theorem d108_33 : decode (am_cod 108) 33 = .ok (.if_icmp .ge 78, 3) := by decide +kernel
theorem s108_33 (K : aK) : am_Snd K 108 33 := sn_icmp_ge i108_33 d108_33 rfl
theorem i108_36 : am_ins 108 36 = (33, 0, 1, 0, []) := by decide +kernel
theorem d108_36 : decode (am_cod 108) 36 = .ok (.aload_n 0, 1) := by decide +kernel
theorem s108_36 (K : aK) : am_Snd K 108 36 := sn_aload_n i108_36 d108_36 rfl
theorem i108_37 : am_ins 108 37 = (1, 1, 1, 0, []) := by decide +kernel
theorem d108_37 : decode (am_cod 108) 37 = .ok (.iload_n 1, 1) := by decide +kernel
theorem s108_37 (K : aK) : am_Snd K 108 37 := sn_iload_n i108_37 d108_37 rfl
theorem i108_38 : am_ins 108 38 = (1, 4, 2, 0, []) := by decide +kernel
theorem d108_38 : decode (am_cod 108) 38 = .ok (.iload 4, 2) := by decide +kernel
theorem s108_38 (K : aK) : am_Snd K 108 38 := sn_iload i108_38 d108_38 
theorem i108_40 : am_ins 108 40 = (1, 2, 1, 0, []) := by decide +kernel
theorem d108_40 : decode (am_cod 108) 40 = .ok (.iload_n 2, 1) := by decide +kernel
theorem s108_40 (K : aK) : am_Snd K 108 40 := sn_iload_n i108_40 d108_40 rfl
theorem i108_41 : am_ins 108 41 = (60, 83, 3, 0, []) := by decide +kernel
theorem d108_41 : decode (am_cod 108) 41 = .ok (.invokevirtual 153, 3) := by decide +kernel
theorem s108_41 (K : aK) : am_SndC K 108 41 := sc_V i108_41 d108_41 co83 w_614 w_616 ws_16 w_6 rfl (rr := (CN7, FT7, 24)) rfl rfl hd83
theorem i108_44 : am_ins 108 44 = (12, 1, 50, 0, []) := by decide +kernel
theorem d108_44 : decode (am_cod 108) 44 = .ok (.ifCond .ne 6, 3) := by decide +kernel
theorem s108_44 (K : aK) : am_Snd K 108 44 := sn_if_ne i108_44 d108_44 rfl
theorem i108_47 : am_ins 108 47 = (14, 105, 0, 0, []) := by decide +kernel
theorem d108_47 : decode (am_cod 108) 47 = .ok (.goto 58, 3) := by decide +kernel
theorem s108_47 (K : aK) : am_Snd K 108 47 := sn_goto i108_47 d108_47 rfl
theorem i108_50 : am_ins 108 50 = (0, 1, 0, 0, []) := by decide +kernel
theorem d108_50 : decode (am_cod 108) 50 = .ok (.iconst 0, 1) := by decide +kernel
theorem s108_50 (K : aK) : am_Snd K 108 50 := sn_const1 i108_50 d108_50 rfl
theorem i108_51 : am_ins 108 51 = (2, 5, 2, 0, []) := by decide +kernel
theorem d108_51 : decode (am_cod 108) 51 = .ok (.istore 5, 2) := by decide +kernel
theorem s108_51 (K : aK) : am_Snd K 108 51 := sn_istore i108_51 d108_51 (by decide +kernel)
theorem i108_53 : am_ins 108 53 = (0, 1, 0, 0, []) := by decide +kernel
theorem d108_53 : decode (am_cod 108) 53 = .ok (.iconst 0, 1) := by decide +kernel
theorem s108_53 (K : aK) : am_Snd K 108 53 := sn_const1 i108_53 d108_53 rfl
theorem i108_54 : am_ins 108 54 = (2, 6, 2, 0, []) := by decide +kernel
theorem d108_54 : decode (am_cod 108) 54 = .ok (.istore 6, 2) := by decide +kernel
theorem s108_54 (K : aK) : am_Snd K 108 54 := sn_istore i108_54 d108_54 (by decide +kernel)
theorem i108_56 : am_ins 108 56 = (1, 6, 2, 0, []) := by decide +kernel
theorem d108_56 : decode (am_cod 108) 56 = .ok (.iload 6, 2) := by decide +kernel
theorem s108_56 (K : aK) : am_Snd K 108 56 := sn_iload i108_56 d108_56 
theorem i108_58 : am_ins 108 58 = (33, 0, 1, 0, []) := by decide +kernel
theorem d108_58 : decode (am_cod 108) 58 = .ok (.aload_n 0, 1) := by decide +kernel
theorem s108_58 (K : aK) : am_Snd K 108 58 := sn_aload_n i108_58 d108_58 rfl
theorem i108_59 : am_ins 108 59 = (18, 7, 0, 0, []) := by decide +kernel
theorem d108_59 : decode (am_cod 108) 59 = .ok (.getfield 132, 3) := by decide +kernel
theorem s108_59 (K : aK) : am_Snd K 108 59 := sn_get (C0 := CN7) (T := FT7) (Nf := 24) i108_59 d108_59 rfl (by decide +kernel) fin7 w_509 rfl
theorem i108_62 : am_ins 108 62 = (13, 3, 96, 0, []) := by decide +kernel
theorem d108_62 : decode (am_cod 108) 62 = .ok (.if_icmp .ge 34, 3) := by decide +kernel
theorem s108_62 (K : aK) : am_Snd K 108 62 := sn_icmp_ge i108_62 d108_62 rfl
theorem i108_65 : am_ins 108 65 = (33, 0, 1, 0, []) := by decide +kernel
theorem d108_65 : decode (am_cod 108) 65 = .ok (.aload_n 0, 1) := by decide +kernel
theorem s108_65 (K : aK) : am_Snd K 108 65 := sn_aload_n i108_65 d108_65 rfl
theorem i108_66 : am_ins 108 66 = (1, 1, 1, 0, []) := by decide +kernel
theorem d108_66 : decode (am_cod 108) 66 = .ok (.iload_n 1, 1) := by decide +kernel
theorem s108_66 (K : aK) : am_Snd K 108 66 := sn_iload_n i108_66 d108_66 rfl
theorem i108_67 : am_ins 108 67 = (1, 6, 2, 0, []) := by decide +kernel
theorem d108_67 : decode (am_cod 108) 67 = .ok (.iload 6, 2) := by decide +kernel
theorem s108_67 (K : aK) : am_Snd K 108 67 := sn_iload i108_67 d108_67 
theorem i108_69 : am_ins 108 69 = (1, 2, 1, 0, []) := by decide +kernel
theorem d108_69 : decode (am_cod 108) 69 = .ok (.iload_n 2, 1) := by decide +kernel
theorem s108_69 (K : aK) : am_Snd K 108 69 := sn_iload_n i108_69 d108_69 rfl
theorem i108_70 : am_ins 108 70 = (60, 83, 3, 0, []) := by decide +kernel
theorem d108_70 : decode (am_cod 108) 70 = .ok (.invokevirtual 153, 3) := by decide +kernel
theorem s108_70 (K : aK) : am_SndC K 108 70 := sc_V i108_70 d108_70 co83 w_614 w_616 ws_16 w_6 rfl (rr := (CN7, FT7, 24)) rfl rfl hd83
theorem i108_73 : am_ins 108 73 = (12, 0, 90, 0, []) := by decide +kernel
theorem d108_73 : decode (am_cod 108) 73 = .ok (.ifCond .eq 17, 3) := by decide +kernel
theorem s108_73 (K : aK) : am_Snd K 108 73 := sn_if_eq i108_73 d108_73 rfl
theorem i108_76 : am_ins 108 76 = (33, 0, 1, 0, []) := by decide +kernel
theorem d108_76 : decode (am_cod 108) 76 = .ok (.aload_n 0, 1) := by decide +kernel
theorem s108_76 (K : aK) : am_Snd K 108 76 := sn_aload_n i108_76 d108_76 rfl
theorem i108_77 : am_ins 108 77 = (1, 6, 2, 0, []) := by decide +kernel
theorem d108_77 : decode (am_cod 108) 77 = .ok (.iload 6, 2) := by decide +kernel
theorem s108_77 (K : aK) : am_Snd K 108 77 := sn_iload i108_77 d108_77 
theorem i108_79 : am_ins 108 79 = (1, 4, 2, 0, []) := by decide +kernel
theorem d108_79 : decode (am_cod 108) 79 = .ok (.iload 4, 2) := by decide +kernel
theorem s108_79 (K : aK) : am_Snd K 108 79 := sn_iload i108_79 d108_79 
theorem i108_81 : am_ins 108 81 = (60, 82, 2, 0, []) := by decide +kernel
theorem d108_81 : decode (am_cod 108) 81 = .ok (.invokevirtual 157, 3) := by decide +kernel
theorem s108_81 (K : aK) : am_SndC K 108 81 := sc_V i108_81 d108_81 co82 w_622 w_624 ws_18 w_6 rfl (rr := (CN7, FT7, 24)) rfl rfl hd82
theorem i108_84 : am_ins 108 84 = (12, 0, 90, 0, []) := by decide +kernel
theorem d108_84 : decode (am_cod 108) 84 = .ok (.ifCond .eq 6, 3) := by decide +kernel
theorem s108_84 (K : aK) : am_Snd K 108 84 := sn_if_eq i108_84 d108_84 rfl
theorem i108_87 : am_ins 108 87 = (3, 5, 3, 1, []) := by decide +kernel
theorem d108_87 : decode (am_cod 108) 87 = .ok (.iinc 5 1, 3) := by decide +kernel
theorem s108_87 (K : aK) : am_Snd K 108 87 := sn_iinc i108_87 d108_87 rfl (by decide +kernel)
theorem i108_90 : am_ins 108 90 = (3, 6, 3, 1, []) := by decide +kernel
theorem d108_90 : decode (am_cod 108) 90 = .ok (.iinc 6 1, 3) := by decide +kernel
theorem s108_90 (K : aK) : am_Snd K 108 90 := sn_iinc i108_90 d108_90 rfl (by decide +kernel)
theorem i108_93 : am_ins 108 93 = (14, 56, 0, 0, []) := by decide +kernel
theorem d108_93 : decode (am_cod 108) 93 = .ok (.goto (-37), 3) := by decide +kernel
theorem s108_93 (K : aK) : am_Snd K 108 93 := sn_goto i108_93 d108_93 rfl
theorem i108_96 : am_ins 108 96 = (1, 5, 2, 0, []) := by decide +kernel
theorem d108_96 : decode (am_cod 108) 96 = .ok (.iload 5, 2) := by decide +kernel
theorem s108_96 (K : aK) : am_Snd K 108 96 := sn_iload i108_96 d108_96 
theorem i108_98 : am_ins 108 98 = (1, 3, 1, 0, []) := by decide +kernel
theorem d108_98 : decode (am_cod 108) 98 = .ok (.iload_n 3, 1) := by decide +kernel
theorem s108_98 (K : aK) : am_Snd K 108 98 := sn_iload_n i108_98 d108_98 rfl
theorem i108_99 : am_ins 108 99 = (13, 1, 105, 0, []) := by decide +kernel
theorem d108_99 : decode (am_cod 108) 99 = .ok (.if_icmp .ne 6, 3) := by decide +kernel
theorem s108_99 (K : aK) : am_Snd K 108 99 := sn_icmp_ne i108_99 d108_99 rfl
theorem i108_102 : am_ins 108 102 = (1, 4, 2, 0, []) := by decide +kernel
theorem d108_102 : decode (am_cod 108) 102 = .ok (.iload 4, 2) := by decide +kernel
theorem s108_102 (K : aK) : am_Snd K 108 102 := sn_iload i108_102 d108_102 
theorem i108_104 : am_ins 108 104 = (50, 0, 0, 0, []) := by decide +kernel
theorem d108_104 : decode (am_cod 108) 104 = .ok (.ireturn, 1) := by decide +kernel
theorem s108_104 : am_SndR 108 104 := sn_iret i108_104 d108_104 rfl
theorem i108_105 : am_ins 108 105 = (3, 4, 3, 1, []) := by decide +kernel
theorem d108_105 : decode (am_cod 108) 105 = .ok (.iinc 4 1, 3) := by decide +kernel
theorem s108_105 (K : aK) : am_Snd K 108 105 := sn_iinc i108_105 d108_105 rfl (by decide +kernel)
theorem i108_108 : am_ins 108 108 = (14, 27, 0, 0, []) := by decide +kernel
theorem d108_108 : decode (am_cod 108) 108 = .ok (.goto (-81), 3) := by decide +kernel
theorem s108_108 (K : aK) : am_Snd K 108 108 := sn_goto i108_108 d108_108 rfl
theorem i108_111 : am_ins 108 111 = (0, 1, 0, (-1), []) := by decide +kernel
theorem d108_111 : decode (am_cod 108) 111 = .ok (.iconst (-1), 1) := by decide +kernel
theorem s108_111 (K : aK) : am_Snd K 108 111 := sn_const1 i108_111 d108_111 rfl
theorem i108_112 : am_ins 108 112 = (50, 0, 0, 0, []) := by decide +kernel
theorem d108_112 : decode (am_cod 108) 112 = .ok (.ireturn, 1) := by decide +kernel
theorem s108_112 : am_SndR 108 112 := sn_iret i108_112 d108_112 rfl
theorem al108_0 (K : aK) : ∀ q ∈ [0, 1, 4, 7, 8, 11, 14, 15, 16, 19, 22, 23, 24, 25, 27, 29, 30, 33, 36, 37, 38, 40, 41, 44, 47, 50, 51, 53, 54, 56], am_All K 108 q := List.forall_mem_cons.mpr ⟨am_alS i108_0 (s108_0 K), List.forall_mem_cons.mpr ⟨am_alC i108_1 (s108_1 K), List.forall_mem_cons.mpr ⟨am_alS i108_4 (s108_4 K), List.forall_mem_cons.mpr ⟨am_alS i108_7 (s108_7 K), List.forall_mem_cons.mpr ⟨am_alC i108_8 (s108_8 K), List.forall_mem_cons.mpr ⟨am_alS i108_11 (s108_11 K), List.forall_mem_cons.mpr ⟨am_alS i108_14 (s108_14 K), List.forall_mem_cons.mpr ⟨am_alS i108_15 (s108_15 K), List.forall_mem_cons.mpr ⟨am_alC i108_16 (s108_16 K), List.forall_mem_cons.mpr ⟨am_alS i108_19 (s108_19 K), List.forall_mem_cons.mpr ⟨am_alS i108_22 (s108_22 K), List.forall_mem_cons.mpr ⟨am_alR i108_23 s108_23, List.forall_mem_cons.mpr ⟨am_alS i108_24 (s108_24 K), List.forall_mem_cons.mpr ⟨am_alS i108_25 (s108_25 K), List.forall_mem_cons.mpr ⟨am_alS i108_27 (s108_27 K), List.forall_mem_cons.mpr ⟨am_alS i108_29 (s108_29 K), List.forall_mem_cons.mpr ⟨am_alS i108_30 (s108_30 K), List.forall_mem_cons.mpr ⟨am_alS i108_33 (s108_33 K), List.forall_mem_cons.mpr ⟨am_alS i108_36 (s108_36 K), List.forall_mem_cons.mpr ⟨am_alS i108_37 (s108_37 K), List.forall_mem_cons.mpr ⟨am_alS i108_38 (s108_38 K), List.forall_mem_cons.mpr ⟨am_alS i108_40 (s108_40 K), List.forall_mem_cons.mpr ⟨am_alC i108_41 (s108_41 K), List.forall_mem_cons.mpr ⟨am_alS i108_44 (s108_44 K), List.forall_mem_cons.mpr ⟨am_alS i108_47 (s108_47 K), List.forall_mem_cons.mpr ⟨am_alS i108_50 (s108_50 K), List.forall_mem_cons.mpr ⟨am_alS i108_51 (s108_51 K), List.forall_mem_cons.mpr ⟨am_alS i108_53 (s108_53 K), List.forall_mem_cons.mpr ⟨am_alS i108_54 (s108_54 K), List.forall_mem_cons.mpr ⟨am_alS i108_56 (s108_56 K), fun _ h => absurd h List.not_mem_nil⟩⟩⟩⟩⟩⟩⟩⟩⟩⟩⟩⟩⟩⟩⟩⟩⟩⟩⟩⟩⟩⟩⟩⟩⟩⟩⟩⟩⟩⟩
theorem al108_1 (K : aK) : ∀ q ∈ [58, 59, 62, 65, 66, 67, 69, 70, 73, 76, 77, 79, 81, 84, 87, 90, 93, 96, 98, 99, 102, 104, 105, 108, 111, 112], am_All K 108 q := List.forall_mem_cons.mpr ⟨am_alS i108_58 (s108_58 K), List.forall_mem_cons.mpr ⟨am_alS i108_59 (s108_59 K), List.forall_mem_cons.mpr ⟨am_alS i108_62 (s108_62 K), List.forall_mem_cons.mpr ⟨am_alS i108_65 (s108_65 K), List.forall_mem_cons.mpr ⟨am_alS i108_66 (s108_66 K), List.forall_mem_cons.mpr ⟨am_alS i108_67 (s108_67 K), List.forall_mem_cons.mpr ⟨am_alS i108_69 (s108_69 K), List.forall_mem_cons.mpr ⟨am_alC i108_70 (s108_70 K), List.forall_mem_cons.mpr ⟨am_alS i108_73 (s108_73 K), List.forall_mem_cons.mpr ⟨am_alS i108_76 (s108_76 K), List.forall_mem_cons.mpr ⟨am_alS i108_77 (s108_77 K), List.forall_mem_cons.mpr ⟨am_alS i108_79 (s108_79 K), List.forall_mem_cons.mpr ⟨am_alC i108_81 (s108_81 K), List.forall_mem_cons.mpr ⟨am_alS i108_84 (s108_84 K), List.forall_mem_cons.mpr ⟨am_alS i108_87 (s108_87 K), List.forall_mem_cons.mpr ⟨am_alS i108_90 (s108_90 K), List.forall_mem_cons.mpr ⟨am_alS i108_93 (s108_93 K), List.forall_mem_cons.mpr ⟨am_alS i108_96 (s108_96 K), List.forall_mem_cons.mpr ⟨am_alS i108_98 (s108_98 K), List.forall_mem_cons.mpr ⟨am_alS i108_99 (s108_99 K), List.forall_mem_cons.mpr ⟨am_alS i108_102 (s108_102 K), List.forall_mem_cons.mpr ⟨am_alR i108_104 s108_104, List.forall_mem_cons.mpr ⟨am_alS i108_105 (s108_105 K), List.forall_mem_cons.mpr ⟨am_alS i108_108 (s108_108 K), List.forall_mem_cons.mpr ⟨am_alS i108_111 (s108_111 K), List.forall_mem_cons.mpr ⟨am_alR i108_112 s108_112, fun _ h => absurd h List.not_mem_nil⟩⟩⟩⟩⟩⟩⟩⟩⟩⟩⟩⟩⟩⟩⟩⟩⟩⟩⟩⟩⟩⟩⟩⟩⟩⟩
set_option maxRecDepth 100000 in
theorem al108 (K : aK) : ∀ q ∈ (am_t108).map (fun z => z.1), am_All K 108 q := by
  have e : (am_t108).map (fun z => z.1) = [0, 1, 4, 7, 8, 11, 14, 15, 16, 19, 22, 23, 24, 25, 27, 29, 30, 33, 36, 37, 38, 40, 41, 44, 47, 50, 51, 53, 54, 56] ++ ([58, 59, 62, 65, 66, 67, 69, 70, 73, 76, 77, 79, 81, 84, 87, 90, 93, 96, 98, 99, 102, 104, 105, 108, 111, 112]) := rfl
  rw [e]
  exact List.forall_mem_append.mpr ⟨al108_0 K, al108_1 K⟩
theorem i109_0 : am_ins 109 0 = (1, 1, 1, 0, []) := by decide +kernel
theorem d109_0 : decode (am_cod 109) 0 = .ok (.iload_n 1, 1) := by decide +kernel
theorem s109_0 (K : aK) : am_Snd K 109 0 := sn_iload_n i109_0 d109_0 rfl
theorem i109_1 : am_ins 109 1 = (1, 2, 1, 0, []) := by decide +kernel
theorem d109_1 : decode (am_cod 109) 1 = .ok (.iload_n 2, 1) := by decide +kernel
theorem s109_1 (K : aK) : am_Snd K 109 1 := sn_iload_n i109_1 d109_1 rfl
theorem i109_2 : am_ins 109 2 = (61, 77, 2, 0, []) := by decide +kernel
theorem d109_2 : decode (am_cod 109) 2 = .ok (.invokestatic 160, 3) := by decide +kernel
theorem s109_2 (K : aK) : am_SndC K 109 2 := sc_S i109_2 d109_2 co77 w_691 w_692 w_6 hd77
theorem i109_5 : am_ins 109 5 = (12, 1, 10, 0, []) := by decide +kernel
theorem d109_5 : decode (am_cod 109) 5 = .ok (.ifCond .ne 5, 3) := by decide +kernel
theorem s109_5 (K : aK) : am_Snd K 109 5 := sn_if_ne i109_5 d109_5 rfl
theorem i109_8 : am_ins 109 8 = (0, 1, 0, (-1), []) := by decide +kernel
theorem d109_8 : decode (am_cod 109) 8 = .ok (.iconst (-1), 1) := by decide +kernel
theorem s109_8 (K : aK) : am_Snd K 109 8 := sn_const1 i109_8 d109_8 rfl
theorem i109_9 : am_ins 109 9 = (50, 0, 0, 0, []) := by decide +kernel
theorem d109_9 : decode (am_cod 109) 9 = .ok (.ireturn, 1) := by decide +kernel
theorem s109_9 : am_SndR 109 9 := sn_iret i109_9 d109_9 rfl
theorem i109_10 : am_ins 109 10 = (33, 0, 1, 0, []) := by decide +kernel
theorem d109_10 : decode (am_cod 109) 10 = .ok (.aload_n 0, 1) := by decide +kernel
theorem s109_10 (K : aK) : am_Snd K 109 10 := sn_aload_n i109_10 d109_10 rfl
theorem i109_11 : am_ins 109 11 = (1, 1, 1, 0, []) := by decide +kernel
theorem d109_11 : decode (am_cod 109) 11 = .ok (.iload_n 1, 1) := by decide +kernel
theorem s109_11 (K : aK) : am_Snd K 109 11 := sn_iload_n i109_11 d109_11 rfl
theorem i109_12 : am_ins 109 12 = (1, 2, 1, 0, []) := by decide +kernel
theorem d109_12 : decode (am_cod 109) 12 = .ok (.iload_n 2, 1) := by decide +kernel
theorem s109_12 (K : aK) : am_Snd K 109 12 := sn_iload_n i109_12 d109_12 rfl
theorem i109_13 : am_ins 109 13 = (60, 86, 2, 0, []) := by decide +kernel
theorem d109_13 : decode (am_cod 109) 13 = .ok (.invokevirtual 163, 3) := by decide +kernel
theorem s109_13 (K : aK) : am_SndC K 109 13 := sc_V i109_13 d109_13 co86 w_694 w_696 ws_27 w_6 rfl (rr := (CN7, FT7, 24)) rfl rfl hd86
theorem i109_16 : am_ins 109 16 = (2, 4, 2, 0, []) := by decide +kernel
theorem d109_16 : decode (am_cod 109) 16 = .ok (.istore 4, 2) := by decide +kernel
theorem s109_16 (K : aK) : am_Snd K 109 16 := sn_istore i109_16 d109_16 (by decide +kernel)
theorem i109_18 : am_ins 109 18 = (1, 3, 1, 0, []) := by decide +kernel
theorem d109_18 : decode (am_cod 109) 18 = .ok (.iload_n 3, 1) := by decide +kernel
theorem s109_18 (K : aK) : am_Snd K 109 18 := sn_iload_n i109_18 d109_18 rfl
theorem i109_19 : am_ins 109 19 = (32, 154, 0, 0, [(0, 44), (1, 108), (2, 131)]) := by decide +kernel
theorem d109_19 : decode (am_cod 109) 19 = .ok (.tableswitch 135 0 2 #[25, 89, 112], 25) := by decide +kernel
theorem s109_19 (K : aK) : am_Snd K 109 19 := sn_tsw (ts := [44, 108, 131]) i109_19 d109_19 rfl (by decide) rfl (by decide)
theorem i109_44 : am_ins 109 44 = (0, 1, 0, 0, []) := by decide +kernel
theorem d109_44 : decode (am_cod 109) 44 = .ok (.iconst 0, 1) := by decide +kernel
theorem s109_44 (K : aK) : am_Snd K 109 44 := sn_const1 i109_44 d109_44 rfl
theorem i109_45 : am_ins 109 45 = (2, 5, 2, 0, []) := by decide +kernel
theorem d109_45 : decode (am_cod 109) 45 = .ok (.istore 5, 2) := by decide +kernel
theorem s109_45 (K : aK) : am_Snd K 109 45 := sn_istore i109_45 d109_45 (by decide +kernel)
theorem i109_47 : am_ins 109 47 = (0, 1, 0, 0, []) := by decide +kernel
theorem d109_47 : decode (am_cod 109) 47 = .ok (.iconst 0, 1) := by decide +kernel
theorem s109_47 (K : aK) : am_Snd K 109 47 := sn_const1 i109_47 d109_47 rfl
theorem i109_48 : am_ins 109 48 = (2, 6, 2, 0, []) := by decide +kernel
theorem d109_48 : decode (am_cod 109) 48 = .ok (.istore 6, 2) := by decide +kernel
theorem s109_48 (K : aK) : am_Snd K 109 48 := sn_istore i109_48 d109_48 (by decide +kernel)
theorem i109_50 : am_ins 109 50 = (1, 6, 2, 0, []) := by decide +kernel
theorem d109_50 : decode (am_cod 109) 50 = .ok (.iload 6, 2) := by decide +kernel
theorem s109_50 (K : aK) : am_Snd K 109 50 := sn_iload i109_50 d109_50 
theorem i109_52 : am_ins 109 52 = (33, 0, 1, 0, []) := by decide +kernel
theorem d109_52 : decode (am_cod 109) 52 = .ok (.aload_n 0, 1) := by decide +kernel
theorem s109_52 (K : aK) : am_Snd K 109 52 := sn_aload_n i109_52 d109_52 rfl
theorem i109_53 : am_ins 109 53 = (18, 7, 22, 0, []) := by decide +kernel
theorem d109_53 : decode (am_cod 109) 53 = .ok (.getfield 103, 3) := by decide +kernel
theorem s109_53 (K : aK) : am_Snd K 109 53 := sn_get (C0 := CN7) (T := FT7) (Nf := 24) i109_53 d109_53 rfl (by decide +kernel) fin7 w_531 rfl
theorem i109_56 : am_ins 109 56 = (13, 3, 105, 0, []) := by decide +kernel
theorem d109_56 : decode (am_cod 109) 56 = .ok (.if_icmp .ge 49, 3) := by decide +kernel
theorem s109_56 (K : aK) : am_Snd K 109 56 := sn_icmp_ge i109_56 d109_56 rfl
theorem i109_59 : am_ins 109 59 = (1, 5, 2, 0, []) := by decide +kernel
theorem d109_59 : decode (am_cod 109) 59 = .ok (.iload 5, 2) := by decide +kernel
theorem s109_59 (K : aK) : am_Snd K 109 59 := sn_iload i109_59 d109_59 
theorem i109_61 : am_ins 109 61 = (33, 0, 1, 0, []) := by decide +kernel
theorem d109_61 : decode (am_cod 109) 61 = .ok (.aload_n 0, 1) := by decide +kernel
theorem s109_61 (K : aK) : am_Snd K 109 61 := sn_aload_n i109_61 d109_61 rfl
theorem i109_62 : am_ins 109 62 = (18, 7, 23, 0, []) := by decide +kernel
theorem d109_62 : decode (am_cod 109) 62 = .ok (.getfield 74, 3) := by decide +kernel
theorem s109_62 (K : aK) : am_Snd K 109 62 := sn_get (C0 := CN7) (T := FT7) (Nf := 24) i109_62 d109_62 rfl (by decide +kernel) fin7 w_532 rfl
theorem i109_65 : am_ins 109 65 = (0, 2, 0, 7, []) := by decide +kernel
theorem d109_65 : decode (am_cod 109) 65 = .ok (.bipush 7, 2) := by decide +kernel
theorem s109_65 (K : aK) : am_Snd K 109 65 := sn_const2 i109_65 d109_65 (by decide +kernel)
theorem i109_67 : am_ins 109 67 = (1, 6, 2, 0, []) := by decide +kernel
theorem d109_67 : decode (am_cod 109) 67 = .ok (.iload 6, 2) := by decide +kernel
theorem s109_67 (K : aK) : am_Snd K 109 67 := sn_iload i109_67 d109_67 
theorem i109_69 : am_ins 109 69 = (4, 2, 0, 0, []) := by decide +kernel
theorem d109_69 : decode (am_cod 109) 69 = .ok (.imul, 1) := by decide +kernel
theorem s109_69 (K : aK) : am_Snd K 109 69 := sn_mul i109_69 d109_69 
theorem i109_70 : am_ins 109 70 = (22, 0, 0, 0, []) := by decide +kernel
theorem d109_70 : decode (am_cod 109) 70 = .ok (.iaload, 1) := by decide +kernel
theorem s109_70 (K : aK) : am_Snd K 109 70 := sn_iald i109_70 d109_70 
theorem i109_71 : am_ins 109 71 = (1, 1, 1, 0, []) := by decide +kernel
theorem d109_71 : decode (am_cod 109) 71 = .ok (.iload_n 1, 1) := by decide +kernel
theorem s109_71 (K : aK) : am_Snd K 109 71 := sn_iload_n i109_71 d109_71 rfl
theorem i109_72 : am_ins 109 72 = (13, 1, 95, 0, []) := by decide +kernel
theorem d109_72 : decode (am_cod 109) 72 = .ok (.if_icmp .ne 23, 3) := by decide +kernel
theorem s109_72 (K : aK) : am_Snd K 109 72 := sn_icmp_ne i109_72 d109_72 rfl
theorem i109_75 : am_ins 109 75 = (33, 0, 1, 0, []) := by decide +kernel
theorem d109_75 : decode (am_cod 109) 75 = .ok (.aload_n 0, 1) := by decide +kernel
theorem s109_75 (K : aK) : am_Snd K 109 75 := sn_aload_n i109_75 d109_75 rfl
theorem i109_76 : am_ins 109 76 = (18, 7, 23, 0, []) := by decide +kernel
theorem d109_76 : decode (am_cod 109) 76 = .ok (.getfield 74, 3) := by decide +kernel
theorem s109_76 (K : aK) : am_Snd K 109 76 := sn_get (C0 := CN7) (T := FT7) (Nf := 24) i109_76 d109_76 rfl (by decide +kernel) fin7 w_532 rfl
theorem i109_79 : am_ins 109 79 = (0, 2, 0, 7, []) := by decide +kernel
theorem d109_79 : decode (am_cod 109) 79 = .ok (.bipush 7, 2) := by decide +kernel
theorem s109_79 (K : aK) : am_Snd K 109 79 := sn_const2 i109_79 d109_79 (by decide +kernel)
theorem i109_81 : am_ins 109 81 = (1, 6, 2, 0, []) := by decide +kernel
theorem d109_81 : decode (am_cod 109) 81 = .ok (.iload 6, 2) := by decide +kernel
theorem s109_81 (K : aK) : am_Snd K 109 81 := sn_iload i109_81 d109_81 
theorem i109_83 : am_ins 109 83 = (4, 2, 0, 0, []) := by decide +kernel
theorem d109_83 : decode (am_cod 109) 83 = .ok (.imul, 1) := by decide +kernel
theorem s109_83 (K : aK) : am_Snd K 109 83 := sn_mul i109_83 d109_83 
theorem i109_84 : am_ins 109 84 = (0, 1, 0, 1, []) := by decide +kernel
theorem d109_84 : decode (am_cod 109) 84 = .ok (.iconst 1, 1) := by decide +kernel
theorem s109_84 (K : aK) : am_Snd K 109 84 := sn_const1 i109_84 d109_84 rfl
theorem i109_85 : am_ins 109 85 = (4, 0, 0, 0, []) := by decide +kernel
theorem d109_85 : decode (am_cod 109) 85 = .ok (.iadd, 1) := by decide +kernel
theorem s109_85 (K : aK) : am_Snd K 109 85 := sn_add i109_85 d109_85 
theorem i109_86 : am_ins 109 86 = (22, 0, 0, 0, []) := by decide +kernel
theorem d109_86 : decode (am_cod 109) 86 = .ok (.iaload, 1) := by decide +kernel
theorem s109_86 (K : aK) : am_Snd K 109 86 := sn_iald i109_86 d109_86 
theorem i109_87 : am_ins 109 87 = (1, 2, 1, 0, []) := by decide +kernel
theorem d109_87 : decode (am_cod 109) 87 = .ok (.iload_n 2, 1) := by decide +kernel
theorem s109_87 (K : aK) : am_Snd K 109 87 := sn_iload_n i109_87 d109_87 rfl
theorem i109_88 : am_ins 109 88 = (13, 1, 95, 0, []) := by decide +kernel
theorem d109_88 : decode (am_cod 109) 88 = .ok (.if_icmp .ne 7, 3) := by decide +kernel
theorem s109_88 (K : aK) : am_Snd K 109 88 := sn_icmp_ne i109_88 d109_88 rfl
theorem i109_91 : am_ins 109 91 = (0, 1, 0, 1, []) := by decide +kernel
theorem d109_91 : decode (am_cod 109) 91 = .ok (.iconst 1, 1) := by decide +kernel
theorem s109_91 (K : aK) : am_Snd K 109 91 := sn_const1 i109_91 d109_91 rfl
theorem i109_92 : am_ins 109 92 = (14, 96, 0, 0, []) := by decide +kernel
theorem d109_92 : decode (am_cod 109) 92 = .ok (.goto 4, 3) := by decide +kernel
theorem s109_92 (K : aK) : am_Snd K 109 92 := sn_goto i109_92 d109_92 rfl
theorem i109_95 : am_ins 109 95 = (0, 1, 0, 0, []) := by decide +kernel
theorem d109_95 : decode (am_cod 109) 95 = .ok (.iconst 0, 1) := by decide +kernel
theorem s109_95 (K : aK) : am_Snd K 109 95 := sn_const1 i109_95 d109_95 rfl
theorem i109_96 : am_ins 109 96 = (4, 0, 0, 0, []) := by decide +kernel
theorem d109_96 : decode (am_cod 109) 96 = .ok (.iadd, 1) := by decide +kernel
theorem s109_96 (K : aK) : am_Snd K 109 96 := sn_add i109_96 d109_96 
theorem i109_97 : am_ins 109 97 = (2, 5, 2, 0, []) := by decide +kernel
theorem d109_97 : decode (am_cod 109) 97 = .ok (.istore 5, 2) := by decide +kernel
theorem s109_97 (K : aK) : am_Snd K 109 97 := sn_istore i109_97 d109_97 (by decide +kernel)
theorem i109_99 : am_ins 109 99 = (3, 6, 3, 1, []) := by decide +kernel
theorem d109_99 : decode (am_cod 109) 99 = .ok (.iinc 6 1, 3) := by decide +kernel
theorem s109_99 (K : aK) : am_Snd K 109 99 := sn_iinc i109_99 d109_99 rfl (by decide +kernel)
theorem i109_102 : am_ins 109 102 = (14, 50, 0, 0, []) := by decide +kernel
theorem d109_102 : decode (am_cod 109) 102 = .ok (.goto (-52), 3) := by decide +kernel
theorem s109_102 (K : aK) : am_Snd K 109 102 := sn_goto i109_102 d109_102 rfl
theorem i109_105 : am_ins 109 105 = (1, 5, 2, 0, []) := by decide +kernel
theorem d109_105 : decode (am_cod 109) 105 = .ok (.iload 5, 2) := by decide +kernel
theorem s109_105 (K : aK) : am_Snd K 109 105 := sn_iload i109_105 d109_105 
theorem i109_107 : am_ins 109 107 = (50, 0, 0, 0, []) := by decide +kernel
theorem d109_107 : decode (am_cod 109) 107 = .ok (.ireturn, 1) := by decide +kernel
theorem s109_107 : am_SndR 109 107 := sn_iret i109_107 d109_107 rfl
theorem i109_108 : am_ins 109 108 = (1, 4, 2, 0, []) := by decide +kernel
theorem d109_108 : decode (am_cod 109) 108 = .ok (.iload 4, 2) := by decide +kernel
theorem s109_108 (K : aK) : am_Snd K 109 108 := sn_iload i109_108 d109_108 
theorem i109_110 : am_ins 109 110 = (0, 1, 0, (-1), []) := by decide +kernel
theorem d109_110 : decode (am_cod 109) 110 = .ok (.iconst (-1), 1) := by decide +kernel
theorem s109_110 (K : aK) : am_Snd K 109 110 := sn_const1 i109_110 d109_110 rfl
theorem i109_111 : am_ins 109 111 = (13, 1, 118, 0, []) := by decide +kernel
theorem d109_111 : decode (am_cod 109) 111 = .ok (.if_icmp .ne 7, 3) := by decide +kernel
theorem s109_111 (K : aK) : am_Snd K 109 111 := sn_icmp_ne i109_111 d109_111 rfl
theorem i109_114 : am_ins 109 114 = (0, 1, 0, 0, []) := by decide +kernel
theorem d109_114 : decode (am_cod 109) 114 = .ok (.iconst 0, 1) := by decide +kernel
theorem s109_114 (K : aK) : am_Snd K 109 114 := sn_const1 i109_114 d109_114 rfl
theorem i109_115 : am_ins 109 115 = (14, 130, 0, 0, []) := by decide +kernel
theorem d109_115 : decode (am_cod 109) 115 = .ok (.goto 15, 3) := by decide +kernel
theorem s109_115 (K : aK) : am_Snd K 109 115 := sn_goto i109_115 d109_115 rfl
theorem i109_118 : am_ins 109 118 = (33, 0, 1, 0, []) := by decide +kernel
theorem d109_118 : decode (am_cod 109) 118 = .ok (.aload_n 0, 1) := by decide +kernel
theorem s109_118 (K : aK) : am_Snd K 109 118 := sn_aload_n i109_118 d109_118 rfl
theorem i109_119 : am_ins 109 119 = (18, 7, 23, 0, []) := by decide +kernel
theorem d109_119 : decode (am_cod 109) 119 = .ok (.getfield 74, 3) := by decide +kernel
theorem s109_119 (K : aK) : am_Snd K 109 119 := sn_get (C0 := CN7) (T := FT7) (Nf := 24) i109_119 d109_119 rfl (by decide +kernel) fin7 w_532 rfl
theorem i109_122 : am_ins 109 122 = (0, 2, 0, 7, []) := by decide +kernel
theorem d109_122 : decode (am_cod 109) 122 = .ok (.bipush 7, 2) := by decide +kernel
theorem s109_122 (K : aK) : am_Snd K 109 122 := sn_const2 i109_122 d109_122 (by decide +kernel)
theorem i109_124 : am_ins 109 124 = (1, 4, 2, 0, []) := by decide +kernel
theorem d109_124 : decode (am_cod 109) 124 = .ok (.iload 4, 2) := by decide +kernel
theorem s109_124 (K : aK) : am_Snd K 109 124 := sn_iload i109_124 d109_124 
theorem i109_126 : am_ins 109 126 = (4, 2, 0, 0, []) := by decide +kernel
theorem d109_126 : decode (am_cod 109) 126 = .ok (.imul, 1) := by decide +kernel
theorem s109_126 (K : aK) : am_Snd K 109 126 := sn_mul i109_126 d109_126 
theorem i109_127 : am_ins 109 127 = (0, 1, 0, 2, []) := by decide +kernel
theorem d109_127 : decode (am_cod 109) 127 = .ok (.iconst 2, 1) := by decide +kernel
theorem s109_127 (K : aK) : am_Snd K 109 127 := sn_const1 i109_127 d109_127 rfl
theorem i109_128 : am_ins 109 128 = (4, 0, 0, 0, []) := by decide +kernel
theorem d109_128 : decode (am_cod 109) 128 = .ok (.iadd, 1) := by decide +kernel
theorem s109_128 (K : aK) : am_Snd K 109 128 := sn_add i109_128 d109_128 
theorem i109_129 : am_ins 109 129 = (22, 0, 0, 0, []) := by decide +kernel
theorem d109_129 : decode (am_cod 109) 129 = .ok (.iaload, 1) := by decide +kernel
theorem s109_129 (K : aK) : am_Snd K 109 129 := sn_iald i109_129 d109_129 
theorem i109_130 : am_ins 109 130 = (50, 0, 0, 0, []) := by decide +kernel
theorem d109_130 : decode (am_cod 109) 130 = .ok (.ireturn, 1) := by decide +kernel
theorem s109_130 : am_SndR 109 130 := sn_iret i109_130 d109_130 rfl
theorem i109_131 : am_ins 109 131 = (1, 4, 2, 0, []) := by decide +kernel
theorem d109_131 : decode (am_cod 109) 131 = .ok (.iload 4, 2) := by decide +kernel
theorem s109_131 (K : aK) : am_Snd K 109 131 := sn_iload i109_131 d109_131 
theorem i109_133 : am_ins 109 133 = (0, 1, 0, (-1), []) := by decide +kernel
theorem d109_133 : decode (am_cod 109) 133 = .ok (.iconst (-1), 1) := by decide +kernel
theorem s109_133 (K : aK) : am_Snd K 109 133 := sn_const1 i109_133 d109_133 rfl
theorem i109_134 : am_ins 109 134 = (13, 1, 141, 0, []) := by decide +kernel
theorem d109_134 : decode (am_cod 109) 134 = .ok (.if_icmp .ne 7, 3) := by decide +kernel
theorem s109_134 (K : aK) : am_Snd K 109 134 := sn_icmp_ne i109_134 d109_134 rfl
theorem i109_137 : am_ins 109 137 = (0, 1, 0, (-1), []) := by decide +kernel
theorem d109_137 : decode (am_cod 109) 137 = .ok (.iconst (-1), 1) := by decide +kernel
theorem s109_137 (K : aK) : am_Snd K 109 137 := sn_const1 i109_137 d109_137 rfl
theorem i109_138 : am_ins 109 138 = (14, 153, 0, 0, []) := by decide +kernel
theorem d109_138 : decode (am_cod 109) 138 = .ok (.goto 15, 3) := by decide +kernel
theorem s109_138 (K : aK) : am_Snd K 109 138 := sn_goto i109_138 d109_138 rfl
theorem i109_141 : am_ins 109 141 = (33, 0, 1, 0, []) := by decide +kernel
theorem d109_141 : decode (am_cod 109) 141 = .ok (.aload_n 0, 1) := by decide +kernel
theorem s109_141 (K : aK) : am_Snd K 109 141 := sn_aload_n i109_141 d109_141 rfl
theorem i109_142 : am_ins 109 142 = (18, 7, 23, 0, []) := by decide +kernel
theorem d109_142 : decode (am_cod 109) 142 = .ok (.getfield 74, 3) := by decide +kernel
theorem s109_142 (K : aK) : am_Snd K 109 142 := sn_get (C0 := CN7) (T := FT7) (Nf := 24) i109_142 d109_142 rfl (by decide +kernel) fin7 w_532 rfl
theorem i109_145 : am_ins 109 145 = (0, 2, 0, 7, []) := by decide +kernel
theorem d109_145 : decode (am_cod 109) 145 = .ok (.bipush 7, 2) := by decide +kernel
theorem s109_145 (K : aK) : am_Snd K 109 145 := sn_const2 i109_145 d109_145 (by decide +kernel)
theorem i109_147 : am_ins 109 147 = (1, 4, 2, 0, []) := by decide +kernel
theorem d109_147 : decode (am_cod 109) 147 = .ok (.iload 4, 2) := by decide +kernel
theorem s109_147 (K : aK) : am_Snd K 109 147 := sn_iload i109_147 d109_147 
theorem i109_149 : am_ins 109 149 = (4, 2, 0, 0, []) := by decide +kernel
theorem d109_149 : decode (am_cod 109) 149 = .ok (.imul, 1) := by decide +kernel
theorem s109_149 (K : aK) : am_Snd K 109 149 := sn_mul i109_149 d109_149 
theorem i109_150 : am_ins 109 150 = (0, 1, 0, 3, []) := by decide +kernel
theorem d109_150 : decode (am_cod 109) 150 = .ok (.iconst 3, 1) := by decide +kernel
theorem s109_150 (K : aK) : am_Snd K 109 150 := sn_const1 i109_150 d109_150 rfl
theorem i109_151 : am_ins 109 151 = (4, 0, 0, 0, []) := by decide +kernel
theorem d109_151 : decode (am_cod 109) 151 = .ok (.iadd, 1) := by decide +kernel
theorem s109_151 (K : aK) : am_Snd K 109 151 := sn_add i109_151 d109_151 
theorem i109_152 : am_ins 109 152 = (22, 0, 0, 0, []) := by decide +kernel
theorem d109_152 : decode (am_cod 109) 152 = .ok (.iaload, 1) := by decide +kernel
theorem s109_152 (K : aK) : am_Snd K 109 152 := sn_iald i109_152 d109_152 
theorem i109_153 : am_ins 109 153 = (50, 0, 0, 0, []) := by decide +kernel
theorem d109_153 : decode (am_cod 109) 153 = .ok (.ireturn, 1) := by decide +kernel
theorem s109_153 : am_SndR 109 153 := sn_iret i109_153 d109_153 rfl
theorem i109_154 : am_ins 109 154 = (0, 1, 0, (-1), []) := by decide +kernel
theorem d109_154 : decode (am_cod 109) 154 = .ok (.iconst (-1), 1) := by decide +kernel
theorem s109_154 (K : aK) : am_Snd K 109 154 := sn_const1 i109_154 d109_154 rfl
theorem i109_155 : am_ins 109 155 = (50, 0, 0, 0, []) := by decide +kernel
theorem d109_155 : decode (am_cod 109) 155 = .ok (.ireturn, 1) := by decide +kernel
theorem s109_155 : am_SndR 109 155 := sn_iret i109_155 d109_155 rfl
theorem al109_0 (K : aK) : ∀ q ∈ [0, 1, 2, 5, 8, 9, 10, 11, 12, 13, 16, 18, 19, 44, 45, 47, 48, 50, 52, 53, 56, 59, 61, 62, 65, 67, 69, 70, 71, 72], am_All K 109 q := List.forall_mem_cons.mpr ⟨am_alS i109_0 (s109_0 K), List.forall_mem_cons.mpr ⟨am_alS i109_1 (s109_1 K), List.forall_mem_cons.mpr ⟨am_alC i109_2 (s109_2 K), List.forall_mem_cons.mpr ⟨am_alS i109_5 (s109_5 K), List.forall_mem_cons.mpr ⟨am_alS i109_8 (s109_8 K), List.forall_mem_cons.mpr ⟨am_alR i109_9 s109_9, List.forall_mem_cons.mpr ⟨am_alS i109_10 (s109_10 K), List.forall_mem_cons.mpr ⟨am_alS i109_11 (s109_11 K), List.forall_mem_cons.mpr ⟨am_alS i109_12 (s109_12 K), List.forall_mem_cons.mpr ⟨am_alC i109_13 (s109_13 K), List.forall_mem_cons.mpr ⟨am_alS i109_16 (s109_16 K), List.forall_mem_cons.mpr ⟨am_alS i109_18 (s109_18 K), List.forall_mem_cons.mpr ⟨am_alS i109_19 (s109_19 K), List.forall_mem_cons.mpr ⟨am_alS i109_44 (s109_44 K), List.forall_mem_cons.mpr ⟨am_alS i109_45 (s109_45 K), List.forall_mem_cons.mpr ⟨am_alS i109_47 (s109_47 K), List.forall_mem_cons.mpr ⟨am_alS i109_48 (s109_48 K), List.forall_mem_cons.mpr ⟨am_alS i109_50 (s109_50 K), List.forall_mem_cons.mpr ⟨am_alS i109_52 (s109_52 K), List.forall_mem_cons.mpr ⟨am_alS i109_53 (s109_53 K), List.forall_mem_cons.mpr ⟨am_alS i109_56 (s109_56 K), List.forall_mem_cons.mpr ⟨am_alS i109_59 (s109_59 K), List.forall_mem_cons.mpr ⟨am_alS i109_61 (s109_61 K), List.forall_mem_cons.mpr ⟨am_alS i109_62 (s109_62 K), List.forall_mem_cons.mpr ⟨am_alS i109_65 (s109_65 K), List.forall_mem_cons.mpr ⟨am_alS i109_67 (s109_67 K), List.forall_mem_cons.mpr ⟨am_alS i109_69 (s109_69 K), List.forall_mem_cons.mpr ⟨am_alS i109_70 (s109_70 K), List.forall_mem_cons.mpr ⟨am_alS i109_71 (s109_71 K), List.forall_mem_cons.mpr ⟨am_alS i109_72 (s109_72 K), fun _ h => absurd h List.not_mem_nil⟩⟩⟩⟩⟩⟩⟩⟩⟩⟩⟩⟩⟩⟩⟩⟩⟩⟩⟩⟩⟩⟩⟩⟩⟩⟩⟩⟩⟩⟩
theorem al109_1 (K : aK) : ∀ q ∈ [75, 76, 79, 81, 83, 84, 85, 86, 87, 88, 91, 92, 95, 96, 97, 99, 102, 105, 107, 108, 110, 111, 114, 115, 118, 119, 122, 124, 126, 127], am_All K 109 q := List.forall_mem_cons.mpr ⟨am_alS i109_75 (s109_75 K), List.forall_mem_cons.mpr ⟨am_alS i109_76 (s109_76 K), List.forall_mem_cons.mpr ⟨am_alS i109_79 (s109_79 K), List.forall_mem_cons.mpr ⟨am_alS i109_81 (s109_81 K), List.forall_mem_cons.mpr ⟨am_alS i109_83 (s109_83 K), List.forall_mem_cons.mpr ⟨am_alS i109_84 (s109_84 K), List.forall_mem_cons.mpr ⟨am_alS i109_85 (s109_85 K), List.forall_mem_cons.mpr ⟨am_alS i109_86 (s109_86 K), List.forall_mem_cons.mpr ⟨am_alS i109_87 (s109_87 K), List.forall_mem_cons.mpr ⟨am_alS i109_88 (s109_88 K), List.forall_mem_cons.mpr ⟨am_alS i109_91 (s109_91 K), List.forall_mem_cons.mpr ⟨am_alS i109_92 (s109_92 K), List.forall_mem_cons.mpr ⟨am_alS i109_95 (s109_95 K), List.forall_mem_cons.mpr ⟨am_alS i109_96 (s109_96 K), List.forall_mem_cons.mpr ⟨am_alS i109_97 (s109_97 K), List.forall_mem_cons.mpr ⟨am_alS i109_99 (s109_99 K), List.forall_mem_cons.mpr ⟨am_alS i109_102 (s109_102 K), List.forall_mem_cons.mpr ⟨am_alS i109_105 (s109_105 K), List.forall_mem_cons.mpr ⟨am_alR i109_107 s109_107, List.forall_mem_cons.mpr ⟨am_alS i109_108 (s109_108 K), List.forall_mem_cons.mpr ⟨am_alS i109_110 (s109_110 K), List.forall_mem_cons.mpr ⟨am_alS i109_111 (s109_111 K), List.forall_mem_cons.mpr ⟨am_alS i109_114 (s109_114 K), List.forall_mem_cons.mpr ⟨am_alS i109_115 (s109_115 K), List.forall_mem_cons.mpr ⟨am_alS i109_118 (s109_118 K), List.forall_mem_cons.mpr ⟨am_alS i109_119 (s109_119 K), List.forall_mem_cons.mpr ⟨am_alS i109_122 (s109_122 K), List.forall_mem_cons.mpr ⟨am_alS i109_124 (s109_124 K), List.forall_mem_cons.mpr ⟨am_alS i109_126 (s109_126 K), List.forall_mem_cons.mpr ⟨am_alS i109_127 (s109_127 K), fun _ h => absurd h List.not_mem_nil⟩⟩⟩⟩⟩⟩⟩⟩⟩⟩⟩⟩⟩⟩⟩⟩⟩⟩⟩⟩⟩⟩⟩⟩⟩⟩⟩⟩⟩⟩
theorem al109_2 (K : aK) : ∀ q ∈ [128, 129, 130, 131, 133, 134, 137, 138, 141, 142, 145, 147, 149, 150, 151, 152, 153, 154, 155], am_All K 109 q := List.forall_mem_cons.mpr ⟨am_alS i109_128 (s109_128 K), List.forall_mem_cons.mpr ⟨am_alS i109_129 (s109_129 K), List.forall_mem_cons.mpr ⟨am_alR i109_130 s109_130, List.forall_mem_cons.mpr ⟨am_alS i109_131 (s109_131 K), List.forall_mem_cons.mpr ⟨am_alS i109_133 (s109_133 K), List.forall_mem_cons.mpr ⟨am_alS i109_134 (s109_134 K), List.forall_mem_cons.mpr ⟨am_alS i109_137 (s109_137 K), List.forall_mem_cons.mpr ⟨am_alS i109_138 (s109_138 K), List.forall_mem_cons.mpr ⟨am_alS i109_141 (s109_141 K), List.forall_mem_cons.mpr ⟨am_alS i109_142 (s109_142 K), List.forall_mem_cons.mpr ⟨am_alS i109_145 (s109_145 K), List.forall_mem_cons.mpr ⟨am_alS i109_147 (s109_147 K), List.forall_mem_cons.mpr ⟨am_alS i109_149 (s109_149 K), List.forall_mem_cons.mpr ⟨am_alS i109_150 (s109_150 K), List.forall_mem_cons.mpr ⟨am_alS i109_151 (s109_151 K), List.forall_mem_cons.mpr ⟨am_alS i109_152 (s109_152 K), List.forall_mem_cons.mpr ⟨am_alR i109_153 s109_153, List.forall_mem_cons.mpr ⟨am_alS i109_154 (s109_154 K), List.forall_mem_cons.mpr ⟨am_alR i109_155 s109_155, fun _ h => absurd h List.not_mem_nil⟩⟩⟩⟩⟩⟩⟩⟩⟩⟩⟩⟩⟩⟩⟩⟩⟩⟩⟩
set_option maxRecDepth 100000 in
theorem al109 (K : aK) : ∀ q ∈ (am_t109).map (fun z => z.1), am_All K 109 q := by
  have e : (am_t109).map (fun z => z.1) = [0, 1, 2, 5, 8, 9, 10, 11, 12, 13, 16, 18, 19, 44, 45, 47, 48, 50, 52, 53, 56, 59, 61, 62, 65, 67, 69, 70, 71, 72] ++ ([75, 76, 79, 81, 83, 84, 85, 86, 87, 88, 91, 92, 95, 96, 97, 99, 102, 105, 107, 108, 110, 111, 114, 115, 118, 119, 122, 124, 126, 127] ++ ([128, 129, 130, 131, 133, 134, 137, 138, 141, 142, 145, 147, 149, 150, 151, 152, 153, 154, 155])) := rfl
  rw [e]
  exact List.forall_mem_append.mpr ⟨al109_0 K, List.forall_mem_append.mpr ⟨al109_1 K, al109_2 K⟩⟩
