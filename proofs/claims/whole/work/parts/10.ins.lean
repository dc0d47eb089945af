def am_All (K : aK) (mid pc : Nat) : Prop := ((am_ins mid pc).1 < 50 → am_Snd K mid pc) ∧ (¬ (am_ins mid pc).1 < 50 → (am_ins mid pc).1 < 60 → am_SndR mid pc) ∧ (¬ (am_ins mid pc).1 < 60 → am_SndC K mid pc)
theorem am_alS {K : aK} {mid pc : Nat} {i : aI} (hi : am_ins mid pc = i) (h : am_Snd K mid pc) (h5 : i.1 < 50 := by decide) : am_All K mid pc := ⟨fun _ => h, fun q => absurd (by rw [hi]; exact h5) q, fun q => absurd (by rw [hi]; exact Nat.lt_trans h5 (by decide)) q⟩
theorem am_alR {K : aK} {mid pc : Nat} {i : aI} (hi : am_ins mid pc = i) (h : am_SndR mid pc) (h5 : ¬ i.1 < 50 ∧ i.1 < 60 := by decide) : am_All K mid pc := ⟨fun q => absurd q (by rw [hi]; exact h5.1), fun _ _ => h, fun q => absurd (by rw [hi]; exact h5.2) q⟩
theorem am_alC {K : aK} {mid pc : Nat} {i : aI} (hi : am_ins mid pc = i) (h : am_SndC K mid pc) (h5 : ¬ i.1 < 50 ∧ ¬ i.1 < 60 := by decide) : am_All K mid pc := ⟨fun q => absurd q (by rw [hi]; exact h5.1), fun _ q => absurd q (by rw [hi]; exact h5.2), fun _ => h⟩
theorem i0_0 : am_ins 0 0 = (29, 0, 0, 0, []) := by decide +kernel
theorem d0_0 : decode (am_cod 0) 0 = .ok (.new 7, 3) := by decide +kernel
theorem s0_0 (K : aK) : am_Snd K 0 0 := sn_new (C0 := CN0) (T := FT0) (Nf := 5) (tyf := FY0) i0_0 d0_0 rfl fin0 ftyok0 w_10 w_11 w_1 rfl fdf0
theorem i0_3 : am_ins 0 3 = (7, 0, 0, 0, []) := by decide +kernel
theorem d0_3 : decode (am_cod 0) 3 = .ok (.dup, 1) := by decide +kernel
theorem s0_3 (K : aK) : am_Snd K 0 3 := sn_dup i0_3 d0_3 
theorem i0_4 : am_ins 0 4 = (62, 1, 0, 0, []) := by decide +kernel
theorem d0_4 : decode (am_cod 0) 4 = .ok (.invokespecial 9, 3) := by decide +kernel
theorem s0_4 (K : aK) : am_SndC K 0 4 := sc_I i0_4 d0_4 co1 rfl rfl w_12 w_13 w_1 hd1
theorem i0_7 : am_ins 0 7 = (34, 1, 1, 0, []) := by decide +kernel
theorem d0_7 : decode (am_cod 0) 7 = .ok (.astore_n 1, 1) := by decide +kernel
theorem s0_7 (K : aK) : am_Snd K 0 7 := sn_astore_n i0_7 d0_7 rfl (by decide +kernel)
theorem i0_8 : am_ins 0 8 = (29, 7, 0, 0, []) := by decide +kernel
theorem d0_8 : decode (am_cod 0) 8 = .ok (.new 10, 3) := by decide +kernel
theorem s0_8 (K : aK) : am_Snd K 0 8 := sn_new (C0 := CN7) (T := FT7) (Nf := 24) (tyf := FY7) i0_8 d0_8 rfl fin7 ftyok7 w_503 w_504 w_6 rfl fdf7
theorem i0_11 : am_ins 0 11 = (7, 0, 0, 0, []) := by decide +kernel
theorem d0_11 : decode (am_cod 0) 11 = .ok (.dup, 1) := by decide +kernel
theorem s0_11 (K : aK) : am_Snd K 0 11 := sn_dup i0_11 d0_11 
theorem i0_12 : am_ins 0 12 = (62, 71, 0, 0, []) := by decide +kernel
theorem d0_12 : decode (am_cod 0) 12 = .ok (.invokespecial 12, 3) := by decide +kernel
theorem s0_12 (K : aK) : am_SndC K 0 12 := sc_I i0_12 d0_12 co71 rfl rfl w_505 w_506 w_6 hd71
theorem i0_15 : am_ins 0 15 = (34, 2, 1, 0, []) := by decide +kernel
theorem d0_15 : decode (am_cod 0) 15 = .ok (.astore_n 2, 1) := by decide +kernel
theorem s0_15 (K : aK) : am_Snd K 0 15 := sn_astore_n i0_15 d0_15 rfl (by decide +kernel)
theorem i0_16 : am_ins 0 16 = (0, 1, 0, 0, []) := by decide +kernel
theorem d0_16 : decode (am_cod 0) 16 = .ok (.iconst 0, 1) := by decide +kernel
theorem s0_16 (K : aK) : am_Snd K 0 16 := sn_const1 i0_16 d0_16 rfl
theorem i0_17 : am_ins 0 17 = (2, 3, 1, 0, []) := by decide +kernel
theorem d0_17 : decode (am_cod 0) 17 = .ok (.istore_n 3, 1) := by decide +kernel
theorem s0_17 (K : aK) : am_Snd K 0 17 := sn_istore_n i0_17 d0_17 rfl (by decide +kernel)
theorem i0_18 : am_ins 0 18 = (1, 3, 1, 0, []) := by decide +kernel
theorem d0_18 : decode (am_cod 0) 18 = .ok (.iload_n 3, 1) := by decide +kernel
theorem s0_18 (K : aK) : am_Snd K 0 18 := sn_iload_n i0_18 d0_18 rfl
theorem i0_19 : am_ins 0 19 = (33, 0, 1, 0, []) := by decide +kernel
theorem d0_19 : decode (am_cod 0) 19 = .ok (.aload_n 0, 1) := by decide +kernel
theorem s0_19 (K : aK) : am_Snd K 0 19 := sn_aload_n i0_19 d0_19 rfl
theorem i0_20 : am_ins 0 20 = (28, 0, 0, 0, []) := by decide +kernel
theorem d0_20 : decode (am_cod 0) 20 = .ok (.arraylength, 1) := by decide +kernel
theorem s0_20 (K : aK) : am_Snd K 0 20 := sn_alen i0_20 d0_20 
theorem i0_21 : am_ins 0 21 = (0, 1, 0, 4, []) := by decide +kernel
theorem d0_21 : decode (am_cod 0) 21 = .ok (.iconst 4, 1) := by decide +kernel
theorem s0_21 (K : aK) : am_Snd K 0 21 := sn_const1 i0_21 d0_21 rfl
theorem i0_22 : am_ins 0 22 = (4, 1, 0, 0, []) := by decide +kernel
theorem d0_22 : decode (am_cod 0) 22 = .ok (.isub, 1) := by decide +kernel
theorem s0_22 (K : aK) : am_Snd K 0 22 := sn_sub i0_22 d0_22 
theorem i0_23 : am_ins 0 23 = (13, 4, 552, 0, []) := by decide +kernel
theorem d0_23 : decode (am_cod 0) 23 = .ok (.if_icmp .gt 529, 3) := by decide +kernel
theorem s0_23 (K : aK) : am_Snd K 0 23 := sn_icmp_gt i0_23 d0_23 rfl
theorem i0_26 : am_ins 0 26 = (33, 0, 1, 0, []) := by decide +kernel
theorem d0_26 : decode (am_cod 0) 26 = .ok (.aload_n 0, 1) := by decide +kernel
theorem s0_26 (K : aK) : am_Snd K 0 26 := sn_aload_n i0_26 d0_26 rfl
theorem i0_27 : am_ins 0 27 = (1, 3, 1, 0, []) := by decide +kernel
theorem d0_27 : decode (am_cod 0) 27 = .ok (.iload_n 3, 1) := by decide +kernel
theorem s0_27 (K : aK) : am_Snd K 0 27 := sn_iload_n i0_27 d0_27 rfl
theorem i0_28 : am_ins 0 28 = (22, 0, 0, 0, []) := by decide +kernel
theorem d0_28 : decode (am_cod 0) 28 = .ok (.iaload, 1) := by decide +kernel
theorem s0_28 (K : aK) : am_Snd K 0 28 := sn_iald i0_28 d0_28 
theorem i0_29 : am_ins 0 29 = (0, 2, 0, 15, []) := by decide +kernel
theorem d0_29 : decode (am_cod 0) 29 = .ok (.bipush 15, 2) := by decide +kernel
theorem s0_29 (K : aK) : am_Snd K 0 29 := sn_const2 i0_29 d0_29 (by decide +kernel)
theorem i0_31 : am_ins 0 31 = (4, 3, 0, 0, []) := by decide +kernel
theorem d0_31 : decode (am_cod 0) 31 = .ok (.iand, 1) := by decide +kernel
theorem s0_31 (K : aK) : am_Snd K 0 31 := sn_and i0_31 d0_31 
theorem i0_32 : am_ins 0 32 = (32, 546, 0, 0, [(0, 104), (1, 127), (2, 160), (3, 183), (4, 226), (5, 249), (6, 272), (7, 295), (8, 328), (9, 361), (10, 394), (11, 427), (12, 460), (13, 503)]) := by decide +kernel
theorem d0_32 : decode (am_cod 0) 32 = .ok (.tableswitch 514 0 13 #[72, 95, 128, 151, 194, 217, 240, 263, 296, 329, 362, 395, 428, 471], 72) := by decide +kernel
theorem s0_32 (K : aK) : am_Snd K 0 32 := sn_tsw (ts := [104, 127, 160, 183, 226, 249, 272, 295, 328, 361, 394, 427, 460, 503]) i0_32 d0_32 rfl (by decide) rfl (by decide)
theorem i0_104 : am_ins 0 104 = (33, 1, 1, 0, []) := by decide +kernel
theorem d0_104 : decode (am_cod 0) 104 = .ok (.aload_n 1, 1) := by decide +kernel
theorem s0_104 (K : aK) : am_Snd K 0 104 := sn_aload_n i0_104 d0_104 rfl
theorem i0_105 : am_ins 0 105 = (33, 0, 1, 0, []) := by decide +kernel
theorem d0_105 : decode (am_cod 0) 105 = .ok (.aload_n 0, 1) := by decide +kernel
theorem s0_105 (K : aK) : am_Snd K 0 105 := sn_aload_n i0_105 d0_105 rfl
theorem i0_106 : am_ins 0 106 = (1, 3, 1, 0, []) := by decide +kernel
theorem d0_106 : decode (am_cod 0) 106 = .ok (.iload_n 3, 1) := by decide +kernel
theorem s0_106 (K : aK) : am_Snd K 0 106 := sn_iload_n i0_106 d0_106 rfl
theorem i0_107 : am_ins 0 107 = (0, 1, 0, 1, []) := by decide +kernel
theorem d0_107 : decode (am_cod 0) 107 = .ok (.iconst 1, 1) := by decide +kernel
theorem s0_107 (K : aK) : am_Snd K 0 107 := sn_const1 i0_107 d0_107 rfl
theorem i0_108 : am_ins 0 108 = (4, 0, 0, 0, []) := by decide +kernel
theorem d0_108 : decode (am_cod 0) 108 = .ok (.iadd, 1) := by decide +kernel
theorem s0_108 (K : aK) : am_Snd K 0 108 := sn_add i0_108 d0_108 
theorem i0_109 : am_ins 0 109 = (22, 0, 0, 0, []) := by decide +kernel
theorem d0_109 : decode (am_cod 0) 109 = .ok (.iaload, 1) := by decide +kernel
theorem s0_109 (K : aK) : am_Snd K 0 109 := sn_iald i0_109 d0_109 
theorem i0_110 : am_ins 0 110 = (60, 2, 1, 0, []) := by decide +kernel
theorem d0_110 : decode (am_cod 0) 110 = .ok (.invokevirtual 13, 3) := by decide +kernel
theorem s0_110 (K : aK) : am_SndC K 0 110 := sc_V i0_110 d0_110 co2 w_154 w_155 w_156 w_1 rfl (rr := (CN0, FT0, 5)) rfl rfl hd2
theorem i0_113 : am_ins 0 113 = (33, 2, 1, 0, []) := by decide +kernel
theorem d0_113 : decode (am_cod 0) 113 = .ok (.aload_n 2, 1) := by decide +kernel
theorem s0_113 (K : aK) : am_Snd K 0 113 := sn_aload_n i0_113 d0_113 rfl
theorem i0_114 : am_ins 0 114 = (33, 0, 1, 0, []) := by decide +kernel
theorem d0_114 : decode (am_cod 0) 114 = .ok (.aload_n 0, 1) := by decide +kernel
theorem s0_114 (K : aK) : am_Snd K 0 114 := sn_aload_n i0_114 d0_114 rfl
theorem i0_115 : am_ins 0 115 = (1, 3, 1, 0, []) := by decide +kernel
theorem d0_115 : decode (am_cod 0) 115 = .ok (.iload_n 3, 1) := by decide +kernel
theorem s0_115 (K : aK) : am_Snd K 0 115 := sn_iload_n i0_115 d0_115 rfl
theorem i0_116 : am_ins 0 116 = (0, 1, 0, 1, []) := by decide +kernel
theorem d0_116 : decode (am_cod 0) 116 = .ok (.iconst 1, 1) := by decide +kernel
theorem s0_116 (K : aK) : am_Snd K 0 116 := sn_const1 i0_116 d0_116 rfl
theorem i0_117 : am_ins 0 117 = (4, 0, 0, 0, []) := by decide +kernel
theorem d0_117 : decode (am_cod 0) 117 = .ok (.iadd, 1) := by decide +kernel
theorem s0_117 (K : aK) : am_Snd K 0 117 := sn_add i0_117 d0_117 
theorem i0_118 : am_ins 0 118 = (22, 0, 0, 0, []) := by decide +kernel
theorem d0_118 : decode (am_cod 0) 118 = .ok (.iaload, 1) := by decide +kernel
theorem s0_118 (K : aK) : am_Snd K 0 118 := sn_iald i0_118 d0_118 
theorem i0_119 : am_ins 0 119 = (60, 94, 1, 0, []) := by decide +kernel
theorem d0_119 : decode (am_cod 0) 119 = .ok (.invokevirtual 17, 3) := by decide +kernel
theorem s0_119 (K : aK) : am_SndC K 0 119 := sc_V i0_119 d0_119 co94 w_582 w_583 w_584 w_6 rfl (rr := (CN7, FT7, 24)) rfl rfl hd94
theorem i0_122 : am_ins 0 122 = (13, 0, 546, 0, []) := by decide +kernel
theorem d0_122 : decode (am_cod 0) 122 = .ok (.if_icmp .eq 424, 3) := by decide +kernel
theorem s0_122 (K : aK) : am_Snd K 0 122 := sn_icmp_eq i0_122 d0_122 rfl
theorem i0_125 : am_ins 0 125 = (0, 1, 0, 0, []) := by decide +kernel
theorem d0_125 : decode (am_cod 0) 125 = .ok (.iconst 0, 1) := by decide +kernel
theorem s0_125 (K : aK) : am_Snd K 0 125 := sn_const1 i0_125 d0_125 rfl
theorem i0_126 : am_ins 0 126 = (51, 0, 0, 0, []) := by decide +kernel
theorem d0_126 : decode (am_cod 0) 126 = .ok (.ireturn, 1) := by decide +kernel
theorem s0_126 : am_SndR 0 126 := sn_zret i0_126 d0_126 rfl
theorem i0_127 : am_ins 0 127 = (33, 1, 1, 0, []) := by decide +kernel
theorem d0_127 : decode (am_cod 0) 127 = .ok (.aload_n 1, 1) := by decide +kernel
theorem s0_127 (K : aK) : am_Snd K 0 127 := sn_aload_n i0_127 d0_127 rfl
theorem i0_128 : am_ins 0 128 = (33, 0, 1, 0, []) := by decide +kernel
theorem d0_128 : decode (am_cod 0) 128 = .ok (.aload_n 0, 1) := by decide +kernel
theorem s0_128 (K : aK) : am_Snd K 0 128 := sn_aload_n i0_128 d0_128 rfl
theorem i0_129 : am_ins 0 129 = (1, 3, 1, 0, []) := by decide +kernel
theorem d0_129 : decode (am_cod 0) 129 = .ok (.iload_n 3, 1) := by decide +kernel
theorem s0_129 (K : aK) : am_Snd K 0 129 := sn_iload_n i0_129 d0_129 rfl
theorem i0_130 : am_ins 0 130 = (0, 1, 0, 1, []) := by decide +kernel
theorem d0_130 : decode (am_cod 0) 130 = .ok (.iconst 1, 1) := by decide +kernel
theorem s0_130 (K : aK) : am_Snd K 0 130 := sn_const1 i0_130 d0_130 rfl
theorem i0_131 : am_ins 0 131 = (4, 0, 0, 0, []) := by decide +kernel
theorem d0_131 : decode (am_cod 0) 131 = .ok (.iadd, 1) := by decide +kernel
theorem s0_131 (K : aK) : am_Snd K 0 131 := sn_add i0_131 d0_131 
theorem i0_132 : am_ins 0 132 = (22, 0, 0, 0, []) := by decide +kernel
theorem d0_132 : decode (am_cod 0) 132 = .ok (.iaload, 1) := by decide +kernel
theorem s0_132 (K : aK) : am_Snd K 0 132 := sn_iald i0_132 d0_132 
theorem i0_133 : am_ins 0 133 = (33, 0, 1, 0, []) := by decide +kernel
theorem d0_133 : decode (am_cod 0) 133 = .ok (.aload_n 0, 1) := by decide +kernel
theorem s0_133 (K : aK) : am_Snd K 0 133 := sn_aload_n i0_133 d0_133 rfl
theorem i0_134 : am_ins 0 134 = (1, 3, 1, 0, []) := by decide +kernel
theorem d0_134 : decode (am_cod 0) 134 = .ok (.iload_n 3, 1) := by decide +kernel
theorem s0_134 (K : aK) : am_Snd K 0 134 := sn_iload_n i0_134 d0_134 rfl
theorem i0_135 : am_ins 0 135 = (0, 1, 0, 2, []) := by decide +kernel
theorem d0_135 : decode (am_cod 0) 135 = .ok (.iconst 2, 1) := by decide +kernel
theorem s0_135 (K : aK) : am_Snd K 0 135 := sn_const1 i0_135 d0_135 rfl
theorem i0_136 : am_ins 0 136 = (4, 0, 0, 0, []) := by decide +kernel
theorem d0_136 : decode (am_cod 0) 136 = .ok (.iadd, 1) := by decide +kernel
theorem s0_136 (K : aK) : am_Snd K 0 136 := sn_add i0_136 d0_136 
theorem i0_137 : am_ins 0 137 = (22, 0, 0, 0, []) := by decide +kernel
theorem d0_137 : decode (am_cod 0) 137 = .ok (.iaload, 1) := by decide +kernel
theorem s0_137 (K : aK) : am_Snd K 0 137 := sn_iald i0_137 d0_137 
theorem i0_138 : am_ins 0 138 = (60, 3, 2, 0, []) := by decide +kernel
theorem d0_138 : decode (am_cod 0) 138 = .ok (.invokevirtual 18, 3) := by decide +kernel
theorem s0_138 (K : aK) : am_SndC K 0 138 := sc_V i0_138 d0_138 co3 w_199 w_200 w_201 w_1 rfl (rr := (CN0, FT0, 5)) rfl rfl hd3
theorem i0_141 : am_ins 0 141 = (33, 2, 1, 0, []) := by decide +kernel
theorem d0_141 : decode (am_cod 0) 141 = .ok (.aload_n 2, 1) := by decide +kernel
theorem s0_141 (K : aK) : am_Snd K 0 141 := sn_aload_n i0_141 d0_141 rfl
theorem i0_142 : am_ins 0 142 = (33, 0, 1, 0, []) := by decide +kernel
theorem d0_142 : decode (am_cod 0) 142 = .ok (.aload_n 0, 1) := by decide +kernel
theorem s0_142 (K : aK) : am_Snd K 0 142 := sn_aload_n i0_142 d0_142 rfl
theorem i0_143 : am_ins 0 143 = (1, 3, 1, 0, []) := by decide +kernel
theorem d0_143 : decode (am_cod 0) 143 = .ok (.iload_n 3, 1) := by decide +kernel
theorem s0_143 (K : aK) : am_Snd K 0 143 := sn_iload_n i0_143 d0_143 rfl
theorem i0_144 : am_ins 0 144 = (0, 1, 0, 1, []) := by decide +kernel
theorem d0_144 : decode (am_cod 0) 144 = .ok (.iconst 1, 1) := by decide +kernel
theorem s0_144 (K : aK) : am_Snd K 0 144 := sn_const1 i0_144 d0_144 rfl
theorem i0_145 : am_ins 0 145 = (4, 0, 0, 0, []) := by decide +kernel
theorem d0_145 : decode (am_cod 0) 145 = .ok (.iadd, 1) := by decide +kernel
theorem s0_145 (K : aK) : am_Snd K 0 145 := sn_add i0_145 d0_145 
theorem i0_146 : am_ins 0 146 = (22, 0, 0, 0, []) := by decide +kernel
theorem d0_146 : decode (am_cod 0) 146 = .ok (.iaload, 1) := by decide +kernel
theorem s0_146 (K : aK) : am_Snd K 0 146 := sn_iald i0_146 d0_146 
theorem i0_147 : am_ins 0 147 = (33, 0, 1, 0, []) := by decide +kernel
theorem d0_147 : decode (am_cod 0) 147 = .ok (.aload_n 0, 1) := by decide +kernel
theorem s0_147 (K : aK) : am_Snd K 0 147 := sn_aload_n i0_147 d0_147 rfl
theorem i0_148 : am_ins 0 148 = (1, 3, 1, 0, []) := by decide +kernel
theorem d0_148 : decode (am_cod 0) 148 = .ok (.iload_n 3, 1) := by decide +kernel
theorem s0_148 (K : aK) : am_Snd K 0 148 := sn_iload_n i0_148 d0_148 rfl
theorem i0_149 : am_ins 0 149 = (0, 1, 0, 2, []) := by decide +kernel
theorem d0_149 : decode (am_cod 0) 149 = .ok (.iconst 2, 1) := by decide +kernel
theorem s0_149 (K : aK) : am_Snd K 0 149 := sn_const1 i0_149 d0_149 rfl
theorem i0_150 : am_ins 0 150 = (4, 0, 0, 0, []) := by decide +kernel
theorem d0_150 : decode (am_cod 0) 150 = .ok (.iadd, 1) := by decide +kernel
theorem s0_150 (K : aK) : am_Snd K 0 150 := sn_add i0_150 d0_150 
theorem i0_151 : am_ins 0 151 = (22, 0, 0, 0, []) := by decide +kernel
theorem d0_151 : decode (am_cod 0) 151 = .ok (.iaload, 1) := by decide +kernel
theorem s0_151 (K : aK) : am_Snd K 0 151 := sn_iald i0_151 d0_151 
theorem i0_152 : am_ins 0 152 = (60, 95, 2, 0, []) := by decide +kernel
theorem d0_152 : decode (am_cod 0) 152 = .ok (.invokevirtual 22, 3) := by decide +kernel
theorem s0_152 (K : aK) : am_SndC K 0 152 := sc_V i0_152 d0_152 co95 w_607 w_608 w_609 w_6 rfl (rr := (CN7, FT7, 24)) rfl rfl hd95
theorem i0_155 : am_ins 0 155 = (13, 0, 546, 0, []) := by decide +kernel
theorem d0_155 : decode (am_cod 0) 155 = .ok (.if_icmp .eq 391, 3) := by decide +kernel
theorem s0_155 (K : aK) : am_Snd K 0 155 := sn_icmp_eq i0_155 d0_155 rfl
theorem i0_158 : am_ins 0 158 = (0, 1, 0, 0, []) := by decide +kernel
theorem d0_158 : decode (am_cod 0) 158 = .ok (.iconst 0, 1) := by decide +kernel
theorem s0_158 (K : aK) : am_Snd K 0 158 := sn_const1 i0_158 d0_158 rfl
theorem i0_159 : am_ins 0 159 = (51, 0, 0, 0, []) := by decide +kernel
theorem d0_159 : decode (am_cod 0) 159 = .ok (.ireturn, 1) := by decide +kernel
theorem s0_159 : am_SndR 0 159 := sn_zret i0_159 d0_159 rfl
theorem i0_160 : am_ins 0 160 = (33, 1, 1, 0, []) := by decide +kernel
theorem d0_160 : decode (am_cod 0) 160 = .ok (.aload_n 1, 1) := by decide +kernel
theorem s0_160 (K : aK) : am_Snd K 0 160 := sn_aload_n i0_160 d0_160 rfl
theorem i0_161 : am_ins 0 161 = (33, 0, 1, 0, []) := by decide +kernel
theorem d0_161 : decode (am_cod 0) 161 = .ok (.aload_n 0, 1) := by decide +kernel
theorem s0_161 (K : aK) : am_Snd K 0 161 := sn_aload_n i0_161 d0_161 rfl
theorem i0_162 : am_ins 0 162 = (1, 3, 1, 0, []) := by decide +kernel
theorem d0_162 : decode (am_cod 0) 162 = .ok (.iload_n 3, 1) := by decide +kernel
theorem s0_162 (K : aK) : am_Snd K 0 162 := sn_iload_n i0_162 d0_162 rfl
theorem i0_163 : am_ins 0 163 = (0, 1, 0, 1, []) := by decide +kernel
theorem d0_163 : decode (am_cod 0) 163 = .ok (.iconst 1, 1) := by decide +kernel
theorem s0_163 (K : aK) : am_Snd K 0 163 := sn_const1 i0_163 d0_163 rfl
theorem i0_164 : am_ins 0 164 = (4, 0, 0, 0, []) := by decide +kernel
theorem d0_164 : decode (am_cod 0) 164 = .ok (.iadd, 1) := by decide +kernel
theorem s0_164 (K : aK) : am_Snd K 0 164 := sn_add i0_164 d0_164 
theorem i0_165 : am_ins 0 165 = (22, 0, 0, 0, []) := by decide +kernel
theorem d0_165 : decode (am_cod 0) 165 = .ok (.iaload, 1) := by decide +kernel
theorem s0_165 (K : aK) : am_Snd K 0 165 := sn_iald i0_165 d0_165 
theorem i0_166 : am_ins 0 166 = (60, 4, 1, 0, []) := by decide +kernel
theorem d0_166 : decode (am_cod 0) 166 = .ok (.invokevirtual 23, 3) := by decide +kernel
theorem s0_166 (K : aK) : am_SndC K 0 166 := sc_V i0_166 d0_166 co4 w_239 w_240 w_241 w_1 rfl (rr := (CN0, FT0, 5)) rfl rfl hd4
theorem i0_169 : am_ins 0 169 = (33, 2, 1, 0, []) := by decide +kernel
theorem d0_169 : decode (am_cod 0) 169 = .ok (.aload_n 2, 1) := by decide +kernel
theorem s0_169 (K : aK) : am_Snd K 0 169 := sn_aload_n i0_169 d0_169 rfl
theorem i0_170 : am_ins 0 170 = (33, 0, 1, 0, []) := by decide +kernel
theorem d0_170 : decode (am_cod 0) 170 = .ok (.aload_n 0, 1) := by decide +kernel
theorem s0_170 (K : aK) : am_Snd K 0 170 := sn_aload_n i0_170 d0_170 rfl
theorem i0_171 : am_ins 0 171 = (1, 3, 1, 0, []) := by decide +kernel
theorem d0_171 : decode (am_cod 0) 171 = .ok (.iload_n 3, 1) := by decide +kernel
theorem s0_171 (K : aK) : am_Snd K 0 171 := sn_iload_n i0_171 d0_171 rfl
theorem i0_172 : am_ins 0 172 = (0, 1, 0, 1, []) := by decide +kernel
theorem d0_172 : decode (am_cod 0) 172 = .ok (.iconst 1, 1) := by decide +kernel
theorem s0_172 (K : aK) : am_Snd K 0 172 := sn_const1 i0_172 d0_172 rfl
theorem i0_173 : am_ins 0 173 = (4, 0, 0, 0, []) := by decide +kernel
theorem d0_173 : decode (am_cod 0) 173 = .ok (.iadd, 1) := by decide +kernel
theorem s0_173 (K : aK) : am_Snd K 0 173 := sn_add i0_173 d0_173 
theorem i0_174 : am_ins 0 174 = (22, 0, 0, 0, []) := by decide +kernel
theorem d0_174 : decode (am_cod 0) 174 = .ok (.iaload, 1) := by decide +kernel
theorem s0_174 (K : aK) : am_Snd K 0 174 := sn_iald i0_174 d0_174 
theorem i0_175 : am_ins 0 175 = (60, 96, 1, 0, []) := by decide +kernel
theorem d0_175 : decode (am_cod 0) 175 = .ok (.invokevirtual 26, 3) := by decide +kernel
theorem s0_175 (K : aK) : am_SndC K 0 175 := sc_V i0_175 d0_175 co96 w_626 w_627 w_628 w_6 rfl (rr := (CN7, FT7, 24)) rfl rfl hd96
theorem i0_178 : am_ins 0 178 = (13, 0, 546, 0, []) := by decide +kernel
theorem d0_178 : decode (am_cod 0) 178 = .ok (.if_icmp .eq 368, 3) := by decide +kernel
theorem s0_178 (K : aK) : am_Snd K 0 178 := sn_icmp_eq i0_178 d0_178 rfl
theorem i0_181 : am_ins 0 181 = (0, 1, 0, 0, []) := by decide +kernel
theorem d0_181 : decode (am_cod 0) 181 = .ok (.iconst 0, 1) := by decide +kernel
theorem s0_181 (K : aK) : am_Snd K 0 181 := sn_const1 i0_181 d0_181 rfl
theorem i0_182 : am_ins 0 182 = (51, 0, 0, 0, []) := by decide +kernel
theorem d0_182 : decode (am_cod 0) 182 = .ok (.ireturn, 1) := by decide +kernel
theorem s0_182 : am_SndR 0 182 := sn_zret i0_182 d0_182 rfl
theorem i0_183 : am_ins 0 183 = (33, 1, 1, 0, []) := by decide +kernel
theorem d0_183 : decode (am_cod 0) 183 = .ok (.aload_n 1, 1) := by decide +kernel
theorem s0_183 (K : aK) : am_Snd K 0 183 := sn_aload_n i0_183 d0_183 rfl
theorem i0_184 : am_ins 0 184 = (33, 0, 1, 0, []) := by decide +kernel
theorem d0_184 : decode (am_cod 0) 184 = .ok (.aload_n 0, 1) := by decide +kernel
theorem s0_184 (K : aK) : am_Snd K 0 184 := sn_aload_n i0_184 d0_184 rfl
theorem i0_185 : am_ins 0 185 = (1, 3, 1, 0, []) := by decide +kernel
theorem d0_185 : decode (am_cod 0) 185 = .ok (.iload_n 3, 1) := by decide +kernel
theorem s0_185 (K : aK) : am_Snd K 0 185 := sn_iload_n i0_185 d0_185 rfl
theorem i0_186 : am_ins 0 186 = (0, 1, 0, 1, []) := by decide +kernel
theorem d0_186 : decode (am_cod 0) 186 = .ok (.iconst 1, 1) := by decide +kernel
theorem s0_186 (K : aK) : am_Snd K 0 186 := sn_const1 i0_186 d0_186 rfl
theorem i0_187 : am_ins 0 187 = (4, 0, 0, 0, []) := by decide +kernel
theorem d0_187 : decode (am_cod 0) 187 = .ok (.iadd, 1) := by decide +kernel
theorem s0_187 (K : aK) : am_Snd K 0 187 := sn_add i0_187 d0_187 
theorem i0_188 : am_ins 0 188 = (22, 0, 0, 0, []) := by decide +kernel
theorem d0_188 : decode (am_cod 0) 188 = .ok (.iaload, 1) := by decide +kernel
theorem s0_188 (K : aK) : am_Snd K 0 188 := sn_iald i0_188 d0_188 
theorem i0_189 : am_ins 0 189 = (33, 0, 1, 0, []) := by decide +kernel
theorem d0_189 : decode (am_cod 0) 189 = .ok (.aload_n 0, 1) := by decide +kernel
theorem s0_189 (K : aK) : am_Snd K 0 189 := sn_aload_n i0_189 d0_189 rfl
theorem i0_190 : am_ins 0 190 = (1, 3, 1, 0, []) := by decide +kernel
theorem d0_190 : decode (am_cod 0) 190 = .ok (.iload_n 3, 1) := by decide +kernel
theorem s0_190 (K : aK) : am_Snd K 0 190 := sn_iload_n i0_190 d0_190 rfl
theorem i0_191 : am_ins 0 191 = (0, 1, 0, 2, []) := by decide +kernel
theorem d0_191 : decode (am_cod 0) 191 = .ok (.iconst 2, 1) := by decide +kernel
theorem s0_191 (K : aK) : am_Snd K 0 191 := sn_const1 i0_191 d0_191 rfl
theorem i0_192 : am_ins 0 192 = (4, 0, 0, 0, []) := by decide +kernel
theorem d0_192 : decode (am_cod 0) 192 = .ok (.iadd, 1) := by decide +kernel
theorem s0_192 (K : aK) : am_Snd K 0 192 := sn_add i0_192 d0_192 
theorem i0_193 : am_ins 0 193 = (22, 0, 0, 0, []) := by decide +kernel
theorem d0_193 : decode (am_cod 0) 193 = .ok (.iaload, 1) := by decide +kernel
theorem s0_193 (K : aK) : am_Snd K 0 193 := sn_iald i0_193 d0_193 
theorem i0_194 : am_ins 0 194 = (33, 0, 1, 0, []) := by decide +kernel
theorem d0_194 : decode (am_cod 0) 194 = .ok (.aload_n 0, 1) := by decide +kernel
theorem s0_194 (K : aK) : am_Snd K 0 194 := sn_aload_n i0_194 d0_194 rfl
theorem i0_195 : am_ins 0 195 = (1, 3, 1, 0, []) := by decide +kernel
theorem d0_195 : decode (am_cod 0) 195 = .ok (.iload_n 3, 1) := by decide +kernel
theorem s0_195 (K : aK) : am_Snd K 0 195 := sn_iload_n i0_195 d0_195 rfl
theorem i0_196 : am_ins 0 196 = (0, 1, 0, 3, []) := by decide +kernel
theorem d0_196 : decode (am_cod 0) 196 = .ok (.iconst 3, 1) := by decide +kernel
theorem s0_196 (K : aK) : am_Snd K 0 196 := sn_const1 i0_196 d0_196 rfl
theorem i0_197 : am_ins 0 197 = (4, 0, 0, 0, []) := by decide +kernel
theorem d0_197 : decode (am_cod 0) 197 = .ok (.iadd, 1) := by decide +kernel
theorem s0_197 (K : aK) : am_Snd K 0 197 := sn_add i0_197 d0_197 
theorem i0_198 : am_ins 0 198 = (22, 0, 0, 0, []) := by decide +kernel
theorem d0_198 : decode (am_cod 0) 198 = .ok (.iaload, 1) := by decide +kernel
theorem s0_198 (K : aK) : am_Snd K 0 198 := sn_iald i0_198 d0_198 
theorem i0_199 : am_ins 0 199 = (60, 5, 3, 0, []) := by decide +kernel
theorem d0_199 : decode (am_cod 0) 199 = .ok (.invokevirtual 27, 3) := by decide +kernel
theorem s0_199 (K : aK) : am_SndC K 0 199 := sc_V i0_199 d0_199 co5 w_243 w_244 w_245 w_1 rfl (rr := (CN0, FT0, 5)) rfl rfl hd5
theorem i0_202 : am_ins 0 202 = (33, 2, 1, 0, []) := by decide +kernel
theorem d0_202 : decode (am_cod 0) 202 = .ok (.aload_n 2, 1) := by decide +kernel
theorem s0_202 (K : aK) : am_Snd K 0 202 := sn_aload_n i0_202 d0_202 rfl
theorem i0_203 : am_ins 0 203 = (33, 0, 1, 0, []) := by decide +kernel
theorem d0_203 : decode (am_cod 0) 203 = .ok (.aload_n 0, 1) := by decide +kernel
theorem s0_203 (K : aK) : am_Snd K 0 203 := sn_aload_n i0_203 d0_203 rfl
theorem i0_204 : am_ins 0 204 = (1, 3, 1, 0, []) := by decide +kernel
theorem d0_204 : decode (am_cod 0) 204 = .ok (.iload_n 3, 1) := by decide +kernel
theorem s0_204 (K : aK) : am_Snd K 0 204 := sn_iload_n i0_204 d0_204 rfl
theorem i0_205 : am_ins 0 205 = (0, 1, 0, 1, []) := by decide +kernel
theorem d0_205 : decode (am_cod 0) 205 = .ok (.iconst 1, 1) := by decide +kernel
theorem s0_205 (K : aK) : am_Snd K 0 205 := sn_const1 i0_205 d0_205 rfl
theorem i0_206 : am_ins 0 206 = (4, 0, 0, 0, []) := by decide +kernel
theorem d0_206 : decode (am_cod 0) 206 = .ok (.iadd, 1) := by decide +kernel
theorem s0_206 (K : aK) : am_Snd K 0 206 := sn_add i0_206 d0_206 
theorem i0_207 : am_ins 0 207 = (22, 0, 0, 0, []) := by decide +kernel
theorem d0_207 : decode (am_cod 0) 207 = .ok (.iaload, 1) := by decide +kernel
theorem s0_207 (K : aK) : am_Snd K 0 207 := sn_iald i0_207 d0_207 
theorem i0_208 : am_ins 0 208 = (33, 0, 1, 0, []) := by decide +kernel
theorem d0_208 : decode (am_cod 0) 208 = .ok (.aload_n 0, 1) := by decide +kernel
theorem s0_208 (K : aK) : am_Snd K 0 208 := sn_aload_n i0_208 d0_208 rfl
theorem i0_209 : am_ins 0 209 = (1, 3, 1, 0, []) := by decide +kernel
theorem d0_209 : decode (am_cod 0) 209 = .ok (.iload_n 3, 1) := by decide +kernel
theorem s0_209 (K : aK) : am_Snd K 0 209 := sn_iload_n i0_209 d0_209 rfl
theorem i0_210 : am_ins 0 210 = (0, 1, 0, 2, []) := by decide +kernel
theorem d0_210 : decode (am_cod 0) 210 = .ok (.iconst 2, 1) := by decide +kernel
theorem s0_210 (K : aK) : am_Snd K 0 210 := sn_const1 i0_210 d0_210 rfl
theorem i0_211 : am_ins 0 211 = (4, 0, 0, 0, []) := by decide +kernel
theorem d0_211 : decode (am_cod 0) 211 = .ok (.iadd, 1) := by decide +kernel
theorem s0_211 (K : aK) : am_Snd K 0 211 := sn_add i0_211 d0_211 
theorem i0_212 : am_ins 0 212 = (22, 0, 0, 0, []) := by decide +kernel
theorem d0_212 : decode (am_cod 0) 212 = .ok (.iaload, 1) := by decide +kernel
theorem s0_212 (K : aK) : am_Snd K 0 212 := sn_iald i0_212 d0_212 
theorem i0_213 : am_ins 0 213 = (33, 0, 1, 0, []) := by decide +kernel
theorem d0_213 : decode (am_cod 0) 213 = .ok (.aload_n 0, 1) := by decide +kernel
theorem s0_213 (K : aK) : am_Snd K 0 213 := sn_aload_n i0_213 d0_213 rfl
theorem i0_214 : am_ins 0 214 = (1, 3, 1, 0, []) := by decide +kernel
theorem d0_214 : decode (am_cod 0) 214 = .ok (.iload_n 3, 1) := by decide +kernel
theorem s0_214 (K : aK) : am_Snd K 0 214 := sn_iload_n i0_214 d0_214 rfl
theorem i0_215 : am_ins 0 215 = (0, 1, 0, 3, []) := by decide +kernel
theorem d0_215 : decode (am_cod 0) 215 = .ok (.iconst 3, 1) := by decide +kernel
theorem s0_215 (K : aK) : am_Snd K 0 215 := sn_const1 i0_215 d0_215 rfl
theorem i0_216 : am_ins 0 216 = (4, 0, 0, 0, []) := by decide +kernel
theorem d0_216 : decode (am_cod 0) 216 = .ok (.iadd, 1) := by decide +kernel
theorem s0_216 (K : aK) : am_Snd K 0 216 := sn_add i0_216 d0_216 
theorem i0_217 : am_ins 0 217 = (22, 0, 0, 0, []) := by decide +kernel
theorem d0_217 : decode (am_cod 0) 217 = .ok (.iaload, 1) := by decide +kernel
theorem s0_217 (K : aK) : am_Snd K 0 217 := sn_iald i0_217 d0_217 
theorem i0_218 : am_ins 0 218 = (60, 97, 3, 0, []) := by decide +kernel
theorem d0_218 : decode (am_cod 0) 218 = .ok (.invokevirtual 31, 3) := by decide +kernel
theorem s0_218 (K : aK) : am_SndC K 0 218 := sc_V i0_218 d0_218 co97 w_630 w_631 w_632 w_6 rfl (rr := (CN7, FT7, 24)) rfl rfl hd97
theorem i0_221 : am_ins 0 221 = (13, 0, 546, 0, []) := by decide +kernel
theorem d0_221 : decode (am_cod 0) 221 = .ok (.if_icmp .eq 325, 3) := by decide +kernel
theorem s0_221 (K : aK) : am_Snd K 0 221 := sn_icmp_eq i0_221 d0_221 rfl
theorem i0_224 : am_ins 0 224 = (0, 1, 0, 0, []) := by decide +kernel
theorem d0_224 : decode (am_cod 0) 224 = .ok (.iconst 0, 1) := by decide +kernel
theorem s0_224 (K : aK) : am_Snd K 0 224 := sn_const1 i0_224 d0_224 rfl
theorem i0_225 : am_ins 0 225 = (51, 0, 0, 0, []) := by decide +kernel
theorem d0_225 : decode (am_cod 0) 225 = .ok (.ireturn, 1) := by decide +kernel
theorem s0_225 : am_SndR 0 225 := sn_zret i0_225 d0_225 rfl
theorem i0_226 : am_ins 0 226 = (33, 1, 1, 0, []) := by decide +kernel
theorem d0_226 : decode (am_cod 0) 226 = .ok (.aload_n 1, 1) := by decide +kernel
theorem s0_226 (K : aK) : am_Snd K 0 226 := sn_aload_n i0_226 d0_226 rfl
theorem i0_227 : am_ins 0 227 = (33, 0, 1, 0, []) := by decide +kernel
theorem d0_227 : decode (am_cod 0) 227 = .ok (.aload_n 0, 1) := by decide +kernel
theorem s0_227 (K : aK) : am_Snd K 0 227 := sn_aload_n i0_227 d0_227 rfl
theorem i0_228 : am_ins 0 228 = (1, 3, 1, 0, []) := by decide +kernel
theorem d0_228 : decode (am_cod 0) 228 = .ok (.iload_n 3, 1) := by decide +kernel
theorem s0_228 (K : aK) : am_Snd K 0 228 := sn_iload_n i0_228 d0_228 rfl
theorem i0_229 : am_ins 0 229 = (0, 1, 0, 1, []) := by decide +kernel
theorem d0_229 : decode (am_cod 0) 229 = .ok (.iconst 1, 1) := by decide +kernel
theorem s0_229 (K : aK) : am_Snd K 0 229 := sn_const1 i0_229 d0_229 rfl
theorem i0_230 : am_ins 0 230 = (4, 0, 0, 0, []) := by decide +kernel
theorem d0_230 : decode (am_cod 0) 230 = .ok (.iadd, 1) := by decide +kernel
theorem s0_230 (K : aK) : am_Snd K 0 230 := sn_add i0_230 d0_230 
theorem i0_231 : am_ins 0 231 = (22, 0, 0, 0, []) := by decide +kernel
theorem d0_231 : decode (am_cod 0) 231 = .ok (.iaload, 1) := by decide +kernel
theorem s0_231 (K : aK) : am_Snd K 0 231 := sn_iald i0_231 d0_231 
theorem i0_232 : am_ins 0 232 = (60, 6, 1, 0, []) := by decide +kernel
theorem d0_232 : decode (am_cod 0) 232 = .ok (.invokevirtual 32, 3) := by decide +kernel
theorem s0_232 (K : aK) : am_SndC K 0 232 := sc_V i0_232 d0_232 co6 w_251 w_252 w_253 w_1 rfl (rr := (CN0, FT0, 5)) rfl rfl hd6
theorem i0_235 : am_ins 0 235 = (33, 2, 1, 0, []) := by decide +kernel
theorem d0_235 : decode (am_cod 0) 235 = .ok (.aload_n 2, 1) := by decide +kernel
theorem s0_235 (K : aK) : am_Snd K 0 235 := sn_aload_n i0_235 d0_235 rfl
theorem i0_236 : am_ins 0 236 = (33, 0, 1, 0, []) := by decide +kernel
theorem d0_236 : decode (am_cod 0) 236 = .ok (.aload_n 0, 1) := by decide +kernel
theorem s0_236 (K : aK) : am_Snd K 0 236 := sn_aload_n i0_236 d0_236 rfl
theorem i0_237 : am_ins 0 237 = (1, 3, 1, 0, []) := by decide +kernel
theorem d0_237 : decode (am_cod 0) 237 = .ok (.iload_n 3, 1) := by decide +kernel
theorem s0_237 (K : aK) : am_Snd K 0 237 := sn_iload_n i0_237 d0_237 rfl
theorem i0_238 : am_ins 0 238 = (0, 1, 0, 1, []) := by decide +kernel
theorem d0_238 : decode (am_cod 0) 238 = .ok (.iconst 1, 1) := by decide +kernel
theorem s0_238 (K : aK) : am_Snd K 0 238 := sn_const1 i0_238 d0_238 rfl
theorem i0_239 : am_ins 0 239 = (4, 0, 0, 0, []) := by decide +kernel
theorem d0_239 : decode (am_cod 0) 239 = .ok (.iadd, 1) := by decide +kernel
theorem s0_239 (K : aK) : am_Snd K 0 239 := sn_add i0_239 d0_239 
theorem i0_240 : am_ins 0 240 = (22, 0, 0, 0, []) := by decide +kernel
theorem d0_240 : decode (am_cod 0) 240 = .ok (.iaload, 1) := by decide +kernel
theorem s0_240 (K : aK) : am_Snd K 0 240 := sn_iald i0_240 d0_240 
theorem i0_241 : am_ins 0 241 = (60, 98, 1, 0, []) := by decide +kernel
theorem d0_241 : decode (am_cod 0) 241 = .ok (.invokevirtual 35, 3) := by decide +kernel
theorem s0_241 (K : aK) : am_SndC K 0 241 := sc_V i0_241 d0_241 co98 w_634 w_635 w_636 w_6 rfl (rr := (CN7, FT7, 24)) rfl rfl hd98
theorem i0_244 : am_ins 0 244 = (13, 0, 546, 0, []) := by decide +kernel
theorem d0_244 : decode (am_cod 0) 244 = .ok (.if_icmp .eq 302, 3) := by decide +kernel
theorem s0_244 (K : aK) : am_Snd K 0 244 := sn_icmp_eq i0_244 d0_244 rfl
theorem i0_247 : am_ins 0 247 = (0, 1, 0, 0, []) := by decide +kernel
theorem d0_247 : decode (am_cod 0) 247 = .ok (.iconst 0, 1) := by decide +kernel
theorem s0_247 (K : aK) : am_Snd K 0 247 := sn_const1 i0_247 d0_247 rfl
theorem i0_248 : am_ins 0 248 = (51, 0, 0, 0, []) := by decide +kernel
theorem d0_248 : decode (am_cod 0) 248 = .ok (.ireturn, 1) := by decide +kernel
theorem s0_248 : am_SndR 0 248 := sn_zret i0_248 d0_248 rfl
theorem i0_249 : am_ins 0 249 = (33, 1, 1, 0, []) := by decide +kernel
theorem d0_249 : decode (am_cod 0) 249 = .ok (.aload_n 1, 1) := by decide +kernel
theorem s0_249 (K : aK) : am_Snd K 0 249 := sn_aload_n i0_249 d0_249 rfl
theorem i0_250 : am_ins 0 250 = (33, 0, 1, 0, []) := by decide +kernel
theorem d0_250 : decode (am_cod 0) 250 = .ok (.aload_n 0, 1) := by decide +kernel
theorem s0_250 (K : aK) : am_Snd K 0 250 := sn_aload_n i0_250 d0_250 rfl
theorem i0_251 : am_ins 0 251 = (1, 3, 1, 0, []) := by decide +kernel
theorem d0_251 : decode (am_cod 0) 251 = .ok (.iload_n 3, 1) := by decide +kernel
theorem s0_251 (K : aK) : am_Snd K 0 251 := sn_iload_n i0_251 d0_251 rfl
theorem i0_252 : am_ins 0 252 = (0, 1, 0, 1, []) := by decide +kernel
theorem d0_252 : decode (am_cod 0) 252 = .ok (.iconst 1, 1) := by decide +kernel
theorem s0_252 (K : aK) : am_Snd K 0 252 := sn_const1 i0_252 d0_252 rfl
theorem i0_253 : am_ins 0 253 = (4, 0, 0, 0, []) := by decide +kernel
theorem d0_253 : decode (am_cod 0) 253 = .ok (.iadd, 1) := by decide +kernel
theorem s0_253 (K : aK) : am_Snd K 0 253 := sn_add i0_253 d0_253 
theorem i0_254 : am_ins 0 254 = (22, 0, 0, 0, []) := by decide +kernel
theorem d0_254 : decode (am_cod 0) 254 = .ok (.iaload, 1) := by decide +kernel
theorem s0_254 (K : aK) : am_Snd K 0 254 := sn_iald i0_254 d0_254 
theorem i0_255 : am_ins 0 255 = (60, 7, 1, 0, []) := by decide +kernel
theorem d0_255 : decode (am_cod 0) 255 = .ok (.invokevirtual 36, 3) := by decide +kernel
theorem s0_255 (K : aK) : am_SndC K 0 255 := sc_V i0_255 d0_255 co7 w_421 w_422 w_423 w_1 rfl (rr := (CN0, FT0, 5)) rfl rfl hd7
theorem i0_258 : am_ins 0 258 = (33, 2, 1, 0, []) := by decide +kernel
theorem d0_258 : decode (am_cod 0) 258 = .ok (.aload_n 2, 1) := by decide +kernel
theorem s0_258 (K : aK) : am_Snd K 0 258 := sn_aload_n i0_258 d0_258 rfl
theorem i0_259 : am_ins 0 259 = (33, 0, 1, 0, []) := by decide +kernel
theorem d0_259 : decode (am_cod 0) 259 = .ok (.aload_n 0, 1) := by decide +kernel
theorem s0_259 (K : aK) : am_Snd K 0 259 := sn_aload_n i0_259 d0_259 rfl
theorem i0_260 : am_ins 0 260 = (1, 3, 1, 0, []) := by decide +kernel
theorem d0_260 : decode (am_cod 0) 260 = .ok (.iload_n 3, 1) := by decide +kernel
theorem s0_260 (K : aK) : am_Snd K 0 260 := sn_iload_n i0_260 d0_260 rfl
theorem i0_261 : am_ins 0 261 = (0, 1, 0, 1, []) := by decide +kernel
theorem d0_261 : decode (am_cod 0) 261 = .ok (.iconst 1, 1) := by decide +kernel
theorem s0_261 (K : aK) : am_Snd K 0 261 := sn_const1 i0_261 d0_261 rfl
theorem i0_262 : am_ins 0 262 = (4, 0, 0, 0, []) := by decide +kernel
theorem d0_262 : decode (am_cod 0) 262 = .ok (.iadd, 1) := by decide +kernel
theorem s0_262 (K : aK) : am_Snd K 0 262 := sn_add i0_262 d0_262 
theorem i0_263 : am_ins 0 263 = (22, 0, 0, 0, []) := by decide +kernel
theorem d0_263 : decode (am_cod 0) 263 = .ok (.iaload, 1) := by decide +kernel
theorem s0_263 (K : aK) : am_Snd K 0 263 := sn_iald i0_263 d0_263 
theorem i0_264 : am_ins 0 264 = (60, 99, 1, 0, []) := by decide +kernel
theorem d0_264 : decode (am_cod 0) 264 = .ok (.invokevirtual 40, 3) := by decide +kernel
theorem s0_264 (K : aK) : am_SndC K 0 264 := sc_V i0_264 d0_264 co99 w_676 w_677 w_678 w_6 rfl (rr := (CN7, FT7, 24)) rfl rfl hd99
theorem i0_267 : am_ins 0 267 = (13, 0, 546, 0, []) := by decide +kernel
theorem d0_267 : decode (am_cod 0) 267 = .ok (.if_icmp .eq 279, 3) := by decide +kernel
theorem s0_267 (K : aK) : am_Snd K 0 267 := sn_icmp_eq i0_267 d0_267 rfl
theorem i0_270 : am_ins 0 270 = (0, 1, 0, 0, []) := by decide +kernel
theorem d0_270 : decode (am_cod 0) 270 = .ok (.iconst 0, 1) := by decide +kernel
theorem s0_270 (K : aK) : am_Snd K 0 270 := sn_const1 i0_270 d0_270 rfl
theorem i0_271 : am_ins 0 271 = (51, 0, 0, 0, []) := by decide +kernel
theorem d0_271 : decode (am_cod 0) 271 = .ok (.ireturn, 1) := by decide +kernel
theorem s0_271 : am_SndR 0 271 := sn_zret i0_271 d0_271 rfl
theorem i0_272 : am_ins 0 272 = (33, 1, 1, 0, []) := by decide +kernel
theorem d0_272 : decode (am_cod 0) 272 = .ok (.aload_n 1, 1) := by decide +kernel
theorem s0_272 (K : aK) : am_Snd K 0 272 := sn_aload_n i0_272 d0_272 rfl
theorem i0_273 : am_ins 0 273 = (33, 0, 1, 0, []) := by decide +kernel
theorem d0_273 : decode (am_cod 0) 273 = .ok (.aload_n 0, 1) := by decide +kernel
theorem s0_273 (K : aK) : am_Snd K 0 273 := sn_aload_n i0_273 d0_273 rfl
theorem i0_274 : am_ins 0 274 = (1, 3, 1, 0, []) := by decide +kernel
theorem d0_274 : decode (am_cod 0) 274 = .ok (.iload_n 3, 1) := by decide +kernel
theorem s0_274 (K : aK) : am_Snd K 0 274 := sn_iload_n i0_274 d0_274 rfl
theorem i0_275 : am_ins 0 275 = (0, 1, 0, 1, []) := by decide +kernel
theorem d0_275 : decode (am_cod 0) 275 = .ok (.iconst 1, 1) := by decide +kernel
theorem s0_275 (K : aK) : am_Snd K 0 275 := sn_const1 i0_275 d0_275 rfl
theorem i0_276 : am_ins 0 276 = (4, 0, 0, 0, []) := by decide +kernel
theorem d0_276 : decode (am_cod 0) 276 = .ok (.iadd, 1) := by decide +kernel
theorem s0_276 (K : aK) : am_Snd K 0 276 := sn_add i0_276 d0_276 
theorem i0_277 : am_ins 0 277 = (22, 0, 0, 0, []) := by decide +kernel
theorem d0_277 : decode (am_cod 0) 277 = .ok (.iaload, 1) := by decide +kernel
theorem s0_277 (K : aK) : am_Snd K 0 277 := sn_iald i0_277 d0_277 
theorem i0_278 : am_ins 0 278 = (60, 8, 1, 0, []) := by decide +kernel
theorem d0_278 : decode (am_cod 0) 278 = .ok (.invokevirtual 41, 3) := by decide +kernel
theorem s0_278 (K : aK) : am_SndC K 0 278 := sc_V i0_278 d0_278 co8 w_425 w_426 w_427 w_1 rfl (rr := (CN0, FT0, 5)) rfl rfl hd8
theorem i0_281 : am_ins 0 281 = (33, 2, 1, 0, []) := by decide +kernel
theorem d0_281 : decode (am_cod 0) 281 = .ok (.aload_n 2, 1) := by decide +kernel
theorem s0_281 (K : aK) : am_Snd K 0 281 := sn_aload_n i0_281 d0_281 rfl
theorem i0_282 : am_ins 0 282 = (33, 0, 1, 0, []) := by decide +kernel
theorem d0_282 : decode (am_cod 0) 282 = .ok (.aload_n 0, 1) := by decide +kernel
theorem s0_282 (K : aK) : am_Snd K 0 282 := sn_aload_n i0_282 d0_282 rfl
theorem i0_283 : am_ins 0 283 = (1, 3, 1, 0, []) := by decide +kernel
theorem d0_283 : decode (am_cod 0) 283 = .ok (.iload_n 3, 1) := by decide +kernel
theorem s0_283 (K : aK) : am_Snd K 0 283 := sn_iload_n i0_283 d0_283 rfl
theorem i0_284 : am_ins 0 284 = (0, 1, 0, 1, []) := by decide +kernel
theorem d0_284 : decode (am_cod 0) 284 = .ok (.iconst 1, 1) := by decide +kernel
theorem s0_284 (K : aK) : am_Snd K 0 284 := sn_const1 i0_284 d0_284 rfl
theorem i0_285 : am_ins 0 285 = (4, 0, 0, 0, []) := by decide +kernel
theorem d0_285 : decode (am_cod 0) 285 = .ok (.iadd, 1) := by decide +kernel
theorem s0_285 (K : aK) : am_Snd K 0 285 := sn_add i0_285 d0_285 
theorem i0_286 : am_ins 0 286 = (22, 0, 0, 0, []) := by decide +kernel
theorem d0_286 : decode (am_cod 0) 286 = .ok (.iaload, 1) := by decide +kernel
theorem s0_286 (K : aK) : am_Snd K 0 286 := sn_iald i0_286 d0_286 
theorem i0_287 : am_ins 0 287 = (60, 100, 1, 0, []) := by decide +kernel
theorem d0_287 : decode (am_cod 0) 287 = .ok (.invokevirtual 44, 3) := by decide +kernel
theorem s0_287 (K : aK) : am_SndC K 0 287 := sc_V i0_287 d0_287 co100 w_680 w_681 w_682 w_6 rfl (rr := (CN7, FT7, 24)) rfl rfl hd100
theorem i0_290 : am_ins 0 290 = (13, 0, 546, 0, []) := by decide +kernel
theorem d0_290 : decode (am_cod 0) 290 = .ok (.if_icmp .eq 256, 3) := by decide +kernel
theorem s0_290 (K : aK) : am_Snd K 0 290 := sn_icmp_eq i0_290 d0_290 rfl
theorem i0_293 : am_ins 0 293 = (0, 1, 0, 0, []) := by decide +kernel
theorem d0_293 : decode (am_cod 0) 293 = .ok (.iconst 0, 1) := by decide +kernel
theorem s0_293 (K : aK) : am_Snd K 0 293 := sn_const1 i0_293 d0_293 rfl
theorem i0_294 : am_ins 0 294 = (51, 0, 0, 0, []) := by decide +kernel
theorem d0_294 : decode (am_cod 0) 294 = .ok (.ireturn, 1) := by decide +kernel
theorem s0_294 : am_SndR 0 294 := sn_zret i0_294 d0_294 rfl
theorem i0_295 : am_ins 0 295 = (33, 1, 1, 0, []) := by decide +kernel
theorem d0_295 : decode (am_cod 0) 295 = .ok (.aload_n 1, 1) := by decide +kernel
theorem s0_295 (K : aK) : am_Snd K 0 295 := sn_aload_n i0_295 d0_295 rfl
theorem i0_296 : am_ins 0 296 = (33, 0, 1, 0, []) := by decide +kernel
theorem d0_296 : decode (am_cod 0) 296 = .ok (.aload_n 0, 1) := by decide +kernel
theorem s0_296 (K : aK) : am_Snd K 0 296 := sn_aload_n i0_296 d0_296 rfl
theorem i0_297 : am_ins 0 297 = (1, 3, 1, 0, []) := by decide +kernel
theorem d0_297 : decode (am_cod 0) 297 = .ok (.iload_n 3, 1) := by decide +kernel
theorem s0_297 (K : aK) : am_Snd K 0 297 := sn_iload_n i0_297 d0_297 rfl
theorem i0_298 : am_ins 0 298 = (0, 1, 0, 1, []) := by decide +kernel
theorem d0_298 : decode (am_cod 0) 298 = .ok (.iconst 1, 1) := by decide +kernel
theorem s0_298 (K : aK) : am_Snd K 0 298 := sn_const1 i0_298 d0_298 rfl
theorem i0_299 : am_ins 0 299 = (4, 0, 0, 0, []) := by decide +kernel
theorem d0_299 : decode (am_cod 0) 299 = .ok (.iadd, 1) := by decide +kernel
theorem s0_299 (K : aK) : am_Snd K 0 299 := sn_add i0_299 d0_299 
theorem i0_300 : am_ins 0 300 = (22, 0, 0, 0, []) := by decide +kernel
theorem d0_300 : decode (am_cod 0) 300 = .ok (.iaload, 1) := by decide +kernel
theorem s0_300 (K : aK) : am_Snd K 0 300 := sn_iald i0_300 d0_300 
theorem i0_301 : am_ins 0 301 = (33, 0, 1, 0, []) := by decide +kernel
theorem d0_301 : decode (am_cod 0) 301 = .ok (.aload_n 0, 1) := by decide +kernel
theorem s0_301 (K : aK) : am_Snd K 0 301 := sn_aload_n i0_301 d0_301 rfl
theorem i0_302 : am_ins 0 302 = (1, 3, 1, 0, []) := by decide +kernel
theorem d0_302 : decode (am_cod 0) 302 = .ok (.iload_n 3, 1) := by decide +kernel
theorem s0_302 (K : aK) : am_Snd K 0 302 := sn_iload_n i0_302 d0_302 rfl
theorem i0_303 : am_ins 0 303 = (0, 1, 0, 2, []) := by decide +kernel
theorem d0_303 : decode (am_cod 0) 303 = .ok (.iconst 2, 1) := by decide +kernel
theorem s0_303 (K : aK) : am_Snd K 0 303 := sn_const1 i0_303 d0_303 rfl
theorem i0_304 : am_ins 0 304 = (4, 0, 0, 0, []) := by decide +kernel
theorem d0_304 : decode (am_cod 0) 304 = .ok (.iadd, 1) := by decide +kernel
theorem s0_304 (K : aK) : am_Snd K 0 304 := sn_add i0_304 d0_304 
theorem i0_305 : am_ins 0 305 = (22, 0, 0, 0, []) := by decide +kernel
theorem d0_305 : decode (am_cod 0) 305 = .ok (.iaload, 1) := by decide +kernel
theorem s0_305 (K : aK) : am_Snd K 0 305 := sn_iald i0_305 d0_305 
theorem i0_306 : am_ins 0 306 = (60, 9, 2, 0, []) := by decide +kernel
theorem d0_306 : decode (am_cod 0) 306 = .ok (.invokevirtual 45, 3) := by decide +kernel
theorem s0_306 (K : aK) : am_SndC K 0 306 := sc_V i0_306 d0_306 co9 w_446 w_447 w_448 w_1 rfl (rr := (CN0, FT0, 5)) rfl rfl hd9
theorem i0_309 : am_ins 0 309 = (33, 2, 1, 0, []) := by decide +kernel
theorem d0_309 : decode (am_cod 0) 309 = .ok (.aload_n 2, 1) := by decide +kernel
theorem s0_309 (K : aK) : am_Snd K 0 309 := sn_aload_n i0_309 d0_309 rfl
theorem i0_310 : am_ins 0 310 = (33, 0, 1, 0, []) := by decide +kernel
theorem d0_310 : decode (am_cod 0) 310 = .ok (.aload_n 0, 1) := by decide +kernel
theorem s0_310 (K : aK) : am_Snd K 0 310 := sn_aload_n i0_310 d0_310 rfl
theorem i0_311 : am_ins 0 311 = (1, 3, 1, 0, []) := by decide +kernel
theorem d0_311 : decode (am_cod 0) 311 = .ok (.iload_n 3, 1) := by decide +kernel
theorem s0_311 (K : aK) : am_Snd K 0 311 := sn_iload_n i0_311 d0_311 rfl
theorem i0_312 : am_ins 0 312 = (0, 1, 0, 1, []) := by decide +kernel
theorem d0_312 : decode (am_cod 0) 312 = .ok (.iconst 1, 1) := by decide +kernel
theorem s0_312 (K : aK) : am_Snd K 0 312 := sn_const1 i0_312 d0_312 rfl
theorem i0_313 : am_ins 0 313 = (4, 0, 0, 0, []) := by decide +kernel
theorem d0_313 : decode (am_cod 0) 313 = .ok (.iadd, 1) := by decide +kernel
theorem s0_313 (K : aK) : am_Snd K 0 313 := sn_add i0_313 d0_313 
theorem i0_314 : am_ins 0 314 = (22, 0, 0, 0, []) := by decide +kernel
theorem d0_314 : decode (am_cod 0) 314 = .ok (.iaload, 1) := by decide +kernel
theorem s0_314 (K : aK) : am_Snd K 0 314 := sn_iald i0_314 d0_314 
theorem i0_315 : am_ins 0 315 = (33, 0, 1, 0, []) := by decide +kernel
theorem d0_315 : decode (am_cod 0) 315 = .ok (.aload_n 0, 1) := by decide +kernel
theorem s0_315 (K : aK) : am_Snd K 0 315 := sn_aload_n i0_315 d0_315 rfl
theorem i0_316 : am_ins 0 316 = (1, 3, 1, 0, []) := by decide +kernel
theorem d0_316 : decode (am_cod 0) 316 = .ok (.iload_n 3, 1) := by decide +kernel
theorem s0_316 (K : aK) : am_Snd K 0 316 := sn_iload_n i0_316 d0_316 rfl
theorem i0_317 : am_ins 0 317 = (0, 1, 0, 2, []) := by decide +kernel
theorem d0_317 : decode (am_cod 0) 317 = .ok (.iconst 2, 1) := by decide +kernel
theorem s0_317 (K : aK) : am_Snd K 0 317 := sn_const1 i0_317 d0_317 rfl
theorem i0_318 : am_ins 0 318 = (4, 0, 0, 0, []) := by decide +kernel
theorem d0_318 : decode (am_cod 0) 318 = .ok (.iadd, 1) := by decide +kernel
theorem s0_318 (K : aK) : am_Snd K 0 318 := sn_add i0_318 d0_318 
theorem i0_319 : am_ins 0 319 = (22, 0, 0, 0, []) := by decide +kernel
theorem d0_319 : decode (am_cod 0) 319 = .ok (.iaload, 1) := by decide +kernel
theorem s0_319 (K : aK) : am_Snd K 0 319 := sn_iald i0_319 d0_319 
theorem i0_320 : am_ins 0 320 = (60, 101, 2, 0, []) := by decide +kernel
theorem d0_320 : decode (am_cod 0) 320 = .ok (.invokevirtual 48, 3) := by decide +kernel
theorem s0_320 (K : aK) : am_SndC K 0 320 := sc_V i0_320 d0_320 co101 w_687 w_688 w_689 w_6 rfl (rr := (CN7, FT7, 24)) rfl rfl hd101
theorem i0_323 : am_ins 0 323 = (13, 0, 546, 0, []) := by decide +kernel
theorem d0_323 : decode (am_cod 0) 323 = .ok (.if_icmp .eq 223, 3) := by decide +kernel
theorem s0_323 (K : aK) : am_Snd K 0 323 := sn_icmp_eq i0_323 d0_323 rfl
theorem i0_326 : am_ins 0 326 = (0, 1, 0, 0, []) := by decide +kernel
theorem d0_326 : decode (am_cod 0) 326 = .ok (.iconst 0, 1) := by decide +kernel
theorem s0_326 (K : aK) : am_Snd K 0 326 := sn_const1 i0_326 d0_326 rfl
theorem i0_327 : am_ins 0 327 = (51, 0, 0, 0, []) := by decide +kernel
theorem d0_327 : decode (am_cod 0) 327 = .ok (.ireturn, 1) := by decide +kernel
theorem s0_327 : am_SndR 0 327 := sn_zret i0_327 d0_327 rfl
theorem i0_328 : am_ins 0 328 = (33, 1, 1, 0, []) := by decide +kernel
theorem d0_328 : decode (am_cod 0) 328 = .ok (.aload_n 1, 1) := by decide +kernel
theorem s0_328 (K : aK) : am_Snd K 0 328 := sn_aload_n i0_328 d0_328 rfl
theorem i0_329 : am_ins 0 329 = (33, 0, 1, 0, []) := by decide +kernel
theorem d0_329 : decode (am_cod 0) 329 = .ok (.aload_n 0, 1) := by decide +kernel
theorem s0_329 (K : aK) : am_Snd K 0 329 := sn_aload_n i0_329 d0_329 rfl
theorem i0_330 : am_ins 0 330 = (1, 3, 1, 0, []) := by decide +kernel
theorem d0_330 : decode (am_cod 0) 330 = .ok (.iload_n 3, 1) := by decide +kernel
theorem s0_330 (K : aK) : am_Snd K 0 330 := sn_iload_n i0_330 d0_330 rfl
theorem i0_331 : am_ins 0 331 = (0, 1, 0, 1, []) := by decide +kernel
theorem d0_331 : decode (am_cod 0) 331 = .ok (.iconst 1, 1) := by decide +kernel
theorem s0_331 (K : aK) : am_Snd K 0 331 := sn_const1 i0_331 d0_331 rfl
theorem i0_332 : am_ins 0 332 = (4, 0, 0, 0, []) := by decide +kernel
theorem d0_332 : decode (am_cod 0) 332 = .ok (.iadd, 1) := by decide +kernel
theorem s0_332 (K : aK) : am_Snd K 0 332 := sn_add i0_332 d0_332 
theorem i0_333 : am_ins 0 333 = (22, 0, 0, 0, []) := by decide +kernel
theorem d0_333 : decode (am_cod 0) 333 = .ok (.iaload, 1) := by decide +kernel
theorem s0_333 (K : aK) : am_Snd K 0 333 := sn_iald i0_333 d0_333 
theorem i0_334 : am_ins 0 334 = (33, 0, 1, 0, []) := by decide +kernel
theorem d0_334 : decode (am_cod 0) 334 = .ok (.aload_n 0, 1) := by decide +kernel
theorem s0_334 (K : aK) : am_Snd K 0 334 := sn_aload_n i0_334 d0_334 rfl
theorem i0_335 : am_ins 0 335 = (1, 3, 1, 0, []) := by decide +kernel
theorem d0_335 : decode (am_cod 0) 335 = .ok (.iload_n 3, 1) := by decide +kernel
theorem s0_335 (K : aK) : am_Snd K 0 335 := sn_iload_n i0_335 d0_335 rfl
theorem i0_336 : am_ins 0 336 = (0, 1, 0, 2, []) := by decide +kernel
theorem d0_336 : decode (am_cod 0) 336 = .ok (.iconst 2, 1) := by decide +kernel
theorem s0_336 (K : aK) : am_Snd K 0 336 := sn_const1 i0_336 d0_336 rfl
theorem i0_337 : am_ins 0 337 = (4, 0, 0, 0, []) := by decide +kernel
theorem d0_337 : decode (am_cod 0) 337 = .ok (.iadd, 1) := by decide +kernel
theorem s0_337 (K : aK) : am_Snd K 0 337 := sn_add i0_337 d0_337 
theorem i0_338 : am_ins 0 338 = (22, 0, 0, 0, []) := by decide +kernel
theorem d0_338 : decode (am_cod 0) 338 = .ok (.iaload, 1) := by decide +kernel
theorem s0_338 (K : aK) : am_Snd K 0 338 := sn_iald i0_338 d0_338 
theorem i0_339 : am_ins 0 339 = (60, 10, 2, 0, []) := by decide +kernel
theorem d0_339 : decode (am_cod 0) 339 = .ok (.invokevirtual 49, 3) := by decide +kernel
theorem s0_339 (K : aK) : am_SndC K 0 339 := sc_V i0_339 d0_339 co10 w_462 w_463 w_464 w_1 rfl (rr := (CN0, FT0, 5)) rfl rfl hd10
theorem i0_342 : am_ins 0 342 = (33, 2, 1, 0, []) := by decide +kernel
theorem d0_342 : decode (am_cod 0) 342 = .ok (.aload_n 2, 1) := by decide +kernel
theorem s0_342 (K : aK) : am_Snd K 0 342 := sn_aload_n i0_342 d0_342 rfl
theorem i0_343 : am_ins 0 343 = (33, 0, 1, 0, []) := by decide +kernel
theorem d0_343 : decode (am_cod 0) 343 = .ok (.aload_n 0, 1) := by decide +kernel
theorem s0_343 (K : aK) : am_Snd K 0 343 := sn_aload_n i0_343 d0_343 rfl
theorem i0_344 : am_ins 0 344 = (1, 3, 1, 0, []) := by decide +kernel
theorem d0_344 : decode (am_cod 0) 344 = .ok (.iload_n 3, 1) := by decide +kernel
theorem s0_344 (K : aK) : am_Snd K 0 344 := sn_iload_n i0_344 d0_344 rfl
theorem i0_345 : am_ins 0 345 = (0, 1, 0, 1, []) := by decide +kernel
theorem d0_345 : decode (am_cod 0) 345 = .ok (.iconst 1, 1) := by decide +kernel
theorem s0_345 (K : aK) : am_Snd K 0 345 := sn_const1 i0_345 d0_345 rfl
theorem i0_346 : am_ins 0 346 = (4, 0, 0, 0, []) := by decide +kernel
theorem d0_346 : decode (am_cod 0) 346 = .ok (.iadd, 1) := by decide +kernel
theorem s0_346 (K : aK) : am_Snd K 0 346 := sn_add i0_346 d0_346 
theorem i0_347 : am_ins 0 347 = (22, 0, 0, 0, []) := by decide +kernel
theorem d0_347 : decode (am_cod 0) 347 = .ok (.iaload, 1) := by decide +kernel
theorem s0_347 (K : aK) : am_Snd K 0 347 := sn_iald i0_347 d0_347 
theorem i0_348 : am_ins 0 348 = (33, 0, 1, 0, []) := by decide +kernel
theorem d0_348 : decode (am_cod 0) 348 = .ok (.aload_n 0, 1) := by decide +kernel
theorem s0_348 (K : aK) : am_Snd K 0 348 := sn_aload_n i0_348 d0_348 rfl
theorem i0_349 : am_ins 0 349 = (1, 3, 1, 0, []) := by decide +kernel
theorem d0_349 : decode (am_cod 0) 349 = .ok (.iload_n 3, 1) := by decide +kernel
theorem s0_349 (K : aK) : am_Snd K 0 349 := sn_iload_n i0_349 d0_349 rfl
theorem i0_350 : am_ins 0 350 = (0, 1, 0, 2, []) := by decide +kernel
theorem d0_350 : decode (am_cod 0) 350 = .ok (.iconst 2, 1) := by decide +kernel
theorem s0_350 (K : aK) : am_Snd K 0 350 := sn_const1 i0_350 d0_350 rfl
theorem i0_351 : am_ins 0 351 = (4, 0, 0, 0, []) := by decide +kernel
theorem d0_351 : decode (am_cod 0) 351 = .ok (.iadd, 1) := by decide +kernel
theorem s0_351 (K : aK) : am_Snd K 0 351 := sn_add i0_351 d0_351 
theorem i0_352 : am_ins 0 352 = (22, 0, 0, 0, []) := by decide +kernel
theorem d0_352 : decode (am_cod 0) 352 = .ok (.iaload, 1) := by decide +kernel
theorem s0_352 (K : aK) : am_Snd K 0 352 := sn_iald i0_352 d0_352 
theorem i0_353 : am_ins 0 353 = (60, 103, 2, 0, []) := by decide +kernel
theorem d0_353 : decode (am_cod 0) 353 = .ok (.invokevirtual 52, 3) := by decide +kernel
theorem s0_353 (K : aK) : am_SndC K 0 353 := sc_V i0_353 d0_353 co103 w_698 w_699 w_700 w_6 rfl (rr := (CN7, FT7, 24)) rfl rfl hd103
theorem i0_356 : am_ins 0 356 = (13, 0, 546, 0, []) := by decide +kernel
theorem d0_356 : decode (am_cod 0) 356 = .ok (.if_icmp .eq 190, 3) := by decide +kernel
theorem s0_356 (K : aK) : am_Snd K 0 356 := sn_icmp_eq i0_356 d0_356 rfl
theorem i0_359 : am_ins 0 359 = (0, 1, 0, 0, []) := by decide +kernel
theorem d0_359 : decode (am_cod 0) 359 = .ok (.iconst 0, 1) := by decide +kernel
theorem s0_359 (K : aK) : am_Snd K 0 359 := sn_const1 i0_359 d0_359 rfl
theorem i0_360 : am_ins 0 360 = (51, 0, 0, 0, []) := by decide +kernel
theorem d0_360 : decode (am_cod 0) 360 = .ok (.ireturn, 1) := by decide +kernel
theorem s0_360 : am_SndR 0 360 := sn_zret i0_360 d0_360 rfl
theorem i0_361 : am_ins 0 361 = (33, 1, 1, 0, []) := by decide +kernel
theorem d0_361 : decode (am_cod 0) 361 = .ok (.aload_n 1, 1) := by decide +kernel
theorem s0_361 (K : aK) : am_Snd K 0 361 := sn_aload_n i0_361 d0_361 rfl
theorem i0_362 : am_ins 0 362 = (33, 0, 1, 0, []) := by decide +kernel
theorem d0_362 : decode (am_cod 0) 362 = .ok (.aload_n 0, 1) := by decide +kernel
theorem s0_362 (K : aK) : am_Snd K 0 362 := sn_aload_n i0_362 d0_362 rfl
theorem i0_363 : am_ins 0 363 = (1, 3, 1, 0, []) := by decide +kernel
theorem d0_363 : decode (am_cod 0) 363 = .ok (.iload_n 3, 1) := by decide +kernel
theorem s0_363 (K : aK) : am_Snd K 0 363 := sn_iload_n i0_363 d0_363 rfl
theorem i0_364 : am_ins 0 364 = (0, 1, 0, 1, []) := by decide +kernel
theorem d0_364 : decode (am_cod 0) 364 = .ok (.iconst 1, 1) := by decide +kernel
theorem s0_364 (K : aK) : am_Snd K 0 364 := sn_const1 i0_364 d0_364 rfl
theorem i0_365 : am_ins 0 365 = (4, 0, 0, 0, []) := by decide +kernel
theorem d0_365 : decode (am_cod 0) 365 = .ok (.iadd, 1) := by decide +kernel
theorem s0_365 (K : aK) : am_Snd K 0 365 := sn_add i0_365 d0_365 
theorem i0_366 : am_ins 0 366 = (22, 0, 0, 0, []) := by decide +kernel
theorem d0_366 : decode (am_cod 0) 366 = .ok (.iaload, 1) := by decide +kernel
theorem s0_366 (K : aK) : am_Snd K 0 366 := sn_iald i0_366 d0_366 
theorem i0_367 : am_ins 0 367 = (33, 0, 1, 0, []) := by decide +kernel
theorem d0_367 : decode (am_cod 0) 367 = .ok (.aload_n 0, 1) := by decide +kernel
theorem s0_367 (K : aK) : am_Snd K 0 367 := sn_aload_n i0_367 d0_367 rfl
theorem i0_368 : am_ins 0 368 = (1, 3, 1, 0, []) := by decide +kernel
theorem d0_368 : decode (am_cod 0) 368 = .ok (.iload_n 3, 1) := by decide +kernel
theorem s0_368 (K : aK) : am_Snd K 0 368 := sn_iload_n i0_368 d0_368 rfl
theorem i0_369 : am_ins 0 369 = (0, 1, 0, 2, []) := by decide +kernel
theorem d0_369 : decode (am_cod 0) 369 = .ok (.iconst 2, 1) := by decide +kernel
theorem s0_369 (K : aK) : am_Snd K 0 369 := sn_const1 i0_369 d0_369 rfl
theorem i0_370 : am_ins 0 370 = (4, 0, 0, 0, []) := by decide +kernel
theorem d0_370 : decode (am_cod 0) 370 = .ok (.iadd, 1) := by decide +kernel
theorem s0_370 (K : aK) : am_Snd K 0 370 := sn_add i0_370 d0_370 
theorem i0_371 : am_ins 0 371 = (22, 0, 0, 0, []) := by decide +kernel
theorem d0_371 : decode (am_cod 0) 371 = .ok (.iaload, 1) := by decide +kernel
theorem s0_371 (K : aK) : am_Snd K 0 371 := sn_iald i0_371 d0_371 
theorem i0_372 : am_ins 0 372 = (60, 11, 2, 0, []) := by decide +kernel
theorem d0_372 : decode (am_cod 0) 372 = .ok (.invokevirtual 53, 3) := by decide +kernel
theorem s0_372 (K : aK) : am_SndC K 0 372 := sc_V i0_372 d0_372 co11 w_471 w_472 w_473 w_1 rfl (rr := (CN0, FT0, 5)) rfl rfl hd11
theorem i0_375 : am_ins 0 375 = (33, 2, 1, 0, []) := by decide +kernel
theorem d0_375 : decode (am_cod 0) 375 = .ok (.aload_n 2, 1) := by decide +kernel
theorem s0_375 (K : aK) : am_Snd K 0 375 := sn_aload_n i0_375 d0_375 rfl
theorem i0_376 : am_ins 0 376 = (33, 0, 1, 0, []) := by decide +kernel
theorem d0_376 : decode (am_cod 0) 376 = .ok (.aload_n 0, 1) := by decide +kernel
theorem s0_376 (K : aK) : am_Snd K 0 376 := sn_aload_n i0_376 d0_376 rfl
theorem i0_377 : am_ins 0 377 = (1, 3, 1, 0, []) := by decide +kernel
theorem d0_377 : decode (am_cod 0) 377 = .ok (.iload_n 3, 1) := by decide +kernel
theorem s0_377 (K : aK) : am_Snd K 0 377 := sn_iload_n i0_377 d0_377 rfl
theorem i0_378 : am_ins 0 378 = (0, 1, 0, 1, []) := by decide +kernel
theorem d0_378 : decode (am_cod 0) 378 = .ok (.iconst 1, 1) := by decide +kernel
theorem s0_378 (K : aK) : am_Snd K 0 378 := sn_const1 i0_378 d0_378 rfl
theorem i0_379 : am_ins 0 379 = (4, 0, 0, 0, []) := by decide +kernel
theorem d0_379 : decode (am_cod 0) 379 = .ok (.iadd, 1) := by decide +kernel
theorem s0_379 (K : aK) : am_Snd K 0 379 := sn_add i0_379 d0_379 
theorem i0_380 : am_ins 0 380 = (22, 0, 0, 0, []) := by decide +kernel
theorem d0_380 : decode (am_cod 0) 380 = .ok (.iaload, 1) := by decide +kernel
theorem s0_380 (K : aK) : am_Snd K 0 380 := sn_iald i0_380 d0_380 
theorem i0_381 : am_ins 0 381 = (33, 0, 1, 0, []) := by decide +kernel
theorem d0_381 : decode (am_cod 0) 381 = .ok (.aload_n 0, 1) := by decide +kernel
theorem s0_381 (K : aK) : am_Snd K 0 381 := sn_aload_n i0_381 d0_381 rfl
theorem i0_382 : am_ins 0 382 = (1, 3, 1, 0, []) := by decide +kernel
theorem d0_382 : decode (am_cod 0) 382 = .ok (.iload_n 3, 1) := by decide +kernel
theorem s0_382 (K : aK) : am_Snd K 0 382 := sn_iload_n i0_382 d0_382 rfl
theorem i0_383 : am_ins 0 383 = (0, 1, 0, 2, []) := by decide +kernel
theorem d0_383 : decode (am_cod 0) 383 = .ok (.iconst 2, 1) := by decide +kernel
theorem s0_383 (K : aK) : am_Snd K 0 383 := sn_const1 i0_383 d0_383 rfl
theorem i0_384 : am_ins 0 384 = (4, 0, 0, 0, []) := by decide +kernel
theorem d0_384 : decode (am_cod 0) 384 = .ok (.iadd, 1) := by decide +kernel
theorem s0_384 (K : aK) : am_Snd K 0 384 := sn_add i0_384 d0_384 
theorem i0_385 : am_ins 0 385 = (22, 0, 0, 0, []) := by decide +kernel
theorem d0_385 : decode (am_cod 0) 385 = .ok (.iaload, 1) := by decide +kernel
theorem s0_385 (K : aK) : am_Snd K 0 385 := sn_iald i0_385 d0_385 
theorem i0_386 : am_ins 0 386 = (60, 105, 2, 0, []) := by decide +kernel
theorem d0_386 : decode (am_cod 0) 386 = .ok (.invokevirtual 56, 3) := by decide +kernel
theorem s0_386 (K : aK) : am_SndC K 0 386 := sc_V i0_386 d0_386 co105 w_705 w_706 w_707 w_6 rfl (rr := (CN7, FT7, 24)) rfl rfl hd105
theorem i0_389 : am_ins 0 389 = (13, 0, 546, 0, []) := by decide +kernel
theorem d0_389 : decode (am_cod 0) 389 = .ok (.if_icmp .eq 157, 3) := by decide +kernel
theorem s0_389 (K : aK) : am_Snd K 0 389 := sn_icmp_eq i0_389 d0_389 rfl
theorem i0_392 : am_ins 0 392 = (0, 1, 0, 0, []) := by decide +kernel
theorem d0_392 : decode (am_cod 0) 392 = .ok (.iconst 0, 1) := by decide +kernel
theorem s0_392 (K : aK) : am_Snd K 0 392 := sn_const1 i0_392 d0_392 rfl
theorem i0_393 : am_ins 0 393 = (51, 0, 0, 0, []) := by decide +kernel
theorem d0_393 : decode (am_cod 0) 393 = .ok (.ireturn, 1) := by decide +kernel
theorem s0_393 : am_SndR 0 393 := sn_zret i0_393 d0_393 rfl
theorem i0_394 : am_ins 0 394 = (33, 1, 1, 0, []) := by decide +kernel
theorem d0_394 : decode (am_cod 0) 394 = .ok (.aload_n 1, 1) := by decide +kernel
theorem s0_394 (K : aK) : am_Snd K 0 394 := sn_aload_n i0_394 d0_394 rfl
theorem i0_395 : am_ins 0 395 = (33, 0, 1, 0, []) := by decide +kernel
theorem d0_395 : decode (am_cod 0) 395 = .ok (.aload_n 0, 1) := by decide +kernel
theorem s0_395 (K : aK) : am_Snd K 0 395 := sn_aload_n i0_395 d0_395 rfl
theorem i0_396 : am_ins 0 396 = (1, 3, 1, 0, []) := by decide +kernel
theorem d0_396 : decode (am_cod 0) 396 = .ok (.iload_n 3, 1) := by decide +kernel
theorem s0_396 (K : aK) : am_Snd K 0 396 := sn_iload_n i0_396 d0_396 rfl
theorem i0_397 : am_ins 0 397 = (0, 1, 0, 1, []) := by decide +kernel
theorem d0_397 : decode (am_cod 0) 397 = .ok (.iconst 1, 1) := by decide +kernel
theorem s0_397 (K : aK) : am_Snd K 0 397 := sn_const1 i0_397 d0_397 rfl
theorem i0_398 : am_ins 0 398 = (4, 0, 0, 0, []) := by decide +kernel
theorem d0_398 : decode (am_cod 0) 398 = .ok (.iadd, 1) := by decide +kernel
theorem s0_398 (K : aK) : am_Snd K 0 398 := sn_add i0_398 d0_398 
theorem i0_399 : am_ins 0 399 = (22, 0, 0, 0, []) := by decide +kernel
theorem d0_399 : decode (am_cod 0) 399 = .ok (.iaload, 1) := by decide +kernel
theorem s0_399 (K : aK) : am_Snd K 0 399 := sn_iald i0_399 d0_399 
theorem i0_400 : am_ins 0 400 = (33, 0, 1, 0, []) := by decide +kernel
theorem d0_400 : decode (am_cod 0) 400 = .ok (.aload_n 0, 1) := by decide +kernel
theorem s0_400 (K : aK) : am_Snd K 0 400 := sn_aload_n i0_400 d0_400 rfl
theorem i0_401 : am_ins 0 401 = (1, 3, 1, 0, []) := by decide +kernel
theorem d0_401 : decode (am_cod 0) 401 = .ok (.iload_n 3, 1) := by decide +kernel
theorem s0_401 (K : aK) : am_Snd K 0 401 := sn_iload_n i0_401 d0_401 rfl
theorem i0_402 : am_ins 0 402 = (0, 1, 0, 2, []) := by decide +kernel
theorem d0_402 : decode (am_cod 0) 402 = .ok (.iconst 2, 1) := by decide +kernel
theorem s0_402 (K : aK) : am_Snd K 0 402 := sn_const1 i0_402 d0_402 rfl
theorem i0_403 : am_ins 0 403 = (4, 0, 0, 0, []) := by decide +kernel
theorem d0_403 : decode (am_cod 0) 403 = .ok (.iadd, 1) := by decide +kernel
theorem s0_403 (K : aK) : am_Snd K 0 403 := sn_add i0_403 d0_403 
theorem i0_404 : am_ins 0 404 = (22, 0, 0, 0, []) := by decide +kernel
theorem d0_404 : decode (am_cod 0) 404 = .ok (.iaload, 1) := by decide +kernel
theorem s0_404 (K : aK) : am_Snd K 0 404 := sn_iald i0_404 d0_404 
theorem i0_405 : am_ins 0 405 = (60, 12, 2, 0, []) := by decide +kernel
theorem d0_405 : decode (am_cod 0) 405 = .ok (.invokevirtual 57, 3) := by decide +kernel
theorem s0_405 (K : aK) : am_SndC K 0 405 := sc_V i0_405 d0_405 co12 w_481 w_482 w_483 w_1 rfl (rr := (CN0, FT0, 5)) rfl rfl hd12
theorem i0_408 : am_ins 0 408 = (33, 2, 1, 0, []) := by decide +kernel
theorem d0_408 : decode (am_cod 0) 408 = .ok (.aload_n 2, 1) := by decide +kernel
theorem s0_408 (K : aK) : am_Snd K 0 408 := sn_aload_n i0_408 d0_408 rfl
theorem i0_409 : am_ins 0 409 = (33, 0, 1, 0, []) := by decide +kernel
theorem d0_409 : decode (am_cod 0) 409 = .ok (.aload_n 0, 1) := by decide +kernel
theorem s0_409 (K : aK) : am_Snd K 0 409 := sn_aload_n i0_409 d0_409 rfl
theorem i0_410 : am_ins 0 410 = (1, 3, 1, 0, []) := by decide +kernel
theorem d0_410 : decode (am_cod 0) 410 = .ok (.iload_n 3, 1) := by decide +kernel
theorem s0_410 (K : aK) : am_Snd K 0 410 := sn_iload_n i0_410 d0_410 rfl
theorem i0_411 : am_ins 0 411 = (0, 1, 0, 1, []) := by decide +kernel
theorem d0_411 : decode (am_cod 0) 411 = .ok (.iconst 1, 1) := by decide +kernel
theorem s0_411 (K : aK) : am_Snd K 0 411 := sn_const1 i0_411 d0_411 rfl
theorem i0_412 : am_ins 0 412 = (4, 0, 0, 0, []) := by decide +kernel
theorem d0_412 : decode (am_cod 0) 412 = .ok (.iadd, 1) := by decide +kernel
theorem s0_412 (K : aK) : am_Snd K 0 412 := sn_add i0_412 d0_412 
theorem i0_413 : am_ins 0 413 = (22, 0, 0, 0, []) := by decide +kernel
theorem d0_413 : decode (am_cod 0) 413 = .ok (.iaload, 1) := by decide +kernel
theorem s0_413 (K : aK) : am_Snd K 0 413 := sn_iald i0_413 d0_413 
theorem i0_414 : am_ins 0 414 = (33, 0, 1, 0, []) := by decide +kernel
theorem d0_414 : decode (am_cod 0) 414 = .ok (.aload_n 0, 1) := by decide +kernel
theorem s0_414 (K : aK) : am_Snd K 0 414 := sn_aload_n i0_414 d0_414 rfl
theorem i0_415 : am_ins 0 415 = (1, 3, 1, 0, []) := by decide +kernel
theorem d0_415 : decode (am_cod 0) 415 = .ok (.iload_n 3, 1) := by decide +kernel
theorem s0_415 (K : aK) : am_Snd K 0 415 := sn_iload_n i0_415 d0_415 rfl
theorem i0_416 : am_ins 0 416 = (0, 1, 0, 2, []) := by decide +kernel
theorem d0_416 : decode (am_cod 0) 416 = .ok (.iconst 2, 1) := by decide +kernel
theorem s0_416 (K : aK) : am_Snd K 0 416 := sn_const1 i0_416 d0_416 rfl
theorem i0_417 : am_ins 0 417 = (4, 0, 0, 0, []) := by decide +kernel
theorem d0_417 : decode (am_cod 0) 417 = .ok (.iadd, 1) := by decide +kernel
theorem s0_417 (K : aK) : am_Snd K 0 417 := sn_add i0_417 d0_417 
theorem i0_418 : am_ins 0 418 = (22, 0, 0, 0, []) := by decide +kernel
theorem d0_418 : decode (am_cod 0) 418 = .ok (.iaload, 1) := by decide +kernel
theorem s0_418 (K : aK) : am_Snd K 0 418 := sn_iald i0_418 d0_418 
theorem i0_419 : am_ins 0 419 = (60, 106, 2, 0, []) := by decide +kernel
theorem d0_419 : decode (am_cod 0) 419 = .ok (.invokevirtual 60, 3) := by decide +kernel
theorem s0_419 (K : aK) : am_SndC K 0 419 := sc_V i0_419 d0_419 co106 w_713 w_714 w_715 w_6 rfl (rr := (CN7, FT7, 24)) rfl rfl hd106
theorem i0_422 : am_ins 0 422 = (13, 0, 546, 0, []) := by decide +kernel
theorem d0_422 : decode (am_cod 0) 422 = .ok (.if_icmp .eq 124, 3) := by decide +kernel
theorem s0_422 (K : aK) : am_Snd K 0 422 := sn_icmp_eq i0_422 d0_422 rfl
theorem i0_425 : am_ins 0 425 = (0, 1, 0, 0, []) := by decide +kernel
theorem d0_425 : decode (am_cod 0) 425 = .ok (.iconst 0, 1) := by decide +kernel
theorem s0_425 (K : aK) : am_Snd K 0 425 := sn_const1 i0_425 d0_425 rfl
theorem i0_426 : am_ins 0 426 = (51, 0, 0, 0, []) := by decide +kernel
theorem d0_426 : decode (am_cod 0) 426 = .ok (.ireturn, 1) := by decide +kernel
theorem s0_426 : am_SndR 0 426 := sn_zret i0_426 d0_426 rfl
theorem i0_427 : am_ins 0 427 = (33, 1, 1, 0, []) := by decide +kernel
theorem d0_427 : decode (am_cod 0) 427 = .ok (.aload_n 1, 1) := by decide +kernel
theorem s0_427 (K : aK) : am_Snd K 0 427 := sn_aload_n i0_427 d0_427 rfl
theorem i0_428 : am_ins 0 428 = (33, 0, 1, 0, []) := by decide +kernel
theorem d0_428 : decode (am_cod 0) 428 = .ok (.aload_n 0, 1) := by decide +kernel
theorem s0_428 (K : aK) : am_Snd K 0 428 := sn_aload_n i0_428 d0_428 rfl
theorem i0_429 : am_ins 0 429 = (1, 3, 1, 0, []) := by decide +kernel
theorem d0_429 : decode (am_cod 0) 429 = .ok (.iload_n 3, 1) := by decide +kernel
theorem s0_429 (K : aK) : am_Snd K 0 429 := sn_iload_n i0_429 d0_429 rfl
theorem i0_430 : am_ins 0 430 = (0, 1, 0, 1, []) := by decide +kernel
theorem d0_430 : decode (am_cod 0) 430 = .ok (.iconst 1, 1) := by decide +kernel
theorem s0_430 (K : aK) : am_Snd K 0 430 := sn_const1 i0_430 d0_430 rfl
theorem i0_431 : am_ins 0 431 = (4, 0, 0, 0, []) := by decide +kernel
theorem d0_431 : decode (am_cod 0) 431 = .ok (.iadd, 1) := by decide +kernel
theorem s0_431 (K : aK) : am_Snd K 0 431 := sn_add i0_431 d0_431 
theorem i0_432 : am_ins 0 432 = (22, 0, 0, 0, []) := by decide +kernel
theorem d0_432 : decode (am_cod 0) 432 = .ok (.iaload, 1) := by decide +kernel
theorem s0_432 (K : aK) : am_Snd K 0 432 := sn_iald i0_432 d0_432 
theorem i0_433 : am_ins 0 433 = (33, 0, 1, 0, []) := by decide +kernel
theorem d0_433 : decode (am_cod 0) 433 = .ok (.aload_n 0, 1) := by decide +kernel
theorem s0_433 (K : aK) : am_Snd K 0 433 := sn_aload_n i0_433 d0_433 rfl
theorem i0_434 : am_ins 0 434 = (1, 3, 1, 0, []) := by decide +kernel
theorem d0_434 : decode (am_cod 0) 434 = .ok (.iload_n 3, 1) := by decide +kernel
theorem s0_434 (K : aK) : am_Snd K 0 434 := sn_iload_n i0_434 d0_434 rfl
theorem i0_435 : am_ins 0 435 = (0, 1, 0, 2, []) := by decide +kernel
theorem d0_435 : decode (am_cod 0) 435 = .ok (.iconst 2, 1) := by decide +kernel
theorem s0_435 (K : aK) : am_Snd K 0 435 := sn_const1 i0_435 d0_435 rfl
theorem i0_436 : am_ins 0 436 = (4, 0, 0, 0, []) := by decide +kernel
theorem d0_436 : decode (am_cod 0) 436 = .ok (.iadd, 1) := by decide +kernel
theorem s0_436 (K : aK) : am_Snd K 0 436 := sn_add i0_436 d0_436 
theorem i0_437 : am_ins 0 437 = (22, 0, 0, 0, []) := by decide +kernel
theorem d0_437 : decode (am_cod 0) 437 = .ok (.iaload, 1) := by decide +kernel
theorem s0_437 (K : aK) : am_Snd K 0 437 := sn_iald i0_437 d0_437 
theorem i0_438 : am_ins 0 438 = (60, 13, 2, 0, []) := by decide +kernel
theorem d0_438 : decode (am_cod 0) 438 = .ok (.invokevirtual 61, 3) := by decide +kernel
theorem s0_438 (K : aK) : am_SndC K 0 438 := sc_V i0_438 d0_438 co13 w_486 w_487 w_488 w_1 rfl (rr := (CN0, FT0, 5)) rfl rfl hd13
theorem i0_441 : am_ins 0 441 = (33, 2, 1, 0, []) := by decide +kernel
theorem d0_441 : decode (am_cod 0) 441 = .ok (.aload_n 2, 1) := by decide +kernel
theorem s0_441 (K : aK) : am_Snd K 0 441 := sn_aload_n i0_441 d0_441 rfl
theorem i0_442 : am_ins 0 442 = (33, 0, 1, 0, []) := by decide +kernel
theorem d0_442 : decode (am_cod 0) 442 = .ok (.aload_n 0, 1) := by decide +kernel
theorem s0_442 (K : aK) : am_Snd K 0 442 := sn_aload_n i0_442 d0_442 rfl
theorem i0_443 : am_ins 0 443 = (1, 3, 1, 0, []) := by decide +kernel
theorem d0_443 : decode (am_cod 0) 443 = .ok (.iload_n 3, 1) := by decide +kernel
theorem s0_443 (K : aK) : am_Snd K 0 443 := sn_iload_n i0_443 d0_443 rfl
theorem i0_444 : am_ins 0 444 = (0, 1, 0, 1, []) := by decide +kernel
theorem d0_444 : decode (am_cod 0) 444 = .ok (.iconst 1, 1) := by decide +kernel
theorem s0_444 (K : aK) : am_Snd K 0 444 := sn_const1 i0_444 d0_444 rfl
theorem i0_445 : am_ins 0 445 = (4, 0, 0, 0, []) := by decide +kernel
theorem d0_445 : decode (am_cod 0) 445 = .ok (.iadd, 1) := by decide +kernel
theorem s0_445 (K : aK) : am_Snd K 0 445 := sn_add i0_445 d0_445 
theorem i0_446 : am_ins 0 446 = (22, 0, 0, 0, []) := by decide +kernel
theorem d0_446 : decode (am_cod 0) 446 = .ok (.iaload, 1) := by decide +kernel
theorem s0_446 (K : aK) : am_Snd K 0 446 := sn_iald i0_446 d0_446 
theorem i0_447 : am_ins 0 447 = (33, 0, 1, 0, []) := by decide +kernel
theorem d0_447 : decode (am_cod 0) 447 = .ok (.aload_n 0, 1) := by decide +kernel
theorem s0_447 (K : aK) : am_Snd K 0 447 := sn_aload_n i0_447 d0_447 rfl
theorem i0_448 : am_ins 0 448 = (1, 3, 1, 0, []) := by decide +kernel
theorem d0_448 : decode (am_cod 0) 448 = .ok (.iload_n 3, 1) := by decide +kernel
theorem s0_448 (K : aK) : am_Snd K 0 448 := sn_iload_n i0_448 d0_448 rfl
theorem i0_449 : am_ins 0 449 = (0, 1, 0, 2, []) := by decide +kernel
theorem d0_449 : decode (am_cod 0) 449 = .ok (.iconst 2, 1) := by decide +kernel
theorem s0_449 (K : aK) : am_Snd K 0 449 := sn_const1 i0_449 d0_449 rfl
theorem i0_450 : am_ins 0 450 = (4, 0, 0, 0, []) := by decide +kernel
theorem d0_450 : decode (am_cod 0) 450 = .ok (.iadd, 1) := by decide +kernel
theorem s0_450 (K : aK) : am_Snd K 0 450 := sn_add i0_450 d0_450 
theorem i0_451 : am_ins 0 451 = (22, 0, 0, 0, []) := by decide +kernel
theorem d0_451 : decode (am_cod 0) 451 = .ok (.iaload, 1) := by decide +kernel
theorem s0_451 (K : aK) : am_Snd K 0 451 := sn_iald i0_451 d0_451 
theorem i0_452 : am_ins 0 452 = (60, 107, 2, 0, []) := by decide +kernel
theorem d0_452 : decode (am_cod 0) 452 = .ok (.invokevirtual 64, 3) := by decide +kernel
theorem s0_452 (K : aK) : am_SndC K 0 452 := sc_V i0_452 d0_452 co107 w_717 w_718 w_719 w_6 rfl (rr := (CN7, FT7, 24)) rfl rfl hd107
theorem i0_455 : am_ins 0 455 = (13, 0, 546, 0, []) := by decide +kernel
theorem d0_455 : decode (am_cod 0) 455 = .ok (.if_icmp .eq 91, 3) := by decide +kernel
theorem s0_455 (K : aK) : am_Snd K 0 455 := sn_icmp_eq i0_455 d0_455 rfl
theorem i0_458 : am_ins 0 458 = (0, 1, 0, 0, []) := by decide +kernel
theorem d0_458 : decode (am_cod 0) 458 = .ok (.iconst 0, 1) := by decide +kernel
theorem s0_458 (K : aK) : am_Snd K 0 458 := sn_const1 i0_458 d0_458 rfl
theorem i0_459 : am_ins 0 459 = (51, 0, 0, 0, []) := by decide +kernel
theorem d0_459 : decode (am_cod 0) 459 = .ok (.ireturn, 1) := by decide +kernel
theorem s0_459 : am_SndR 0 459 := sn_zret i0_459 d0_459 rfl
theorem i0_460 : am_ins 0 460 = (33, 1, 1, 0, []) := by decide +kernel
theorem d0_460 : decode (am_cod 0) 460 = .ok (.aload_n 1, 1) := by decide +kernel
theorem s0_460 (K : aK) : am_Snd K 0 460 := sn_aload_n i0_460 d0_460 rfl
theorem i0_461 : am_ins 0 461 = (33, 0, 1, 0, []) := by decide +kernel
theorem d0_461 : decode (am_cod 0) 461 = .ok (.aload_n 0, 1) := by decide +kernel
theorem s0_461 (K : aK) : am_Snd K 0 461 := sn_aload_n i0_461 d0_461 rfl
theorem i0_462 : am_ins 0 462 = (1, 3, 1, 0, []) := by decide +kernel
theorem d0_462 : decode (am_cod 0) 462 = .ok (.iload_n 3, 1) := by decide +kernel
theorem s0_462 (K : aK) : am_Snd K 0 462 := sn_iload_n i0_462 d0_462 rfl
theorem i0_463 : am_ins 0 463 = (0, 1, 0, 1, []) := by decide +kernel
theorem d0_463 : decode (am_cod 0) 463 = .ok (.iconst 1, 1) := by decide +kernel
theorem s0_463 (K : aK) : am_Snd K 0 463 := sn_const1 i0_463 d0_463 rfl
theorem i0_464 : am_ins 0 464 = (4, 0, 0, 0, []) := by decide +kernel
theorem d0_464 : decode (am_cod 0) 464 = .ok (.iadd, 1) := by decide +kernel
theorem s0_464 (K : aK) : am_Snd K 0 464 := sn_add i0_464 d0_464 
theorem i0_465 : am_ins 0 465 = (22, 0, 0, 0, []) := by decide +kernel
theorem d0_465 : decode (am_cod 0) 465 = .ok (.iaload, 1) := by decide +kernel
theorem s0_465 (K : aK) : am_Snd K 0 465 := sn_iald i0_465 d0_465 
theorem i0_466 : am_ins 0 466 = (33, 0, 1, 0, []) := by decide +kernel
theorem d0_466 : decode (am_cod 0) 466 = .ok (.aload_n 0, 1) := by decide +kernel
theorem s0_466 (K : aK) : am_Snd K 0 466 := sn_aload_n i0_466 d0_466 rfl
theorem i0_467 : am_ins 0 467 = (1, 3, 1, 0, []) := by decide +kernel
theorem d0_467 : decode (am_cod 0) 467 = .ok (.iload_n 3, 1) := by decide +kernel
theorem s0_467 (K : aK) : am_Snd K 0 467 := sn_iload_n i0_467 d0_467 rfl
theorem i0_468 : am_ins 0 468 = (0, 1, 0, 2, []) := by decide +kernel
theorem d0_468 : decode (am_cod 0) 468 = .ok (.iconst 2, 1) := by decide +kernel
theorem s0_468 (K : aK) : am_Snd K 0 468 := sn_const1 i0_468 d0_468 rfl
theorem i0_469 : am_ins 0 469 = (4, 0, 0, 0, []) := by decide +kernel
theorem d0_469 : decode (am_cod 0) 469 = .ok (.iadd, 1) := by decide +kernel
theorem s0_469 (K : aK) : am_Snd K 0 469 := sn_add i0_469 d0_469 
theorem i0_470 : am_ins 0 470 = (22, 0, 0, 0, []) := by decide +kernel
theorem d0_470 : decode (am_cod 0) 470 = .ok (.iaload, 1) := by decide +kernel
theorem s0_470 (K : aK) : am_Snd K 0 470 := sn_iald i0_470 d0_470 
theorem i0_471 : am_ins 0 471 = (33, 0, 1, 0, []) := by decide +kernel
theorem d0_471 : decode (am_cod 0) 471 = .ok (.aload_n 0, 1) := by decide +kernel
theorem s0_471 (K : aK) : am_Snd K 0 471 := sn_aload_n i0_471 d0_471 rfl
theorem i0_472 : am_ins 0 472 = (1, 3, 1, 0, []) := by decide +kernel
theorem d0_472 : decode (am_cod 0) 472 = .ok (.iload_n 3, 1) := by decide +kernel
theorem s0_472 (K : aK) : am_Snd K 0 472 := sn_iload_n i0_472 d0_472 rfl
theorem i0_473 : am_ins 0 473 = (0, 1, 0, 3, []) := by decide +kernel
theorem d0_473 : decode (am_cod 0) 473 = .ok (.iconst 3, 1) := by decide +kernel
theorem s0_473 (K : aK) : am_Snd K 0 473 := sn_const1 i0_473 d0_473 rfl
theorem i0_474 : am_ins 0 474 = (4, 0, 0, 0, []) := by decide +kernel
theorem d0_474 : decode (am_cod 0) 474 = .ok (.iadd, 1) := by decide +kernel
theorem s0_474 (K : aK) : am_Snd K 0 474 := sn_add i0_474 d0_474 
theorem i0_475 : am_ins 0 475 = (22, 0, 0, 0, []) := by decide +kernel
theorem d0_475 : decode (am_cod 0) 475 = .ok (.iaload, 1) := by decide +kernel
theorem s0_475 (K : aK) : am_Snd K 0 475 := sn_iald i0_475 d0_475 
theorem i0_476 : am_ins 0 476 = (60, 14, 3, 0, []) := by decide +kernel
theorem d0_476 : decode (am_cod 0) 476 = .ok (.invokevirtual 65, 3) := by decide +kernel
theorem s0_476 (K : aK) : am_SndC K 0 476 := sc_V i0_476 d0_476 co14 w_490 w_491 w_492 w_1 rfl (rr := (CN0, FT0, 5)) rfl rfl hd14
theorem i0_479 : am_ins 0 479 = (33, 2, 1, 0, []) := by decide +kernel
theorem d0_479 : decode (am_cod 0) 479 = .ok (.aload_n 2, 1) := by decide +kernel
theorem s0_479 (K : aK) : am_Snd K 0 479 := sn_aload_n i0_479 d0_479 rfl
theorem i0_480 : am_ins 0 480 = (33, 0, 1, 0, []) := by decide +kernel
theorem d0_480 : decode (am_cod 0) 480 = .ok (.aload_n 0, 1) := by decide +kernel
theorem s0_480 (K : aK) : am_Snd K 0 480 := sn_aload_n i0_480 d0_480 rfl
theorem i0_481 : am_ins 0 481 = (1, 3, 1, 0, []) := by decide +kernel
theorem d0_481 : decode (am_cod 0) 481 = .ok (.iload_n 3, 1) := by decide +kernel
theorem s0_481 (K : aK) : am_Snd K 0 481 := sn_iload_n i0_481 d0_481 rfl
theorem i0_482 : am_ins 0 482 = (0, 1, 0, 1, []) := by decide +kernel
theorem d0_482 : decode (am_cod 0) 482 = .ok (.iconst 1, 1) := by decide +kernel
theorem s0_482 (K : aK) : am_Snd K 0 482 := sn_const1 i0_482 d0_482 rfl
theorem i0_483 : am_ins 0 483 = (4, 0, 0, 0, []) := by decide +kernel
theorem d0_483 : decode (am_cod 0) 483 = .ok (.iadd, 1) := by decide +kernel
theorem s0_483 (K : aK) : am_Snd K 0 483 := sn_add i0_483 d0_483 
theorem i0_484 : am_ins 0 484 = (22, 0, 0, 0, []) := by decide +kernel
theorem d0_484 : decode (am_cod 0) 484 = .ok (.iaload, 1) := by decide +kernel
theorem s0_484 (K : aK) : am_Snd K 0 484 := sn_iald i0_484 d0_484 
theorem i0_485 : am_ins 0 485 = (33, 0, 1, 0, []) := by decide +kernel
theorem d0_485 : decode (am_cod 0) 485 = .ok (.aload_n 0, 1) := by decide +kernel
theorem s0_485 (K : aK) : am_Snd K 0 485 := sn_aload_n i0_485 d0_485 rfl
theorem i0_486 : am_ins 0 486 = (1, 3, 1, 0, []) := by decide +kernel
theorem d0_486 : decode (am_cod 0) 486 = .ok (.iload_n 3, 1) := by decide +kernel
theorem s0_486 (K : aK) : am_Snd K 0 486 := sn_iload_n i0_486 d0_486 rfl
theorem i0_487 : am_ins 0 487 = (0, 1, 0, 2, []) := by decide +kernel
theorem d0_487 : decode (am_cod 0) 487 = .ok (.iconst 2, 1) := by decide +kernel
theorem s0_487 (K : aK) : am_Snd K 0 487 := sn_const1 i0_487 d0_487 rfl
theorem i0_488 : am_ins 0 488 = (4, 0, 0, 0, []) := by decide +kernel
theorem d0_488 : decode (am_cod 0) 488 = .ok (.iadd, 1) := by decide +kernel
theorem s0_488 (K : aK) : am_Snd K 0 488 := sn_add i0_488 d0_488 
theorem i0_489 : am_ins 0 489 = (22, 0, 0, 0, []) := by decide +kernel
theorem d0_489 : decode (am_cod 0) 489 = .ok (.iaload, 1) := by decide +kernel
theorem s0_489 (K : aK) : am_Snd K 0 489 := sn_iald i0_489 d0_489 
theorem i0_490 : am_ins 0 490 = (33, 0, 1, 0, []) := by decide +kernel
theorem d0_490 : decode (am_cod 0) 490 = .ok (.aload_n 0, 1) := by decide +kernel
theorem s0_490 (K : aK) : am_Snd K 0 490 := sn_aload_n i0_490 d0_490 rfl
theorem i0_491 : am_ins 0 491 = (1, 3, 1, 0, []) := by decide +kernel
theorem d0_491 : decode (am_cod 0) 491 = .ok (.iload_n 3, 1) := by decide +kernel
theorem s0_491 (K : aK) : am_Snd K 0 491 := sn_iload_n i0_491 d0_491 rfl
theorem i0_492 : am_ins 0 492 = (0, 1, 0, 3, []) := by decide +kernel
theorem d0_492 : decode (am_cod 0) 492 = .ok (.iconst 3, 1) := by decide +kernel
theorem s0_492 (K : aK) : am_Snd K 0 492 := sn_const1 i0_492 d0_492 rfl
theorem i0_493 : am_ins 0 493 = (4, 0, 0, 0, []) := by decide +kernel
theorem d0_493 : decode (am_cod 0) 493 = .ok (.iadd, 1) := by decide +kernel
theorem s0_493 (K : aK) : am_Snd K 0 493 := sn_add i0_493 d0_493 
theorem i0_494 : am_ins 0 494 = (22, 0, 0, 0, []) := by decide +kernel
theorem d0_494 : decode (am_cod 0) 494 = .ok (.iaload, 1) := by decide +kernel
theorem s0_494 (K : aK) : am_Snd K 0 494 := sn_iald i0_494 d0_494 
theorem i0_495 : am_ins 0 495 = (60, 108, 3, 0, []) := by decide +kernel
theorem d0_495 : decode (am_cod 0) 495 = .ok (.invokevirtual 69, 3) := by decide +kernel
theorem s0_495 (K : aK) : am_SndC K 0 495 := sc_V i0_495 d0_495 co108 w_721 w_722 w_723 w_6 rfl (rr := (CN7, FT7, 24)) rfl rfl hd108
theorem i0_498 : am_ins 0 498 = (13, 0, 546, 0, []) := by decide +kernel
theorem d0_498 : decode (am_cod 0) 498 = .ok (.if_icmp .eq 48, 3) := by decide +kernel
theorem s0_498 (K : aK) : am_Snd K 0 498 := sn_icmp_eq i0_498 d0_498 rfl
theorem i0_501 : am_ins 0 501 = (0, 1, 0, 0, []) := by decide +kernel
theorem d0_501 : decode (am_cod 0) 501 = .ok (.iconst 0, 1) := by decide +kernel
theorem s0_501 (K : aK) : am_Snd K 0 501 := sn_const1 i0_501 d0_501 rfl
theorem i0_502 : am_ins 0 502 = (51, 0, 0, 0, []) := by decide +kernel
theorem d0_502 : decode (am_cod 0) 502 = .ok (.ireturn, 1) := by decide +kernel
theorem s0_502 : am_SndR 0 502 := sn_zret i0_502 d0_502 rfl
theorem i0_503 : am_ins 0 503 = (33, 1, 1, 0, []) := by decide +kernel
theorem d0_503 : decode (am_cod 0) 503 = .ok (.aload_n 1, 1) := by decide +kernel
theorem s0_503 (K : aK) : am_Snd K 0 503 := sn_aload_n i0_503 d0_503 rfl
theorem i0_504 : am_ins 0 504 = (33, 0, 1, 0, []) := by decide +kernel
theorem d0_504 : decode (am_cod 0) 504 = .ok (.aload_n 0, 1) := by decide +kernel
theorem s0_504 (K : aK) : am_Snd K 0 504 := sn_aload_n i0_504 d0_504 rfl
theorem i0_505 : am_ins 0 505 = (1, 3, 1, 0, []) := by decide +kernel
theorem d0_505 : decode (am_cod 0) 505 = .ok (.iload_n 3, 1) := by decide +kernel
theorem s0_505 (K : aK) : am_Snd K 0 505 := sn_iload_n i0_505 d0_505 rfl
theorem i0_506 : am_ins 0 506 = (0, 1, 0, 1, []) := by decide +kernel
theorem d0_506 : decode (am_cod 0) 506 = .ok (.iconst 1, 1) := by decide +kernel
theorem s0_506 (K : aK) : am_Snd K 0 506 := sn_const1 i0_506 d0_506 rfl
theorem i0_507 : am_ins 0 507 = (4, 0, 0, 0, []) := by decide +kernel
theorem d0_507 : decode (am_cod 0) 507 = .ok (.iadd, 1) := by decide +kernel
theorem s0_507 (K : aK) : am_Snd K 0 507 := sn_add i0_507 d0_507 
theorem i0_508 : am_ins 0 508 = (22, 0, 0, 0, []) := by decide +kernel
theorem d0_508 : decode (am_cod 0) 508 = .ok (.iaload, 1) := by decide +kernel
theorem s0_508 (K : aK) : am_Snd K 0 508 := sn_iald i0_508 d0_508 
theorem i0_509 : am_ins 0 509 = (33, 0, 1, 0, []) := by decide +kernel
theorem d0_509 : decode (am_cod 0) 509 = .ok (.aload_n 0, 1) := by decide +kernel
theorem s0_509 (K : aK) : am_Snd K 0 509 := sn_aload_n i0_509 d0_509 rfl
theorem i0_510 : am_ins 0 510 = (1, 3, 1, 0, []) := by decide +kernel
theorem d0_510 : decode (am_cod 0) 510 = .ok (.iload_n 3, 1) := by decide +kernel
theorem s0_510 (K : aK) : am_Snd K 0 510 := sn_iload_n i0_510 d0_510 rfl
theorem i0_511 : am_ins 0 511 = (0, 1, 0, 2, []) := by decide +kernel
theorem d0_511 : decode (am_cod 0) 511 = .ok (.iconst 2, 1) := by decide +kernel
theorem s0_511 (K : aK) : am_Snd K 0 511 := sn_const1 i0_511 d0_511 rfl
theorem i0_512 : am_ins 0 512 = (4, 0, 0, 0, []) := by decide +kernel
theorem d0_512 : decode (am_cod 0) 512 = .ok (.iadd, 1) := by decide +kernel
theorem s0_512 (K : aK) : am_Snd K 0 512 := sn_add i0_512 d0_512 
theorem i0_513 : am_ins 0 513 = (22, 0, 0, 0, []) := by decide +kernel
theorem d0_513 : decode (am_cod 0) 513 = .ok (.iaload, 1) := by decide +kernel
theorem s0_513 (K : aK) : am_Snd K 0 513 := sn_iald i0_513 d0_513 
theorem i0_514 : am_ins 0 514 = (33, 0, 1, 0, []) := by decide +kernel
theorem d0_514 : decode (am_cod 0) 514 = .ok (.aload_n 0, 1) := by decide +kernel
theorem s0_514 (K : aK) : am_Snd K 0 514 := sn_aload_n i0_514 d0_514 rfl
theorem i0_515 : am_ins 0 515 = (1, 3, 1, 0, []) := by decide +kernel
theorem d0_515 : decode (am_cod 0) 515 = .ok (.iload_n 3, 1) := by decide +kernel
theorem s0_515 (K : aK) : am_Snd K 0 515 := sn_iload_n i0_515 d0_515 rfl
theorem i0_516 : am_ins 0 516 = (0, 1, 0, 3, []) := by decide +kernel
theorem d0_516 : decode (am_cod 0) 516 = .ok (.iconst 3, 1) := by decide +kernel
theorem s0_516 (K : aK) : am_Snd K 0 516 := sn_const1 i0_516 d0_516 rfl
theorem i0_517 : am_ins 0 517 = (4, 0, 0, 0, []) := by decide +kernel
theorem d0_517 : decode (am_cod 0) 517 = .ok (.iadd, 1) := by decide +kernel
theorem s0_517 (K : aK) : am_Snd K 0 517 := sn_add i0_517 d0_517 
theorem i0_518 : am_ins 0 518 = (22, 0, 0, 0, []) := by decide +kernel
theorem d0_518 : decode (am_cod 0) 518 = .ok (.iaload, 1) := by decide +kernel
theorem s0_518 (K : aK) : am_Snd K 0 518 := sn_iald i0_518 d0_518 
theorem i0_519 : am_ins 0 519 = (60, 15, 3, 0, []) := by decide +kernel
theorem d0_519 : decode (am_cod 0) 519 = .ok (.invokevirtual 70, 3) := by decide +kernel
theorem s0_519 (K : aK) : am_SndC K 0 519 := sc_V i0_519 d0_519 co15 w_499 w_500 w_501 w_1 rfl (rr := (CN0, FT0, 5)) rfl rfl hd15
theorem i0_522 : am_ins 0 522 = (33, 2, 1, 0, []) := by decide +kernel
theorem d0_522 : decode (am_cod 0) 522 = .ok (.aload_n 2, 1) := by decide +kernel
theorem s0_522 (K : aK) : am_Snd K 0 522 := sn_aload_n i0_522 d0_522 rfl
theorem i0_523 : am_ins 0 523 = (33, 0, 1, 0, []) := by decide +kernel
theorem d0_523 : decode (am_cod 0) 523 = .ok (.aload_n 0, 1) := by decide +kernel
theorem s0_523 (K : aK) : am_Snd K 0 523 := sn_aload_n i0_523 d0_523 rfl
theorem i0_524 : am_ins 0 524 = (1, 3, 1, 0, []) := by decide +kernel
theorem d0_524 : decode (am_cod 0) 524 = .ok (.iload_n 3, 1) := by decide +kernel
theorem s0_524 (K : aK) : am_Snd K 0 524 := sn_iload_n i0_524 d0_524 rfl
theorem i0_525 : am_ins 0 525 = (0, 1, 0, 1, []) := by decide +kernel
theorem d0_525 : decode (am_cod 0) 525 = .ok (.iconst 1, 1) := by decide +kernel
theorem s0_525 (K : aK) : am_Snd K 0 525 := sn_const1 i0_525 d0_525 rfl
theorem i0_526 : am_ins 0 526 = (4, 0, 0, 0, []) := by decide +kernel
theorem d0_526 : decode (am_cod 0) 526 = .ok (.iadd, 1) := by decide +kernel
theorem s0_526 (K : aK) : am_Snd K 0 526 := sn_add i0_526 d0_526 
theorem i0_527 : am_ins 0 527 = (22, 0, 0, 0, []) := by decide +kernel
theorem d0_527 : decode (am_cod 0) 527 = .ok (.iaload, 1) := by decide +kernel
theorem s0_527 (K : aK) : am_Snd K 0 527 := sn_iald i0_527 d0_527 
theorem i0_528 : am_ins 0 528 = (33, 0, 1, 0, []) := by decide +kernel
theorem d0_528 : decode (am_cod 0) 528 = .ok (.aload_n 0, 1) := by decide +kernel
theorem s0_528 (K : aK) : am_Snd K 0 528 := sn_aload_n i0_528 d0_528 rfl
theorem i0_529 : am_ins 0 529 = (1, 3, 1, 0, []) := by decide +kernel
theorem d0_529 : decode (am_cod 0) 529 = .ok (.iload_n 3, 1) := by decide +kernel
theorem s0_529 (K : aK) : am_Snd K 0 529 := sn_iload_n i0_529 d0_529 rfl
theorem i0_530 : am_ins 0 530 = (0, 1, 0, 2, []) := by decide +kernel
theorem d0_530 : decode (am_cod 0) 530 = .ok (.iconst 2, 1) := by decide +kernel
theorem s0_530 (K : aK) : am_Snd K 0 530 := sn_const1 i0_530 d0_530 rfl
theorem i0_531 : am_ins 0 531 = (4, 0, 0, 0, []) := by decide +kernel
theorem d0_531 : decode (am_cod 0) 531 = .ok (.iadd, 1) := by decide +kernel
theorem s0_531 (K : aK) : am_Snd K 0 531 := sn_add i0_531 d0_531 
theorem i0_532 : am_ins 0 532 = (22, 0, 0, 0, []) := by decide +kernel
theorem d0_532 : decode (am_cod 0) 532 = .ok (.iaload, 1) := by decide +kernel
theorem s0_532 (K : aK) : am_Snd K 0 532 := sn_iald i0_532 d0_532 
theorem i0_533 : am_ins 0 533 = (33, 0, 1, 0, []) := by decide +kernel
theorem d0_533 : decode (am_cod 0) 533 = .ok (.aload_n 0, 1) := by decide +kernel
theorem s0_533 (K : aK) : am_Snd K 0 533 := sn_aload_n i0_533 d0_533 rfl
theorem i0_534 : am_ins 0 534 = (1, 3, 1, 0, []) := by decide +kernel
theorem d0_534 : decode (am_cod 0) 534 = .ok (.iload_n 3, 1) := by decide +kernel
theorem s0_534 (K : aK) : am_Snd K 0 534 := sn_iload_n i0_534 d0_534 rfl
theorem i0_535 : am_ins 0 535 = (0, 1, 0, 3, []) := by decide +kernel
theorem d0_535 : decode (am_cod 0) 535 = .ok (.iconst 3, 1) := by decide +kernel
theorem s0_535 (K : aK) : am_Snd K 0 535 := sn_const1 i0_535 d0_535 rfl
theorem i0_536 : am_ins 0 536 = (4, 0, 0, 0, []) := by decide +kernel
theorem d0_536 : decode (am_cod 0) 536 = .ok (.iadd, 1) := by decide +kernel
theorem s0_536 (K : aK) : am_Snd K 0 536 := sn_add i0_536 d0_536 
theorem i0_537 : am_ins 0 537 = (22, 0, 0, 0, []) := by decide +kernel
theorem d0_537 : decode (am_cod 0) 537 = .ok (.iaload, 1) := by decide +kernel
theorem s0_537 (K : aK) : am_Snd K 0 537 := sn_iald i0_537 d0_537 
theorem i0_538 : am_ins 0 538 = (60, 109, 3, 0, []) := by decide +kernel
theorem d0_538 : decode (am_cod 0) 538 = .ok (.invokevirtual 73, 3) := by decide +kernel
theorem s0_538 (K : aK) : am_SndC K 0 538 := sc_V i0_538 d0_538 co109 w_725 w_726 w_727 w_6 rfl (rr := (CN7, FT7, 24)) rfl rfl hd109
theorem i0_541 : am_ins 0 541 = (13, 0, 546, 0, []) := by decide +kernel
theorem d0_541 : decode (am_cod 0) 541 = .ok (.if_icmp .eq 5, 3) := by decide +kernel
theorem s0_541 (K : aK) : am_Snd K 0 541 := sn_icmp_eq i0_541 d0_541 rfl
theorem i0_544 : am_ins 0 544 = (0, 1, 0, 0, []) := by decide +kernel
theorem d0_544 : decode (am_cod 0) 544 = .ok (.iconst 0, 1) := by decide +kernel
theorem s0_544 (K : aK) : am_Snd K 0 544 := sn_const1 i0_544 d0_544 rfl
theorem i0_545 : am_ins 0 545 = (51, 0, 0, 0, []) := by decide +kernel
theorem d0_545 : decode (am_cod 0) 545 = .ok (.ireturn, 1) := by decide +kernel
theorem s0_545 : am_SndR 0 545 := sn_zret i0_545 d0_545 rfl
theorem i0_546 : am_ins 0 546 = (3, 3, 3, 4, []) := by decide +kernel
theorem d0_546 : decode (am_cod 0) 546 = .ok (.iinc 3 4, 3) := by decide +kernel
theorem s0_546 (K : aK) : am_Snd K 0 546 := sn_iinc i0_546 d0_546 rfl (by decide +kernel)
theorem i0_549 : am_ins 0 549 = (14, 18, 0, 0, []) := by decide +kernel
theorem d0_549 : decode (am_cod 0) 549 = .ok (.goto (-531), 3) := by decide +kernel
theorem s0_549 (K : aK) : am_Snd K 0 549 := sn_goto i0_549 d0_549 rfl
theorem i0_552 : am_ins 0 552 = (0, 1, 0, 1, []) := by decide +kernel
theorem d0_552 : decode (am_cod 0) 552 = .ok (.iconst 1, 1) := by decide +kernel
theorem s0_552 (K : aK) : am_Snd K 0 552 := sn_const1 i0_552 d0_552 rfl
theorem i0_553 : am_ins 0 553 = (51, 0, 0, 0, []) := by decide +kernel
theorem d0_553 : decode (am_cod 0) 553 = .ok (.ireturn, 1) := by decide +kernel
theorem s0_553 : am_SndR 0 553 := sn_zret i0_553 d0_553 rfl
theorem al0_0 (K : aK) : ∀ q ∈ [0, 3, 4, 7, 8, 11, 12, 15, 16, 17, 18, 19, 20, 21, 22, 23, 26, 27, 28, 29, 31, 32, 104, 105, 106, 107, 108, 109, 110, 113], am_All K 0 q := List.forall_mem_cons.mpr ⟨am_alS i0_0 (s0_0 K), List.forall_mem_cons.mpr ⟨am_alS i0_3 (s0_3 K), List.forall_mem_cons.mpr ⟨am_alC i0_4 (s0_4 K), List.forall_mem_cons.mpr ⟨am_alS i0_7 (s0_7 K), List.forall_mem_cons.mpr ⟨am_alS i0_8 (s0_8 K), List.forall_mem_cons.mpr ⟨am_alS i0_11 (s0_11 K), List.forall_mem_cons.mpr ⟨am_alC i0_12 (s0_12 K), List.forall_mem_cons.mpr ⟨am_alS i0_15 (s0_15 K), List.forall_mem_cons.mpr ⟨am_alS i0_16 (s0_16 K), List.forall_mem_cons.mpr ⟨am_alS i0_17 (s0_17 K), List.forall_mem_cons.mpr ⟨am_alS i0_18 (s0_18 K), List.forall_mem_cons.mpr ⟨am_alS i0_19 (s0_19 K), List.forall_mem_cons.mpr ⟨am_alS i0_20 (s0_20 K), List.forall_mem_cons.mpr ⟨am_alS i0_21 (s0_21 K), List.forall_mem_cons.mpr ⟨am_alS i0_22 (s0_22 K), List.forall_mem_cons.mpr ⟨am_alS i0_23 (s0_23 K), List.forall_mem_cons.mpr ⟨am_alS i0_26 (s0_26 K), List.forall_mem_cons.mpr ⟨am_alS i0_27 (s0_27 K), List.forall_mem_cons.mpr ⟨am_alS i0_28 (s0_28 K), List.forall_mem_cons.mpr ⟨am_alS i0_29 (s0_29 K), List.forall_mem_cons.mpr ⟨am_alS i0_31 (s0_31 K), List.forall_mem_cons.mpr ⟨am_alS i0_32 (s0_32 K), List.forall_mem_cons.mpr ⟨am_alS i0_104 (s0_104 K), List.forall_mem_cons.mpr ⟨am_alS i0_105 (s0_105 K), List.forall_mem_cons.mpr ⟨am_alS i0_106 (s0_106 K), List.forall_mem_cons.mpr ⟨am_alS i0_107 (s0_107 K), List.forall_mem_cons.mpr ⟨am_alS i0_108 (s0_108 K), List.forall_mem_cons.mpr ⟨am_alS i0_109 (s0_109 K), List.forall_mem_cons.mpr ⟨am_alC i0_110 (s0_110 K), List.forall_mem_cons.mpr ⟨am_alS i0_113 (s0_113 K), fun _ h => absurd h List.not_mem_nil⟩⟩⟩⟩⟩⟩⟩⟩⟩⟩⟩⟩⟩⟩⟩⟩⟩⟩⟩⟩⟩⟩⟩⟩⟩⟩⟩⟩⟩⟩
theorem al0_1 (K : aK) : ∀ q ∈ [114, 115, 116, 117, 118, 119, 122, 125, 126, 127, 128, 129, 130, 131, 132, 133, 134, 135, 136, 137, 138, 141, 142, 143, 144, 145, 146, 147, 148, 149], am_All K 0 q := List.forall_mem_cons.mpr ⟨am_alS i0_114 (s0_114 K), List.forall_mem_cons.mpr ⟨am_alS i0_115 (s0_115 K), List.forall_mem_cons.mpr ⟨am_alS i0_116 (s0_116 K), List.forall_mem_cons.mpr ⟨am_alS i0_117 (s0_117 K), List.forall_mem_cons.mpr ⟨am_alS i0_118 (s0_118 K), List.forall_mem_cons.mpr ⟨am_alC i0_119 (s0_119 K), List.forall_mem_cons.mpr ⟨am_alS i0_122 (s0_122 K), List.forall_mem_cons.mpr ⟨am_alS i0_125 (s0_125 K), List.forall_mem_cons.mpr ⟨am_alR i0_126 s0_126, List.forall_mem_cons.mpr ⟨am_alS i0_127 (s0_127 K), List.forall_mem_cons.mpr ⟨am_alS i0_128 (s0_128 K), List.forall_mem_cons.mpr ⟨am_alS i0_129 (s0_129 K), List.forall_mem_cons.mpr ⟨am_alS i0_130 (s0_130 K), List.forall_mem_cons.mpr ⟨am_alS i0_131 (s0_131 K), List.forall_mem_cons.mpr ⟨am_alS i0_132 (s0_132 K), List.forall_mem_cons.mpr ⟨am_alS i0_133 (s0_133 K), List.forall_mem_cons.mpr ⟨am_alS i0_134 (s0_134 K), List.forall_mem_cons.mpr ⟨am_alS i0_135 (s0_135 K), List.forall_mem_cons.mpr ⟨am_alS i0_136 (s0_136 K), List.forall_mem_cons.mpr ⟨am_alS i0_137 (s0_137 K), List.forall_mem_cons.mpr ⟨am_alC i0_138 (s0_138 K), List.forall_mem_cons.mpr ⟨am_alS i0_141 (s0_141 K), List.forall_mem_cons.mpr ⟨am_alS i0_142 (s0_142 K), List.forall_mem_cons.mpr ⟨am_alS i0_143 (s0_143 K), List.forall_mem_cons.mpr ⟨am_alS i0_144 (s0_144 K), List.forall_mem_cons.mpr ⟨am_alS i0_145 (s0_145 K), List.forall_mem_cons.mpr ⟨am_alS i0_146 (s0_146 K), List.forall_mem_cons.mpr ⟨am_alS i0_147 (s0_147 K), List.forall_mem_cons.mpr ⟨am_alS i0_148 (s0_148 K), List.forall_mem_cons.mpr ⟨am_alS i0_149 (s0_149 K), fun _ h => absurd h List.not_mem_nil⟩⟩⟩⟩⟩⟩⟩⟩⟩⟩⟩⟩⟩⟩⟩⟩⟩⟩⟩⟩⟩⟩⟩⟩⟩⟩⟩⟩⟩⟩
theorem al0_2 (K : aK) : ∀ q ∈ [150, 151, 152, 155, 158, 159, 160, 161, 162, 163, 164, 165, 166, 169, 170, 171, 172, 173, 174, 175, 178, 181, 182, 183, 184, 185, 186, 187, 188, 189], am_All K 0 q := List.forall_mem_cons.mpr ⟨am_alS i0_150 (s0_150 K), List.forall_mem_cons.mpr ⟨am_alS i0_151 (s0_151 K), List.forall_mem_cons.mpr ⟨am_alC i0_152 (s0_152 K), List.forall_mem_cons.mpr ⟨am_alS i0_155 (s0_155 K), List.forall_mem_cons.mpr ⟨am_alS i0_158 (s0_158 K), List.forall_mem_cons.mpr ⟨am_alR i0_159 s0_159, List.forall_mem_cons.mpr ⟨am_alS i0_160 (s0_160 K), List.forall_mem_cons.mpr ⟨am_alS i0_161 (s0_161 K), List.forall_mem_cons.mpr ⟨am_alS i0_162 (s0_162 K), List.forall_mem_cons.mpr ⟨am_alS i0_163 (s0_163 K), List.forall_mem_cons.mpr ⟨am_alS i0_164 (s0_164 K), List.forall_mem_cons.mpr ⟨am_alS i0_165 (s0_165 K), List.forall_mem_cons.mpr ⟨am_alC i0_166 (s0_166 K), List.forall_mem_cons.mpr ⟨am_alS i0_169 (s0_169 K), List.forall_mem_cons.mpr ⟨am_alS i0_170 (s0_170 K), List.forall_mem_cons.mpr ⟨am_alS i0_171 (s0_171 K), List.forall_mem_cons.mpr ⟨am_alS i0_172 (s0_172 K), List.forall_mem_cons.mpr ⟨am_alS i0_173 (s0_173 K), List.forall_mem_cons.mpr ⟨am_alS i0_174 (s0_174 K), List.forall_mem_cons.mpr ⟨am_alC i0_175 (s0_175 K), List.forall_mem_cons.mpr ⟨am_alS i0_178 (s0_178 K), List.forall_mem_cons.mpr ⟨am_alS i0_181 (s0_181 K), List.forall_mem_cons.mpr ⟨am_alR i0_182 s0_182, List.forall_mem_cons.mpr ⟨am_alS i0_183 (s0_183 K), List.forall_mem_cons.mpr ⟨am_alS i0_184 (s0_184 K), List.forall_mem_cons.mpr ⟨am_alS i0_185 (s0_185 K), List.forall_mem_cons.mpr ⟨am_alS i0_186 (s0_186 K), List.forall_mem_cons.mpr ⟨am_alS i0_187 (s0_187 K), List.forall_mem_cons.mpr ⟨am_alS i0_188 (s0_188 K), List.forall_mem_cons.mpr ⟨am_alS i0_189 (s0_189 K), fun _ h => absurd h List.not_mem_nil⟩⟩⟩⟩⟩⟩⟩⟩⟩⟩⟩⟩⟩⟩⟩⟩⟩⟩⟩⟩⟩⟩⟩⟩⟩⟩⟩⟩⟩⟩
theorem al0_3 (K : aK) : ∀ q ∈ [190, 191, 192, 193, 194, 195, 196, 197, 198, 199, 202, 203, 204, 205, 206, 207, 208, 209, 210, 211, 212, 213, 214, 215, 216, 217, 218, 221, 224, 225], am_All K 0 q := List.forall_mem_cons.mpr ⟨am_alS i0_190 (s0_190 K), List.forall_mem_cons.mpr ⟨am_alS i0_191 (s0_191 K), List.forall_mem_cons.mpr ⟨am_alS i0_192 (s0_192 K), List.forall_mem_cons.mpr ⟨am_alS i0_193 (s0_193 K), List.forall_mem_cons.mpr ⟨am_alS i0_194 (s0_194 K), List.forall_mem_cons.mpr ⟨am_alS i0_195 (s0_195 K), List.forall_mem_cons.mpr ⟨am_alS i0_196 (s0_196 K), List.forall_mem_cons.mpr ⟨am_alS i0_197 (s0_197 K), List.forall_mem_cons.mpr ⟨am_alS i0_198 (s0_198 K), List.forall_mem_cons.mpr ⟨am_alC i0_199 (s0_199 K), List.forall_mem_cons.mpr ⟨am_alS i0_202 (s0_202 K), List.forall_mem_cons.mpr ⟨am_alS i0_203 (s0_203 K), List.forall_mem_cons.mpr ⟨am_alS i0_204 (s0_204 K), List.forall_mem_cons.mpr ⟨am_alS i0_205 (s0_205 K), List.forall_mem_cons.mpr ⟨am_alS i0_206 (s0_206 K), List.forall_mem_cons.mpr ⟨am_alS i0_207 (s0_207 K), List.forall_mem_cons.mpr ⟨am_alS i0_208 (s0_208 K), List.forall_mem_cons.mpr ⟨am_alS i0_209 (s0_209 K), List.forall_mem_cons.mpr ⟨am_alS i0_210 (s0_210 K), List.forall_mem_cons.mpr ⟨am_alS i0_211 (s0_211 K), List.forall_mem_cons.mpr ⟨am_alS i0_212 (s0_212 K), List.forall_mem_cons.mpr ⟨am_alS i0_213 (s0_213 K), List.forall_mem_cons.mpr ⟨am_alS i0_214 (s0_214 K), List.forall_mem_cons.mpr ⟨am_alS i0_215 (s0_215 K), List.forall_mem_cons.mpr ⟨am_alS i0_216 (s0_216 K), List.forall_mem_cons.mpr ⟨am_alS i0_217 (s0_217 K), List.forall_mem_cons.mpr ⟨am_alC i0_218 (s0_218 K), List.forall_mem_cons.mpr ⟨am_alS i0_221 (s0_221 K), List.forall_mem_cons.mpr ⟨am_alS i0_224 (s0_224 K), List.forall_mem_cons.mpr ⟨am_alR i0_225 s0_225, fun _ h => absurd h List.not_mem_nil⟩⟩⟩⟩⟩⟩⟩⟩⟩⟩⟩⟩⟩⟩⟩⟩⟩⟩⟩⟩⟩⟩⟩⟩⟩⟩⟩⟩⟩⟩
theorem al0_4 (K : aK) : ∀ q ∈ [226, 227, 228, 229, 230, 231, 232, 235, 236, 237, 238, 239, 240, 241, 244, 247, 248, 249, 250, 251, 252, 253, 254, 255, 258, 259, 260, 261, 262, 263], am_All K 0 q := List.forall_mem_cons.mpr ⟨am_alS i0_226 (s0_226 K), List.forall_mem_cons.mpr ⟨am_alS i0_227 (s0_227 K), List.forall_mem_cons.mpr ⟨am_alS i0_228 (s0_228 K), List.forall_mem_cons.mpr ⟨am_alS i0_229 (s0_229 K), List.forall_mem_cons.mpr ⟨am_alS i0_230 (s0_230 K), List.forall_mem_cons.mpr ⟨am_alS i0_231 (s0_231 K), List.forall_mem_cons.mpr ⟨am_alC i0_232 (s0_232 K), List.forall_mem_cons.mpr ⟨am_alS i0_235 (s0_235 K), List.forall_mem_cons.mpr ⟨am_alS i0_236 (s0_236 K), List.forall_mem_cons.mpr ⟨am_alS i0_237 (s0_237 K), List.forall_mem_cons.mpr ⟨am_alS i0_238 (s0_238 K), List.forall_mem_cons.mpr ⟨am_alS i0_239 (s0_239 K), List.forall_mem_cons.mpr ⟨am_alS i0_240 (s0_240 K), List.forall_mem_cons.mpr ⟨am_alC i0_241 (s0_241 K), List.forall_mem_cons.mpr ⟨am_alS i0_244 (s0_244 K), List.forall_mem_cons.mpr ⟨am_alS i0_247 (s0_247 K), List.forall_mem_cons.mpr ⟨am_alR i0_248 s0_248, List.forall_mem_cons.mpr ⟨am_alS i0_249 (s0_249 K), List.forall_mem_cons.mpr ⟨am_alS i0_250 (s0_250 K), List.forall_mem_cons.mpr ⟨am_alS i0_251 (s0_251 K), List.forall_mem_cons.mpr ⟨am_alS i0_252 (s0_252 K), List.forall_mem_cons.mpr ⟨am_alS i0_253 (s0_253 K), List.forall_mem_cons.mpr ⟨am_alS i0_254 (s0_254 K), List.forall_mem_cons.mpr ⟨am_alC i0_255 (s0_255 K), List.forall_mem_cons.mpr ⟨am_alS i0_258 (s0_258 K), List.forall_mem_cons.mpr ⟨am_alS i0_259 (s0_259 K), List.forall_mem_cons.mpr ⟨am_alS i0_260 (s0_260 K), List.forall_mem_cons.mpr ⟨am_alS i0_261 (s0_261 K), List.forall_mem_cons.mpr ⟨am_alS i0_262 (s0_262 K), List.forall_mem_cons.mpr ⟨am_alS i0_263 (s0_263 K), fun _ h => absurd h List.not_mem_nil⟩⟩⟩⟩⟩⟩⟩⟩⟩⟩⟩⟩⟩⟩⟩⟩⟩⟩⟩⟩⟩⟩⟩⟩⟩⟩⟩⟩⟩⟩
theorem al0_5 (K : aK) : ∀ q ∈ [264, 267, 270, 271, 272, 273, 274, 275, 276, 277, 278, 281, 282, 283, 284, 285, 286, 287, 290, 293, 294, 295, 296, 297, 298, 299, 300, 301, 302, 303], am_All K 0 q := List.forall_mem_cons.mpr ⟨am_alC i0_264 (s0_264 K), List.forall_mem_cons.mpr ⟨am_alS i0_267 (s0_267 K), List.forall_mem_cons.mpr ⟨am_alS i0_270 (s0_270 K), List.forall_mem_cons.mpr ⟨am_alR i0_271 s0_271, List.forall_mem_cons.mpr ⟨am_alS i0_272 (s0_272 K), List.forall_mem_cons.mpr ⟨am_alS i0_273 (s0_273 K), List.forall_mem_cons.mpr ⟨am_alS i0_274 (s0_274 K), List.forall_mem_cons.mpr ⟨am_alS i0_275 (s0_275 K), List.forall_mem_cons.mpr ⟨am_alS i0_276 (s0_276 K), List.forall_mem_cons.mpr ⟨am_alS i0_277 (s0_277 K), List.forall_mem_cons.mpr ⟨am_alC i0_278 (s0_278 K), List.forall_mem_cons.mpr ⟨am_alS i0_281 (s0_281 K), List.forall_mem_cons.mpr ⟨am_alS i0_282 (s0_282 K), List.forall_mem_cons.mpr ⟨am_alS i0_283 (s0_283 K), List.forall_mem_cons.mpr ⟨am_alS i0_284 (s0_284 K), List.forall_mem_cons.mpr ⟨am_alS i0_285 (s0_285 K), List.forall_mem_cons.mpr ⟨am_alS i0_286 (s0_286 K), List.forall_mem_cons.mpr ⟨am_alC i0_287 (s0_287 K), List.forall_mem_cons.mpr ⟨am_alS i0_290 (s0_290 K), List.forall_mem_cons.mpr ⟨am_alS i0_293 (s0_293 K), List.forall_mem_cons.mpr ⟨am_alR i0_294 s0_294, List.forall_mem_cons.mpr ⟨am_alS i0_295 (s0_295 K), List.forall_mem_cons.mpr ⟨am_alS i0_296 (s0_296 K), List.forall_mem_cons.mpr ⟨am_alS i0_297 (s0_297 K), List.forall_mem_cons.mpr ⟨am_alS i0_298 (s0_298 K), List.forall_mem_cons.mpr ⟨am_alS i0_299 (s0_299 K), List.forall_mem_cons.mpr ⟨am_alS i0_300 (s0_300 K), List.forall_mem_cons.mpr ⟨am_alS i0_301 (s0_301 K), List.forall_mem_cons.mpr ⟨am_alS i0_302 (s0_302 K), List.forall_mem_cons.mpr ⟨am_alS i0_303 (s0_303 K), fun _ h => absurd h List.not_mem_nil⟩⟩⟩⟩⟩⟩⟩⟩⟩⟩⟩⟩⟩⟩⟩⟩⟩⟩⟩⟩⟩⟩⟩⟩⟩⟩⟩⟩⟩⟩
theorem al0_6 (K : aK) : ∀ q ∈ [304, 305, 306, 309, 310, 311, 312, 313, 314, 315, 316, 317, 318, 319, 320, 323, 326, 327, 328, 329, 330, 331, 332, 333, 334, 335, 336, 337, 338, 339], am_All K 0 q := List.forall_mem_cons.mpr ⟨am_alS i0_304 (s0_304 K), List.forall_mem_cons.mpr ⟨am_alS i0_305 (s0_305 K), List.forall_mem_cons.mpr ⟨am_alC i0_306 (s0_306 K), List.forall_mem_cons.mpr ⟨am_alS i0_309 (s0_309 K), List.forall_mem_cons.mpr ⟨am_alS i0_310 (s0_310 K), List.forall_mem_cons.mpr ⟨am_alS i0_311 (s0_311 K), List.forall_mem_cons.mpr ⟨am_alS i0_312 (s0_312 K), List.forall_mem_cons.mpr ⟨am_alS i0_313 (s0_313 K), List.forall_mem_cons.mpr ⟨am_alS i0_314 (s0_314 K), List.forall_mem_cons.mpr ⟨am_alS i0_315 (s0_315 K), List.forall_mem_cons.mpr ⟨am_alS i0_316 (s0_316 K), List.forall_mem_cons.mpr ⟨am_alS i0_317 (s0_317 K), List.forall_mem_cons.mpr ⟨am_alS i0_318 (s0_318 K), List.forall_mem_cons.mpr ⟨am_alS i0_319 (s0_319 K), List.forall_mem_cons.mpr ⟨am_alC i0_320 (s0_320 K), List.forall_mem_cons.mpr ⟨am_alS i0_323 (s0_323 K), List.forall_mem_cons.mpr ⟨am_alS i0_326 (s0_326 K), List.forall_mem_cons.mpr ⟨am_alR i0_327 s0_327, List.forall_mem_cons.mpr ⟨am_alS i0_328 (s0_328 K), List.forall_mem_cons.mpr ⟨am_alS i0_329 (s0_329 K), List.forall_mem_cons.mpr ⟨am_alS i0_330 (s0_330 K), List.forall_mem_cons.mpr ⟨am_alS i0_331 (s0_331 K), List.forall_mem_cons.mpr ⟨am_alS i0_332 (s0_332 K), List.forall_mem_cons.mpr ⟨am_alS i0_333 (s0_333 K), List.forall_mem_cons.mpr ⟨am_alS i0_334 (s0_334 K), List.forall_mem_cons.mpr ⟨am_alS i0_335 (s0_335 K), List.forall_mem_cons.mpr ⟨am_alS i0_336 (s0_336 K), List.forall_mem_cons.mpr ⟨am_alS i0_337 (s0_337 K), List.forall_mem_cons.mpr ⟨am_alS i0_338 (s0_338 K), List.forall_mem_cons.mpr ⟨am_alC i0_339 (s0_339 K), fun _ h => absurd h List.not_mem_nil⟩⟩⟩⟩⟩⟩⟩⟩⟩⟩⟩⟩⟩⟩⟩⟩⟩⟩⟩⟩⟩⟩⟩⟩⟩⟩⟩⟩⟩⟩
theorem al0_7 (K : aK) : ∀ q ∈ [342, 343, 344, 345, 346, 347, 348, 349, 350, 351, 352, 353, 356, 359, 360, 361, 362, 363, 364, 365, 366, 367, 368, 369, 370, 371, 372, 375, 376, 377], am_All K 0 q := List.forall_mem_cons.mpr ⟨am_alS i0_342 (s0_342 K), List.forall_mem_cons.mpr ⟨am_alS i0_343 (s0_343 K), List.forall_mem_cons.mpr ⟨am_alS i0_344 (s0_344 K), List.forall_mem_cons.mpr ⟨am_alS i0_345 (s0_345 K), List.forall_mem_cons.mpr ⟨am_alS i0_346 (s0_346 K), List.forall_mem_cons.mpr ⟨am_alS i0_347 (s0_347 K), List.forall_mem_cons.mpr ⟨am_alS i0_348 (s0_348 K), List.forall_mem_cons.mpr ⟨am_alS i0_349 (s0_349 K), List.forall_mem_cons.mpr ⟨am_alS i0_350 (s0_350 K), List.forall_mem_cons.mpr ⟨am_alS i0_351 (s0_351 K), List.forall_mem_cons.mpr ⟨am_alS i0_352 (s0_352 K), List.forall_mem_cons.mpr ⟨am_alC i0_353 (s0_353 K), List.forall_mem_cons.mpr ⟨am_alS i0_356 (s0_356 K), List.forall_mem_cons.mpr ⟨am_alS i0_359 (s0_359 K), List.forall_mem_cons.mpr ⟨am_alR i0_360 s0_360, List.forall_mem_cons.mpr ⟨am_alS i0_361 (s0_361 K), List.forall_mem_cons.mpr ⟨am_alS i0_362 (s0_362 K), List.forall_mem_cons.mpr ⟨am_alS i0_363 (s0_363 K), List.forall_mem_cons.mpr ⟨am_alS i0_364 (s0_364 K), List.forall_mem_cons.mpr ⟨am_alS i0_365 (s0_365 K), List.forall_mem_cons.mpr ⟨am_alS i0_366 (s0_366 K), List.forall_mem_cons.mpr ⟨am_alS i0_367 (s0_367 K), List.forall_mem_cons.mpr ⟨am_alS i0_368 (s0_368 K), List.forall_mem_cons.mpr ⟨am_alS i0_369 (s0_369 K), List.forall_mem_cons.mpr ⟨am_alS i0_370 (s0_370 K), List.forall_mem_cons.mpr ⟨am_alS i0_371 (s0_371 K), List.forall_mem_cons.mpr ⟨am_alC i0_372 (s0_372 K), List.forall_mem_cons.mpr ⟨am_alS i0_375 (s0_375 K), List.forall_mem_cons.mpr ⟨am_alS i0_376 (s0_376 K), List.forall_mem_cons.mpr ⟨am_alS i0_377 (s0_377 K), fun _ h => absurd h List.not_mem_nil⟩⟩⟩⟩⟩⟩⟩⟩⟩⟩⟩⟩⟩⟩⟩⟩⟩⟩⟩⟩⟩⟩⟩⟩⟩⟩⟩⟩⟩⟩
theorem al0_8 (K : aK) : ∀ q ∈ [378, 379, 380, 381, 382, 383, 384, 385, 386, 389, 392, 393, 394, 395, 396, 397, 398, 399, 400, 401, 402, 403, 404, 405, 408, 409, 410, 411, 412, 413], am_All K 0 q := List.forall_mem_cons.mpr ⟨am_alS i0_378 (s0_378 K), List.forall_mem_cons.mpr ⟨am_alS i0_379 (s0_379 K), List.forall_mem_cons.mpr ⟨am_alS i0_380 (s0_380 K), List.forall_mem_cons.mpr ⟨am_alS i0_381 (s0_381 K), List.forall_mem_cons.mpr ⟨am_alS i0_382 (s0_382 K), List.forall_mem_cons.mpr ⟨am_alS i0_383 (s0_383 K), List.forall_mem_cons.mpr ⟨am_alS i0_384 (s0_384 K), List.forall_mem_cons.mpr ⟨am_alS i0_385 (s0_385 K), List.forall_mem_cons.mpr ⟨am_alC i0_386 (s0_386 K), List.forall_mem_cons.mpr ⟨am_alS i0_389 (s0_389 K), List.forall_mem_cons.mpr ⟨am_alS i0_392 (s0_392 K), List.forall_mem_cons.mpr ⟨am_alR i0_393 s0_393, List.forall_mem_cons.mpr ⟨am_alS i0_394 (s0_394 K), List.forall_mem_cons.mpr ⟨am_alS i0_395 (s0_395 K), List.forall_mem_cons.mpr ⟨am_alS i0_396 (s0_396 K), List.forall_mem_cons.mpr ⟨am_alS i0_397 (s0_397 K), List.forall_mem_cons.mpr ⟨am_alS i0_398 (s0_398 K), List.forall_mem_cons.mpr ⟨am_alS i0_399 (s0_399 K), List.forall_mem_cons.mpr ⟨am_alS i0_400 (s0_400 K), List.forall_mem_cons.mpr ⟨am_alS i0_401 (s0_401 K), List.forall_mem_cons.mpr ⟨am_alS i0_402 (s0_402 K), List.forall_mem_cons.mpr ⟨am_alS i0_403 (s0_403 K), List.forall_mem_cons.mpr ⟨am_alS i0_404 (s0_404 K), List.forall_mem_cons.mpr ⟨am_alC i0_405 (s0_405 K), List.forall_mem_cons.mpr ⟨am_alS i0_408 (s0_408 K), List.forall_mem_cons.mpr ⟨am_alS i0_409 (s0_409 K), List.forall_mem_cons.mpr ⟨am_alS i0_410 (s0_410 K), List.forall_mem_cons.mpr ⟨am_alS i0_411 (s0_411 K), List.forall_mem_cons.mpr ⟨am_alS i0_412 (s0_412 K), List.forall_mem_cons.mpr ⟨am_alS i0_413 (s0_413 K), fun _ h => absurd h List.not_mem_nil⟩⟩⟩⟩⟩⟩⟩⟩⟩⟩⟩⟩⟩⟩⟩⟩⟩⟩⟩⟩⟩⟩⟩⟩⟩⟩⟩⟩⟩⟩
theorem al0_9 (K : aK) : ∀ q ∈ [414, 415, 416, 417, 418, 419, 422, 425, 426, 427, 428, 429, 430, 431, 432, 433, 434, 435, 436, 437, 438, 441, 442, 443, 444, 445, 446, 447, 448, 449], am_All K 0 q := List.forall_mem_cons.mpr ⟨am_alS i0_414 (s0_414 K), List.forall_mem_cons.mpr ⟨am_alS i0_415 (s0_415 K), List.forall_mem_cons.mpr ⟨am_alS i0_416 (s0_416 K), List.forall_mem_cons.mpr ⟨am_alS i0_417 (s0_417 K), List.forall_mem_cons.mpr ⟨am_alS i0_418 (s0_418 K), List.forall_mem_cons.mpr ⟨am_alC i0_419 (s0_419 K), List.forall_mem_cons.mpr ⟨am_alS i0_422 (s0_422 K), List.forall_mem_cons.mpr ⟨am_alS i0_425 (s0_425 K), List.forall_mem_cons.mpr ⟨am_alR i0_426 s0_426, List.forall_mem_cons.mpr ⟨am_alS i0_427 (s0_427 K), List.forall_mem_cons.mpr ⟨am_alS i0_428 (s0_428 K), List.forall_mem_cons.mpr ⟨am_alS i0_429 (s0_429 K), List.forall_mem_cons.mpr ⟨am_alS i0_430 (s0_430 K), List.forall_mem_cons.mpr ⟨am_alS i0_431 (s0_431 K), List.forall_mem_cons.mpr ⟨am_alS i0_432 (s0_432 K), List.forall_mem_cons.mpr ⟨am_alS i0_433 (s0_433 K), List.forall_mem_cons.mpr ⟨am_alS i0_434 (s0_434 K), List.forall_mem_cons.mpr ⟨am_alS i0_435 (s0_435 K), List.forall_mem_cons.mpr ⟨am_alS i0_436 (s0_436 K), List.forall_mem_cons.mpr ⟨am_alS i0_437 (s0_437 K), List.forall_mem_cons.mpr ⟨am_alC i0_438 (s0_438 K), List.forall_mem_cons.mpr ⟨am_alS i0_441 (s0_441 K), List.forall_mem_cons.mpr ⟨am_alS i0_442 (s0_442 K), List.forall_mem_cons.mpr ⟨am_alS i0_443 (s0_443 K), List.forall_mem_cons.mpr ⟨am_alS i0_444 (s0_444 K), List.forall_mem_cons.mpr ⟨am_alS i0_445 (s0_445 K), List.forall_mem_cons.mpr ⟨am_alS i0_446 (s0_446 K), List.forall_mem_cons.mpr ⟨am_alS i0_447 (s0_447 K), List.forall_mem_cons.mpr ⟨am_alS i0_448 (s0_448 K), List.forall_mem_cons.mpr ⟨am_alS i0_449 (s0_449 K), fun _ h => absurd h List.not_mem_nil⟩⟩⟩⟩⟩⟩⟩⟩⟩⟩⟩⟩⟩⟩⟩⟩⟩⟩⟩⟩⟩⟩⟩⟩⟩⟩⟩⟩⟩⟩
theorem al0_10 (K : aK) : ∀ q ∈ [450, 451, 452, 455, 458, 459, 460, 461, 462, 463, 464, 465, 466, 467, 468, 469, 470, 471, 472, 473, 474, 475, 476, 479, 480, 481, 482, 483, 484, 485], am_All K 0 q := List.forall_mem_cons.mpr ⟨am_alS i0_450 (s0_450 K), List.forall_mem_cons.mpr ⟨am_alS i0_451 (s0_451 K), List.forall_mem_cons.mpr ⟨am_alC i0_452 (s0_452 K), List.forall_mem_cons.mpr ⟨am_alS i0_455 (s0_455 K), List.forall_mem_cons.mpr ⟨am_alS i0_458 (s0_458 K), List.forall_mem_cons.mpr ⟨am_alR i0_459 s0_459, List.forall_mem_cons.mpr ⟨am_alS i0_460 (s0_460 K), List.forall_mem_cons.mpr ⟨am_alS i0_461 (s0_461 K), List.forall_mem_cons.mpr ⟨am_alS i0_462 (s0_462 K), List.forall_mem_cons.mpr ⟨am_alS i0_463 (s0_463 K), List.forall_mem_cons.mpr ⟨am_alS i0_464 (s0_464 K), List.forall_mem_cons.mpr ⟨am_alS i0_465 (s0_465 K), List.forall_mem_cons.mpr ⟨am_alS i0_466 (s0_466 K), List.forall_mem_cons.mpr ⟨am_alS i0_467 (s0_467 K), List.forall_mem_cons.mpr ⟨am_alS i0_468 (s0_468 K), List.forall_mem_cons.mpr ⟨am_alS i0_469 (s0_469 K), List.forall_mem_cons.mpr ⟨am_alS i0_470 (s0_470 K), List.forall_mem_cons.mpr ⟨am_alS i0_471 (s0_471 K), List.forall_mem_cons.mpr ⟨am_alS i0_472 (s0_472 K), List.forall_mem_cons.mpr ⟨am_alS i0_473 (s0_473 K), List.forall_mem_cons.mpr ⟨am_alS i0_474 (s0_474 K), List.forall_mem_cons.mpr ⟨am_alS i0_475 (s0_475 K), List.forall_mem_cons.mpr ⟨am_alC i0_476 (s0_476 K), List.forall_mem_cons.mpr ⟨am_alS i0_479 (s0_479 K), List.forall_mem_cons.mpr ⟨am_alS i0_480 (s0_480 K), List.forall_mem_cons.mpr ⟨am_alS i0_481 (s0_481 K), List.forall_mem_cons.mpr ⟨am_alS i0_482 (s0_482 K), List.forall_mem_cons.mpr ⟨am_alS i0_483 (s0_483 K), List.forall_mem_cons.mpr ⟨am_alS i0_484 (s0_484 K), List.forall_mem_cons.mpr ⟨am_alS i0_485 (s0_485 K), fun _ h => absurd h List.not_mem_nil⟩⟩⟩⟩⟩⟩⟩⟩⟩⟩⟩⟩⟩⟩⟩⟩⟩⟩⟩⟩⟩⟩⟩⟩⟩⟩⟩⟩⟩⟩
theorem al0_11 (K : aK) : ∀ q ∈ [486, 487, 488, 489, 490, 491, 492, 493, 494, 495, 498, 501, 502, 503, 504, 505, 506, 507, 508, 509, 510, 511, 512, 513, 514, 515, 516, 517, 518, 519], am_All K 0 q := List.forall_mem_cons.mpr ⟨am_alS i0_486 (s0_486 K), List.forall_mem_cons.mpr ⟨am_alS i0_487 (s0_487 K), List.forall_mem_cons.mpr ⟨am_alS i0_488 (s0_488 K), List.forall_mem_cons.mpr ⟨am_alS i0_489 (s0_489 K), List.forall_mem_cons.mpr ⟨am_alS i0_490 (s0_490 K), List.forall_mem_cons.mpr ⟨am_alS i0_491 (s0_491 K), List.forall_mem_cons.mpr ⟨am_alS i0_492 (s0_492 K), List.forall_mem_cons.mpr ⟨am_alS i0_493 (s0_493 K), List.forall_mem_cons.mpr ⟨am_alS i0_494 (s0_494 K), List.forall_mem_cons.mpr ⟨am_alC i0_495 (s0_495 K), List.forall_mem_cons.mpr ⟨am_alS i0_498 (s0_498 K), List.forall_mem_cons.mpr ⟨am_alS i0_501 (s0_501 K), List.forall_mem_cons.mpr ⟨am_alR i0_502 s0_502, List.forall_mem_cons.mpr ⟨am_alS i0_503 (s0_503 K), List.forall_mem_cons.mpr ⟨am_alS i0_504 (s0_504 K), List.forall_mem_cons.mpr ⟨am_alS i0_505 (s0_505 K), List.forall_mem_cons.mpr ⟨am_alS i0_506 (s0_506 K), List.forall_mem_cons.mpr ⟨am_alS i0_507 (s0_507 K), List.forall_mem_cons.mpr ⟨am_alS i0_508 (s0_508 K), List.forall_mem_cons.mpr ⟨am_alS i0_509 (s0_509 K), List.forall_mem_cons.mpr ⟨am_alS i0_510 (s0_510 K), List.forall_mem_cons.mpr ⟨am_alS i0_511 (s0_511 K), List.forall_mem_cons.mpr ⟨am_alS i0_512 (s0_512 K), List.forall_mem_cons.mpr ⟨am_alS i0_513 (s0_513 K), List.forall_mem_cons.mpr ⟨am_alS i0_514 (s0_514 K), List.forall_mem_cons.mpr ⟨am_alS i0_515 (s0_515 K), List.forall_mem_cons.mpr ⟨am_alS i0_516 (s0_516 K), List.forall_mem_cons.mpr ⟨am_alS i0_517 (s0_517 K), List.forall_mem_cons.mpr ⟨am_alS i0_518 (s0_518 K), List.forall_mem_cons.mpr ⟨am_alC i0_519 (s0_519 K), fun _ h => absurd h List.not_mem_nil⟩⟩⟩⟩⟩⟩⟩⟩⟩⟩⟩⟩⟩⟩⟩⟩⟩⟩⟩⟩⟩⟩⟩⟩⟩⟩⟩⟩⟩⟩
theorem al0_12 (K : aK) : ∀ q ∈ [522, 523, 524, 525, 526, 527, 528, 529, 530, 531, 532, 533, 534, 535, 536, 537, 538, 541, 544, 545, 546, 549, 552, 553], am_All K 0 q := List.forall_mem_cons.mpr ⟨am_alS i0_522 (s0_522 K), List.forall_mem_cons.mpr ⟨am_alS i0_523 (s0_523 K), List.forall_mem_cons.mpr ⟨am_alS i0_524 (s0_524 K), List.forall_mem_cons.mpr ⟨am_alS i0_525 (s0_525 K), List.forall_mem_cons.mpr ⟨am_alS i0_526 (s0_526 K), List.forall_mem_cons.mpr ⟨am_alS i0_527 (s0_527 K), List.forall_mem_cons.mpr ⟨am_alS i0_528 (s0_528 K), List.forall_mem_cons.mpr ⟨am_alS i0_529 (s0_529 K), List.forall_mem_cons.mpr ⟨am_alS i0_530 (s0_530 K), List.forall_mem_cons.mpr ⟨am_alS i0_531 (s0_531 K), List.forall_mem_cons.mpr ⟨am_alS i0_532 (s0_532 K), List.forall_mem_cons.mpr ⟨am_alS i0_533 (s0_533 K), List.forall_mem_cons.mpr ⟨am_alS i0_534 (s0_534 K), List.forall_mem_cons.mpr ⟨am_alS i0_535 (s0_535 K), List.forall_mem_cons.mpr ⟨am_alS i0_536 (s0_536 K), List.forall_mem_cons.mpr ⟨am_alS i0_537 (s0_537 K), List.forall_mem_cons.mpr ⟨am_alC i0_538 (s0_538 K), List.forall_mem_cons.mpr ⟨am_alS i0_541 (s0_541 K), List.forall_mem_cons.mpr ⟨am_alS i0_544 (s0_544 K), List.forall_mem_cons.mpr ⟨am_alR i0_545 s0_545, List.forall_mem_cons.mpr ⟨am_alS i0_546 (s0_546 K), List.forall_mem_cons.mpr ⟨am_alS i0_549 (s0_549 K), List.forall_mem_cons.mpr ⟨am_alS i0_552 (s0_552 K), List.forall_mem_cons.mpr ⟨am_alR i0_553 s0_553, fun _ h => absurd h List.not_mem_nil⟩⟩⟩⟩⟩⟩⟩⟩⟩⟩⟩⟩⟩⟩⟩⟩⟩⟩⟩⟩⟩⟩⟩⟩
set_option maxRecDepth 100000 in
theorem al0 (K : aK) : ∀ q ∈ (am_t0).map (fun z => z.1), am_All K 0 q := by
  have e : (am_t0).map (fun z => z.1) = [0, 3, 4, 7, 8, 11, 12, 15, 16, 17, 18, 19, 20, 21, 22, 23, 26, 27, 28, 29, 31, 32, 104, 105, 106, 107, 108, 109, 110, 113] ++ ([114, 115, 116, 117, 118, 119, 122, 125, 126, 127, 128, 129, 130, 131, 132, 133, 134, 135, 136, 137, 138, 141, 142, 143, 144, 145, 146, 147, 148, 149] ++ ([150, 151, 152, 155, 158, 159, 160, 161, 162, 163, 164, 165, 166, 169, 170, 171, 172, 173, 174, 175, 178, 181, 182, 183, 184, 185, 186, 187, 188, 189] ++ ([190, 191, 192, 193, 194, 195, 196, 197, 198, 199, 202, 203, 204, 205, 206, 207, 208, 209, 210, 211, 212, 213, 214, 215, 216, 217, 218, 221, 224, 225] ++ ([226, 227, 228, 229, 230, 231, 232, 235, 236, 237, 238, 239, 240, 241, 244, 247, 248, 249, 250, 251, 252, 253, 254, 255, 258, 259, 260, 261, 262, 263] ++ ([264, 267, 270, 271, 272, 273, 274, 275, 276, 277, 278, 281, 282, 283, 284, 285, 286, 287, 290, 293, 294, 295, 296, 297, 298, 299, 300, 301, 302, 303] ++ ([304, 305, 306, 309, 310, 311, 312, 313, 314, 315, 316, 317, 318, 319, 320, 323, 326, 327, 328, 329, 330, 331, 332, 333, 334, 335, 336, 337, 338, 339] ++ ([342, 343, 344, 345, 346, 347, 348, 349, 350, 351, 352, 353, 356, 359, 360, 361, 362, 363, 364, 365, 366, 367, 368, 369, 370, 371, 372, 375, 376, 377] ++ ([378, 379, 380, 381, 382, 383, 384, 385, 386, 389, 392, 393, 394, 395, 396, 397, 398, 399, 400, 401, 402, 403, 404, 405, 408, 409, 410, 411, 412, 413] ++ ([414, 415, 416, 417, 418, 419, 422, 425, 426, 427, 428, 429, 430, 431, 432, 433, 434, 435, 436, 437, 438, 441, 442, 443, 444, 445, 446, 447, 448, 449] ++ ([450, 451, 452, 455, 458, 459, 460, 461, 462, 463, 464, 465, 466, 467, 468, 469, 470, 471, 472, 473, 474, 475, 476, 479, 480, 481, 482, 483, 484, 485] ++ ([486, 487, 488, 489, 490, 491, 492, 493, 494, 495, 498, 501, 502, 503, 504, 505, 506, 507, 508, 509, 510, 511, 512, 513, 514, 515, 516, 517, 518, 519] ++ ([522, 523, 524, 525, 526, 527, 528, 529, 530, 531, 532, 533, 534, 535, 536, 537, 538, 541, 544, 545, 546, 549, 552, 553])))))))))))) := rfl
  rw [e]
  exact List.forall_mem_append.mpr ⟨al0_0 K, List.forall_mem_append.mpr ⟨al0_1 K, List.forall_mem_append.mpr ⟨al0_2 K, List.forall_mem_append.mpr ⟨al0_3 K, List.forall_mem_append.mpr ⟨al0_4 K, List.forall_mem_append.mpr ⟨al0_5 K, List.forall_mem_append.mpr ⟨al0_6 K, List.forall_mem_append.mpr ⟨al0_7 K, List.forall_mem_append.mpr ⟨al0_8 K, List.forall_mem_append.mpr ⟨al0_9 K, List.forall_mem_append.mpr ⟨al0_10 K, List.forall_mem_append.mpr ⟨al0_11 K, al0_12 K⟩⟩⟩⟩⟩⟩⟩⟩⟩⟩⟩⟩
theorem i1_0 : am_ins 1 0 = (33, 0, 1, 0, []) := by decide +kernel
theorem d1_0 : decode (am_cod 1) 0 = .ok (.aload_n 0, 1) := by decide +kernel
theorem s1_0 (K : aK) : am_Snd K 1 0 := sn_aload_n i1_0 d1_0 rfl
theorem i1_1 : am_ins 1 1 = (35, 0, 0, 0, []) := by decide +kernel
theorem d1_1 : decode (am_cod 1) 1 = .ok (.invokespecial 1, 3) := by decide +kernel
theorem s1_1 (K : aK) : am_Snd K 1 1 := sn_oinit i1_1 d1_1 w_15 w_16 w_17
theorem i1_4 : am_ins 1 4 = (33, 0, 1, 0, []) := by decide +kernel
theorem d1_4 : decode (am_cod 1) 4 = .ok (.aload_n 0, 1) := by decide +kernel
theorem s1_4 (K : aK) : am_Snd K 1 4 := sn_aload_n i1_4 d1_4 rfl
theorem i1_5 : am_ins 1 5 = (0, 2, 0, 6, []) := by decide +kernel
theorem d1_5 : decode (am_cod 1) 5 = .ok (.bipush 6, 2) := by decide +kernel
theorem s1_5 (K : aK) : am_Snd K 1 5 := sn_const2 i1_5 d1_5 (by decide +kernel)
theorem i1_7 : am_ins 1 7 = (31, 1, 0, 0, []) := by decide +kernel
theorem d1_7 : decode (am_cod 1) 7 = .ok (.anewarray 9, 3) := by decide +kernel
theorem s1_7 (K : aK) : am_Snd K 1 7 := sn_anew (C0 := CN1) i1_7 d1_7 w_18 nwAO1 rfl (by decide +kernel)
theorem i1_10 : am_ins 1 10 = (21, 0, 0, 0, []) := by decide +kernel
theorem d1_10 : decode (am_cod 1) 10 = .ok (.putfield 11, 3) := by decide +kernel
theorem s1_10 (K : aK) : am_Snd K 1 10 := sn_putrF (ty := .array (.object "CausalPlaces$Client")) (C0 := CN0) (T := FT0) (Nf := 5) (tyf := FY0) i1_10 d1_10 rfl (by decide +kernel) fin0 ftyok0 fnm0 w_138 rfl rfl rfl rfl rfl rfl
theorem i1_13 : am_ins 1 13 = (0, 1, 0, 0, []) := by decide +kernel
theorem d1_13 : decode (am_cod 1) 13 = .ok (.iconst 0, 1) := by decide +kernel
theorem s1_13 (K : aK) : am_Snd K 1 13 := sn_const1 i1_13 d1_13 rfl
theorem i1_14 : am_ins 1 14 = (2, 1, 1, 0, []) := by decide +kernel
theorem d1_14 : decode (am_cod 1) 14 = .ok (.istore_n 1, 1) := by decide +kernel
theorem s1_14 (K : aK) : am_Snd K 1 14 := sn_istore_n i1_14 d1_14 rfl (by decide +kernel)
theorem i1_15 : am_ins 1 15 = (1, 1, 1, 0, []) := by decide +kernel
theorem d1_15 : decode (am_cod 1) 15 = .ok (.iload_n 1, 1) := by decide +kernel
theorem s1_15 (K : aK) : am_Snd K 1 15 := sn_iload_n i1_15 d1_15 rfl
theorem i1_16 : am_ins 1 16 = (33, 0, 1, 0, []) := by decide +kernel
theorem d1_16 : decode (am_cod 1) 16 = .ok (.aload_n 0, 1) := by decide +kernel
theorem s1_16 (K : aK) : am_Snd K 1 16 := sn_aload_n i1_16 d1_16 rfl
theorem i1_17 : am_ins 1 17 = (18, 0, 0, 0, []) := by decide +kernel
theorem d1_17 : decode (am_cod 1) 17 = .ok (.getfield 11, 3) := by decide +kernel
theorem s1_17 (K : aK) : am_Snd K 1 17 := sn_get (C0 := CN0) (T := FT0) (Nf := 5) i1_17 d1_17 rfl (by decide +kernel) fin0 w_138 rfl
theorem i1_20 : am_ins 1 20 = (28, 0, 0, 0, []) := by decide +kernel
theorem d1_20 : decode (am_cod 1) 20 = .ok (.arraylength, 1) := by decide +kernel
theorem s1_20 (K : aK) : am_Snd K 1 20 := sn_alen i1_20 d1_20 
theorem i1_21 : am_ins 1 21 = (13, 3, 46, 0, []) := by decide +kernel
theorem d1_21 : decode (am_cod 1) 21 = .ok (.if_icmp .ge 25, 3) := by decide +kernel
theorem s1_21 (K : aK) : am_Snd K 1 21 := sn_icmp_ge i1_21 d1_21 rfl
theorem i1_24 : am_ins 1 24 = (33, 0, 1, 0, []) := by decide +kernel
theorem d1_24 : decode (am_cod 1) 24 = .ok (.aload_n 0, 1) := by decide +kernel
theorem s1_24 (K : aK) : am_Snd K 1 24 := sn_aload_n i1_24 d1_24 rfl
theorem i1_25 : am_ins 1 25 = (18, 0, 0, 0, []) := by decide +kernel
theorem d1_25 : decode (am_cod 1) 25 = .ok (.getfield 11, 3) := by decide +kernel
theorem s1_25 (K : aK) : am_Snd K 1 25 := sn_get (C0 := CN0) (T := FT0) (Nf := 5) i1_25 d1_25 rfl (by decide +kernel) fin0 w_138 rfl
theorem i1_28 : am_ins 1 28 = (1, 1, 1, 0, []) := by decide +kernel
theorem d1_28 : decode (am_cod 1) 28 = .ok (.iload_n 1, 1) := by decide +kernel
theorem s1_28 (K : aK) : am_Snd K 1 28 := sn_iload_n i1_28 d1_28 rfl
theorem i1_29 : am_ins 1 29 = (29, 1, 0, 0, []) := by decide +kernel
theorem d1_29 : decode (am_cod 1) 29 = .ok (.new 9, 3) := by decide +kernel
theorem s1_29 (K : aK) : am_Snd K 1 29 := sn_new (C0 := CN1) (T := FT1) (Nf := 7) (tyf := FY1) i1_29 d1_29 rfl fin1 ftyok1 w_18 w_20 w_2 rfl fdf1
theorem i1_32 : am_ins 1 32 = (7, 0, 0, 0, []) := by decide +kernel
theorem d1_32 : decode (am_cod 1) 32 = .ok (.dup, 1) := by decide +kernel
theorem s1_32 (K : aK) : am_Snd K 1 32 := sn_dup i1_32 d1_32 
theorem i1_33 : am_ins 1 33 = (1, 1, 1, 0, []) := by decide +kernel
theorem d1_33 : decode (am_cod 1) 33 = .ok (.iload_n 1, 1) := by decide +kernel
theorem s1_33 (K : aK) : am_Snd K 1 33 := sn_iload_n i1_33 d1_33 rfl
theorem i1_34 : am_ins 1 34 = (0, 1, 0, 3, []) := by decide +kernel
theorem d1_34 : decode (am_cod 1) 34 = .ok (.iconst 3, 1) := by decide +kernel
theorem s1_34 (K : aK) : am_Snd K 1 34 := sn_const1 i1_34 d1_34 rfl
theorem i1_35 : am_ins 1 35 = (6, 0, 0, 0, []) := by decide +kernel
theorem d1_35 : decode (am_cod 1) 35 = .ok (.irem, 1) := by decide +kernel
theorem s1_35 (K : aK) : am_Snd K 1 35 := sn_rem i1_35 d1_35 
theorem i1_36 : am_ins 1 36 = (62, 33, 1, 0, []) := by decide +kernel
theorem d1_36 : decode (am_cod 1) 36 = .ok (.invokespecial 15, 3) := by decide +kernel
theorem s1_36 (K : aK) : am_SndC K 1 36 := sc_I i1_36 d1_36 co33 rfl rfl w_21 w_22 w_2 hd33
theorem i1_39 : am_ins 1 39 = (27, 0, 0, 0, []) := by decide +kernel
theorem d1_39 : decode (am_cod 1) 39 = .ok (.aastore, 1) := by decide +kernel
theorem s1_39 (K : aK) : am_Snd K 1 39 := sn_aast i1_39 d1_39 
theorem i1_40 : am_ins 1 40 = (3, 1, 3, 1, []) := by decide +kernel
theorem d1_40 : decode (am_cod 1) 40 = .ok (.iinc 1 1, 3) := by decide +kernel
theorem s1_40 (K : aK) : am_Snd K 1 40 := sn_iinc i1_40 d1_40 rfl (by decide +kernel)
theorem i1_43 : am_ins 1 43 = (14, 15, 0, 0, []) := by decide +kernel
theorem d1_43 : decode (am_cod 1) 43 = .ok (.goto (-28), 3) := by decide +kernel
theorem s1_43 (K : aK) : am_Snd K 1 43 := sn_goto i1_43 d1_43 rfl
theorem i1_46 : am_ins 1 46 = (33, 0, 1, 0, []) := by decide +kernel
theorem d1_46 : decode (am_cod 1) 46 = .ok (.aload_n 0, 1) := by decide +kernel
theorem s1_46 (K : aK) : am_Snd K 1 46 := sn_aload_n i1_46 d1_46 rfl
theorem i1_47 : am_ins 1 47 = (0, 2, 0, 6, []) := by decide +kernel
theorem d1_47 : decode (am_cod 1) 47 = .ok (.bipush 6, 2) := by decide +kernel
theorem s1_47 (K : aK) : am_Snd K 1 47 := sn_const2 i1_47 d1_47 (by decide +kernel)
theorem i1_49 : am_ins 1 49 = (31, 4, 0, 0, []) := by decide +kernel
theorem d1_49 : decode (am_cod 1) 49 = .ok (.anewarray 18, 3) := by decide +kernel
theorem s1_49 (K : aK) : am_Snd K 1 49 := sn_anew (C0 := CN4) i1_49 d1_49 w_73 nwAO4 rfl (by decide +kernel)
theorem i1_52 : am_ins 1 52 = (21, 0, 1, 0, []) := by decide +kernel
theorem d1_52 : decode (am_cod 1) 52 = .ok (.putfield 20, 3) := by decide +kernel
theorem s1_52 (K : aK) : am_Snd K 1 52 := sn_putrF (ty := .array (.object "CausalPlaces$Server")) (C0 := CN0) (T := FT0) (Nf := 5) (tyf := FY0) i1_52 d1_52 rfl (by decide +kernel) fin0 ftyok0 fnm0 w_139 rfl rfl rfl rfl rfl rfl
theorem i1_55 : am_ins 1 55 = (0, 1, 0, 0, []) := by decide +kernel
theorem d1_55 : decode (am_cod 1) 55 = .ok (.iconst 0, 1) := by decide +kernel
theorem s1_55 (K : aK) : am_Snd K 1 55 := sn_const1 i1_55 d1_55 rfl
theorem i1_56 : am_ins 1 56 = (2, 1, 1, 0, []) := by decide +kernel
theorem d1_56 : decode (am_cod 1) 56 = .ok (.istore_n 1, 1) := by decide +kernel
theorem s1_56 (K : aK) : am_Snd K 1 56 := sn_istore_n i1_56 d1_56 rfl (by decide +kernel)
theorem i1_57 : am_ins 1 57 = (1, 1, 1, 0, []) := by decide +kernel
theorem d1_57 : decode (am_cod 1) 57 = .ok (.iload_n 1, 1) := by decide +kernel
theorem s1_57 (K : aK) : am_Snd K 1 57 := sn_iload_n i1_57 d1_57 rfl
theorem i1_58 : am_ins 1 58 = (33, 0, 1, 0, []) := by decide +kernel
theorem d1_58 : decode (am_cod 1) 58 = .ok (.aload_n 0, 1) := by decide +kernel
theorem s1_58 (K : aK) : am_Snd K 1 58 := sn_aload_n i1_58 d1_58 rfl
theorem i1_59 : am_ins 1 59 = (18, 0, 1, 0, []) := by decide +kernel
theorem d1_59 : decode (am_cod 1) 59 = .ok (.getfield 20, 3) := by decide +kernel
theorem s1_59 (K : aK) : am_Snd K 1 59 := sn_get (C0 := CN0) (T := FT0) (Nf := 5) i1_59 d1_59 rfl (by decide +kernel) fin0 w_139 rfl
theorem i1_62 : am_ins 1 62 = (28, 0, 0, 0, []) := by decide +kernel
theorem d1_62 : decode (am_cod 1) 62 = .ok (.arraylength, 1) := by decide +kernel
theorem s1_62 (K : aK) : am_Snd K 1 62 := sn_alen i1_62 d1_62 
theorem i1_63 : am_ins 1 63 = (13, 3, 86, 0, []) := by decide +kernel
theorem d1_63 : decode (am_cod 1) 63 = .ok (.if_icmp .ge 23, 3) := by decide +kernel
theorem s1_63 (K : aK) : am_Snd K 1 63 := sn_icmp_ge i1_63 d1_63 rfl
theorem i1_66 : am_ins 1 66 = (33, 0, 1, 0, []) := by decide +kernel
theorem d1_66 : decode (am_cod 1) 66 = .ok (.aload_n 0, 1) := by decide +kernel
theorem s1_66 (K : aK) : am_Snd K 1 66 := sn_aload_n i1_66 d1_66 rfl
theorem i1_67 : am_ins 1 67 = (18, 0, 1, 0, []) := by decide +kernel
theorem d1_67 : decode (am_cod 1) 67 = .ok (.getfield 20, 3) := by decide +kernel
theorem s1_67 (K : aK) : am_Snd K 1 67 := sn_get (C0 := CN0) (T := FT0) (Nf := 5) i1_67 d1_67 rfl (by decide +kernel) fin0 w_139 rfl
theorem i1_70 : am_ins 1 70 = (1, 1, 1, 0, []) := by decide +kernel
theorem d1_70 : decode (am_cod 1) 70 = .ok (.iload_n 1, 1) := by decide +kernel
theorem s1_70 (K : aK) : am_Snd K 1 70 := sn_iload_n i1_70 d1_70 rfl
theorem i1_71 : am_ins 1 71 = (29, 4, 0, 0, []) := by decide +kernel
theorem d1_71 : decode (am_cod 1) 71 = .ok (.new 18, 3) := by decide +kernel
theorem s1_71 (K : aK) : am_Snd K 1 71 := sn_new (C0 := CN4) (T := FT4) (Nf := 9) (tyf := FY4) i1_71 d1_71 rfl fin4 ftyok4 w_73 w_75 w_4 rfl fdf4
theorem i1_74 : am_ins 1 74 = (7, 0, 0, 0, []) := by decide +kernel
theorem d1_74 : decode (am_cod 1) 74 = .ok (.dup, 1) := by decide +kernel
theorem s1_74 (K : aK) : am_Snd K 1 74 := sn_dup i1_74 d1_74 
theorem i1_75 : am_ins 1 75 = (1, 1, 1, 0, []) := by decide +kernel
theorem d1_75 : decode (am_cod 1) 75 = .ok (.iload_n 1, 1) := by decide +kernel
theorem s1_75 (K : aK) : am_Snd K 1 75 := sn_iload_n i1_75 d1_75 rfl
theorem i1_76 : am_ins 1 76 = (62, 43, 1, 0, []) := by decide +kernel
theorem d1_76 : decode (am_cod 1) 76 = .ok (.invokespecial 24, 3) := by decide +kernel
theorem s1_76 (K : aK) : am_SndC K 1 76 := sc_I i1_76 d1_76 co43 rfl rfl w_76 w_77 w_4 hd43
theorem i1_79 : am_ins 1 79 = (27, 0, 0, 0, []) := by decide +kernel
theorem d1_79 : decode (am_cod 1) 79 = .ok (.aastore, 1) := by decide +kernel
theorem s1_79 (K : aK) : am_Snd K 1 79 := sn_aast i1_79 d1_79 
theorem i1_80 : am_ins 1 80 = (3, 1, 3, 1, []) := by decide +kernel
theorem d1_80 : decode (am_cod 1) 80 = .ok (.iinc 1 1, 3) := by decide +kernel
theorem s1_80 (K : aK) : am_Snd K 1 80 := sn_iinc i1_80 d1_80 rfl (by decide +kernel)
theorem i1_83 : am_ins 1 83 = (14, 57, 0, 0, []) := by decide +kernel
theorem d1_83 : decode (am_cod 1) 83 = .ok (.goto (-26), 3) := by decide +kernel
theorem s1_83 (K : aK) : am_Snd K 1 83 := sn_goto i1_83 d1_83 rfl
theorem i1_86 : am_ins 1 86 = (33, 0, 1, 0, []) := by decide +kernel
theorem d1_86 : decode (am_cod 1) 86 = .ok (.aload_n 0, 1) := by decide +kernel
theorem s1_86 (K : aK) : am_Snd K 1 86 := sn_aload_n i1_86 d1_86 rfl
theorem i1_87 : am_ins 1 87 = (0, 2, 0, 36, []) := by decide +kernel
theorem d1_87 : decode (am_cod 1) 87 = .ok (.bipush 36, 2) := by decide +kernel
theorem s1_87 (K : aK) : am_Snd K 1 87 := sn_const2 i1_87 d1_87 (by decide +kernel)
theorem i1_89 : am_ins 1 89 = (31, 2, 0, 0, []) := by decide +kernel
theorem d1_89 : decode (am_cod 1) 89 = .ok (.anewarray 25, 3) := by decide +kernel
theorem s1_89 (K : aK) : am_Snd K 1 89 := sn_anew (C0 := CN2) i1_89 d1_89 w_115 nwAO2 rfl (by decide +kernel)
theorem i1_92 : am_ins 1 92 = (21, 0, 2, 0, []) := by decide +kernel
theorem d1_92 : decode (am_cod 1) 92 = .ok (.putfield 27, 3) := by decide +kernel
theorem s1_92 (K : aK) : am_Snd K 1 92 := sn_putrF (ty := .array (.object "CausalPlaces$Link")) (C0 := CN0) (T := FT0) (Nf := 5) (tyf := FY0) i1_92 d1_92 rfl (by decide +kernel) fin0 ftyok0 fnm0 w_140 rfl rfl rfl rfl rfl rfl
theorem i1_95 : am_ins 1 95 = (0, 1, 0, 0, []) := by decide +kernel
theorem d1_95 : decode (am_cod 1) 95 = .ok (.iconst 0, 1) := by decide +kernel
theorem s1_95 (K : aK) : am_Snd K 1 95 := sn_const1 i1_95 d1_95 rfl
theorem i1_96 : am_ins 1 96 = (2, 1, 1, 0, []) := by decide +kernel
theorem d1_96 : decode (am_cod 1) 96 = .ok (.istore_n 1, 1) := by decide +kernel
theorem s1_96 (K : aK) : am_Snd K 1 96 := sn_istore_n i1_96 d1_96 rfl (by decide +kernel)
theorem i1_97 : am_ins 1 97 = (1, 1, 1, 0, []) := by decide +kernel
theorem d1_97 : decode (am_cod 1) 97 = .ok (.iload_n 1, 1) := by decide +kernel
theorem s1_97 (K : aK) : am_Snd K 1 97 := sn_iload_n i1_97 d1_97 rfl
theorem i1_98 : am_ins 1 98 = (33, 0, 1, 0, []) := by decide +kernel
theorem d1_98 : decode (am_cod 1) 98 = .ok (.aload_n 0, 1) := by decide +kernel
theorem s1_98 (K : aK) : am_Snd K 1 98 := sn_aload_n i1_98 d1_98 rfl
theorem i1_99 : am_ins 1 99 = (18, 0, 2, 0, []) := by decide +kernel
theorem d1_99 : decode (am_cod 1) 99 = .ok (.getfield 27, 3) := by decide +kernel
theorem s1_99 (K : aK) : am_Snd K 1 99 := sn_get (C0 := CN0) (T := FT0) (Nf := 5) i1_99 d1_99 rfl (by decide +kernel) fin0 w_140 rfl
theorem i1_102 : am_ins 1 102 = (28, 0, 0, 0, []) := by decide +kernel
theorem d1_102 : decode (am_cod 1) 102 = .ok (.arraylength, 1) := by decide +kernel
theorem s1_102 (K : aK) : am_Snd K 1 102 := sn_alen i1_102 d1_102 
theorem i1_103 : am_ins 1 103 = (13, 3, 139, 0, []) := by decide +kernel
theorem d1_103 : decode (am_cod 1) 103 = .ok (.if_icmp .ge 36, 3) := by decide +kernel
theorem s1_103 (K : aK) : am_Snd K 1 103 := sn_icmp_ge i1_103 d1_103 rfl
theorem i1_106 : am_ins 1 106 = (1, 1, 1, 0, []) := by decide +kernel
theorem d1_106 : decode (am_cod 1) 106 = .ok (.iload_n 1, 1) := by decide +kernel
theorem s1_106 (K : aK) : am_Snd K 1 106 := sn_iload_n i1_106 d1_106 rfl
theorem i1_107 : am_ins 1 107 = (0, 2, 0, 6, []) := by decide +kernel
theorem d1_107 : decode (am_cod 1) 107 = .ok (.bipush 6, 2) := by decide +kernel
theorem s1_107 (K : aK) : am_Snd K 1 107 := sn_const2 i1_107 d1_107 (by decide +kernel)
theorem i1_109 : am_ins 1 109 = (5, 0, 0, 0, []) := by decide +kernel
theorem d1_109 : decode (am_cod 1) 109 = .ok (.idiv, 1) := by decide +kernel
theorem s1_109 (K : aK) : am_Snd K 1 109 := sn_div i1_109 d1_109 
theorem i1_110 : am_ins 1 110 = (1, 1, 1, 0, []) := by decide +kernel
theorem d1_110 : decode (am_cod 1) 110 = .ok (.iload_n 1, 1) := by decide +kernel
theorem s1_110 (K : aK) : am_Snd K 1 110 := sn_iload_n i1_110 d1_110 rfl
theorem i1_111 : am_ins 1 111 = (0, 2, 0, 6, []) := by decide +kernel
theorem d1_111 : decode (am_cod 1) 111 = .ok (.bipush 6, 2) := by decide +kernel
theorem s1_111 (K : aK) : am_Snd K 1 111 := sn_const2 i1_111 d1_111 (by decide +kernel)
theorem i1_113 : am_ins 1 113 = (6, 0, 0, 0, []) := by decide +kernel
theorem d1_113 : decode (am_cod 1) 113 = .ok (.irem, 1) := by decide +kernel
theorem s1_113 (K : aK) : am_Snd K 1 113 := sn_rem i1_113 d1_113 
theorem i1_114 : am_ins 1 114 = (61, 24, 2, 0, []) := by decide +kernel
theorem d1_114 : decode (am_cod 1) 114 = .ok (.invokestatic 31, 3) := by decide +kernel
theorem s1_114 (K : aK) : am_SndC K 1 114 := sc_S i1_114 d1_114 co24 w_117 w_118 w_1 hd24
theorem i1_117 : am_ins 1 117 = (12, 0, 133, 0, []) := by decide +kernel
theorem d1_117 : decode (am_cod 1) 117 = .ok (.ifCond .eq 16, 3) := by decide +kernel
theorem s1_117 (K : aK) : am_Snd K 1 117 := sn_if_eq i1_117 d1_117 rfl
theorem i1_120 : am_ins 1 120 = (33, 0, 1, 0, []) := by decide +kernel
theorem d1_120 : decode (am_cod 1) 120 = .ok (.aload_n 0, 1) := by decide +kernel
theorem s1_120 (K : aK) : am_Snd K 1 120 := sn_aload_n i1_120 d1_120 rfl
theorem i1_121 : am_ins 1 121 = (18, 0, 2, 0, []) := by decide +kernel
theorem d1_121 : decode (am_cod 1) 121 = .ok (.getfield 27, 3) := by decide +kernel
theorem s1_121 (K : aK) : am_Snd K 1 121 := sn_get (C0 := CN0) (T := FT0) (Nf := 5) i1_121 d1_121 rfl (by decide +kernel) fin0 w_140 rfl
theorem i1_124 : am_ins 1 124 = (1, 1, 1, 0, []) := by decide +kernel
theorem d1_124 : decode (am_cod 1) 124 = .ok (.iload_n 1, 1) := by decide +kernel
theorem s1_124 (K : aK) : am_Snd K 1 124 := sn_iload_n i1_124 d1_124 rfl
theorem i1_125 : am_ins 1 125 = (29, 2, 0, 0, []) := by decide +kernel
theorem d1_125 : decode (am_cod 1) 125 = .ok (.new 25, 3) := by decide +kernel
theorem s1_125 (K : aK) : am_Snd K 1 125 := sn_new (C0 := CN2) (T := FT2) (Nf := 3) (tyf := FY2) i1_125 d1_125 rfl fin2 ftyok2 w_115 w_120 w_5 rfl fdf2
theorem i1_128 : am_ins 1 128 = (7, 0, 0, 0, []) := by decide +kernel
theorem d1_128 : decode (am_cod 1) 128 = .ok (.dup, 1) := by decide +kernel
theorem s1_128 (K : aK) : am_Snd K 1 128 := sn_dup i1_128 d1_128 
theorem i1_129 : am_ins 1 129 = (62, 39, 0, 0, []) := by decide +kernel
theorem d1_129 : decode (am_cod 1) 129 = .ok (.invokespecial 35, 3) := by decide +kernel
theorem s1_129 (K : aK) : am_SndC K 1 129 := sc_IN i1_129 d1_129 co39 rfl rfl nw_121 w_122 w_5 hd39
theorem i1_132 : am_ins 1 132 = (27, 0, 0, 0, []) := by decide +kernel
theorem d1_132 : decode (am_cod 1) 132 = .ok (.aastore, 1) := by decide +kernel
theorem s1_132 (K : aK) : am_Snd K 1 132 := sn_aast i1_132 d1_132 
theorem i1_133 : am_ins 1 133 = (3, 1, 3, 1, []) := by decide +kernel
theorem d1_133 : decode (am_cod 1) 133 = .ok (.iinc 1 1, 3) := by decide +kernel
theorem s1_133 (K : aK) : am_Snd K 1 133 := sn_iinc i1_133 d1_133 rfl (by decide +kernel)
theorem i1_136 : am_ins 1 136 = (14, 97, 0, 0, []) := by decide +kernel
theorem d1_136 : decode (am_cod 1) 136 = .ok (.goto (-39), 3) := by decide +kernel
theorem s1_136 (K : aK) : am_Snd K 1 136 := sn_goto i1_136 d1_136 rfl
theorem i1_139 : am_ins 1 139 = (33, 0, 1, 0, []) := by decide +kernel
theorem d1_139 : decode (am_cod 1) 139 = .ok (.aload_n 0, 1) := by decide +kernel
theorem s1_139 (K : aK) : am_Snd K 1 139 := sn_aload_n i1_139 d1_139 rfl
theorem i1_140 : am_ins 1 140 = (0, 3, 0, 200, []) := by decide +kernel
theorem d1_140 : decode (am_cod 1) 140 = .ok (.sipush 200, 3) := by decide +kernel
theorem s1_140 (K : aK) : am_Snd K 1 140 := sn_const3 i1_140 d1_140 (by decide +kernel)
theorem i1_143 : am_ins 1 143 = (31, 5, 0, 0, []) := by decide +kernel
theorem d1_143 : decode (am_cod 1) 143 = .ok (.anewarray 36, 3) := by decide +kernel
theorem s1_143 (K : aK) : am_Snd K 1 143 := sn_anew (C0 := CN5) i1_143 d1_143 w_137 nwAO5 rfl (by decide +kernel)
theorem i1_146 : am_ins 1 146 = (21, 0, 3, 0, []) := by decide +kernel
theorem d1_146 : decode (am_cod 1) 146 = .ok (.putfield 38, 3) := by decide +kernel
theorem s1_146 (K : aK) : am_Snd K 1 146 := sn_putrF (ty := .array (.object "CausalPlaces$Transaction")) (C0 := CN0) (T := FT0) (Nf := 5) (tyf := FY0) i1_146 d1_146 rfl (by decide +kernel) fin0 ftyok0 fnm0 w_141 rfl rfl rfl rfl rfl rfl
theorem i1_149 : am_ins 1 149 = (33, 0, 1, 0, []) := by decide +kernel
theorem d1_149 : decode (am_cod 1) 149 = .ok (.aload_n 0, 1) := by decide +kernel
theorem s1_149 (K : aK) : am_Snd K 1 149 := sn_aload_n i1_149 d1_149 rfl
theorem i1_150 : am_ins 1 150 = (0, 1, 0, 0, []) := by decide +kernel
theorem d1_150 : decode (am_cod 1) 150 = .ok (.iconst 0, 1) := by decide +kernel
theorem s1_150 (K : aK) : am_Snd K 1 150 := sn_const1 i1_150 d1_150 rfl
theorem i1_151 : am_ins 1 151 = (19, 0, 4, 0, []) := by decide +kernel
theorem d1_151 : decode (am_cod 1) 151 = .ok (.putfield 42, 3) := by decide +kernel
theorem s1_151 (K : aK) : am_Snd K 1 151 := sn_puti (ty := .int) (C0 := CN0) (T := FT0) (Nf := 5) (tyf := FY0) i1_151 d1_151 rfl (by decide +kernel) fin0 ftyok0 fnm0 w_142 rfl rfl rfl
theorem i1_154 : am_ins 1 154 = (53, 0, 0, 0, []) := by decide +kernel
theorem d1_154 : decode (am_cod 1) 154 = .ok (.return_, 1) := by decide +kernel
theorem s1_154 : am_SndR 1 154 := sn_vret i1_154 d1_154 rfl
theorem al1_0 (K : aK) : ∀ q ∈ [0, 1, 4, 5, 7, 10, 13, 14, 15, 16, 17, 20, 21, 24, 25, 28, 29, 32, 33, 34, 35, 36, 39, 40, 43, 46, 47, 49, 52, 55], am_All K 1 q := List.forall_mem_cons.mpr ⟨am_alS i1_0 (s1_0 K), List.forall_mem_cons.mpr ⟨am_alS i1_1 (s1_1 K), List.forall_mem_cons.mpr ⟨am_alS i1_4 (s1_4 K), List.forall_mem_cons.mpr ⟨am_alS i1_5 (s1_5 K), List.forall_mem_cons.mpr ⟨am_alS i1_7 (s1_7 K), List.forall_mem_cons.mpr ⟨am_alS i1_10 (s1_10 K), List.forall_mem_cons.mpr ⟨am_alS i1_13 (s1_13 K), List.forall_mem_cons.mpr ⟨am_alS i1_14 (s1_14 K), List.forall_mem_cons.mpr ⟨am_alS i1_15 (s1_15 K), List.forall_mem_cons.mpr ⟨am_alS i1_16 (s1_16 K), List.forall_mem_cons.mpr ⟨am_alS i1_17 (s1_17 K), List.forall_mem_cons.mpr ⟨am_alS i1_20 (s1_20 K), List.forall_mem_cons.mpr ⟨am_alS i1_21 (s1_21 K), List.forall_mem_cons.mpr ⟨am_alS i1_24 (s1_24 K), List.forall_mem_cons.mpr ⟨am_alS i1_25 (s1_25 K), List.forall_mem_cons.mpr ⟨am_alS i1_28 (s1_28 K), List.forall_mem_cons.mpr ⟨am_alS i1_29 (s1_29 K), List.forall_mem_cons.mpr ⟨am_alS i1_32 (s1_32 K), List.forall_mem_cons.mpr ⟨am_alS i1_33 (s1_33 K), List.forall_mem_cons.mpr ⟨am_alS i1_34 (s1_34 K), List.forall_mem_cons.mpr ⟨am_alS i1_35 (s1_35 K), List.forall_mem_cons.mpr ⟨am_alC i1_36 (s1_36 K), List.forall_mem_cons.mpr ⟨am_alS i1_39 (s1_39 K), List.forall_mem_cons.mpr ⟨am_alS i1_40 (s1_40 K), List.forall_mem_cons.mpr ⟨am_alS i1_43 (s1_43 K), List.forall_mem_cons.mpr ⟨am_alS i1_46 (s1_46 K), List.forall_mem_cons.mpr ⟨am_alS i1_47 (s1_47 K), List.forall_mem_cons.mpr ⟨am_alS i1_49 (s1_49 K), List.forall_mem_cons.mpr ⟨am_alS i1_52 (s1_52 K), List.forall_mem_cons.mpr ⟨am_alS i1_55 (s1_55 K), fun _ h => absurd h List.not_mem_nil⟩⟩⟩⟩⟩⟩⟩⟩⟩⟩⟩⟩⟩⟩⟩⟩⟩⟩⟩⟩⟩⟩⟩⟩⟩⟩⟩⟩⟩⟩
theorem al1_1 (K : aK) : ∀ q ∈ [56, 57, 58, 59, 62, 63, 66, 67, 70, 71, 74, 75, 76, 79, 80, 83, 86, 87, 89, 92, 95, 96, 97, 98, 99, 102, 103, 106, 107, 109], am_All K 1 q := List.forall_mem_cons.mpr ⟨am_alS i1_56 (s1_56 K), List.forall_mem_cons.mpr ⟨am_alS i1_57 (s1_57 K), List.forall_mem_cons.mpr ⟨am_alS i1_58 (s1_58 K), List.forall_mem_cons.mpr ⟨am_alS i1_59 (s1_59 K), List.forall_mem_cons.mpr ⟨am_alS i1_62 (s1_62 K), List.forall_mem_cons.mpr ⟨am_alS i1_63 (s1_63 K), List.forall_mem_cons.mpr ⟨am_alS i1_66 (s1_66 K), List.forall_mem_cons.mpr ⟨am_alS i1_67 (s1_67 K), List.forall_mem_cons.mpr ⟨am_alS i1_70 (s1_70 K), List.forall_mem_cons.mpr ⟨am_alS i1_71 (s1_71 K), List.forall_mem_cons.mpr ⟨am_alS i1_74 (s1_74 K), List.forall_mem_cons.mpr ⟨am_alS i1_75 (s1_75 K), List.forall_mem_cons.mpr ⟨am_alC i1_76 (s1_76 K), List.forall_mem_cons.mpr ⟨am_alS i1_79 (s1_79 K), List.forall_mem_cons.mpr ⟨am_alS i1_80 (s1_80 K), List.forall_mem_cons.mpr ⟨am_alS i1_83 (s1_83 K), List.forall_mem_cons.mpr ⟨am_alS i1_86 (s1_86 K), List.forall_mem_cons.mpr ⟨am_alS i1_87 (s1_87 K), List.forall_mem_cons.mpr ⟨am_alS i1_89 (s1_89 K), List.forall_mem_cons.mpr ⟨am_alS i1_92 (s1_92 K), List.forall_mem_cons.mpr ⟨am_alS i1_95 (s1_95 K), List.forall_mem_cons.mpr ⟨am_alS i1_96 (s1_96 K), List.forall_mem_cons.mpr ⟨am_alS i1_97 (s1_97 K), List.forall_mem_cons.mpr ⟨am_alS i1_98 (s1_98 K), List.forall_mem_cons.mpr ⟨am_alS i1_99 (s1_99 K), List.forall_mem_cons.mpr ⟨am_alS i1_102 (s1_102 K), List.forall_mem_cons.mpr ⟨am_alS i1_103 (s1_103 K), List.forall_mem_cons.mpr ⟨am_alS i1_106 (s1_106 K), List.forall_mem_cons.mpr ⟨am_alS i1_107 (s1_107 K), List.forall_mem_cons.mpr ⟨am_alS i1_109 (s1_109 K), fun _ h => absurd h List.not_mem_nil⟩⟩⟩⟩⟩⟩⟩⟩⟩⟩⟩⟩⟩⟩⟩⟩⟩⟩⟩⟩⟩⟩⟩⟩⟩⟩⟩⟩⟩⟩
theorem al1_2 (K : aK) : ∀ q ∈ [110, 111, 113, 114, 117, 120, 121, 124, 125, 128, 129, 132, 133, 136, 139, 140, 143, 146, 149, 150, 151, 154], am_All K 1 q := List.forall_mem_cons.mpr ⟨am_alS i1_110 (s1_110 K), List.forall_mem_cons.mpr ⟨am_alS i1_111 (s1_111 K), List.forall_mem_cons.mpr ⟨am_alS i1_113 (s1_113 K), List.forall_mem_cons.mpr ⟨am_alC i1_114 (s1_114 K), List.forall_mem_cons.mpr ⟨am_alS i1_117 (s1_117 K), List.forall_mem_cons.mpr ⟨am_alS i1_120 (s1_120 K), List.forall_mem_cons.mpr ⟨am_alS i1_121 (s1_121 K), List.forall_mem_cons.mpr ⟨am_alS i1_124 (s1_124 K), List.forall_mem_cons.mpr ⟨am_alS i1_125 (s1_125 K), List.forall_mem_cons.mpr ⟨am_alS i1_128 (s1_128 K), List.forall_mem_cons.mpr ⟨am_alC i1_129 (s1_129 K), List.forall_mem_cons.mpr ⟨am_alS i1_132 (s1_132 K), List.forall_mem_cons.mpr ⟨am_alS i1_133 (s1_133 K), List.forall_mem_cons.mpr ⟨am_alS i1_136 (s1_136 K), List.forall_mem_cons.mpr ⟨am_alS i1_139 (s1_139 K), List.forall_mem_cons.mpr ⟨am_alS i1_140 (s1_140 K), List.forall_mem_cons.mpr ⟨am_alS i1_143 (s1_143 K), List.forall_mem_cons.mpr ⟨am_alS i1_146 (s1_146 K), List.forall_mem_cons.mpr ⟨am_alS i1_149 (s1_149 K), List.forall_mem_cons.mpr ⟨am_alS i1_150 (s1_150 K), List.forall_mem_cons.mpr ⟨am_alS i1_151 (s1_151 K), List.forall_mem_cons.mpr ⟨am_alR i1_154 s1_154, fun _ h => absurd h List.not_mem_nil⟩⟩⟩⟩⟩⟩⟩⟩⟩⟩⟩⟩⟩⟩⟩⟩⟩⟩⟩⟩⟩⟩
set_option maxRecDepth 100000 in
theorem al1 (K : aK) : ∀ q ∈ (am_t1).map (fun z => z.1), am_All K 1 q := by
  have e : (am_t1).map (fun z => z.1) = [0, 1, 4, 5, 7, 10, 13, 14, 15, 16, 17, 20, 21, 24, 25, 28, 29, 32, 33, 34, 35, 36, 39, 40, 43, 46, 47, 49, 52, 55] ++ ([56, 57, 58, 59, 62, 63, 66, 67, 70, 71, 74, 75, 76, 79, 80, 83, 86, 87, 89, 92, 95, 96, 97, 98, 99, 102, 103, 106, 107, 109] ++ ([110, 111, 113, 114, 117, 120, 121, 124, 125, 128, 129, 132, 133, 136, 139, 140, 143, 146, 149, 150, 151, 154])) := rfl
  rw [e]
  exact List.forall_mem_append.mpr ⟨al1_0 K, List.forall_mem_append.mpr ⟨al1_1 K, al1_2 K⟩⟩
theorem i2_0 : am_ins 2 0 = (33, 0, 1, 0, []) := by decide +kernel
theorem d2_0 : decode (am_cod 2) 0 = .ok (.aload_n 0, 1) := by decide +kernel
theorem s2_0 (K : aK) : am_Snd K 2 0 := sn_aload_n i2_0 d2_0 rfl
theorem i2_1 : am_ins 2 1 = (1, 1, 1, 0, []) := by decide +kernel
theorem d2_1 : decode (am_cod 2) 1 = .ok (.iload_n 1, 1) := by decide +kernel
theorem s2_1 (K : aK) : am_Snd K 2 1 := sn_iload_n i2_1 d2_1 rfl
theorem i2_2 : am_ins 2 2 = (60, 16, 1, 0, []) := by decide +kernel
theorem d2_2 : decode (am_cod 2) 2 = .ok (.invokevirtual 46, 3) := by decide +kernel
theorem s2_2 (K : aK) : am_SndC K 2 2 := sc_V i2_2 d2_2 co16 w_158 w_160 ws_0 w_1 rfl (rr := (CN0, FT0, 5)) rfl rfl hd16
theorem i2_5 : am_ins 2 5 = (34, 2, 1, 0, []) := by decide +kernel
theorem d2_5 : decode (am_cod 2) 5 = .ok (.astore_n 2, 1) := by decide +kernel
theorem s2_5 (K : aK) : am_Snd K 2 5 := sn_astore_n i2_5 d2_5 rfl (by decide +kernel)
theorem i2_6 : am_ins 2 6 = (33, 2, 1, 0, []) := by decide +kernel
theorem d2_6 : decode (am_cod 2) 6 = .ok (.aload_n 2, 1) := by decide +kernel
theorem s2_6 (K : aK) : am_Snd K 2 6 := sn_aload_n i2_6 d2_6 rfl
theorem i2_7 : am_ins 2 7 = (16, 12, 0, 0, []) := by decide +kernel
theorem d2_7 : decode (am_cod 2) 7 = .ok (.ifnonnull 5, 3) := by decide +kernel
theorem s2_7 (K : aK) : am_Snd K 2 7 := sn_ifnonnull i2_7 d2_7 rfl
theorem i2_10 : am_ins 2 10 = (0, 1, 0, (-1), []) := by decide +kernel
theorem d2_10 : decode (am_cod 2) 10 = .ok (.iconst (-1), 1) := by decide +kernel
theorem s2_10 (K : aK) : am_Snd K 2 10 := sn_const1 i2_10 d2_10 rfl
theorem i2_11 : am_ins 2 11 = (50, 0, 0, 0, []) := by decide +kernel
theorem d2_11 : decode (am_cod 2) 11 = .ok (.ireturn, 1) := by decide +kernel
theorem s2_11 : am_SndR 2 11 := sn_iret i2_11 d2_11 rfl
theorem i2_12 : am_ins 2 12 = (33, 2, 1, 0, []) := by decide +kernel
theorem d2_12 : decode (am_cod 2) 12 = .ok (.aload_n 2, 1) := by decide +kernel
theorem s2_12 (K : aK) : am_Snd K 2 12 := sn_aload_n i2_12 d2_12 rfl
theorem i2_13 : am_ins 2 13 = (18, 1, 4, 0, []) := by decide +kernel
theorem d2_13 : decode (am_cod 2) 13 = .ok (.getfield 50, 3) := by decide +kernel
theorem s2_13 (K : aK) : am_Snd K 2 13 := sn_get (C0 := CN1) (T := FT1) (Nf := 7) i2_13 d2_13 rfl (by decide +kernel) fin1 w_52 rfl
theorem i2_16 : am_ins 2 16 = (12, 0, 21, 0, []) := by decide +kernel
theorem d2_16 : decode (am_cod 2) 16 = .ok (.ifCond .eq 5, 3) := by decide +kernel
theorem s2_16 (K : aK) : am_Snd K 2 16 := sn_if_eq i2_16 d2_16 rfl
theorem i2_19 : am_ins 2 19 = (0, 1, 0, 0, []) := by decide +kernel
theorem d2_19 : decode (am_cod 2) 19 = .ok (.iconst 0, 1) := by decide +kernel
theorem s2_19 (K : aK) : am_Snd K 2 19 := sn_const1 i2_19 d2_19 rfl
theorem i2_20 : am_ins 2 20 = (50, 0, 0, 0, []) := by decide +kernel
theorem d2_20 : decode (am_cod 2) 20 = .ok (.ireturn, 1) := by decide +kernel
theorem s2_20 : am_SndR 2 20 := sn_iret i2_20 d2_20 rfl
theorem i2_21 : am_ins 2 21 = (33, 0, 1, 0, []) := by decide +kernel
theorem d2_21 : decode (am_cod 2) 21 = .ok (.aload_n 0, 1) := by decide +kernel
theorem s2_21 (K : aK) : am_Snd K 2 21 := sn_aload_n i2_21 d2_21 rfl
theorem i2_22 : am_ins 2 22 = (33, 2, 1, 0, []) := by decide +kernel
theorem d2_22 : decode (am_cod 2) 22 = .ok (.aload_n 2, 1) := by decide +kernel
theorem s2_22 (K : aK) : am_Snd K 2 22 := sn_aload_n i2_22 d2_22 rfl
theorem i2_23 : am_ins 2 23 = (18, 1, 0, 0, []) := by decide +kernel
theorem d2_23 : decode (am_cod 2) 23 = .ok (.getfield 53, 3) := by decide +kernel
theorem s2_23 (K : aK) : am_Snd K 2 23 := sn_get (C0 := CN1) (T := FT1) (Nf := 7) i2_23 d2_23 rfl (by decide +kernel) fin1 w_44 rfl
theorem i2_26 : am_ins 2 26 = (61, 23, 1, 0, []) := by decide +kernel
theorem d2_26 : decode (am_cod 2) 26 = .ok (.invokestatic 56, 3) := by decide +kernel
theorem s2_26 (K : aK) : am_SndC K 2 26 := sc_S i2_26 d2_26 co23 w_162 w_163 w_1 hd23
theorem i2_29 : am_ins 2 29 = (60, 18, 1, 0, []) := by decide +kernel
theorem d2_29 : decode (am_cod 2) 29 = .ok (.invokevirtual 60, 3) := by decide +kernel
theorem s2_29 (K : aK) : am_SndC K 2 29 := sc_V i2_29 d2_29 co18 w_165 w_167 ws_1 w_1 rfl (rr := (CN0, FT0, 5)) rfl rfl hd18
theorem i2_32 : am_ins 2 32 = (34, 3, 1, 0, []) := by decide +kernel
theorem d2_32 : decode (am_cod 2) 32 = .ok (.astore_n 3, 1) := by decide +kernel
theorem s2_32 (K : aK) : am_Snd K 2 32 := sn_astore_n i2_32 d2_32 rfl (by decide +kernel)
theorem i2_33 : am_ins 2 33 = (33, 3, 1, 0, []) := by decide +kernel
theorem d2_33 : decode (am_cod 2) 33 = .ok (.aload_n 3, 1) := by decide +kernel
theorem s2_33 (K : aK) : am_Snd K 2 33 := sn_aload_n i2_33 d2_33 rfl
theorem i2_34 : am_ins 2 34 = (15, 42, 0, 0, []) := by decide +kernel
theorem d2_34 : decode (am_cod 2) 34 = .ok (.ifnull 8, 3) := by decide +kernel
theorem s2_34 (K : aK) : am_Snd K 2 34 := sn_ifnull i2_34 d2_34 rfl
theorem i2_37 : am_ins 2 37 = (33, 2, 1, 0, []) := by decide +kernel
theorem d2_37 : decode (am_cod 2) 37 = .ok (.aload_n 2, 1) := by decide +kernel
theorem s2_37 (K : aK) : am_Snd K 2 37 := sn_aload_n i2_37 d2_37 rfl
theorem i2_38 : am_ins 2 38 = (33, 3, 1, 0, []) := by decide +kernel
theorem d2_38 : decode (am_cod 2) 38 = .ok (.aload_n 3, 1) := by decide +kernel
theorem s2_38 (K : aK) : am_Snd K 2 38 := sn_aload_n i2_38 d2_38 rfl
theorem i2_39 : am_ins 2 39 = (60, 34, 1, 0, []) := by decide +kernel
theorem d2_39 : decode (am_cod 2) 39 = .ok (.invokevirtual 64, 3) := by decide +kernel
theorem s2_39 (K : aK) : am_SndC K 2 39 := sc_V i2_39 d2_39 co34 w_169 w_170 w_171 w_2 rfl (rr := (CN1, FT1, 7)) rfl rfl hd34
theorem i2_42 : am_ins 2 42 = (33, 2, 1, 0, []) := by decide +kernel
theorem d2_42 : decode (am_cod 2) 42 = .ok (.aload_n 2, 1) := by decide +kernel
theorem s2_42 (K : aK) : am_Snd K 2 42 := sn_aload_n i2_42 d2_42 rfl
theorem i2_43 : am_ins 2 43 = (60, 35, 0, 0, []) := by decide +kernel
theorem d2_43 : decode (am_cod 2) 43 = .ok (.invokevirtual 68, 3) := by decide +kernel
theorem s2_43 (K : aK) : am_SndC K 2 43 := sc_V i2_43 d2_43 co35 w_186 w_187 w_188 w_2 rfl (rr := (CN1, FT1, 7)) rfl rfl hd35
theorem i2_46 : am_ins 2 46 = (33, 2, 1, 0, []) := by decide +kernel
theorem d2_46 : decode (am_cod 2) 46 = .ok (.aload_n 2, 1) := by decide +kernel
theorem s2_46 (K : aK) : am_Snd K 2 46 := sn_aload_n i2_46 d2_46 rfl
theorem i2_47 : am_ins 2 47 = (0, 1, 0, 1, []) := by decide +kernel
theorem d2_47 : decode (am_cod 2) 47 = .ok (.iconst 1, 1) := by decide +kernel
theorem s2_47 (K : aK) : am_Snd K 2 47 := sn_const1 i2_47 d2_47 rfl
theorem i2_48 : am_ins 2 48 = (19, 1, 4, 0, []) := by decide +kernel
theorem d2_48 : decode (am_cod 2) 48 = .ok (.putfield 50, 3) := by decide +kernel
theorem s2_48 (K : aK) : am_Snd K 2 48 := sn_puti (ty := .int) (C0 := CN1) (T := FT1) (Nf := 7) (tyf := FY1) i2_48 d2_48 rfl (by decide +kernel) fin1 ftyok1 fnm1 w_52 rfl rfl rfl
theorem i2_51 : am_ins 2 51 = (0, 1, 0, 1, []) := by decide +kernel
theorem d2_51 : decode (am_cod 2) 51 = .ok (.iconst 1, 1) := by decide +kernel
theorem s2_51 (K : aK) : am_Snd K 2 51 := sn_const1 i2_51 d2_51 rfl
theorem i2_52 : am_ins 2 52 = (50, 0, 0, 0, []) := by decide +kernel
theorem d2_52 : decode (am_cod 2) 52 = .ok (.ireturn, 1) := by decide +kernel
theorem s2_52 : am_SndR 2 52 := sn_iret i2_52 d2_52 rfl
theorem al2_0 (K : aK) : ∀ q ∈ [0, 1, 2, 5, 6, 7, 10, 11, 12, 13, 16, 19, 20, 21, 22, 23, 26, 29, 32, 33, 34, 37, 38, 39, 42, 43, 46, 47, 48, 51], am_All K 2 q := List.forall_mem_cons.mpr ⟨am_alS i2_0 (s2_0 K), List.forall_mem_cons.mpr ⟨am_alS i2_1 (s2_1 K), List.forall_mem_cons.mpr ⟨am_alC i2_2 (s2_2 K), List.forall_mem_cons.mpr ⟨am_alS i2_5 (s2_5 K), List.forall_mem_cons.mpr ⟨am_alS i2_6 (s2_6 K), List.forall_mem_cons.mpr ⟨am_alS i2_7 (s2_7 K), List.forall_mem_cons.mpr ⟨am_alS i2_10 (s2_10 K), List.forall_mem_cons.mpr ⟨am_alR i2_11 s2_11, List.forall_mem_cons.mpr ⟨am_alS i2_12 (s2_12 K), List.forall_mem_cons.mpr ⟨am_alS i2_13 (s2_13 K), List.forall_mem_cons.mpr ⟨am_alS i2_16 (s2_16 K), List.forall_mem_cons.mpr ⟨am_alS i2_19 (s2_19 K), List.forall_mem_cons.mpr ⟨am_alR i2_20 s2_20, List.forall_mem_cons.mpr ⟨am_alS i2_21 (s2_21 K), List.forall_mem_cons.mpr ⟨am_alS i2_22 (s2_22 K), List.forall_mem_cons.mpr ⟨am_alS i2_23 (s2_23 K), List.forall_mem_cons.mpr ⟨am_alC i2_26 (s2_26 K), List.forall_mem_cons.mpr ⟨am_alC i2_29 (s2_29 K), List.forall_mem_cons.mpr ⟨am_alS i2_32 (s2_32 K), List.forall_mem_cons.mpr ⟨am_alS i2_33 (s2_33 K), List.forall_mem_cons.mpr ⟨am_alS i2_34 (s2_34 K), List.forall_mem_cons.mpr ⟨am_alS i2_37 (s2_37 K), List.forall_mem_cons.mpr ⟨am_alS i2_38 (s2_38 K), List.forall_mem_cons.mpr ⟨am_alC i2_39 (s2_39 K), List.forall_mem_cons.mpr ⟨am_alS i2_42 (s2_42 K), List.forall_mem_cons.mpr ⟨am_alC i2_43 (s2_43 K), List.forall_mem_cons.mpr ⟨am_alS i2_46 (s2_46 K), List.forall_mem_cons.mpr ⟨am_alS i2_47 (s2_47 K), List.forall_mem_cons.mpr ⟨am_alS i2_48 (s2_48 K), List.forall_mem_cons.mpr ⟨am_alS i2_51 (s2_51 K), fun _ h => absurd h List.not_mem_nil⟩⟩⟩⟩⟩⟩⟩⟩⟩⟩⟩⟩⟩⟩⟩⟩⟩⟩⟩⟩⟩⟩⟩⟩⟩⟩⟩⟩⟩⟩
theorem al2_1 (K : aK) : ∀ q ∈ [52], am_All K 2 q := List.forall_mem_cons.mpr ⟨am_alR i2_52 s2_52, fun _ h => absurd h List.not_mem_nil⟩
set_option maxRecDepth 100000 in
theorem al2 (K : aK) : ∀ q ∈ (am_t2).map (fun z => z.1), am_All K 2 q := by
  have e : (am_t2).map (fun z => z.1) = [0, 1, 2, 5, 6, 7, 10, 11, 12, 13, 16, 19, 20, 21, 22, 23, 26, 29, 32, 33, 34, 37, 38, 39, 42, 43, 46, 47, 48, 51] ++ ([52]) := rfl
  rw [e]
  exact List.forall_mem_append.mpr ⟨al2_0 K, al2_1 K⟩
theorem i3_0 : am_ins 3 0 = (33, 0, 1, 0, []) := by decide +kernel
theorem d3_0 : decode (am_cod 3) 0 = .ok (.aload_n 0, 1) := by decide +kernel
theorem s3_0 (K : aK) : am_Snd K 3 0 := sn_aload_n i3_0 d3_0 rfl
theorem i3_1 : am_ins 3 1 = (1, 1, 1, 0, []) := by decide +kernel
theorem d3_1 : decode (am_cod 3) 1 = .ok (.iload_n 1, 1) := by decide +kernel
theorem s3_1 (K : aK) : am_Snd K 3 1 := sn_iload_n i3_1 d3_1 rfl
theorem i3_2 : am_ins 3 2 = (60, 17, 1, 0, []) := by decide +kernel
theorem d3_2 : decode (am_cod 3) 2 = .ok (.invokevirtual 71, 3) := by decide +kernel
theorem s3_2 (K : aK) : am_SndC K 3 2 := sc_V i3_2 d3_2 co17 w_203 w_205 ws_2 w_1 rfl (rr := (CN0, FT0, 5)) rfl rfl hd17
theorem i3_5 : am_ins 3 5 = (34, 3, 1, 0, []) := by decide +kernel
theorem d3_5 : decode (am_cod 3) 5 = .ok (.astore_n 3, 1) := by decide +kernel
theorem s3_5 (K : aK) : am_Snd K 3 5 := sn_astore_n i3_5 d3_5 rfl (by decide +kernel)
theorem i3_6 : am_ins 3 6 = (33, 3, 1, 0, []) := by decide +kernel
theorem d3_6 : decode (am_cod 3) 6 = .ok (.aload_n 3, 1) := by decide +kernel
theorem s3_6 (K : aK) : am_Snd K 3 6 := sn_aload_n i3_6 d3_6 rfl
theorem i3_7 : am_ins 3 7 = (15, 17, 0, 0, []) := by decide +kernel
theorem d3_7 : decode (am_cod 3) 7 = .ok (.ifnull 10, 3) := by decide +kernel
theorem s3_7 (K : aK) : am_Snd K 3 7 := sn_ifnull i3_7 d3_7 rfl
theorem i3_10 : am_ins 3 10 = (1, 2, 1, 0, []) := by decide +kernel
theorem d3_10 : decode (am_cod 3) 10 = .ok (.iload_n 2, 1) := by decide +kernel
theorem s3_10 (K : aK) : am_Snd K 3 10 := sn_iload_n i3_10 d3_10 rfl
theorem i3_11 : am_ins 3 11 = (61, 22, 1, 0, []) := by decide +kernel
theorem d3_11 : decode (am_cod 3) 11 = .ok (.invokestatic 74, 3) := by decide +kernel
theorem s3_11 (K : aK) : am_SndC K 3 11 := sc_S i3_11 d3_11 co22 w_207 w_208 w_1 hd22
theorem i3_14 : am_ins 3 14 = (12, 1, 19, 0, []) := by decide +kernel
theorem d3_14 : decode (am_cod 3) 14 = .ok (.ifCond .ne 5, 3) := by decide +kernel
theorem s3_14 (K : aK) : am_Snd K 3 14 := sn_if_ne i3_14 d3_14 rfl
theorem i3_17 : am_ins 3 17 = (0, 1, 0, (-1), []) := by decide +kernel
theorem d3_17 : decode (am_cod 3) 17 = .ok (.iconst (-1), 1) := by decide +kernel
theorem s3_17 (K : aK) : am_Snd K 3 17 := sn_const1 i3_17 d3_17 rfl
theorem i3_18 : am_ins 3 18 = (50, 0, 0, 0, []) := by decide +kernel
theorem d3_18 : decode (am_cod 3) 18 = .ok (.ireturn, 1) := by decide +kernel
theorem s3_18 : am_SndR 3 18 := sn_iret i3_18 d3_18 rfl
theorem i3_19 : am_ins 3 19 = (33, 3, 1, 0, []) := by decide +kernel
theorem d3_19 : decode (am_cod 3) 19 = .ok (.aload_n 3, 1) := by decide +kernel
theorem s3_19 (K : aK) : am_Snd K 3 19 := sn_aload_n i3_19 d3_19 rfl
theorem i3_20 : am_ins 3 20 = (18, 1, 3, 0, []) := by decide +kernel
theorem d3_20 : decode (am_cod 3) 20 = .ok (.getfield 78, 3) := by decide +kernel
theorem s3_20 (K : aK) : am_Snd K 3 20 := sn_get (C0 := CN1) (T := FT1) (Nf := 7) i3_20 d3_20 rfl (by decide +kernel) fin1 w_51 rfl
theorem i3_23 : am_ins 3 23 = (1, 2, 1, 0, []) := by decide +kernel
theorem d3_23 : decode (am_cod 3) 23 = .ok (.iload_n 2, 1) := by decide +kernel
theorem s3_23 (K : aK) : am_Snd K 3 23 := sn_iload_n i3_23 d3_23 rfl
theorem i3_24 : am_ins 3 24 = (60, 67, 1, 0, []) := by decide +kernel
theorem d3_24 : decode (am_cod 3) 24 = .ok (.invokevirtual 82, 3) := by decide +kernel
theorem s3_24 (K : aK) : am_SndC K 3 24 := sc_V i3_24 d3_24 co67 w_210 w_211 w_212 w_3 rfl (rr := (CN6, FT6, 2)) rfl rfl hd67
theorem i3_27 : am_ins 3 27 = (12, 0, 45, 0, []) := by decide +kernel
theorem d3_27 : decode (am_cod 3) 27 = .ok (.ifCond .eq 18, 3) := by decide +kernel
theorem s3_27 (K : aK) : am_Snd K 3 27 := sn_if_eq i3_27 d3_27 rfl
theorem i3_30 : am_ins 3 30 = (33, 3, 1, 0, []) := by decide +kernel
theorem d3_30 : decode (am_cod 3) 30 = .ok (.aload_n 3, 1) := by decide +kernel
theorem s3_30 (K : aK) : am_Snd K 3 30 := sn_aload_n i3_30 d3_30 rfl
theorem i3_31 : am_ins 3 31 = (33, 3, 1, 0, []) := by decide +kernel
theorem d3_31 : decode (am_cod 3) 31 = .ok (.aload_n 3, 1) := by decide +kernel
theorem s3_31 (K : aK) : am_Snd K 3 31 := sn_aload_n i3_31 d3_31 rfl
theorem i3_32 : am_ins 3 32 = (18, 1, 3, 0, []) := by decide +kernel
theorem d3_32 : decode (am_cod 3) 32 = .ok (.getfield 78, 3) := by decide +kernel
theorem s3_32 (K : aK) : am_Snd K 3 32 := sn_get (C0 := CN1) (T := FT1) (Nf := 7) i3_32 d3_32 rfl (by decide +kernel) fin1 w_51 rfl
theorem i3_35 : am_ins 3 35 = (1, 2, 1, 0, []) := by decide +kernel
theorem d3_35 : decode (am_cod 3) 35 = .ok (.iload_n 2, 1) := by decide +kernel
theorem s3_35 (K : aK) : am_Snd K 3 35 := sn_iload_n i3_35 d3_35 rfl
theorem i3_36 : am_ins 3 36 = (60, 68, 1, 0, []) := by decide +kernel
theorem d3_36 : decode (am_cod 3) 36 = .ok (.invokevirtual 87, 3) := by decide +kernel
theorem s3_36 (K : aK) : am_SndC K 3 36 := sc_V i3_36 d3_36 co68 w_215 w_216 w_217 w_3 rfl (rr := (CN6, FT6, 2)) rfl rfl hd68
theorem i3_39 : am_ins 3 39 = (19, 1, 6, 0, []) := by decide +kernel
theorem d3_39 : decode (am_cod 3) 39 = .ok (.putfield 90, 3) := by decide +kernel
theorem s3_39 (K : aK) : am_Snd K 3 39 := sn_puti (ty := .int) (C0 := CN1) (T := FT1) (Nf := 7) (tyf := FY1) i3_39 d3_39 rfl (by decide +kernel) fin1 ftyok1 fnm1 w_57 rfl rfl rfl
theorem i3_42 : am_ins 3 42 = (0, 2, 0, (-2), []) := by decide +kernel
theorem d3_42 : decode (am_cod 3) 42 = .ok (.bipush (-2), 2) := by decide +kernel
theorem s3_42 (K : aK) : am_Snd K 3 42 := sn_const2 i3_42 d3_42 (by decide +kernel)
theorem i3_44 : am_ins 3 44 = (50, 0, 0, 0, []) := by decide +kernel
theorem d3_44 : decode (am_cod 3) 44 = .ok (.ireturn, 1) := by decide +kernel
theorem s3_44 : am_SndR 3 44 := sn_iret i3_44 d3_44 rfl
theorem i3_45 : am_ins 3 45 = (33, 0, 1, 0, []) := by decide +kernel
theorem d3_45 : decode (am_cod 3) 45 = .ok (.aload_n 0, 1) := by decide +kernel
theorem s3_45 (K : aK) : am_Snd K 3 45 := sn_aload_n i3_45 d3_45 rfl
theorem i3_46 : am_ins 3 46 = (33, 3, 1, 0, []) := by decide +kernel
theorem d3_46 : decode (am_cod 3) 46 = .ok (.aload_n 3, 1) := by decide +kernel
theorem s3_46 (K : aK) : am_Snd K 3 46 := sn_aload_n i3_46 d3_46 rfl
theorem i3_47 : am_ins 3 47 = (1, 2, 1, 0, []) := by decide +kernel
theorem d3_47 : decode (am_cod 3) 47 = .ok (.iload_n 2, 1) := by decide +kernel
theorem s3_47 (K : aK) : am_Snd K 3 47 := sn_iload_n i3_47 d3_47 rfl
theorem i3_48 : am_ins 3 48 = (60, 26, 2, 0, []) := by decide +kernel
theorem d3_48 : decode (am_cod 3) 48 = .ok (.invokevirtual 93, 3) := by decide +kernel
theorem s3_48 (K : aK) : am_SndC K 3 48 := sc_V i3_48 d3_48 co26 w_220 w_222 ws_3 w_1 rfl (rr := (CN0, FT0, 5)) rfl rfl hd26
theorem i3_51 : am_ins 3 51 = (34, 4, 2, 0, []) := by decide +kernel
theorem d3_51 : decode (am_cod 3) 51 = .ok (.astore 4, 2) := by decide +kernel
theorem s3_51 (K : aK) : am_Snd K 3 51 := sn_astore i3_51 d3_51 (by decide +kernel)
theorem i3_53 : am_ins 3 53 = (33, 4, 2, 0, []) := by decide +kernel
theorem d3_53 : decode (am_cod 3) 53 = .ok (.aload 4, 2) := by decide +kernel
theorem s3_53 (K : aK) : am_Snd K 3 53 := sn_aload i3_53 d3_53 
theorem i3_55 : am_ins 3 55 = (16, 66, 0, 0, []) := by decide +kernel
theorem d3_55 : decode (am_cod 3) 55 = .ok (.ifnonnull 11, 3) := by decide +kernel
theorem s3_55 (K : aK) : am_Snd K 3 55 := sn_ifnonnull i3_55 d3_55 rfl
theorem i3_58 : am_ins 3 58 = (33, 3, 1, 0, []) := by decide +kernel
theorem d3_58 : decode (am_cod 3) 58 = .ok (.aload_n 3, 1) := by decide +kernel
theorem s3_58 (K : aK) : am_Snd K 3 58 := sn_aload_n i3_58 d3_58 rfl
theorem i3_59 : am_ins 3 59 = (0, 1, 0, 0, []) := by decide +kernel
theorem d3_59 : decode (am_cod 3) 59 = .ok (.iconst 0, 1) := by decide +kernel
theorem s3_59 (K : aK) : am_Snd K 3 59 := sn_const1 i3_59 d3_59 rfl
theorem i3_60 : am_ins 3 60 = (19, 1, 6, 0, []) := by decide +kernel
theorem d3_60 : decode (am_cod 3) 60 = .ok (.putfield 90, 3) := by decide +kernel
theorem s3_60 (K : aK) : am_Snd K 3 60 := sn_puti (ty := .int) (C0 := CN1) (T := FT1) (Nf := 7) (tyf := FY1) i3_60 d3_60 rfl (by decide +kernel) fin1 ftyok1 fnm1 w_57 rfl rfl rfl
theorem i3_63 : am_ins 3 63 = (0, 2, 0, (-3), []) := by decide +kernel
theorem d3_63 : decode (am_cod 3) 63 = .ok (.bipush (-3), 2) := by decide +kernel
theorem s3_63 (K : aK) : am_Snd K 3 63 := sn_const2 i3_63 d3_63 (by decide +kernel)
theorem i3_65 : am_ins 3 65 = (50, 0, 0, 0, []) := by decide +kernel
theorem d3_65 : decode (am_cod 3) 65 = .ok (.ireturn, 1) := by decide +kernel
theorem s3_65 : am_SndR 3 65 := sn_iret i3_65 d3_65 rfl
theorem i3_66 : am_ins 3 66 = (33, 3, 1, 0, []) := by decide +kernel
theorem d3_66 : decode (am_cod 3) 66 = .ok (.aload_n 3, 1) := by decide +kernel
theorem s3_66 (K : aK) : am_Snd K 3 66 := sn_aload_n i3_66 d3_66 rfl
theorem i3_67 : am_ins 3 67 = (33, 4, 2, 0, []) := by decide +kernel
theorem d3_67 : decode (am_cod 3) 67 = .ok (.aload 4, 2) := by decide +kernel
theorem s3_67 (K : aK) : am_Snd K 3 67 := sn_aload i3_67 d3_67 
theorem i3_69 : am_ins 3 69 = (18, 5, 5, 0, []) := by decide +kernel
theorem d3_69 : decode (am_cod 3) 69 = .ok (.getfield 97, 3) := by decide +kernel
theorem s3_69 (K : aK) : am_Snd K 3 69 := sn_get (C0 := CN5) (T := FT5) (Nf := 8) i3_69 d3_69 rfl (by decide +kernel) fin5 w_289 rfl
theorem i3_72 : am_ins 3 72 = (1, 2, 1, 0, []) := by decide +kernel
theorem d3_72 : decode (am_cod 3) 72 = .ok (.iload_n 2, 1) := by decide +kernel
theorem s3_72 (K : aK) : am_Snd K 3 72 := sn_iload_n i3_72 d3_72 rfl
theorem i3_73 : am_ins 3 73 = (60, 68, 1, 0, []) := by decide +kernel
theorem d3_73 : decode (am_cod 3) 73 = .ok (.invokevirtual 87, 3) := by decide +kernel
theorem s3_73 (K : aK) : am_SndC K 3 73 := sc_V i3_73 d3_73 co68 w_215 w_216 w_217 w_3 rfl (rr := (CN6, FT6, 2)) rfl rfl hd68
theorem i3_76 : am_ins 3 76 = (19, 1, 6, 0, []) := by decide +kernel
theorem d3_76 : decode (am_cod 3) 76 = .ok (.putfield 90, 3) := by decide +kernel
theorem s3_76 (K : aK) : am_Snd K 3 76 := sn_puti (ty := .int) (C0 := CN1) (T := FT1) (Nf := 7) (tyf := FY1) i3_76 d3_76 rfl (by decide +kernel) fin1 ftyok1 fnm1 w_57 rfl rfl rfl
theorem i3_79 : am_ins 3 79 = (33, 4, 2, 0, []) := by decide +kernel
theorem d3_79 : decode (am_cod 3) 79 = .ok (.aload 4, 2) := by decide +kernel
theorem s3_79 (K : aK) : am_Snd K 3 79 := sn_aload i3_79 d3_79 
theorem i3_81 : am_ins 3 81 = (18, 5, 0, 0, []) := by decide +kernel
theorem d3_81 : decode (am_cod 3) 81 = .ok (.getfield 98, 3) := by decide +kernel
theorem s3_81 (K : aK) : am_Snd K 3 81 := sn_get (C0 := CN5) (T := FT5) (Nf := 8) i3_81 d3_81 rfl (by decide +kernel) fin5 w_278 rfl
theorem i3_84 : am_ins 3 84 = (50, 0, 0, 0, []) := by decide +kernel
theorem d3_84 : decode (am_cod 3) 84 = .ok (.ireturn, 1) := by decide +kernel
theorem s3_84 : am_SndR 3 84 := sn_iret i3_84 d3_84 rfl
theorem al3_0 (K : aK) : ∀ q ∈ [0, 1, 2, 5, 6, 7, 10, 11, 14, 17, 18, 19, 20, 23, 24, 27, 30, 31, 32, 35, 36, 39, 42, 44, 45, 46, 47, 48, 51, 53], am_All K 3 q := List.forall_mem_cons.mpr ⟨am_alS i3_0 (s3_0 K), List.forall_mem_cons.mpr ⟨am_alS i3_1 (s3_1 K), List.forall_mem_cons.mpr ⟨am_alC i3_2 (s3_2 K), List.forall_mem_cons.mpr ⟨am_alS i3_5 (s3_5 K), List.forall_mem_cons.mpr ⟨am_alS i3_6 (s3_6 K), List.forall_mem_cons.mpr ⟨am_alS i3_7 (s3_7 K), List.forall_mem_cons.mpr ⟨am_alS i3_10 (s3_10 K), List.forall_mem_cons.mpr ⟨am_alC i3_11 (s3_11 K), List.forall_mem_cons.mpr ⟨am_alS i3_14 (s3_14 K), List.forall_mem_cons.mpr ⟨am_alS i3_17 (s3_17 K), List.forall_mem_cons.mpr ⟨am_alR i3_18 s3_18, List.forall_mem_cons.mpr ⟨am_alS i3_19 (s3_19 K), List.forall_mem_cons.mpr ⟨am_alS i3_20 (s3_20 K), List.forall_mem_cons.mpr ⟨am_alS i3_23 (s3_23 K), List.forall_mem_cons.mpr ⟨am_alC i3_24 (s3_24 K), List.forall_mem_cons.mpr ⟨am_alS i3_27 (s3_27 K), List.forall_mem_cons.mpr ⟨am_alS i3_30 (s3_30 K), List.forall_mem_cons.mpr ⟨am_alS i3_31 (s3_31 K), List.forall_mem_cons.mpr ⟨am_alS i3_32 (s3_32 K), List.forall_mem_cons.mpr ⟨am_alS i3_35 (s3_35 K), List.forall_mem_cons.mpr ⟨am_alC i3_36 (s3_36 K), List.forall_mem_cons.mpr ⟨am_alS i3_39 (s3_39 K), List.forall_mem_cons.mpr ⟨am_alS i3_42 (s3_42 K), List.forall_mem_cons.mpr ⟨am_alR i3_44 s3_44, List.forall_mem_cons.mpr ⟨am_alS i3_45 (s3_45 K), List.forall_mem_cons.mpr ⟨am_alS i3_46 (s3_46 K), List.forall_mem_cons.mpr ⟨am_alS i3_47 (s3_47 K), List.forall_mem_cons.mpr ⟨am_alC i3_48 (s3_48 K), List.forall_mem_cons.mpr ⟨am_alS i3_51 (s3_51 K), List.forall_mem_cons.mpr ⟨am_alS i3_53 (s3_53 K), fun _ h => absurd h List.not_mem_nil⟩⟩⟩⟩⟩⟩⟩⟩⟩⟩⟩⟩⟩⟩⟩⟩⟩⟩⟩⟩⟩⟩⟩⟩⟩⟩⟩⟩⟩⟩
theorem al3_1 (K : aK) : ∀ q ∈ [55, 58, 59, 60, 63, 65, 66, 67, 69, 72, 73, 76, 79, 81, 84], am_All K 3 q := List.forall_mem_cons.mpr ⟨am_alS i3_55 (s3_55 K), List.forall_mem_cons.mpr ⟨am_alS i3_58 (s3_58 K), List.forall_mem_cons.mpr ⟨am_alS i3_59 (s3_59 K), List.forall_mem_cons.mpr ⟨am_alS i3_60 (s3_60 K), List.forall_mem_cons.mpr ⟨am_alS i3_63 (s3_63 K), List.forall_mem_cons.mpr ⟨am_alR i3_65 s3_65, List.forall_mem_cons.mpr ⟨am_alS i3_66 (s3_66 K), List.forall_mem_cons.mpr ⟨am_alS i3_67 (s3_67 K), List.forall_mem_cons.mpr ⟨am_alS i3_69 (s3_69 K), List.forall_mem_cons.mpr ⟨am_alS i3_72 (s3_72 K), List.forall_mem_cons.mpr ⟨am_alC i3_73 (s3_73 K), List.forall_mem_cons.mpr ⟨am_alS i3_76 (s3_76 K), List.forall_mem_cons.mpr ⟨am_alS i3_79 (s3_79 K), List.forall_mem_cons.mpr ⟨am_alS i3_81 (s3_81 K), List.forall_mem_cons.mpr ⟨am_alR i3_84 s3_84, fun _ h => absurd h List.not_mem_nil⟩⟩⟩⟩⟩⟩⟩⟩⟩⟩⟩⟩⟩⟩⟩
set_option maxRecDepth 100000 in
theorem al3 (K : aK) : ∀ q ∈ (am_t3).map (fun z => z.1), am_All K 3 q := by
  have e : (am_t3).map (fun z => z.1) = [0, 1, 2, 5, 6, 7, 10, 11, 14, 17, 18, 19, 20, 23, 24, 27, 30, 31, 32, 35, 36, 39, 42, 44, 45, 46, 47, 48, 51, 53] ++ ([55, 58, 59, 60, 63, 65, 66, 67, 69, 72, 73, 76, 79, 81, 84]) := rfl
  rw [e]
  exact List.forall_mem_append.mpr ⟨al3_0 K, al3_1 K⟩
theorem i4_0 : am_ins 4 0 = (33, 0, 1, 0, []) := by decide +kernel
theorem d4_0 : decode (am_cod 4) 0 = .ok (.aload_n 0, 1) := by decide +kernel
theorem s4_0 (K : aK) : am_Snd K 4 0 := sn_aload_n i4_0 d4_0 rfl
theorem i4_1 : am_ins 4 1 = (1, 1, 1, 0, []) := by decide +kernel
theorem d4_1 : decode (am_cod 4) 1 = .ok (.iload_n 1, 1) := by decide +kernel
theorem s4_1 (K : aK) : am_Snd K 4 1 := sn_iload_n i4_1 d4_1 rfl
theorem i4_2 : am_ins 4 2 = (60, 16, 1, 0, []) := by decide +kernel
theorem d4_2 : decode (am_cod 4) 2 = .ok (.invokevirtual 46, 3) := by decide +kernel
theorem s4_2 (K : aK) : am_SndC K 4 2 := sc_V i4_2 d4_2 co16 w_158 w_160 ws_0 w_1 rfl (rr := (CN0, FT0, 5)) rfl rfl hd16
theorem i4_5 : am_ins 4 5 = (34, 2, 1, 0, []) := by decide +kernel
theorem d4_5 : decode (am_cod 4) 5 = .ok (.astore_n 2, 1) := by decide +kernel
theorem s4_5 (K : aK) : am_Snd K 4 5 := sn_astore_n i4_5 d4_5 rfl (by decide +kernel)
theorem i4_6 : am_ins 4 6 = (33, 2, 1, 0, []) := by decide +kernel
theorem d4_6 : decode (am_cod 4) 6 = .ok (.aload_n 2, 1) := by decide +kernel
theorem s4_6 (K : aK) : am_Snd K 4 6 := sn_aload_n i4_6 d4_6 rfl
theorem i4_7 : am_ins 4 7 = (16, 14, 0, 0, []) := by decide +kernel
theorem d4_7 : decode (am_cod 4) 7 = .ok (.ifnonnull 7, 3) := by decide +kernel
theorem s4_7 (K : aK) : am_Snd K 4 7 := sn_ifnonnull i4_7 d4_7 rfl
theorem i4_10 : am_ins 4 10 = (0, 1, 0, 0, []) := by decide +kernel
theorem d4_10 : decode (am_cod 4) 10 = .ok (.iconst 0, 1) := by decide +kernel
theorem s4_10 (K : aK) : am_Snd K 4 10 := sn_const1 i4_10 d4_10 rfl
theorem i4_11 : am_ins 4 11 = (14, 18, 0, 0, []) := by decide +kernel
theorem d4_11 : decode (am_cod 4) 11 = .ok (.goto 7, 3) := by decide +kernel
theorem s4_11 (K : aK) : am_Snd K 4 11 := sn_goto i4_11 d4_11 rfl
theorem i4_14 : am_ins 4 14 = (33, 2, 1, 0, []) := by decide +kernel
theorem d4_14 : decode (am_cod 4) 14 = .ok (.aload_n 2, 1) := by decide +kernel
theorem s4_14 (K : aK) : am_Snd K 4 14 := sn_aload_n i4_14 d4_14 rfl
theorem i4_15 : am_ins 4 15 = (18, 1, 6, 0, []) := by decide +kernel
theorem d4_15 : decode (am_cod 4) 15 = .ok (.getfield 90, 3) := by decide +kernel
theorem s4_15 (K : aK) : am_Snd K 4 15 := sn_get (C0 := CN1) (T := FT1) (Nf := 7) i4_15 d4_15 rfl (by decide +kernel) fin1 w_57 rfl
theorem i4_18 : am_ins 4 18 = (50, 0, 0, 0, []) := by decide +kernel
theorem d4_18 : decode (am_cod 4) 18 = .ok (.ireturn, 1) := by decide +kernel
theorem s4_18 : am_SndR 4 18 := sn_iret i4_18 d4_18 rfl
theorem al4_0 (K : aK) : ∀ q ∈ [0, 1, 2, 5, 6, 7, 10, 11, 14, 15, 18], am_All K 4 q := List.forall_mem_cons.mpr ⟨am_alS i4_0 (s4_0 K), List.forall_mem_cons.mpr ⟨am_alS i4_1 (s4_1 K), List.forall_mem_cons.mpr ⟨am_alC i4_2 (s4_2 K), List.forall_mem_cons.mpr ⟨am_alS i4_5 (s4_5 K), List.forall_mem_cons.mpr ⟨am_alS i4_6 (s4_6 K), List.forall_mem_cons.mpr ⟨am_alS i4_7 (s4_7 K), List.forall_mem_cons.mpr ⟨am_alS i4_10 (s4_10 K), List.forall_mem_cons.mpr ⟨am_alS i4_11 (s4_11 K), List.forall_mem_cons.mpr ⟨am_alS i4_14 (s4_14 K), List.forall_mem_cons.mpr ⟨am_alS i4_15 (s4_15 K), List.forall_mem_cons.mpr ⟨am_alR i4_18 s4_18, fun _ h => absurd h List.not_mem_nil⟩⟩⟩⟩⟩⟩⟩⟩⟩⟩⟩
set_option maxRecDepth 100000 in
theorem al4 (K : aK) : ∀ q ∈ (am_t4).map (fun z => z.1), am_All K 4 q := by
  have e : (am_t4).map (fun z => z.1) = [0, 1, 2, 5, 6, 7, 10, 11, 14, 15, 18] := rfl
  rw [e]
  exact al4_0 K
theorem i5_0 : am_ins 5 0 = (33, 0, 1, 0, []) := by decide +kernel
theorem d5_0 : decode (am_cod 5) 0 = .ok (.aload_n 0, 1) := by decide +kernel
theorem s5_0 (K : aK) : am_Snd K 5 0 := sn_aload_n i5_0 d5_0 rfl
theorem i5_1 : am_ins 5 1 = (1, 1, 1, 0, []) := by decide +kernel
theorem d5_1 : decode (am_cod 5) 1 = .ok (.iload_n 1, 1) := by decide +kernel
theorem s5_1 (K : aK) : am_Snd K 5 1 := sn_iload_n i5_1 d5_1 rfl
theorem i5_2 : am_ins 5 2 = (60, 17, 1, 0, []) := by decide +kernel
theorem d5_2 : decode (am_cod 5) 2 = .ok (.invokevirtual 71, 3) := by decide +kernel
theorem s5_2 (K : aK) : am_SndC K 5 2 := sc_V i5_2 d5_2 co17 w_203 w_205 ws_2 w_1 rfl (rr := (CN0, FT0, 5)) rfl rfl hd17
theorem i5_5 : am_ins 5 5 = (34, 4, 2, 0, []) := by decide +kernel
theorem d5_5 : decode (am_cod 5) 5 = .ok (.astore 4, 2) := by decide +kernel
theorem s5_5 (K : aK) : am_Snd K 5 5 := sn_astore i5_5 d5_5 (by decide +kernel)
theorem i5_7 : am_ins 5 7 = (33, 4, 2, 0, []) := by decide +kernel
theorem d5_7 : decode (am_cod 5) 7 = .ok (.aload 4, 2) := by decide +kernel
theorem s5_7 (K : aK) : am_Snd K 5 7 := sn_aload i5_7 d5_7 
theorem i5_9 : am_ins 5 9 = (15, 19, 0, 0, []) := by decide +kernel
theorem d5_9 : decode (am_cod 5) 9 = .ok (.ifnull 10, 3) := by decide +kernel
theorem s5_9 (K : aK) : am_Snd K 5 9 := sn_ifnull i5_9 d5_9 rfl
theorem i5_12 : am_ins 5 12 = (1, 2, 1, 0, []) := by decide +kernel
theorem d5_12 : decode (am_cod 5) 12 = .ok (.iload_n 2, 1) := by decide +kernel
theorem s5_12 (K : aK) : am_Snd K 5 12 := sn_iload_n i5_12 d5_12 rfl
theorem i5_13 : am_ins 5 13 = (61, 22, 1, 0, []) := by decide +kernel
theorem d5_13 : decode (am_cod 5) 13 = .ok (.invokestatic 74, 3) := by decide +kernel
theorem s5_13 (K : aK) : am_SndC K 5 13 := sc_S i5_13 d5_13 co22 w_207 w_208 w_1 hd22
theorem i5_16 : am_ins 5 16 = (12, 1, 21, 0, []) := by decide +kernel
theorem d5_16 : decode (am_cod 5) 16 = .ok (.ifCond .ne 5, 3) := by decide +kernel
theorem s5_16 (K : aK) : am_Snd K 5 16 := sn_if_ne i5_16 d5_16 rfl
theorem i5_19 : am_ins 5 19 = (0, 1, 0, 0, []) := by decide +kernel
theorem d5_19 : decode (am_cod 5) 19 = .ok (.iconst 0, 1) := by decide +kernel
theorem s5_19 (K : aK) : am_Snd K 5 19 := sn_const1 i5_19 d5_19 rfl
theorem i5_20 : am_ins 5 20 = (51, 0, 0, 0, []) := by decide +kernel
theorem d5_20 : decode (am_cod 5) 20 = .ok (.ireturn, 1) := by decide +kernel
theorem s5_20 : am_SndR 5 20 := sn_zret i5_20 d5_20 rfl
theorem i5_21 : am_ins 5 21 = (33, 4, 2, 0, []) := by decide +kernel
theorem d5_21 : decode (am_cod 5) 21 = .ok (.aload 4, 2) := by decide +kernel
theorem s5_21 (K : aK) : am_Snd K 5 21 := sn_aload i5_21 d5_21 
theorem i5_23 : am_ins 5 23 = (18, 1, 3, 0, []) := by decide +kernel
theorem d5_23 : decode (am_cod 5) 23 = .ok (.getfield 78, 3) := by decide +kernel
theorem s5_23 (K : aK) : am_Snd K 5 23 := sn_get (C0 := CN1) (T := FT1) (Nf := 7) i5_23 d5_23 rfl (by decide +kernel) fin1 w_51 rfl
theorem i5_26 : am_ins 5 26 = (1, 2, 1, 0, []) := by decide +kernel
theorem d5_26 : decode (am_cod 5) 26 = .ok (.iload_n 2, 1) := by decide +kernel
theorem s5_26 (K : aK) : am_Snd K 5 26 := sn_iload_n i5_26 d5_26 rfl
theorem i5_27 : am_ins 5 27 = (1, 3, 1, 0, []) := by decide +kernel
theorem d5_27 : decode (am_cod 5) 27 = .ok (.iload_n 3, 1) := by decide +kernel
theorem s5_27 (K : aK) : am_Snd K 5 27 := sn_iload_n i5_27 d5_27 rfl
theorem i5_28 : am_ins 5 28 = (60, 65, 2, 0, []) := by decide +kernel
theorem d5_28 : decode (am_cod 5) 28 = .ok (.invokevirtual 101, 3) := by decide +kernel
theorem s5_28 (K : aK) : am_SndC K 5 28 := sc_V i5_28 d5_28 co65 w_247 w_248 w_249 w_3 rfl (rr := (CN6, FT6, 2)) rfl rfl hd65
theorem i5_31 : am_ins 5 31 = (0, 1, 0, 1, []) := by decide +kernel
theorem d5_31 : decode (am_cod 5) 31 = .ok (.iconst 1, 1) := by decide +kernel
theorem s5_31 (K : aK) : am_Snd K 5 31 := sn_const1 i5_31 d5_31 rfl
theorem i5_32 : am_ins 5 32 = (51, 0, 0, 0, []) := by decide +kernel
theorem d5_32 : decode (am_cod 5) 32 = .ok (.ireturn, 1) := by decide +kernel
theorem s5_32 : am_SndR 5 32 := sn_zret i5_32 d5_32 rfl
theorem al5_0 (K : aK) : ∀ q ∈ [0, 1, 2, 5, 7, 9, 12, 13, 16, 19, 20, 21, 23, 26, 27, 28, 31, 32], am_All K 5 q := List.forall_mem_cons.mpr ⟨am_alS i5_0 (s5_0 K), List.forall_mem_cons.mpr ⟨am_alS i5_1 (s5_1 K), List.forall_mem_cons.mpr ⟨am_alC i5_2 (s5_2 K), List.forall_mem_cons.mpr ⟨am_alS i5_5 (s5_5 K), List.forall_mem_cons.mpr ⟨am_alS i5_7 (s5_7 K), List.forall_mem_cons.mpr ⟨am_alS i5_9 (s5_9 K), List.forall_mem_cons.mpr ⟨am_alS i5_12 (s5_12 K), List.forall_mem_cons.mpr ⟨am_alC i5_13 (s5_13 K), List.forall_mem_cons.mpr ⟨am_alS i5_16 (s5_16 K), List.forall_mem_cons.mpr ⟨am_alS i5_19 (s5_19 K), List.forall_mem_cons.mpr ⟨am_alR i5_20 s5_20, List.forall_mem_cons.mpr ⟨am_alS i5_21 (s5_21 K), List.forall_mem_cons.mpr ⟨am_alS i5_23 (s5_23 K), List.forall_mem_cons.mpr ⟨am_alS i5_26 (s5_26 K), List.forall_mem_cons.mpr ⟨am_alS i5_27 (s5_27 K), List.forall_mem_cons.mpr ⟨am_alC i5_28 (s5_28 K), List.forall_mem_cons.mpr ⟨am_alS i5_31 (s5_31 K), List.forall_mem_cons.mpr ⟨am_alR i5_32 s5_32, fun _ h => absurd h List.not_mem_nil⟩⟩⟩⟩⟩⟩⟩⟩⟩⟩⟩⟩⟩⟩⟩⟩⟩⟩
set_option maxRecDepth 100000 in
theorem al5 (K : aK) : ∀ q ∈ (am_t5).map (fun z => z.1), am_All K 5 q := by
  have e : (am_t5).map (fun z => z.1) = [0, 1, 2, 5, 7, 9, 12, 13, 16, 19, 20, 21, 23, 26, 27, 28, 31, 32] := rfl
  rw [e]
  exact al5_0 K
theorem i6_0 : am_ins 6 0 = (33, 0, 1, 0, []) := by decide +kernel
theorem d6_0 : decode (am_cod 6) 0 = .ok (.aload_n 0, 1) := by decide +kernel
theorem s6_0 (K : aK) : am_Snd K 6 0 := sn_aload_n i6_0 d6_0 rfl
theorem i6_1 : am_ins 6 1 = (1, 1, 1, 0, []) := by decide +kernel
theorem d6_1 : decode (am_cod 6) 1 = .ok (.iload_n 1, 1) := by decide +kernel
theorem s6_1 (K : aK) : am_Snd K 6 1 := sn_iload_n i6_1 d6_1 rfl
theorem i6_2 : am_ins 6 2 = (60, 17, 1, 0, []) := by decide +kernel
theorem d6_2 : decode (am_cod 6) 2 = .ok (.invokevirtual 71, 3) := by decide +kernel
theorem s6_2 (K : aK) : am_SndC K 6 2 := sc_V i6_2 d6_2 co17 w_203 w_205 ws_2 w_1 rfl (rr := (CN0, FT0, 5)) rfl rfl hd17
theorem i6_5 : am_ins 6 5 = (34, 2, 1, 0, []) := by decide +kernel
theorem d6_5 : decode (am_cod 6) 5 = .ok (.astore_n 2, 1) := by decide +kernel
theorem s6_5 (K : aK) : am_Snd K 6 5 := sn_astore_n i6_5 d6_5 rfl (by decide +kernel)
theorem i6_6 : am_ins 6 6 = (33, 2, 1, 0, []) := by decide +kernel
theorem d6_6 : decode (am_cod 6) 6 = .ok (.aload_n 2, 1) := by decide +kernel
theorem s6_6 (K : aK) : am_Snd K 6 6 := sn_aload_n i6_6 d6_6 rfl
theorem i6_7 : am_ins 6 7 = (16, 12, 0, 0, []) := by decide +kernel
theorem d6_7 : decode (am_cod 6) 7 = .ok (.ifnonnull 5, 3) := by decide +kernel
theorem s6_7 (K : aK) : am_Snd K 6 7 := sn_ifnonnull i6_7 d6_7 rfl
theorem i6_10 : am_ins 6 10 = (0, 1, 0, (-1), []) := by decide +kernel
theorem d6_10 : decode (am_cod 6) 10 = .ok (.iconst (-1), 1) := by decide +kernel
theorem s6_10 (K : aK) : am_Snd K 6 10 := sn_const1 i6_10 d6_10 rfl
theorem i6_11 : am_ins 6 11 = (50, 0, 0, 0, []) := by decide +kernel
theorem d6_11 : decode (am_cod 6) 11 = .ok (.ireturn, 1) := by decide +kernel
theorem s6_11 : am_SndR 6 11 := sn_iret i6_11 d6_11 rfl
theorem i6_12 : am_ins 6 12 = (33, 2, 1, 0, []) := by decide +kernel
theorem d6_12 : decode (am_cod 6) 12 = .ok (.aload_n 2, 1) := by decide +kernel
theorem s6_12 (K : aK) : am_Snd K 6 12 := sn_aload_n i6_12 d6_12 rfl
theorem i6_13 : am_ins 6 13 = (18, 1, 3, 0, []) := by decide +kernel
theorem d6_13 : decode (am_cod 6) 13 = .ok (.getfield 78, 3) := by decide +kernel
theorem s6_13 (K : aK) : am_Snd K 6 13 := sn_get (C0 := CN1) (T := FT1) (Nf := 7) i6_13 d6_13 rfl (by decide +kernel) fin1 w_51 rfl
theorem i6_16 : am_ins 6 16 = (60, 69, 0, 0, []) := by decide +kernel
theorem d6_16 : decode (am_cod 6) 16 = .ok (.invokevirtual 105, 3) := by decide +kernel
theorem s6_16 (K : aK) : am_SndC K 6 16 := sc_V i6_16 d6_16 co69 w_255 w_256 w_257 w_3 rfl (rr := (CN6, FT6, 2)) rfl rfl hd69
theorem i6_19 : am_ins 6 19 = (12, 1, 30, 0, []) := by decide +kernel
theorem d6_19 : decode (am_cod 6) 19 = .ok (.ifCond .ne 11, 3) := by decide +kernel
theorem s6_19 (K : aK) : am_Snd K 6 19 := sn_if_ne i6_19 d6_19 rfl
theorem i6_22 : am_ins 6 22 = (33, 2, 1, 0, []) := by decide +kernel
theorem d6_22 : decode (am_cod 6) 22 = .ok (.aload_n 2, 1) := by decide +kernel
theorem s6_22 (K : aK) : am_Snd K 6 22 := sn_aload_n i6_22 d6_22 rfl
theorem i6_23 : am_ins 6 23 = (0, 1, 0, 0, []) := by decide +kernel
theorem d6_23 : decode (am_cod 6) 23 = .ok (.iconst 0, 1) := by decide +kernel
theorem s6_23 (K : aK) : am_Snd K 6 23 := sn_const1 i6_23 d6_23 rfl
theorem i6_24 : am_ins 6 24 = (19, 1, 4, 0, []) := by decide +kernel
theorem d6_24 : decode (am_cod 6) 24 = .ok (.putfield 50, 3) := by decide +kernel
theorem s6_24 (K : aK) : am_Snd K 6 24 := sn_puti (ty := .int) (C0 := CN1) (T := FT1) (Nf := 7) (tyf := FY1) i6_24 d6_24 rfl (by decide +kernel) fin1 ftyok1 fnm1 w_52 rfl rfl rfl
theorem i6_27 : am_ins 6 27 = (0, 2, 0, (-2), []) := by decide +kernel
theorem d6_27 : decode (am_cod 6) 27 = .ok (.bipush (-2), 2) := by decide +kernel
theorem s6_27 (K : aK) : am_Snd K 6 27 := sn_const2 i6_27 d6_27 (by decide +kernel)
theorem i6_29 : am_ins 6 29 = (50, 0, 0, 0, []) := by decide +kernel
theorem d6_29 : decode (am_cod 6) 29 = .ok (.ireturn, 1) := by decide +kernel
theorem s6_29 : am_SndR 6 29 := sn_iret i6_29 d6_29 rfl
theorem i6_30 : am_ins 6 30 = (33, 0, 1, 0, []) := by decide +kernel
theorem d6_30 : decode (am_cod 6) 30 = .ok (.aload_n 0, 1) := by decide +kernel
theorem s6_30 (K : aK) : am_Snd K 6 30 := sn_aload_n i6_30 d6_30 rfl
theorem i6_31 : am_ins 6 31 = (18, 0, 4, 0, []) := by decide +kernel
theorem d6_31 : decode (am_cod 6) 31 = .ok (.getfield 42, 3) := by decide +kernel
theorem s6_31 (K : aK) : am_Snd K 6 31 := sn_get (C0 := CN0) (T := FT0) (Nf := 5) i6_31 d6_31 rfl (by decide +kernel) fin0 w_142 rfl
theorem i6_34 : am_ins 6 34 = (33, 0, 1, 0, []) := by decide +kernel
theorem d6_34 : decode (am_cod 6) 34 = .ok (.aload_n 0, 1) := by decide +kernel
theorem s6_34 (K : aK) : am_Snd K 6 34 := sn_aload_n i6_34 d6_34 rfl
theorem i6_35 : am_ins 6 35 = (18, 0, 3, 0, []) := by decide +kernel
theorem d6_35 : decode (am_cod 6) 35 = .ok (.getfield 38, 3) := by decide +kernel
theorem s6_35 (K : aK) : am_Snd K 6 35 := sn_get (C0 := CN0) (T := FT0) (Nf := 5) i6_35 d6_35 rfl (by decide +kernel) fin0 w_141 rfl
theorem i6_38 : am_ins 6 38 = (28, 0, 0, 0, []) := by decide +kernel
theorem d6_38 : decode (am_cod 6) 38 = .ok (.arraylength, 1) := by decide +kernel
theorem s6_38 (K : aK) : am_Snd K 6 38 := sn_alen i6_38 d6_38 
theorem i6_39 : am_ins 6 39 = (13, 2, 45, 0, []) := by decide +kernel
theorem d6_39 : decode (am_cod 6) 39 = .ok (.if_icmp .lt 6, 3) := by decide +kernel
theorem s6_39 (K : aK) : am_Snd K 6 39 := sn_icmp_lt i6_39 d6_39 rfl
theorem i6_42 : am_ins 6 42 = (0, 2, 0, (-3), []) := by decide +kernel
theorem d6_42 : decode (am_cod 6) 42 = .ok (.bipush (-3), 2) := by decide +kernel
theorem s6_42 (K : aK) : am_Snd K 6 42 := sn_const2 i6_42 d6_42 (by decide +kernel)
theorem i6_44 : am_ins 6 44 = (50, 0, 0, 0, []) := by decide +kernel
theorem d6_44 : decode (am_cod 6) 44 = .ok (.ireturn, 1) := by decide +kernel
theorem s6_44 : am_SndR 6 44 := sn_iret i6_44 d6_44 rfl
theorem i6_45 : am_ins 6 45 = (29, 5, 0, 0, []) := by decide +kernel
theorem d6_45 : decode (am_cod 6) 45 = .ok (.new 36, 3) := by decide +kernel
theorem s6_45 (K : aK) : am_Snd K 6 45 := sn_new (C0 := CN5) (T := FT5) (Nf := 8) (tyf := FY5) i6_45 d6_45 rfl fin5 ftyok5 w_137 w_259 w_8 rfl fdf5
theorem i6_48 : am_ins 6 48 = (7, 0, 0, 0, []) := by decide +kernel
theorem d6_48 : decode (am_cod 6) 48 = .ok (.dup, 1) := by decide +kernel
theorem s6_48 (K : aK) : am_Snd K 6 48 := sn_dup i6_48 d6_48 
theorem i6_49 : am_ins 6 49 = (33, 0, 1, 0, []) := by decide +kernel
theorem d6_49 : decode (am_cod 6) 49 = .ok (.aload_n 0, 1) := by decide +kernel
theorem s6_49 (K : aK) : am_Snd K 6 49 := sn_aload_n i6_49 d6_49 rfl
theorem i6_50 : am_ins 6 50 = (18, 0, 4, 0, []) := by decide +kernel
theorem d6_50 : decode (am_cod 6) 50 = .ok (.getfield 42, 3) := by decide +kernel
theorem s6_50 (K : aK) : am_Snd K 6 50 := sn_get (C0 := CN0) (T := FT0) (Nf := 5) i6_50 d6_50 rfl (by decide +kernel) fin0 w_142 rfl
theorem i6_53 : am_ins 6 53 = (33, 2, 1, 0, []) := by decide +kernel
theorem d6_53 : decode (am_cod 6) 53 = .ok (.aload_n 2, 1) := by decide +kernel
theorem s6_53 (K : aK) : am_Snd K 6 53 := sn_aload_n i6_53 d6_53 rfl
theorem i6_54 : am_ins 6 54 = (62, 58, 2, 0, []) := by decide +kernel
theorem d6_54 : decode (am_cod 6) 54 = .ok (.invokespecial 109, 3) := by decide +kernel
theorem s6_54 (K : aK) : am_SndC K 6 54 := sc_I i6_54 d6_54 co58 rfl rfl w_260 w_261 w_8 hd58
theorem i6_57 : am_ins 6 57 = (34, 3, 1, 0, []) := by decide +kernel
theorem d6_57 : decode (am_cod 6) 57 = .ok (.astore_n 3, 1) := by decide +kernel
theorem s6_57 (K : aK) : am_Snd K 6 57 := sn_astore_n i6_57 d6_57 rfl (by decide +kernel)
theorem i6_58 : am_ins 6 58 = (33, 0, 1, 0, []) := by decide +kernel
theorem d6_58 : decode (am_cod 6) 58 = .ok (.aload_n 0, 1) := by decide +kernel
theorem s6_58 (K : aK) : am_Snd K 6 58 := sn_aload_n i6_58 d6_58 rfl
theorem i6_59 : am_ins 6 59 = (18, 0, 3, 0, []) := by decide +kernel
theorem d6_59 : decode (am_cod 6) 59 = .ok (.getfield 38, 3) := by decide +kernel
theorem s6_59 (K : aK) : am_Snd K 6 59 := sn_get (C0 := CN0) (T := FT0) (Nf := 5) i6_59 d6_59 rfl (by decide +kernel) fin0 w_141 rfl
theorem i6_62 : am_ins 6 62 = (33, 0, 1, 0, []) := by decide +kernel
theorem d6_62 : decode (am_cod 6) 62 = .ok (.aload_n 0, 1) := by decide +kernel
theorem s6_62 (K : aK) : am_Snd K 6 62 := sn_aload_n i6_62 d6_62 rfl
theorem i6_63 : am_ins 6 63 = (18, 0, 4, 0, []) := by decide +kernel
theorem d6_63 : decode (am_cod 6) 63 = .ok (.getfield 42, 3) := by decide +kernel
theorem s6_63 (K : aK) : am_Snd K 6 63 := sn_get (C0 := CN0) (T := FT0) (Nf := 5) i6_63 d6_63 rfl (by decide +kernel) fin0 w_142 rfl
theorem i6_66 : am_ins 6 66 = (33, 3, 1, 0, []) := by decide +kernel
theorem d6_66 : decode (am_cod 6) 66 = .ok (.aload_n 3, 1) := by decide +kernel
theorem s6_66 (K : aK) : am_Snd K 6 66 := sn_aload_n i6_66 d6_66 rfl
theorem i6_67 : am_ins 6 67 = (27, 0, 0, 0, []) := by decide +kernel
theorem d6_67 : decode (am_cod 6) 67 = .ok (.aastore, 1) := by decide +kernel
theorem s6_67 (K : aK) : am_Snd K 6 67 := sn_aast i6_67 d6_67 
theorem i6_68 : am_ins 6 68 = (33, 0, 1, 0, []) := by decide +kernel
theorem d6_68 : decode (am_cod 6) 68 = .ok (.aload_n 0, 1) := by decide +kernel
theorem s6_68 (K : aK) : am_Snd K 6 68 := sn_aload_n i6_68 d6_68 rfl
theorem i6_69 : am_ins 6 69 = (7, 0, 0, 0, []) := by decide +kernel
theorem d6_69 : decode (am_cod 6) 69 = .ok (.dup, 1) := by decide +kernel
theorem s6_69 (K : aK) : am_Snd K 6 69 := sn_dup i6_69 d6_69 
theorem i6_70 : am_ins 6 70 = (18, 0, 4, 0, []) := by decide +kernel
theorem d6_70 : decode (am_cod 6) 70 = .ok (.getfield 42, 3) := by decide +kernel
theorem s6_70 (K : aK) : am_Snd K 6 70 := sn_get (C0 := CN0) (T := FT0) (Nf := 5) i6_70 d6_70 rfl (by decide +kernel) fin0 w_142 rfl
theorem i6_73 : am_ins 6 73 = (0, 1, 0, 1, []) := by decide +kernel
theorem d6_73 : decode (am_cod 6) 73 = .ok (.iconst 1, 1) := by decide +kernel
theorem s6_73 (K : aK) : am_Snd K 6 73 := sn_const1 i6_73 d6_73 rfl
theorem i6_74 : am_ins 6 74 = (4, 0, 0, 0, []) := by decide +kernel
theorem d6_74 : decode (am_cod 6) 74 = .ok (.iadd, 1) := by decide +kernel
theorem s6_74 (K : aK) : am_Snd K 6 74 := sn_add i6_74 d6_74 
theorem i6_75 : am_ins 6 75 = (19, 0, 4, 0, []) := by decide +kernel
theorem d6_75 : decode (am_cod 6) 75 = .ok (.putfield 42, 3) := by decide +kernel
theorem s6_75 (K : aK) : am_Snd K 6 75 := sn_puti (ty := .int) (C0 := CN0) (T := FT0) (Nf := 5) (tyf := FY0) i6_75 d6_75 rfl (by decide +kernel) fin0 ftyok0 fnm0 w_142 rfl rfl rfl
theorem i6_78 : am_ins 6 78 = (33, 2, 1, 0, []) := by decide +kernel
theorem d6_78 : decode (am_cod 6) 78 = .ok (.aload_n 2, 1) := by decide +kernel
theorem s6_78 (K : aK) : am_Snd K 6 78 := sn_aload_n i6_78 d6_78 rfl
theorem i6_79 : am_ins 6 79 = (0, 1, 0, 2, []) := by decide +kernel
theorem d6_79 : decode (am_cod 6) 79 = .ok (.iconst 2, 1) := by decide +kernel
theorem s6_79 (K : aK) : am_Snd K 6 79 := sn_const1 i6_79 d6_79 rfl
theorem i6_80 : am_ins 6 80 = (19, 1, 4, 0, []) := by decide +kernel
theorem d6_80 : decode (am_cod 6) 80 = .ok (.putfield 50, 3) := by decide +kernel
theorem s6_80 (K : aK) : am_Snd K 6 80 := sn_puti (ty := .int) (C0 := CN1) (T := FT1) (Nf := 7) (tyf := FY1) i6_80 d6_80 rfl (by decide +kernel) fin1 ftyok1 fnm1 w_52 rfl rfl rfl
theorem i6_83 : am_ins 6 83 = (33, 2, 1, 0, []) := by decide +kernel
theorem d6_83 : decode (am_cod 6) 83 = .ok (.aload_n 2, 1) := by decide +kernel
theorem s6_83 (K : aK) : am_Snd K 6 83 := sn_aload_n i6_83 d6_83 rfl
theorem i6_84 : am_ins 6 84 = (18, 1, 3, 0, []) := by decide +kernel
theorem d6_84 : decode (am_cod 6) 84 = .ok (.getfield 78, 3) := by decide +kernel
theorem s6_84 (K : aK) : am_Snd K 6 84 := sn_get (C0 := CN1) (T := FT1) (Nf := 7) i6_84 d6_84 rfl (by decide +kernel) fin1 w_51 rfl
theorem i6_87 : am_ins 6 87 = (60, 64, 0, 0, []) := by decide +kernel
theorem d6_87 : decode (am_cod 6) 87 = .ok (.invokevirtual 112, 3) := by decide +kernel
theorem s6_87 (K : aK) : am_SndC K 6 87 := sc_V i6_87 d6_87 co64 w_315 w_316 w_317 w_3 rfl (rr := (CN6, FT6, 2)) rfl rfl hd64
theorem i6_90 : am_ins 6 90 = (33, 0, 1, 0, []) := by decide +kernel
theorem d6_90 : decode (am_cod 6) 90 = .ok (.aload_n 0, 1) := by decide +kernel
theorem s6_90 (K : aK) : am_Snd K 6 90 := sn_aload_n i6_90 d6_90 rfl
theorem i6_91 : am_ins 6 91 = (33, 3, 1, 0, []) := by decide +kernel
theorem d6_91 : decode (am_cod 6) 91 = .ok (.aload_n 3, 1) := by decide +kernel
theorem s6_91 (K : aK) : am_Snd K 6 91 := sn_aload_n i6_91 d6_91 rfl
theorem i6_92 : am_ins 6 92 = (60, 27, 1, 0, []) := by decide +kernel
theorem d6_92 : decode (am_cod 6) 92 = .ok (.invokevirtual 115, 3) := by decide +kernel
theorem s6_92 (K : aK) : am_SndC K 6 92 := sc_V i6_92 d6_92 co27 w_319 w_321 ws_4 w_1 rfl (rr := (CN0, FT0, 5)) rfl rfl hd27
theorem i6_95 : am_ins 6 95 = (2, 4, 2, 0, []) := by decide +kernel
theorem d6_95 : decode (am_cod 6) 95 = .ok (.istore 4, 2) := by decide +kernel
theorem s6_95 (K : aK) : am_Snd K 6 95 := sn_istore i6_95 d6_95 (by decide +kernel)
theorem i6_97 : am_ins 6 97 = (1, 4, 2, 0, []) := by decide +kernel
theorem d6_97 : decode (am_cod 6) 97 = .ok (.iload 4, 2) := by decide +kernel
theorem s6_97 (K : aK) : am_Snd K 6 97 := sn_iload i6_97 d6_97 
theorem i6_99 : am_ins 6 99 = (12, 1, 107, 0, []) := by decide +kernel
theorem d6_99 : decode (am_cod 6) 99 = .ok (.ifCond .ne 8, 3) := by decide +kernel
theorem s6_99 (K : aK) : am_Snd K 6 99 := sn_if_ne i6_99 d6_99 rfl
theorem i6_102 : am_ins 6 102 = (33, 0, 1, 0, []) := by decide +kernel
theorem d6_102 : decode (am_cod 6) 102 = .ok (.aload_n 0, 1) := by decide +kernel
theorem s6_102 (K : aK) : am_Snd K 6 102 := sn_aload_n i6_102 d6_102 rfl
theorem i6_103 : am_ins 6 103 = (33, 3, 1, 0, []) := by decide +kernel
theorem d6_103 : decode (am_cod 6) 103 = .ok (.aload_n 3, 1) := by decide +kernel
theorem s6_103 (K : aK) : am_Snd K 6 103 := sn_aload_n i6_103 d6_103 rfl
theorem i6_104 : am_ins 6 104 = (60, 28, 1, 0, []) := by decide +kernel
theorem d6_104 : decode (am_cod 6) 104 = .ok (.invokevirtual 119, 3) := by decide +kernel
theorem s6_104 (K : aK) : am_SndC K 6 104 := sc_V i6_104 d6_104 co28 w_384 w_386 ws_7 w_1 rfl (rr := (CN0, FT0, 5)) rfl rfl hd28
theorem i6_107 : am_ins 6 107 = (33, 3, 1, 0, []) := by decide +kernel
theorem d6_107 : decode (am_cod 6) 107 = .ok (.aload_n 3, 1) := by decide +kernel
theorem s6_107 (K : aK) : am_Snd K 6 107 := sn_aload_n i6_107 d6_107 rfl
theorem i6_108 : am_ins 6 108 = (18, 5, 0, 0, []) := by decide +kernel
theorem d6_108 : decode (am_cod 6) 108 = .ok (.getfield 98, 3) := by decide +kernel
theorem s6_108 (K : aK) : am_Snd K 6 108 := sn_get (C0 := CN5) (T := FT5) (Nf := 8) i6_108 d6_108 rfl (by decide +kernel) fin5 w_278 rfl
theorem i6_111 : am_ins 6 111 = (50, 0, 0, 0, []) := by decide +kernel
theorem d6_111 : decode (am_cod 6) 111 = .ok (.ireturn, 1) := by decide +kernel
theorem s6_111 : am_SndR 6 111 := sn_iret i6_111 d6_111 rfl
theorem al6_0 (K : aK) : ∀ q ∈ [0, 1, 2, 5, 6, 7, 10, 11, 12, 13, 16, 19, 22, 23, 24, 27, 29, 30, 31, 34, 35, 38, 39, 42, 44, 45, 48, 49, 50, 53], am_All K 6 q := List.forall_mem_cons.mpr ⟨am_alS i6_0 (s6_0 K), List.forall_mem_cons.mpr ⟨am_alS i6_1 (s6_1 K), List.forall_mem_cons.mpr ⟨am_alC i6_2 (s6_2 K), List.forall_mem_cons.mpr ⟨am_alS i6_5 (s6_5 K), List.forall_mem_cons.mpr ⟨am_alS i6_6 (s6_6 K), List.forall_mem_cons.mpr ⟨am_alS i6_7 (s6_7 K), List.forall_mem_cons.mpr ⟨am_alS i6_10 (s6_10 K), List.forall_mem_cons.mpr ⟨am_alR i6_11 s6_11, List.forall_mem_cons.mpr ⟨am_alS i6_12 (s6_12 K), List.forall_mem_cons.mpr ⟨am_alS i6_13 (s6_13 K), List.forall_mem_cons.mpr ⟨am_alC i6_16 (s6_16 K), List.forall_mem_cons.mpr ⟨am_alS i6_19 (s6_19 K), List.forall_mem_cons.mpr ⟨am_alS i6_22 (s6_22 K), List.forall_mem_cons.mpr ⟨am_alS i6_23 (s6_23 K), List.forall_mem_cons.mpr ⟨am_alS i6_24 (s6_24 K), List.forall_mem_cons.mpr ⟨am_alS i6_27 (s6_27 K), List.forall_mem_cons.mpr ⟨am_alR i6_29 s6_29, List.forall_mem_cons.mpr ⟨am_alS i6_30 (s6_30 K), List.forall_mem_cons.mpr ⟨am_alS i6_31 (s6_31 K), List.forall_mem_cons.mpr ⟨am_alS i6_34 (s6_34 K), List.forall_mem_cons.mpr ⟨am_alS i6_35 (s6_35 K), List.forall_mem_cons.mpr ⟨am_alS i6_38 (s6_38 K), List.forall_mem_cons.mpr ⟨am_alS i6_39 (s6_39 K), List.forall_mem_cons.mpr ⟨am_alS i6_42 (s6_42 K), List.forall_mem_cons.mpr ⟨am_alR i6_44 s6_44, List.forall_mem_cons.mpr ⟨am_alS i6_45 (s6_45 K), List.forall_mem_cons.mpr ⟨am_alS i6_48 (s6_48 K), List.forall_mem_cons.mpr ⟨am_alS i6_49 (s6_49 K), List.forall_mem_cons.mpr ⟨am_alS i6_50 (s6_50 K), List.forall_mem_cons.mpr ⟨am_alS i6_53 (s6_53 K), fun _ h => absurd h List.not_mem_nil⟩⟩⟩⟩⟩⟩⟩⟩⟩⟩⟩⟩⟩⟩⟩⟩⟩⟩⟩⟩⟩⟩⟩⟩⟩⟩⟩⟩⟩⟩
theorem al6_1 (K : aK) : ∀ q ∈ [54, 57, 58, 59, 62, 63, 66, 67, 68, 69, 70, 73, 74, 75, 78, 79, 80, 83, 84, 87, 90, 91, 92, 95, 97, 99, 102, 103, 104, 107], am_All K 6 q := List.forall_mem_cons.mpr ⟨am_alC i6_54 (s6_54 K), List.forall_mem_cons.mpr ⟨am_alS i6_57 (s6_57 K), List.forall_mem_cons.mpr ⟨am_alS i6_58 (s6_58 K), List.forall_mem_cons.mpr ⟨am_alS i6_59 (s6_59 K), List.forall_mem_cons.mpr ⟨am_alS i6_62 (s6_62 K), List.forall_mem_cons.mpr ⟨am_alS i6_63 (s6_63 K), List.forall_mem_cons.mpr ⟨am_alS i6_66 (s6_66 K), List.forall_mem_cons.mpr ⟨am_alS i6_67 (s6_67 K), List.forall_mem_cons.mpr ⟨am_alS i6_68 (s6_68 K), List.forall_mem_cons.mpr ⟨am_alS i6_69 (s6_69 K), List.forall_mem_cons.mpr ⟨am_alS i6_70 (s6_70 K), List.forall_mem_cons.mpr ⟨am_alS i6_73 (s6_73 K), List.forall_mem_cons.mpr ⟨am_alS i6_74 (s6_74 K), List.forall_mem_cons.mpr ⟨am_alS i6_75 (s6_75 K), List.forall_mem_cons.mpr ⟨am_alS i6_78 (s6_78 K), List.forall_mem_cons.mpr ⟨am_alS i6_79 (s6_79 K), List.forall_mem_cons.mpr ⟨am_alS i6_80 (s6_80 K), List.forall_mem_cons.mpr ⟨am_alS i6_83 (s6_83 K), List.forall_mem_cons.mpr ⟨am_alS i6_84 (s6_84 K), List.forall_mem_cons.mpr ⟨am_alC i6_87 (s6_87 K), List.forall_mem_cons.mpr ⟨am_alS i6_90 (s6_90 K), List.forall_mem_cons.mpr ⟨am_alS i6_91 (s6_91 K), List.forall_mem_cons.mpr ⟨am_alC i6_92 (s6_92 K), List.forall_mem_cons.mpr ⟨am_alS i6_95 (s6_95 K), List.forall_mem_cons.mpr ⟨am_alS i6_97 (s6_97 K), List.forall_mem_cons.mpr ⟨am_alS i6_99 (s6_99 K), List.forall_mem_cons.mpr ⟨am_alS i6_102 (s6_102 K), List.forall_mem_cons.mpr ⟨am_alS i6_103 (s6_103 K), List.forall_mem_cons.mpr ⟨am_alC i6_104 (s6_104 K), List.forall_mem_cons.mpr ⟨am_alS i6_107 (s6_107 K), fun _ h => absurd h List.not_mem_nil⟩⟩⟩⟩⟩⟩⟩⟩⟩⟩⟩⟩⟩⟩⟩⟩⟩⟩⟩⟩⟩⟩⟩⟩⟩⟩⟩⟩⟩⟩
theorem al6_2 (K : aK) : ∀ q ∈ [108, 111], am_All K 6 q := List.forall_mem_cons.mpr ⟨am_alS i6_108 (s6_108 K), List.forall_mem_cons.mpr ⟨am_alR i6_111 s6_111, fun _ h => absurd h List.not_mem_nil⟩⟩
set_option maxRecDepth 100000 in
theorem al6 (K : aK) : ∀ q ∈ (am_t6).map (fun z => z.1), am_All K 6 q := by
  have e : (am_t6).map (fun z => z.1) = [0, 1, 2, 5, 6, 7, 10, 11, 12, 13, 16, 19, 22, 23, 24, 27, 29, 30, 31, 34, 35, 38, 39, 42, 44, 45, 48, 49, 50, 53] ++ ([54, 57, 58, 59, 62, 63, 66, 67, 68, 69, 70, 73, 74, 75, 78, 79, 80, 83, 84, 87, 90, 91, 92, 95, 97, 99, 102, 103, 104, 107] ++ ([108, 111])) := rfl
  rw [e]
  exact List.forall_mem_append.mpr ⟨al6_0 K, List.forall_mem_append.mpr ⟨al6_1 K, al6_2 K⟩⟩
theorem i7_0 : am_ins 7 0 = (33, 0, 1, 0, []) := by decide +kernel
theorem d7_0 : decode (am_cod 7) 0 = .ok (.aload_n 0, 1) := by decide +kernel
theorem s7_0 (K : aK) : am_Snd K 7 0 := sn_aload_n i7_0 d7_0 rfl
theorem i7_1 : am_ins 7 1 = (1, 1, 1, 0, []) := by decide +kernel
theorem d7_1 : decode (am_cod 7) 1 = .ok (.iload_n 1, 1) := by decide +kernel
theorem s7_1 (K : aK) : am_Snd K 7 1 := sn_iload_n i7_1 d7_1 rfl
theorem i7_2 : am_ins 7 2 = (60, 17, 1, 0, []) := by decide +kernel
theorem d7_2 : decode (am_cod 7) 2 = .ok (.invokevirtual 71, 3) := by decide +kernel
theorem s7_2 (K : aK) : am_SndC K 7 2 := sc_V i7_2 d7_2 co17 w_203 w_205 ws_2 w_1 rfl (rr := (CN0, FT0, 5)) rfl rfl hd17
theorem i7_5 : am_ins 7 5 = (34, 2, 1, 0, []) := by decide +kernel
theorem d7_5 : decode (am_cod 7) 5 = .ok (.astore_n 2, 1) := by decide +kernel
theorem s7_5 (K : aK) : am_Snd K 7 5 := sn_astore_n i7_5 d7_5 rfl (by decide +kernel)
theorem i7_6 : am_ins 7 6 = (33, 2, 1, 0, []) := by decide +kernel
theorem d7_6 : decode (am_cod 7) 6 = .ok (.aload_n 2, 1) := by decide +kernel
theorem s7_6 (K : aK) : am_Snd K 7 6 := sn_aload_n i7_6 d7_6 rfl
theorem i7_7 : am_ins 7 7 = (16, 12, 0, 0, []) := by decide +kernel
theorem d7_7 : decode (am_cod 7) 7 = .ok (.ifnonnull 5, 3) := by decide +kernel
theorem s7_7 (K : aK) : am_Snd K 7 7 := sn_ifnonnull i7_7 d7_7 rfl
theorem i7_10 : am_ins 7 10 = (0, 1, 0, 0, []) := by decide +kernel
theorem d7_10 : decode (am_cod 7) 10 = .ok (.iconst 0, 1) := by decide +kernel
theorem s7_10 (K : aK) : am_Snd K 7 10 := sn_const1 i7_10 d7_10 rfl
theorem i7_11 : am_ins 7 11 = (51, 0, 0, 0, []) := by decide +kernel
theorem d7_11 : decode (am_cod 7) 11 = .ok (.ireturn, 1) := by decide +kernel
theorem s7_11 : am_SndR 7 11 := sn_zret i7_11 d7_11 rfl
theorem i7_12 : am_ins 7 12 = (33, 2, 1, 0, []) := by decide +kernel
theorem d7_12 : decode (am_cod 7) 12 = .ok (.aload_n 2, 1) := by decide +kernel
theorem s7_12 (K : aK) : am_Snd K 7 12 := sn_aload_n i7_12 d7_12 rfl
theorem i7_13 : am_ins 7 13 = (18, 1, 3, 0, []) := by decide +kernel
theorem d7_13 : decode (am_cod 7) 13 = .ok (.getfield 78, 3) := by decide +kernel
theorem s7_13 (K : aK) : am_Snd K 7 13 := sn_get (C0 := CN1) (T := FT1) (Nf := 7) i7_13 d7_13 rfl (by decide +kernel) fin1 w_51 rfl
theorem i7_16 : am_ins 7 16 = (60, 64, 0, 0, []) := by decide +kernel
theorem d7_16 : decode (am_cod 7) 16 = .ok (.invokevirtual 112, 3) := by decide +kernel
theorem s7_16 (K : aK) : am_SndC K 7 16 := sc_V i7_16 d7_16 co64 w_315 w_316 w_317 w_3 rfl (rr := (CN6, FT6, 2)) rfl rfl hd64
theorem i7_19 : am_ins 7 19 = (33, 2, 1, 0, []) := by decide +kernel
theorem d7_19 : decode (am_cod 7) 19 = .ok (.aload_n 2, 1) := by decide +kernel
theorem s7_19 (K : aK) : am_Snd K 7 19 := sn_aload_n i7_19 d7_19 rfl
theorem i7_20 : am_ins 7 20 = (0, 1, 0, 0, []) := by decide +kernel
theorem d7_20 : decode (am_cod 7) 20 = .ok (.iconst 0, 1) := by decide +kernel
theorem s7_20 (K : aK) : am_Snd K 7 20 := sn_const1 i7_20 d7_20 rfl
theorem i7_21 : am_ins 7 21 = (19, 1, 4, 0, []) := by decide +kernel
theorem d7_21 : decode (am_cod 7) 21 = .ok (.putfield 50, 3) := by decide +kernel
theorem s7_21 (K : aK) : am_Snd K 7 21 := sn_puti (ty := .int) (C0 := CN1) (T := FT1) (Nf := 7) (tyf := FY1) i7_21 d7_21 rfl (by decide +kernel) fin1 ftyok1 fnm1 w_52 rfl rfl rfl
theorem i7_24 : am_ins 7 24 = (0, 1, 0, 1, []) := by decide +kernel
theorem d7_24 : decode (am_cod 7) 24 = .ok (.iconst 1, 1) := by decide +kernel
theorem s7_24 (K : aK) : am_Snd K 7 24 := sn_const1 i7_24 d7_24 rfl
theorem i7_25 : am_ins 7 25 = (51, 0, 0, 0, []) := by decide +kernel
theorem d7_25 : decode (am_cod 7) 25 = .ok (.ireturn, 1) := by decide +kernel
theorem s7_25 : am_SndR 7 25 := sn_zret i7_25 d7_25 rfl
theorem al7_0 (K : aK) : ∀ q ∈ [0, 1, 2, 5, 6, 7, 10, 11, 12, 13, 16, 19, 20, 21, 24, 25], am_All K 7 q := List.forall_mem_cons.mpr ⟨am_alS i7_0 (s7_0 K), List.forall_mem_cons.mpr ⟨am_alS i7_1 (s7_1 K), List.forall_mem_cons.mpr ⟨am_alC i7_2 (s7_2 K), List.forall_mem_cons.mpr ⟨am_alS i7_5 (s7_5 K), List.forall_mem_cons.mpr ⟨am_alS i7_6 (s7_6 K), List.forall_mem_cons.mpr ⟨am_alS i7_7 (s7_7 K), List.forall_mem_cons.mpr ⟨am_alS i7_10 (s7_10 K), List.forall_mem_cons.mpr ⟨am_alR i7_11 s7_11, List.forall_mem_cons.mpr ⟨am_alS i7_12 (s7_12 K), List.forall_mem_cons.mpr ⟨am_alS i7_13 (s7_13 K), List.forall_mem_cons.mpr ⟨am_alC i7_16 (s7_16 K), List.forall_mem_cons.mpr ⟨am_alS i7_19 (s7_19 K), List.forall_mem_cons.mpr ⟨am_alS i7_20 (s7_20 K), List.forall_mem_cons.mpr ⟨am_alS i7_21 (s7_21 K), List.forall_mem_cons.mpr ⟨am_alS i7_24 (s7_24 K), List.forall_mem_cons.mpr ⟨am_alR i7_25 s7_25, fun _ h => absurd h List.not_mem_nil⟩⟩⟩⟩⟩⟩⟩⟩⟩⟩⟩⟩⟩⟩⟩⟩
set_option maxRecDepth 100000 in
theorem al7 (K : aK) : ∀ q ∈ (am_t7).map (fun z => z.1), am_All K 7 q := by
  have e : (am_t7).map (fun z => z.1) = [0, 1, 2, 5, 6, 7, 10, 11, 12, 13, 16, 19, 20, 21, 24, 25] := rfl
  rw [e]
  exact al7_0 K
theorem i8_0 : am_ins 8 0 = (33, 0, 1, 0, []) := by decide +kernel
theorem d8_0 : decode (am_cod 8) 0 = .ok (.aload_n 0, 1) := by decide +kernel
theorem s8_0 (K : aK) : am_Snd K 8 0 := sn_aload_n i8_0 d8_0 rfl
theorem i8_1 : am_ins 8 1 = (1, 1, 1, 0, []) := by decide +kernel
theorem d8_1 : decode (am_cod 8) 1 = .ok (.iload_n 1, 1) := by decide +kernel
theorem s8_1 (K : aK) : am_Snd K 8 1 := sn_iload_n i8_1 d8_1 rfl
theorem i8_2 : am_ins 8 2 = (60, 18, 1, 0, []) := by decide +kernel
theorem d8_2 : decode (am_cod 8) 2 = .ok (.invokevirtual 60, 3) := by decide +kernel
theorem s8_2 (K : aK) : am_SndC K 8 2 := sc_V i8_2 d8_2 co18 w_165 w_167 ws_1 w_1 rfl (rr := (CN0, FT0, 5)) rfl rfl hd18
theorem i8_5 : am_ins 8 5 = (34, 2, 1, 0, []) := by decide +kernel
theorem d8_5 : decode (am_cod 8) 5 = .ok (.astore_n 2, 1) := by decide +kernel
theorem s8_5 (K : aK) : am_Snd K 8 5 := sn_astore_n i8_5 d8_5 rfl (by decide +kernel)
theorem i8_6 : am_ins 8 6 = (33, 2, 1, 0, []) := by decide +kernel
theorem d8_6 : decode (am_cod 8) 6 = .ok (.aload_n 2, 1) := by decide +kernel
theorem s8_6 (K : aK) : am_Snd K 8 6 := sn_aload_n i8_6 d8_6 rfl
theorem i8_7 : am_ins 8 7 = (16, 12, 0, 0, []) := by decide +kernel
theorem d8_7 : decode (am_cod 8) 7 = .ok (.ifnonnull 5, 3) := by decide +kernel
theorem s8_7 (K : aK) : am_Snd K 8 7 := sn_ifnonnull i8_7 d8_7 rfl
theorem i8_10 : am_ins 8 10 = (0, 1, 0, (-1), []) := by decide +kernel
theorem d8_10 : decode (am_cod 8) 10 = .ok (.iconst (-1), 1) := by decide +kernel
theorem s8_10 (K : aK) : am_Snd K 8 10 := sn_const1 i8_10 d8_10 rfl
theorem i8_11 : am_ins 8 11 = (50, 0, 0, 0, []) := by decide +kernel
theorem d8_11 : decode (am_cod 8) 11 = .ok (.ireturn, 1) := by decide +kernel
theorem s8_11 : am_SndR 8 11 := sn_iret i8_11 d8_11 rfl
theorem i8_12 : am_ins 8 12 = (33, 2, 1, 0, []) := by decide +kernel
theorem d8_12 : decode (am_cod 8) 12 = .ok (.aload_n 2, 1) := by decide +kernel
theorem s8_12 (K : aK) : am_Snd K 8 12 := sn_aload_n i8_12 d8_12 rfl
theorem i8_13 : am_ins 8 13 = (7, 0, 0, 0, []) := by decide +kernel
theorem d8_13 : decode (am_cod 8) 13 = .ok (.dup, 1) := by decide +kernel
theorem s8_13 (K : aK) : am_Snd K 8 13 := sn_dup i8_13 d8_13 
theorem i8_14 : am_ins 8 14 = (18, 4, 8, 0, []) := by decide +kernel
theorem d8_14 : decode (am_cod 8) 14 = .ok (.getfield 123, 3) := by decide +kernel
theorem s8_14 (K : aK) : am_Snd K 8 14 := sn_get (C0 := CN4) (T := FT4) (Nf := 9) i8_14 d8_14 rfl (by decide +kernel) fin4 w_95 rfl
theorem i8_17 : am_ins 8 17 = (0, 1, 0, 1, []) := by decide +kernel
theorem d8_17 : decode (am_cod 8) 17 = .ok (.iconst 1, 1) := by decide +kernel
theorem s8_17 (K : aK) : am_Snd K 8 17 := sn_const1 i8_17 d8_17 rfl
theorem i8_18 : am_ins 8 18 = (4, 0, 0, 0, []) := by decide +kernel
theorem d8_18 : decode (am_cod 8) 18 = .ok (.iadd, 1) := by decide +kernel
theorem s8_18 (K : aK) : am_Snd K 8 18 := sn_add i8_18 d8_18 
theorem i8_19 : am_ins 8 19 = (19, 4, 8, 0, []) := by decide +kernel
theorem d8_19 : decode (am_cod 8) 19 = .ok (.putfield 123, 3) := by decide +kernel
theorem s8_19 (K : aK) : am_Snd K 8 19 := sn_puti (ty := .int) (C0 := CN4) (T := FT4) (Nf := 9) (tyf := FY4) i8_19 d8_19 rfl (by decide +kernel) fin4 ftyok4 fnm4 w_95 rfl rfl rfl
theorem i8_22 : am_ins 8 22 = (33, 2, 1, 0, []) := by decide +kernel
theorem d8_22 : decode (am_cod 8) 22 = .ok (.aload_n 2, 1) := by decide +kernel
theorem s8_22 (K : aK) : am_Snd K 8 22 := sn_aload_n i8_22 d8_22 rfl
theorem i8_23 : am_ins 8 23 = (60, 53, 0, 0, []) := by decide +kernel
theorem d8_23 : decode (am_cod 8) 23 = .ok (.invokevirtual 126, 3) := by decide +kernel
theorem s8_23 (K : aK) : am_SndC K 8 23 := sc_V i8_23 d8_23 co53 w_429 w_430 w_431 w_4 rfl (rr := (CN4, FT4, 9)) rfl rfl hd53
theorem i8_26 : am_ins 8 26 = (2, 3, 1, 0, []) := by decide +kernel
theorem d8_26 : decode (am_cod 8) 26 = .ok (.istore_n 3, 1) := by decide +kernel
theorem s8_26 (K : aK) : am_Snd K 8 26 := sn_istore_n i8_26 d8_26 rfl (by decide +kernel)
theorem i8_27 : am_ins 8 27 = (33, 2, 1, 0, []) := by decide +kernel
theorem d8_27 : decode (am_cod 8) 27 = .ok (.aload_n 2, 1) := by decide +kernel
theorem s8_27 (K : aK) : am_Snd K 8 27 := sn_aload_n i8_27 d8_27 rfl
theorem i8_28 : am_ins 8 28 = (33, 2, 1, 0, []) := by decide +kernel
theorem d8_28 : decode (am_cod 8) 28 = .ok (.aload_n 2, 1) := by decide +kernel
theorem s8_28 (K : aK) : am_Snd K 8 28 := sn_aload_n i8_28 d8_28 rfl
theorem i8_29 : am_ins 8 29 = (18, 4, 1, 0, []) := by decide +kernel
theorem d8_29 : decode (am_cod 8) 29 = .ok (.getfield 129, 3) := by decide +kernel
theorem s8_29 (K : aK) : am_Snd K 8 29 := sn_get (C0 := CN4) (T := FT4) (Nf := 9) i8_29 d8_29 rfl (by decide +kernel) fin4 w_84 rfl
theorem i8_32 : am_ins 8 32 = (1, 3, 1, 0, []) := by decide +kernel
theorem d8_32 : decode (am_cod 8) 32 = .ok (.iload_n 3, 1) := by decide +kernel
theorem s8_32 (K : aK) : am_Snd K 8 32 := sn_iload_n i8_32 d8_32 rfl
theorem i8_33 : am_ins 8 33 = (60, 47, 2, 0, []) := by decide +kernel
theorem d8_33 : decode (am_cod 8) 33 = .ok (.invokevirtual 130, 3) := by decide +kernel
theorem s8_33 (K : aK) : am_SndC K 8 33 := sc_V i8_33 d8_33 co47 w_433 w_434 w_435 w_4 rfl (rr := (CN4, FT4, 9)) rfl rfl hd47
theorem i8_36 : am_ins 8 36 = (33, 0, 1, 0, []) := by decide +kernel
theorem d8_36 : decode (am_cod 8) 36 = .ok (.aload_n 0, 1) := by decide +kernel
theorem s8_36 (K : aK) : am_Snd K 8 36 := sn_aload_n i8_36 d8_36 rfl
theorem i8_37 : am_ins 8 37 = (33, 2, 1, 0, []) := by decide +kernel
theorem d8_37 : decode (am_cod 8) 37 = .ok (.aload_n 2, 1) := by decide +kernel
theorem s8_37 (K : aK) : am_Snd K 8 37 := sn_aload_n i8_37 d8_37 rfl
theorem i8_38 : am_ins 8 38 = (0, 1, 0, 5, []) := by decide +kernel
theorem d8_38 : decode (am_cod 8) 38 = .ok (.iconst 5, 1) := by decide +kernel
theorem s8_38 (K : aK) : am_Snd K 8 38 := sn_const1 i8_38 d8_38 rfl
theorem i8_39 : am_ins 8 39 = (1, 3, 1, 0, []) := by decide +kernel
theorem d8_39 : decode (am_cod 8) 39 = .ok (.iload_n 3, 1) := by decide +kernel
theorem s8_39 (K : aK) : am_Snd K 8 39 := sn_iload_n i8_39 d8_39 rfl
theorem i8_40 : am_ins 8 40 = (60, 31, 3, 0, []) := by decide +kernel
theorem d8_40 : decode (am_cod 8) 40 = .ok (.invokevirtual 133, 3) := by decide +kernel
theorem s8_40 (K : aK) : am_SndC K 8 40 := sc_V i8_40 d8_40 co31 w_412 w_414 ws_10 w_1 rfl (rr := (CN0, FT0, 5)) rfl rfl hd31
theorem i8_43 : am_ins 8 43 = (33, 0, 1, 0, []) := by decide +kernel
theorem d8_43 : decode (am_cod 8) 43 = .ok (.aload_n 0, 1) := by decide +kernel
theorem s8_43 (K : aK) : am_Snd K 8 43 := sn_aload_n i8_43 d8_43 rfl
theorem i8_44 : am_ins 8 44 = (33, 2, 1, 0, []) := by decide +kernel
theorem d8_44 : decode (am_cod 8) 44 = .ok (.aload_n 2, 1) := by decide +kernel
theorem s8_44 (K : aK) : am_Snd K 8 44 := sn_aload_n i8_44 d8_44 rfl
theorem i8_45 : am_ins 8 45 = (18, 4, 0, 0, []) := by decide +kernel
theorem d8_45 : decode (am_cod 8) 45 = .ok (.getfield 137, 3) := by decide +kernel
theorem s8_45 (K : aK) : am_Snd K 8 45 := sn_get (C0 := CN4) (T := FT4) (Nf := 9) i8_45 d8_45 rfl (by decide +kernel) fin4 w_82 rfl
theorem i8_48 : am_ins 8 48 = (33, 2, 1, 0, []) := by decide +kernel
theorem d8_48 : decode (am_cod 8) 48 = .ok (.aload_n 2, 1) := by decide +kernel
theorem s8_48 (K : aK) : am_Snd K 8 48 := sn_aload_n i8_48 d8_48 rfl
theorem i8_49 : am_ins 8 49 = (60, 45, 0, 0, []) := by decide +kernel
theorem d8_49 : decode (am_cod 8) 49 = .ok (.invokevirtual 138, 3) := by decide +kernel
theorem s8_49 (K : aK) : am_SndC K 8 49 := sc_V i8_49 d8_49 co45 w_440 w_441 w_442 w_4 rfl (rr := (CN4, FT4, 9)) rfl rfl hd45
theorem i8_52 : am_ins 8 52 = (29, 3, 0, 0, []) := by decide +kernel
theorem d8_52 : decode (am_cod 8) 52 = .ok (.new 141, 3) := by decide +kernel
theorem s8_52 (K : aK) : am_Snd K 8 52 := sn_new (C0 := CN3) (T := FT3) (Nf := 5) (tyf := FY3) i8_52 d8_52 rfl fin3 ftyok3 w_346 w_347 w_9 rfl fdf3
theorem i8_55 : am_ins 8 55 = (7, 0, 0, 0, []) := by decide +kernel
theorem d8_55 : decode (am_cod 8) 55 = .ok (.dup, 1) := by decide +kernel
theorem s8_55 (K : aK) : am_Snd K 8 55 := sn_dup i8_55 d8_55 
theorem i8_56 : am_ins 8 56 = (0, 2, 0, 6, []) := by decide +kernel
theorem d8_56 : decode (am_cod 8) 56 = .ok (.bipush 6, 2) := by decide +kernel
theorem s8_56 (K : aK) : am_Snd K 8 56 := sn_const2 i8_56 d8_56 (by decide +kernel)
theorem i8_58 : am_ins 8 58 = (0, 1, 0, (-1), []) := by decide +kernel
theorem d8_58 : decode (am_cod 8) 58 = .ok (.iconst (-1), 1) := by decide +kernel
theorem s8_58 (K : aK) : am_Snd K 8 58 := sn_const1 i8_58 d8_58 rfl
theorem i8_59 : am_ins 8 59 = (0, 1, 0, 0, []) := by decide +kernel
theorem d8_59 : decode (am_cod 8) 59 = .ok (.iconst 0, 1) := by decide +kernel
theorem s8_59 (K : aK) : am_Snd K 8 59 := sn_const1 i8_59 d8_59 rfl
theorem i8_60 : am_ins 8 60 = (33, 2, 1, 0, []) := by decide +kernel
theorem d8_60 : decode (am_cod 8) 60 = .ok (.aload_n 2, 1) := by decide +kernel
theorem s8_60 (K : aK) : am_Snd K 8 60 := sn_aload_n i8_60 d8_60 rfl
theorem i8_61 : am_ins 8 61 = (18, 4, 2, 0, []) := by decide +kernel
theorem d8_61 : decode (am_cod 8) 61 = .ok (.getfield 143, 3) := by decide +kernel
theorem s8_61 (K : aK) : am_Snd K 8 61 := sn_get (C0 := CN4) (T := FT4) (Nf := 9) i8_61 d8_61 rfl (by decide +kernel) fin4 w_86 rfl
theorem i8_64 : am_ins 8 64 = (38, 0, 0, 0, []) := by decide +kernel
theorem d8_64 : decode (am_cod 8) 64 = .ok (.invokevirtual 147, 3) := by decide +kernel
theorem s8_64 (K : aK) : am_Snd K 8 64 := sn_clone i8_64 d8_64 w_444 w_265 w_266 w_267 w_268 nwCA
theorem i8_67 : am_ins 8 67 = (39, 0, 0, 0, []) := by decide +kernel
theorem d8_67 : decode (am_cod 8) 67 = .ok (.checkcast 148, 3) := by decide +kernel
theorem s8_67 (K : aK) : am_Snd K 8 67 := sn_castI i8_67 d8_67 w_445
theorem i8_70 : am_ins 8 70 = (62, 42, 4, 0, []) := by decide +kernel
theorem d8_70 : decode (am_cod 8) 70 = .ok (.invokespecial 152, 3) := by decide +kernel
theorem s8_70 (K : aK) : am_SndC K 8 70 := sc_I i8_70 d8_70 co42 rfl rfl w_348 w_349 w_9 hd42
theorem i8_73 : am_ins 8 73 = (60, 32, 3, 0, []) := by decide +kernel
theorem d8_73 : decode (am_cod 8) 73 = .ok (.invokevirtual 155, 3) := by decide +kernel
theorem s8_73 (K : aK) : am_SndC K 8 73 := sc_V i8_73 d8_73 co32 w_372 w_374 ws_5 w_1 rfl (rr := (CN0, FT0, 5)) rfl rfl hd32
theorem i8_76 : am_ins 8 76 = (33, 2, 1, 0, []) := by decide +kernel
theorem d8_76 : decode (am_cod 8) 76 = .ok (.aload_n 2, 1) := by decide +kernel
theorem s8_76 (K : aK) : am_Snd K 8 76 := sn_aload_n i8_76 d8_76 rfl
theorem i8_77 : am_ins 8 77 = (18, 4, 8, 0, []) := by decide +kernel
theorem d8_77 : decode (am_cod 8) 77 = .ok (.getfield 123, 3) := by decide +kernel
theorem s8_77 (K : aK) : am_Snd K 8 77 := sn_get (C0 := CN4) (T := FT4) (Nf := 9) i8_77 d8_77 rfl (by decide +kernel) fin4 w_95 rfl
theorem i8_80 : am_ins 8 80 = (50, 0, 0, 0, []) := by decide +kernel
theorem d8_80 : decode (am_cod 8) 80 = .ok (.ireturn, 1) := by decide +kernel
theorem s8_80 : am_SndR 8 80 := sn_iret i8_80 d8_80 rfl
theorem al8_0 (K : aK) : ∀ q ∈ [0, 1, 2, 5, 6, 7, 10, 11, 12, 13, 14, 17, 18, 19, 22, 23, 26, 27, 28, 29, 32, 33, 36, 37, 38, 39, 40, 43, 44, 45], am_All K 8 q := List.forall_mem_cons.mpr ⟨am_alS i8_0 (s8_0 K), List.forall_mem_cons.mpr ⟨am_alS i8_1 (s8_1 K), List.forall_mem_cons.mpr ⟨am_alC i8_2 (s8_2 K), List.forall_mem_cons.mpr ⟨am_alS i8_5 (s8_5 K), List.forall_mem_cons.mpr ⟨am_alS i8_6 (s8_6 K), List.forall_mem_cons.mpr ⟨am_alS i8_7 (s8_7 K), List.forall_mem_cons.mpr ⟨am_alS i8_10 (s8_10 K), List.forall_mem_cons.mpr ⟨am_alR i8_11 s8_11, List.forall_mem_cons.mpr ⟨am_alS i8_12 (s8_12 K), List.forall_mem_cons.mpr ⟨am_alS i8_13 (s8_13 K), List.forall_mem_cons.mpr ⟨am_alS i8_14 (s8_14 K), List.forall_mem_cons.mpr ⟨am_alS i8_17 (s8_17 K), List.forall_mem_cons.mpr ⟨am_alS i8_18 (s8_18 K), List.forall_mem_cons.mpr ⟨am_alS i8_19 (s8_19 K), List.forall_mem_cons.mpr ⟨am_alS i8_22 (s8_22 K), List.forall_mem_cons.mpr ⟨am_alC i8_23 (s8_23 K), List.forall_mem_cons.mpr ⟨am_alS i8_26 (s8_26 K), List.forall_mem_cons.mpr ⟨am_alS i8_27 (s8_27 K), List.forall_mem_cons.mpr ⟨am_alS i8_28 (s8_28 K), List.forall_mem_cons.mpr ⟨am_alS i8_29 (s8_29 K), List.forall_mem_cons.mpr ⟨am_alS i8_32 (s8_32 K), List.forall_mem_cons.mpr ⟨am_alC i8_33 (s8_33 K), List.forall_mem_cons.mpr ⟨am_alS i8_36 (s8_36 K), List.forall_mem_cons.mpr ⟨am_alS i8_37 (s8_37 K), List.forall_mem_cons.mpr ⟨am_alS i8_38 (s8_38 K), List.forall_mem_cons.mpr ⟨am_alS i8_39 (s8_39 K), List.forall_mem_cons.mpr ⟨am_alC i8_40 (s8_40 K), List.forall_mem_cons.mpr ⟨am_alS i8_43 (s8_43 K), List.forall_mem_cons.mpr ⟨am_alS i8_44 (s8_44 K), List.forall_mem_cons.mpr ⟨am_alS i8_45 (s8_45 K), fun _ h => absurd h List.not_mem_nil⟩⟩⟩⟩⟩⟩⟩⟩⟩⟩⟩⟩⟩⟩⟩⟩⟩⟩⟩⟩⟩⟩⟩⟩⟩⟩⟩⟩⟩⟩
theorem al8_1 (K : aK) : ∀ q ∈ [48, 49, 52, 55, 56, 58, 59, 60, 61, 64, 67, 70, 73, 76, 77, 80], am_All K 8 q := List.forall_mem_cons.mpr ⟨am_alS i8_48 (s8_48 K), List.forall_mem_cons.mpr ⟨am_alC i8_49 (s8_49 K), List.forall_mem_cons.mpr ⟨am_alS i8_52 (s8_52 K), List.forall_mem_cons.mpr ⟨am_alS i8_55 (s8_55 K), List.forall_mem_cons.mpr ⟨am_alS i8_56 (s8_56 K), List.forall_mem_cons.mpr ⟨am_alS i8_58 (s8_58 K), List.forall_mem_cons.mpr ⟨am_alS i8_59 (s8_59 K), List.forall_mem_cons.mpr ⟨am_alS i8_60 (s8_60 K), List.forall_mem_cons.mpr ⟨am_alS i8_61 (s8_61 K), List.forall_mem_cons.mpr ⟨am_alS i8_64 (s8_64 K), List.forall_mem_cons.mpr ⟨am_alS i8_67 (s8_67 K), List.forall_mem_cons.mpr ⟨am_alC i8_70 (s8_70 K), List.forall_mem_cons.mpr ⟨am_alC i8_73 (s8_73 K), List.forall_mem_cons.mpr ⟨am_alS i8_76 (s8_76 K), List.forall_mem_cons.mpr ⟨am_alS i8_77 (s8_77 K), List.forall_mem_cons.mpr ⟨am_alR i8_80 s8_80, fun _ h => absurd h List.not_mem_nil⟩⟩⟩⟩⟩⟩⟩⟩⟩⟩⟩⟩⟩⟩⟩⟩
set_option maxRecDepth 100000 in
theorem al8 (K : aK) : ∀ q ∈ (am_t8).map (fun z => z.1), am_All K 8 q := by
  have e : (am_t8).map (fun z => z.1) = [0, 1, 2, 5, 6, 7, 10, 11, 12, 13, 14, 17, 18, 19, 22, 23, 26, 27, 28, 29, 32, 33, 36, 37, 38, 39, 40, 43, 44, 45] ++ ([48, 49, 52, 55, 56, 58, 59, 60, 61, 64, 67, 70, 73, 76, 77, 80]) := rfl
  rw [e]
  exact List.forall_mem_append.mpr ⟨al8_0 K, al8_1 K⟩
theorem i9_0 : am_ins 9 0 = (33, 0, 1, 0, []) := by decide +kernel
theorem d9_0 : decode (am_cod 9) 0 = .ok (.aload_n 0, 1) := by decide +kernel
theorem s9_0 (K : aK) : am_Snd K 9 0 := sn_aload_n i9_0 d9_0 rfl
theorem i9_1 : am_ins 9 1 = (1, 1, 1, 0, []) := by decide +kernel
theorem d9_1 : decode (am_cod 9) 1 = .ok (.iload_n 1, 1) := by decide +kernel
theorem s9_1 (K : aK) : am_Snd K 9 1 := sn_iload_n i9_1 d9_1 rfl
theorem i9_2 : am_ins 9 2 = (1, 2, 1, 0, []) := by decide +kernel
theorem d9_2 : decode (am_cod 9) 2 = .ok (.iload_n 2, 1) := by decide +kernel
theorem s9_2 (K : aK) : am_Snd K 9 2 := sn_iload_n i9_2 d9_2 rfl
theorem i9_3 : am_ins 9 3 = (60, 20, 2, 0, []) := by decide +kernel
theorem d9_3 : decode (am_cod 9) 3 = .ok (.invokevirtual 159, 3) := by decide +kernel
theorem s9_3 (K : aK) : am_SndC K 9 3 := sc_V i9_3 d9_3 co20 w_376 w_378 ws_6 w_1 rfl (rr := (CN0, FT0, 5)) rfl rfl hd20
theorem i9_6 : am_ins 9 6 = (34, 3, 1, 0, []) := by decide +kernel
theorem d9_6 : decode (am_cod 9) 6 = .ok (.astore_n 3, 1) := by decide +kernel
theorem s9_6 (K : aK) : am_Snd K 9 6 := sn_astore_n i9_6 d9_6 rfl (by decide +kernel)
theorem i9_7 : am_ins 9 7 = (33, 0, 1, 0, []) := by decide +kernel
theorem d9_7 : decode (am_cod 9) 7 = .ok (.aload_n 0, 1) := by decide +kernel
theorem s9_7 (K : aK) : am_Snd K 9 7 := sn_aload_n i9_7 d9_7 rfl
theorem i9_8 : am_ins 9 8 = (1, 1, 1, 0, []) := by decide +kernel
theorem d9_8 : decode (am_cod 9) 8 = .ok (.iload_n 1, 1) := by decide +kernel
theorem s9_8 (K : aK) : am_Snd K 9 8 := sn_iload_n i9_8 d9_8 rfl
theorem i9_9 : am_ins 9 9 = (60, 18, 1, 0, []) := by decide +kernel
theorem d9_9 : decode (am_cod 9) 9 = .ok (.invokevirtual 60, 3) := by decide +kernel
theorem s9_9 (K : aK) : am_SndC K 9 9 := sc_V i9_9 d9_9 co18 w_165 w_167 ws_1 w_1 rfl (rr := (CN0, FT0, 5)) rfl rfl hd18
theorem i9_12 : am_ins 9 12 = (34, 4, 2, 0, []) := by decide +kernel
theorem d9_12 : decode (am_cod 9) 12 = .ok (.astore 4, 2) := by decide +kernel
theorem s9_12 (K : aK) : am_Snd K 9 12 := sn_astore i9_12 d9_12 (by decide +kernel)
theorem i9_14 : am_ins 9 14 = (33, 0, 1, 0, []) := by decide +kernel
theorem d9_14 : decode (am_cod 9) 14 = .ok (.aload_n 0, 1) := by decide +kernel
theorem s9_14 (K : aK) : am_Snd K 9 14 := sn_aload_n i9_14 d9_14 rfl
theorem i9_15 : am_ins 9 15 = (1, 2, 1, 0, []) := by decide +kernel
theorem d9_15 : decode (am_cod 9) 15 = .ok (.iload_n 2, 1) := by decide +kernel
theorem s9_15 (K : aK) : am_Snd K 9 15 := sn_iload_n i9_15 d9_15 rfl
theorem i9_16 : am_ins 9 16 = (60, 18, 1, 0, []) := by decide +kernel
theorem d9_16 : decode (am_cod 9) 16 = .ok (.invokevirtual 60, 3) := by decide +kernel
theorem s9_16 (K : aK) : am_SndC K 9 16 := sc_V i9_16 d9_16 co18 w_165 w_167 ws_1 w_1 rfl (rr := (CN0, FT0, 5)) rfl rfl hd18
theorem i9_19 : am_ins 9 19 = (34, 5, 2, 0, []) := by decide +kernel
theorem d9_19 : decode (am_cod 9) 19 = .ok (.astore 5, 2) := by decide +kernel
theorem s9_19 (K : aK) : am_Snd K 9 19 := sn_astore i9_19 d9_19 (by decide +kernel)
theorem i9_21 : am_ins 9 21 = (33, 3, 1, 0, []) := by decide +kernel
theorem d9_21 : decode (am_cod 9) 21 = .ok (.aload_n 3, 1) := by decide +kernel
theorem s9_21 (K : aK) : am_Snd K 9 21 := sn_aload_n i9_21 d9_21 rfl
theorem i9_22 : am_ins 9 22 = (15, 35, 0, 0, []) := by decide +kernel
theorem d9_22 : decode (am_cod 9) 22 = .ok (.ifnull 13, 3) := by decide +kernel
theorem s9_22 (K : aK) : am_Snd K 9 22 := sn_ifnull i9_22 d9_22 rfl
theorem i9_25 : am_ins 9 25 = (33, 4, 2, 0, []) := by decide +kernel
theorem d9_25 : decode (am_cod 9) 25 = .ok (.aload 4, 2) := by decide +kernel
theorem s9_25 (K : aK) : am_Snd K 9 25 := sn_aload i9_25 d9_25 
theorem i9_27 : am_ins 9 27 = (15, 35, 0, 0, []) := by decide +kernel
theorem d9_27 : decode (am_cod 9) 27 = .ok (.ifnull 8, 3) := by decide +kernel
theorem s9_27 (K : aK) : am_Snd K 9 27 := sn_ifnull i9_27 d9_27 rfl
theorem i9_30 : am_ins 9 30 = (33, 5, 2, 0, []) := by decide +kernel
theorem d9_30 : decode (am_cod 9) 30 = .ok (.aload 5, 2) := by decide +kernel
theorem s9_30 (K : aK) : am_Snd K 9 30 := sn_aload i9_30 d9_30 
theorem i9_32 : am_ins 9 32 = (16, 37, 0, 0, []) := by decide +kernel
theorem d9_32 : decode (am_cod 9) 32 = .ok (.ifnonnull 5, 3) := by decide +kernel
theorem s9_32 (K : aK) : am_Snd K 9 32 := sn_ifnonnull i9_32 d9_32 rfl
theorem i9_35 : am_ins 9 35 = (0, 1, 0, (-1), []) := by decide +kernel
theorem d9_35 : decode (am_cod 9) 35 = .ok (.iconst (-1), 1) := by decide +kernel
theorem s9_35 (K : aK) : am_Snd K 9 35 := sn_const1 i9_35 d9_35 rfl
theorem i9_36 : am_ins 9 36 = (50, 0, 0, 0, []) := by decide +kernel
theorem d9_36 : decode (am_cod 9) 36 = .ok (.ireturn, 1) := by decide +kernel
theorem s9_36 : am_SndR 9 36 := sn_iret i9_36 d9_36 rfl
theorem i9_37 : am_ins 9 37 = (33, 3, 1, 0, []) := by decide +kernel
theorem d9_37 : decode (am_cod 9) 37 = .ok (.aload_n 3, 1) := by decide +kernel
theorem s9_37 (K : aK) : am_Snd K 9 37 := sn_aload_n i9_37 d9_37 rfl
theorem i9_38 : am_ins 9 38 = (60, 41, 0, 0, []) := by decide +kernel
theorem d9_38 : decode (am_cod 9) 38 = .ok (.invokevirtual 163, 3) := by decide +kernel
theorem s9_38 (K : aK) : am_SndC K 9 38 := sc_V i9_38 d9_38 co41 w_450 w_451 w_452 w_5 rfl (rr := (CN2, FT2, 3)) rfl rfl hd41
theorem i9_41 : am_ins 9 41 = (34, 6, 2, 0, []) := by decide +kernel
theorem d9_41 : decode (am_cod 9) 41 = .ok (.astore 6, 2) := by decide +kernel
theorem s9_41 (K : aK) : am_Snd K 9 41 := sn_astore i9_41 d9_41 (by decide +kernel)
theorem i9_43 : am_ins 9 43 = (33, 6, 2, 0, []) := by decide +kernel
theorem d9_43 : decode (am_cod 9) 43 = .ok (.aload 6, 2) := by decide +kernel
theorem s9_43 (K : aK) : am_Snd K 9 43 := sn_aload i9_43 d9_43 
theorem i9_45 : am_ins 9 45 = (16, 50, 0, 0, []) := by decide +kernel
theorem d9_45 : decode (am_cod 9) 45 = .ok (.ifnonnull 5, 3) := by decide +kernel
theorem s9_45 (K : aK) : am_Snd K 9 45 := sn_ifnonnull i9_45 d9_45 rfl
theorem i9_48 : am_ins 9 48 = (0, 1, 0, 0, []) := by decide +kernel
theorem d9_48 : decode (am_cod 9) 48 = .ok (.iconst 0, 1) := by decide +kernel
theorem s9_48 (K : aK) : am_Snd K 9 48 := sn_const1 i9_48 d9_48 rfl
theorem i9_49 : am_ins 9 49 = (50, 0, 0, 0, []) := by decide +kernel
theorem d9_49 : decode (am_cod 9) 49 = .ok (.ireturn, 1) := by decide +kernel
theorem s9_49 : am_SndR 9 49 := sn_iret i9_49 d9_49 rfl
theorem i9_50 : am_ins 9 50 = (33, 0, 1, 0, []) := by decide +kernel
theorem d9_50 : decode (am_cod 9) 50 = .ok (.aload_n 0, 1) := by decide +kernel
theorem s9_50 (K : aK) : am_Snd K 9 50 := sn_aload_n i9_50 d9_50 rfl
theorem i9_51 : am_ins 9 51 = (33, 6, 2, 0, []) := by decide +kernel
theorem d9_51 : decode (am_cod 9) 51 = .ok (.aload 6, 2) := by decide +kernel
theorem s9_51 (K : aK) : am_Snd K 9 51 := sn_aload i9_51 d9_51 
theorem i9_53 : am_ins 9 53 = (33, 4, 2, 0, []) := by decide +kernel
theorem d9_53 : decode (am_cod 9) 53 = .ok (.aload 4, 2) := by decide +kernel
theorem s9_53 (K : aK) : am_Snd K 9 53 := sn_aload i9_53 d9_53 
theorem i9_55 : am_ins 9 55 = (33, 5, 2, 0, []) := by decide +kernel
theorem d9_55 : decode (am_cod 9) 55 = .ok (.aload 5, 2) := by decide +kernel
theorem s9_55 (K : aK) : am_Snd K 9 55 := sn_aload i9_55 d9_55 
theorem i9_57 : am_ins 9 57 = (60, 30, 3, 0, []) := by decide +kernel
theorem d9_57 : decode (am_cod 9) 57 = .ok (.invokevirtual 167, 3) := by decide +kernel
theorem s9_57 (K : aK) : am_SndC K 9 57 := sc_V i9_57 d9_57 co30 w_454 w_456 ws_11 w_1 rfl (rr := (CN0, FT0, 5)) rfl rfl hd30
theorem i9_60 : am_ins 9 60 = (33, 6, 2, 0, []) := by decide +kernel
theorem d9_60 : decode (am_cod 9) 60 = .ok (.aload 6, 2) := by decide +kernel
theorem s9_60 (K : aK) : am_Snd K 9 60 := sn_aload i9_60 d9_60 
theorem i9_62 : am_ins 9 62 = (18, 3, 0, 0, []) := by decide +kernel
theorem d9_62 : decode (am_cod 9) 62 = .ok (.getfield 171, 3) := by decide +kernel
theorem s9_62 (K : aK) : am_Snd K 9 62 := sn_get (C0 := CN3) (T := FT3) (Nf := 5) i9_62 d9_62 rfl (by decide +kernel) fin3 w_353 rfl
theorem i9_65 : am_ins 9 65 = (50, 0, 0, 0, []) := by decide +kernel
theorem d9_65 : decode (am_cod 9) 65 = .ok (.ireturn, 1) := by decide +kernel
theorem s9_65 : am_SndR 9 65 := sn_iret i9_65 d9_65 rfl
theorem al9_0 (K : aK) : ∀ q ∈ [0, 1, 2, 3, 6, 7, 8, 9, 12, 14, 15, 16, 19, 21, 22, 25, 27, 30, 32, 35, 36, 37, 38, 41, 43, 45, 48, 49, 50, 51], am_All K 9 q := List.forall_mem_cons.mpr ⟨am_alS i9_0 (s9_0 K), List.forall_mem_cons.mpr ⟨am_alS i9_1 (s9_1 K), List.forall_mem_cons.mpr ⟨am_alS i9_2 (s9_2 K), List.forall_mem_cons.mpr ⟨am_alC i9_3 (s9_3 K), List.forall_mem_cons.mpr ⟨am_alS i9_6 (s9_6 K), List.forall_mem_cons.mpr ⟨am_alS i9_7 (s9_7 K), List.forall_mem_cons.mpr ⟨am_alS i9_8 (s9_8 K), List.forall_mem_cons.mpr ⟨am_alC i9_9 (s9_9 K), List.forall_mem_cons.mpr ⟨am_alS i9_12 (s9_12 K), List.forall_mem_cons.mpr ⟨am_alS i9_14 (s9_14 K), List.forall_mem_cons.mpr ⟨am_alS i9_15 (s9_15 K), List.forall_mem_cons.mpr ⟨am_alC i9_16 (s9_16 K), List.forall_mem_cons.mpr ⟨am_alS i9_19 (s9_19 K), List.forall_mem_cons.mpr ⟨am_alS i9_21 (s9_21 K), List.forall_mem_cons.mpr ⟨am_alS i9_22 (s9_22 K), List.forall_mem_cons.mpr ⟨am_alS i9_25 (s9_25 K), List.forall_mem_cons.mpr ⟨am_alS i9_27 (s9_27 K), List.forall_mem_cons.mpr ⟨am_alS i9_30 (s9_30 K), List.forall_mem_cons.mpr ⟨am_alS i9_32 (s9_32 K), List.forall_mem_cons.mpr ⟨am_alS i9_35 (s9_35 K), List.forall_mem_cons.mpr ⟨am_alR i9_36 s9_36, List.forall_mem_cons.mpr ⟨am_alS i9_37 (s9_37 K), List.forall_mem_cons.mpr ⟨am_alC i9_38 (s9_38 K), List.forall_mem_cons.mpr ⟨am_alS i9_41 (s9_41 K), List.forall_mem_cons.mpr ⟨am_alS i9_43 (s9_43 K), List.forall_mem_cons.mpr ⟨am_alS i9_45 (s9_45 K), List.forall_mem_cons.mpr ⟨am_alS i9_48 (s9_48 K), List.forall_mem_cons.mpr ⟨am_alR i9_49 s9_49, List.forall_mem_cons.mpr ⟨am_alS i9_50 (s9_50 K), List.forall_mem_cons.mpr ⟨am_alS i9_51 (s9_51 K), fun _ h => absurd h List.not_mem_nil⟩⟩⟩⟩⟩⟩⟩⟩⟩⟩⟩⟩⟩⟩⟩⟩⟩⟩⟩⟩⟩⟩⟩⟩⟩⟩⟩⟩⟩⟩
theorem al9_1 (K : aK) : ∀ q ∈ [53, 55, 57, 60, 62, 65], am_All K 9 q := List.forall_mem_cons.mpr ⟨am_alS i9_53 (s9_53 K), List.forall_mem_cons.mpr ⟨am_alS i9_55 (s9_55 K), List.forall_mem_cons.mpr ⟨am_alC i9_57 (s9_57 K), List.forall_mem_cons.mpr ⟨am_alS i9_60 (s9_60 K), List.forall_mem_cons.mpr ⟨am_alS i9_62 (s9_62 K), List.forall_mem_cons.mpr ⟨am_alR i9_65 s9_65, fun _ h => absurd h List.not_mem_nil⟩⟩⟩⟩⟩⟩
set_option maxRecDepth 100000 in
theorem al9 (K : aK) : ∀ q ∈ (am_t9).map (fun z => z.1), am_All K 9 q := by
  have e : (am_t9).map (fun z => z.1) = [0, 1, 2, 3, 6, 7, 8, 9, 12, 14, 15, 16, 19, 21, 22, 25, 27, 30, 32, 35, 36, 37, 38, 41, 43, 45, 48, 49, 50, 51] ++ ([53, 55, 57, 60, 62, 65]) := rfl
  rw [e]
  exact List.forall_mem_append.mpr ⟨al9_0 K, al9_1 K⟩
