theorem am_all (K : aK) : ∀ mid pc, am_All K mid pc := by
  intro mid pc
  by_cases hm : pc ∈ (am_tab mid).map (fun z => z.1)
  · unfold am_tab at hm
    split at hm
    · exact al0 K pc hm
    · exact al1 K pc hm
    · exact al2 K pc hm
    · exact al3 K pc hm
    · exact al4 K pc hm
    · exact al5 K pc hm
    · exact al6 K pc hm
    · exact al7 K pc hm
    · exact al8 K pc hm
    · exact al9 K pc hm
    · exact al10 K pc hm
    · exact al11 K pc hm
    · exact al12 K pc hm
    · exact al13 K pc hm
    · exact al14 K pc hm
    · exact al15 K pc hm
    · exact al16 K pc hm
    · exact al17 K pc hm
    · exact al18 K pc hm
    · exact al19 K pc hm
    · exact al20 K pc hm
    · exact al21 K pc hm
    · exact al22 K pc hm
    · exact al23 K pc hm
    · exact al24 K pc hm
    · exact al25 K pc hm
    · exact al26 K pc hm
    · exact al27 K pc hm
    · exact al28 K pc hm
    · exact al29 K pc hm
    · exact al30 K pc hm
    · exact al31 K pc hm
    · exact al32 K pc hm
    · exact al33 K pc hm
    · exact al34 K pc hm
    · exact al35 K pc hm
    · exact al36 K pc hm
    · exact al37 K pc hm
    · exact al38 K pc hm
    · exact al39 K pc hm
    · exact al40 K pc hm
    · exact al41 K pc hm
    · exact al42 K pc hm
    · exact al43 K pc hm
    · exact al44 K pc hm
    · exact al45 K pc hm
    · exact al46 K pc hm
    · exact al47 K pc hm
    · exact al48 K pc hm
    · exact al49 K pc hm
    · exact al50 K pc hm
    · exact al51 K pc hm
    · exact al52 K pc hm
    · exact al53 K pc hm
    · exact al54 K pc hm
    · exact al55 K pc hm
    · exact al56 K pc hm
    · exact al57 K pc hm
    · exact al58 K pc hm
    · exact al59 K pc hm
    · exact al60 K pc hm
    · exact al61 K pc hm
    · exact al62 K pc hm
    · exact al63 K pc hm
    · exact al64 K pc hm
    · exact al65 K pc hm
    · exact al66 K pc hm
    · exact al67 K pc hm
    · exact al68 K pc hm
    · exact al69 K pc hm
    · exact al70 K pc hm
    · exact al71 K pc hm
    · exact al72 K pc hm
    · exact al73 K pc hm
    · exact al74 K pc hm
    · exact al75 K pc hm
    · exact al76 K pc hm
    · exact al77 K pc hm
    · exact al78 K pc hm
    · exact al79 K pc hm
    · exact al80 K pc hm
    · exact al81 K pc hm
    · exact al82 K pc hm
    · exact al83 K pc hm
    · exact al84 K pc hm
    · exact al85 K pc hm
    · exact al86 K pc hm
    · exact al87 K pc hm
    · exact al88 K pc hm
    · exact al89 K pc hm
    · exact al90 K pc hm
    · exact al91 K pc hm
    · exact al92 K pc hm
    · exact al93 K pc hm
    · exact al94 K pc hm
    · exact al95 K pc hm
    · exact al96 K pc hm
    · exact al97 K pc hm
    · exact al98 K pc hm
    · exact al99 K pc hm
    · exact al100 K pc hm
    · exact al101 K pc hm
    · exact al102 K pc hm
    · exact al103 K pc hm
    · exact al104 K pc hm
    · exact al105 K pc hm
    · exact al106 K pc hm
    · exact al107 K pc hm
    · exact al108 K pc hm
    · exact al109 K pc hm
    · cases hm
  · have e : am_ins mid pc = (99, 0, 0, 0, []) := by
      unfold am_ins
      rw [List.lookup_eq_none_iff.mpr (fun q hq => by
        rw [bne_iff_ne]
        intro z
        exact hm (List.mem_map.mpr ⟨q, hq, z.symm⟩))]
      rfl
    refine ⟨fun q => ?_, fun _ q => ?_, fun _ => ?_⟩
    · rw [e] at q; exact absurd q (by decide)
    · rw [e] at q; exact absurd q (by decide)
    · intro p l ev R s m args below meth c H locs cells slots mc ms lsA st as rest h rm Pc Qc free ea
      rw [e] at ea
      obtain ⟨-, -, -, -, -, a6⟩ := am_args_spec ea
      cases as with
      | nil => exact absurd (show false = true from a6) Bool.false_ne_true
      | cons v r => cases v <;> exact absurd (show false = true from a6) Bool.false_ne_true
theorem am_sound (K : aK) (n : Nat) : am_Main K n := am_main (fun mid pc => (am_all K mid pc).1) (fun mid pc => (am_all K mid pc).2.1) (fun mid pc => (am_all K mid pc).2.2) am_mx_20 n
