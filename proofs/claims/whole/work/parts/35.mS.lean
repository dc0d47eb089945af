/-! the model's rows over its whole state S = (many, N, V, O, L) -/
def setN (S : aSt) (k e v : Nat) : aSt := (S.1, up2 S.2.1 k e v, S.2.2)
def setV (S : aSt) (k e : Nat) (v : Int32) : aSt := (S.1, S.2.1, up2 S.2.2.1 k e v, S.2.2.2)
def setO (S : aSt) (e : Nat) (v : Option Nat) : aSt := (S.1, S.2.1, S.2.2.1, va_up S.2.2.2.1 e v, S.2.2.2.2)
def pushF (S : aSt) (q : aMsg) : aSt := (S.1, S.2.1, S.2.2.1, S.2.2.2.1, S.2.2.2.2 ++ [q])
def setMany (S : aSt) (n : Nat) : aSt := (n, S.2)
theorem BN_up2 {N : Nat → Nat → Nat} {k e v : Nat} (hB : am_BN N) (hv : v < 1000000) : am_BN (up2 N k e v) := by
  intro k2 e2
  unfold up2
  split
  · exact hv
  · exact hB _ _
section MSS
variable {d : Nat} {g : Nat → Option aE} {h : aH} {m pl : Nat} {S : aSt} {Q : Option Value → aH → Prop}
theorem MS_obj (hS : MMs g h m S pl) : (am_fld h 7 m).isSome = true := by
  obtain ⟨pa, P, hR, -⟩ := hS
  exact RM_obj hR
theorem gS_0 {F : Value → Prop} (hS : MMs g h m S pl) : am_gf h 7 m 0 F = F (.int (nI S.1)) := by
  obtain ⟨pa, P, hR, -⟩ := hS
  exact gM_0 hR
theorem gS_1 {F : Value → Prop} (hS : MMs g h m S pl) : am_gf h 7 m 1 F = F (.ref (m + 1)) := by
  obtain ⟨pa, P, hR, -⟩ := hS
  exact gM_1 hR
theorem gS_2 {F : Value → Prop} (hS : MMs g h m S pl) : am_gf h 7 m 2 F = F (.ref (m + 2)) := by
  obtain ⟨pa, P, hR, -⟩ := hS
  exact gM_2 hR
theorem gS_3 {F : Value → Prop} (hS : MMs g h m S pl) : am_gf h 7 m 3 F = F (.ref (m + 3)) := by
  obtain ⟨pa, P, hR, -⟩ := hS
  exact gM_3 hR
theorem gS_4 {F : Value → Prop} (hS : MMs g h m S pl) : am_gf h 7 m 4 F = F (.ref (m + 4)) := by
  obtain ⟨pa, P, hR, -⟩ := hS
  exact gM_4 hR
theorem gS_5 {F : Value → Prop} (hS : MMs g h m S pl) : am_gf h 7 m 5 F = F (.ref (m + 5)) := by
  obtain ⟨pa, P, hR, -⟩ := hS
  exact gM_5 hR
theorem gS_6 {F : Value → Prop} (hS : MMs g h m S pl) : am_gf h 7 m 6 F = F (.ref (m + 6)) := by
  obtain ⟨pa, P, hR, -⟩ := hS
  exact gM_6 hR
theorem gS_7 {F : Value → Prop} (hS : MMs g h m S pl) : am_gf h 7 m 7 F = F (.ref (m + 7)) := by
  obtain ⟨pa, P, hR, -⟩ := hS
  exact gM_7 hR
theorem gS_8 {F : Value → Prop} (hS : MMs g h m S pl) : am_gf h 7 m 8 F = F (.ref (m + 8)) := by
  obtain ⟨pa, P, hR, -⟩ := hS
  exact gM_8 hR
theorem gS_9 {F : Value → Prop} (hS : MMs g h m S pl) : am_gf h 7 m 9 F = F (.ref (m + 9)) := by
  obtain ⟨pa, P, hR, -⟩ := hS
  exact gM_9 hR
theorem gS_10 {F : Value → Prop} (hS : MMs g h m S pl) : am_gf h 7 m 10 F = F (.ref (m + 10)) := by
  obtain ⟨pa, P, hR, -⟩ := hS
  exact gM_10 hR
theorem gS_11 {F : Value → Prop} (hS : MMs g h m S pl) : am_gf h 7 m 11 F = F (.ref (m + 11)) := by
  obtain ⟨pa, P, hR, -⟩ := hS
  exact gM_11 hR
theorem gS_12 {F : Value → Prop} (hS : MMs g h m S pl) : am_gf h 7 m 12 F = F (.ref (m + 12)) := by
  obtain ⟨pa, P, hR, -⟩ := hS
  exact gM_12 hR
theorem gS_13 {F : Value → Prop} (hS : MMs g h m S pl) : am_gf h 7 m 13 F = F (.ref (m + 13)) := by
  obtain ⟨pa, P, hR, -⟩ := hS
  exact gM_13 hR
theorem gS_14 {F : Value → Prop} (hS : MMs g h m S pl) : am_gf h 7 m 14 F = F (.ref (m + 14)) := by
  obtain ⟨pa, P, hR, -⟩ := hS
  exact gM_14 hR
theorem gS_15 {F : Value → Prop} (hS : MMs g h m S pl) : am_gf h 7 m 15 F = F (.ref (m + 15)) := by
  obtain ⟨pa, P, hR, -⟩ := hS
  exact gM_15 hR
theorem gS_16 {F : Value → Prop} (hS : MMs g h m S pl) : am_gf h 7 m 16 F = F (.ref (m + 16)) := by
  obtain ⟨pa, P, hR, -⟩ := hS
  exact gM_16 hR
theorem gS_17 {F : Value → Prop} (hS : MMs g h m S pl) : am_gf h 7 m 17 F = F (.ref (m + 17)) := by
  obtain ⟨pa, P, hR, -⟩ := hS
  exact gM_17 hR
theorem gS_18 {F : Value → Prop} (hS : MMs g h m S pl) : am_gf h 7 m 18 F = F (.ref (m + 18)) := by
  obtain ⟨pa, P, hR, -⟩ := hS
  exact gM_18 hR
theorem gS_19 {F : Value → Prop} (hS : MMs g h m S pl) : am_gf h 7 m 19 F = F (.ref (m + 19)) := by
  obtain ⟨pa, P, hR, -⟩ := hS
  exact gM_19 hR
theorem gS_20 {F : Value → Prop} (hS : MMs g h m S pl) : am_gf h 7 m 20 F = F (.ref (m + 20)) := by
  obtain ⟨pa, P, hR, -⟩ := hS
  exact gM_20 hR
theorem gS_21 {F : Value → Prop} (hS : MMs g h m S pl) : am_gf h 7 m 21 F = F (.ref (m + 21)) := by
  obtain ⟨pa, P, hR, -⟩ := hS
  exact gM_21 hR
theorem rS_1 {F : Int32 → Prop} {e : Nat} (hS : MMs g h m S pl) (he : e < 200) : am_ga h (m + 1) (nI e) F = F (nI (S.2.1 1 e)) := by
  obtain ⟨pa, P, hR, -⟩ := hS
  exact rN_1 hR he
theorem wS_1 {F : aH → Prop} {e w : Nat} (hS : MMs g h m S pl) (he : e < 200) (hF : ∀ h1 : aH, GR h pl h1 pl → MMs g h1 m (setN S 1 e w) pl → F h1) : am_pa h (m + 1) (nI e) (nI w) F := by
  obtain ⟨pa, P, hR, hP⟩ := hS
  exact wN_1 hR he (fun h1 a1 b1 hR1 => hF h1 (GR.of a1 b1) ⟨pa, P, hR1, hP⟩)
theorem rS_2 {F : Int32 → Prop} {e : Nat} (hS : MMs g h m S pl) (he : e < 600) : am_ga h (m + 2) (nI e) F = F (nI (S.2.1 2 e)) := by
  obtain ⟨pa, P, hR, -⟩ := hS
  exact rN_2 hR he
theorem wS_2 {F : aH → Prop} {e w : Nat} (hS : MMs g h m S pl) (he : e < 600) (hF : ∀ h1 : aH, GR h pl h1 pl → MMs g h1 m (setN S 2 e w) pl → F h1) : am_pa h (m + 2) (nI e) (nI w) F := by
  obtain ⟨pa, P, hR, hP⟩ := hS
  exact wN_2 hR he (fun h1 a1 b1 hR1 => hF h1 (GR.of a1 b1) ⟨pa, P, hR1, hP⟩)
theorem rS_3 {F : Int32 → Prop} {e : Nat} (hS : MMs g h m S pl) (he : e < 200) : am_ga h (m + 3) (nI e) F = F (nI (S.2.1 3 e)) := by
  obtain ⟨pa, P, hR, -⟩ := hS
  exact rN_3 hR he
theorem wS_3 {F : aH → Prop} {e w : Nat} (hS : MMs g h m S pl) (he : e < 200) (hF : ∀ h1 : aH, GR h pl h1 pl → MMs g h1 m (setN S 3 e w) pl → F h1) : am_pa h (m + 3) (nI e) (nI w) F := by
  obtain ⟨pa, P, hR, hP⟩ := hS
  exact wN_3 hR he (fun h1 a1 b1 hR1 => hF h1 (GR.of a1 b1) ⟨pa, P, hR1, hP⟩)
theorem rS_4 {F : Int32 → Prop} {e : Nat} (hS : MMs g h m S pl) (he : e < 200) : am_ga h (m + 4) (nI e) F = F (nI (S.2.1 4 e)) := by
  obtain ⟨pa, P, hR, -⟩ := hS
  exact rN_4 hR he
theorem wS_4 {F : aH → Prop} {e w : Nat} (hS : MMs g h m S pl) (he : e < 200) (hF : ∀ h1 : aH, GR h pl h1 pl → MMs g h1 m (setN S 4 e w) pl → F h1) : am_pa h (m + 4) (nI e) (nI w) F := by
  obtain ⟨pa, P, hR, hP⟩ := hS
  exact wN_4 hR he (fun h1 a1 b1 hR1 => hF h1 (GR.of a1 b1) ⟨pa, P, hR1, hP⟩)
theorem rS_6 {F : Int32 → Prop} {e : Nat} (hS : MMs g h m S pl) (he : e < 200) : am_ga h (m + 6) (nI e) F = F (nI (S.2.1 6 e)) := by
  obtain ⟨pa, P, hR, -⟩ := hS
  exact rN_6 hR he
theorem wS_6 {F : aH → Prop} {e w : Nat} (hS : MMs g h m S pl) (he : e < 200) (hF : ∀ h1 : aH, GR h pl h1 pl → MMs g h1 m (setN S 6 e w) pl → F h1) : am_pa h (m + 6) (nI e) (nI w) F := by
  obtain ⟨pa, P, hR, hP⟩ := hS
  exact wN_6 hR he (fun h1 a1 b1 hR1 => hF h1 (GR.of a1 b1) ⟨pa, P, hR1, hP⟩)
theorem rS_7 {F : Int32 → Prop} {e : Nat} (hS : MMs g h m S pl) (he : e < 200) : am_ga h (m + 7) (nI e) F = F (nI (S.2.1 7 e)) := by
  obtain ⟨pa, P, hR, -⟩ := hS
  exact rN_7 hR he
theorem wS_7 {F : aH → Prop} {e w : Nat} (hS : MMs g h m S pl) (he : e < 200) (hF : ∀ h1 : aH, GR h pl h1 pl → MMs g h1 m (setN S 7 e w) pl → F h1) : am_pa h (m + 7) (nI e) (nI w) F := by
  obtain ⟨pa, P, hR, hP⟩ := hS
  exact wN_7 hR he (fun h1 a1 b1 hR1 => hF h1 (GR.of a1 b1) ⟨pa, P, hR1, hP⟩)
theorem rS_8 {F : Int32 → Prop} {e : Nat} (hS : MMs g h m S pl) (he : e < 200) : am_gaz h (m + 8) (nI e) F = F (nI (S.2.1 8 e)) := by
  obtain ⟨pa, P, hR, -⟩ := hS
  exact rN_8 hR he
theorem wS_8 {F : aH → Prop} {e w : Nat} (hS : MMs g h m S pl) (he : e < 200) (hF : ∀ h1 : aH, GR h pl h1 pl → MMs g h1 m (setN S 8 e w) pl → F h1) : am_paz h (m + 8) (nI e) (nI w) F := by
  obtain ⟨pa, P, hR, hP⟩ := hS
  exact wN_8 hR he (fun h1 a1 b1 hR1 => hF h1 (GR.of a1 b1) ⟨pa, P, hR1, hP⟩)
theorem rS_9 {F : Int32 → Prop} {e : Nat} (hS : MMs g h m S pl) (he : e < 200) : am_ga h (m + 9) (nI e) F = F (nI (S.2.1 9 e)) := by
  obtain ⟨pa, P, hR, -⟩ := hS
  exact rN_9 hR he
theorem wS_9 {F : aH → Prop} {e w : Nat} (hS : MMs g h m S pl) (he : e < 200) (hF : ∀ h1 : aH, GR h pl h1 pl → MMs g h1 m (setN S 9 e w) pl → F h1) : am_pa h (m + 9) (nI e) (nI w) F := by
  obtain ⟨pa, P, hR, hP⟩ := hS
  exact wN_9 hR he (fun h1 a1 b1 hR1 => hF h1 (GR.of a1 b1) ⟨pa, P, hR1, hP⟩)
theorem rS_10 {F : Int32 → Prop} {e : Nat} (hS : MMs g h m S pl) (he : e < 6) : am_ga h (m + 10) (nI e) F = F (nI (S.2.1 10 e)) := by
  obtain ⟨pa, P, hR, -⟩ := hS
  exact rN_10 hR he
theorem wS_10 {F : aH → Prop} {e w : Nat} (hS : MMs g h m S pl) (he : e < 6) (hF : ∀ h1 : aH, GR h pl h1 pl → MMs g h1 m (setN S 10 e w) pl → F h1) : am_pa h (m + 10) (nI e) (nI w) F := by
  obtain ⟨pa, P, hR, hP⟩ := hS
  exact wN_10 hR he (fun h1 a1 b1 hR1 => hF h1 (GR.of a1 b1) ⟨pa, P, hR1, hP⟩)
theorem rS_11 {F : Int32 → Prop} {e : Nat} (hS : MMs g h m S pl) (he : e < 1200) : am_ga h (m + 11) (nI e) F = F (nI (S.2.1 11 e)) := by
  obtain ⟨pa, P, hR, -⟩ := hS
  exact rN_11 hR he
theorem wS_11 {F : aH → Prop} {e w : Nat} (hS : MMs g h m S pl) (he : e < 1200) (hF : ∀ h1 : aH, GR h pl h1 pl → MMs g h1 m (setN S 11 e w) pl → F h1) : am_pa h (m + 11) (nI e) (nI w) F := by
  obtain ⟨pa, P, hR, hP⟩ := hS
  exact wN_11 hR he (fun h1 a1 b1 hR1 => hF h1 (GR.of a1 b1) ⟨pa, P, hR1, hP⟩)
theorem rS_12 {F : Int32 → Prop} {e : Nat} (hS : MMs g h m S pl) (he : e < 1200) : am_ga h (m + 12) (nI e) F = F (nI (S.2.1 12 e)) := by
  obtain ⟨pa, P, hR, -⟩ := hS
  exact rN_12 hR he
theorem wS_12 {F : aH → Prop} {e w : Nat} (hS : MMs g h m S pl) (he : e < 1200) (hF : ∀ h1 : aH, GR h pl h1 pl → MMs g h1 m (setN S 12 e w) pl → F h1) : am_pa h (m + 12) (nI e) (nI w) F := by
  obtain ⟨pa, P, hR, hP⟩ := hS
  exact wN_12 hR he (fun h1 a1 b1 hR1 => hF h1 (GR.of a1 b1) ⟨pa, P, hR1, hP⟩)
theorem rS_13 {F : Int32 → Prop} {e : Nat} (hS : MMs g h m S pl) (he : e < 18) : am_ga h (m + 13) (nI e) F = F (nI (S.2.1 13 e)) := by
  obtain ⟨pa, P, hR, -⟩ := hS
  exact rN_13 hR he
theorem wS_13 {F : aH → Prop} {e w : Nat} (hS : MMs g h m S pl) (he : e < 18) (hF : ∀ h1 : aH, GR h pl h1 pl → MMs g h1 m (setN S 13 e w) pl → F h1) : am_pa h (m + 13) (nI e) (nI w) F := by
  obtain ⟨pa, P, hR, hP⟩ := hS
  exact wN_13 hR he (fun h1 a1 b1 hR1 => hF h1 (GR.of a1 b1) ⟨pa, P, hR1, hP⟩)
theorem rS_14 {F : Int32 → Prop} {e : Nat} (hS : MMs g h m S pl) (he : e < 18) : am_ga h (m + 14) (nI e) F = F (nI (S.2.1 14 e)) := by
  obtain ⟨pa, P, hR, -⟩ := hS
  exact rN_14 hR he
theorem wS_14 {F : aH → Prop} {e w : Nat} (hS : MMs g h m S pl) (he : e < 18) (hF : ∀ h1 : aH, GR h pl h1 pl → MMs g h1 m (setN S 14 e w) pl → F h1) : am_pa h (m + 14) (nI e) (nI w) F := by
  obtain ⟨pa, P, hR, hP⟩ := hS
  exact wN_14 hR he (fun h1 a1 b1 hR1 => hF h1 (GR.of a1 b1) ⟨pa, P, hR1, hP⟩)
theorem rS_15 {F : Int32 → Prop} {e : Nat} (hS : MMs g h m S pl) (he : e < 6) : am_ga h (m + 15) (nI e) F = F (nI (S.2.1 15 e)) := by
  obtain ⟨pa, P, hR, -⟩ := hS
  exact rN_15 hR he
theorem wS_15 {F : aH → Prop} {e w : Nat} (hS : MMs g h m S pl) (he : e < 6) (hF : ∀ h1 : aH, GR h pl h1 pl → MMs g h1 m (setN S 15 e w) pl → F h1) : am_pa h (m + 15) (nI e) (nI w) F := by
  obtain ⟨pa, P, hR, hP⟩ := hS
  exact wN_15 hR he (fun h1 a1 b1 hR1 => hF h1 (GR.of a1 b1) ⟨pa, P, hR1, hP⟩)
theorem rS_16 {F : Int32 → Prop} {e : Nat} (hS : MMs g h m S pl) (he : e < 6) : am_ga h (m + 16) (nI e) F = F (nI (S.2.1 16 e)) := by
  obtain ⟨pa, P, hR, -⟩ := hS
  exact rN_16 hR he
theorem wS_16 {F : aH → Prop} {e w : Nat} (hS : MMs g h m S pl) (he : e < 6) (hF : ∀ h1 : aH, GR h pl h1 pl → MMs g h1 m (setN S 16 e w) pl → F h1) : am_pa h (m + 16) (nI e) (nI w) F := by
  obtain ⟨pa, P, hR, hP⟩ := hS
  exact wN_16 hR he (fun h1 a1 b1 hR1 => hF h1 (GR.of a1 b1) ⟨pa, P, hR1, hP⟩)
theorem rS_17 {F : Int32 → Prop} {e : Nat} (hS : MMs g h m S pl) (he : e < 18) : am_ga h (m + 17) (nI e) F = F (nI (S.2.1 17 e)) := by
  obtain ⟨pa, P, hR, -⟩ := hS
  exact rN_17 hR he
theorem wS_17 {F : aH → Prop} {e w : Nat} (hS : MMs g h m S pl) (he : e < 18) (hF : ∀ h1 : aH, GR h pl h1 pl → MMs g h1 m (setN S 17 e w) pl → F h1) : am_pa h (m + 17) (nI e) (nI w) F := by
  obtain ⟨pa, P, hR, hP⟩ := hS
  exact wN_17 hR he (fun h1 a1 b1 hR1 => hF h1 (GR.of a1 b1) ⟨pa, P, hR1, hP⟩)
theorem rS_19 {F : Int32 → Prop} {e : Nat} (hS : MMs g h m S pl) (he : e < 6) : am_ga h (m + 19) (nI e) F = F (nI (S.2.1 19 e)) := by
  obtain ⟨pa, P, hR, -⟩ := hS
  exact rN_19 hR he
theorem wS_19 {F : aH → Prop} {e w : Nat} (hS : MMs g h m S pl) (he : e < 6) (hF : ∀ h1 : aH, GR h pl h1 pl → MMs g h1 m (setN S 19 e w) pl → F h1) : am_pa h (m + 19) (nI e) (nI w) F := by
  obtain ⟨pa, P, hR, hP⟩ := hS
  exact wN_19 hR he (fun h1 a1 b1 hR1 => hF h1 (GR.of a1 b1) ⟨pa, P, hR1, hP⟩)
theorem rS_5 {F : Int32 → Prop} {e : Nat} (hS : MMs g h m S pl) (he : e < 1600) : am_ga h (m + 5) (nI e) F = F (S.2.2.1 5 e) := by
  obtain ⟨pa, P, hR, -⟩ := hS
  exact rV_5 hR he
theorem wS_5 {F : aH → Prop} {e : Nat} {w : Int32} (hS : MMs g h m S pl) (he : e < 1600) (hF : ∀ h1 : aH, GR h pl h1 pl → MMs g h1 m (setV S 5 e w) pl → F h1) : am_pa h (m + 5) (nI e) w F := by
  obtain ⟨pa, P, hR, hP⟩ := hS
  exact wV_5 hR he (fun h1 a1 b1 hR1 => hF h1 (GR.of a1 b1) ⟨pa, P, hR1, hP⟩)
theorem rS_20 {F : Int32 → Prop} {e : Nat} (hS : MMs g h m S pl) (he : e < 48) : am_ga h (m + 20) (nI e) F = F (S.2.2.1 20 e) := by
  obtain ⟨pa, P, hR, -⟩ := hS
  exact rV_20 hR he
theorem wS_20 {F : aH → Prop} {e : Nat} {w : Int32} (hS : MMs g h m S pl) (he : e < 48) (hF : ∀ h1 : aH, GR h pl h1 pl → MMs g h1 m (setV S 20 e w) pl → F h1) : am_pa h (m + 20) (nI e) w F := by
  obtain ⟨pa, P, hR, hP⟩ := hS
  exact wV_20 hR he (fun h1 a1 b1 hR1 => hF h1 (GR.of a1 b1) ⟨pa, P, hR1, hP⟩)
theorem rS_21 {F : Int32 → Prop} {e : Nat} (hS : MMs g h m S pl) (he : e < 6) : am_ga h (m + 21) (nI e) F = F (S.2.2.1 21 e) := by
  obtain ⟨pa, P, hR, -⟩ := hS
  exact rV_21 hR he
theorem wS_21 {F : aH → Prop} {e : Nat} {w : Int32} (hS : MMs g h m S pl) (he : e < 6) (hF : ∀ h1 : aH, GR h pl h1 pl → MMs g h1 m (setV S 21 e w) pl → F h1) : am_pa h (m + 21) (nI e) w F := by
  obtain ⟨pa, P, hR, hP⟩ := hS
  exact wV_21 hR he (fun h1 a1 b1 hR1 => hF h1 (GR.of a1 b1) ⟨pa, P, hR1, hP⟩)
theorem rS_18 {F : Int32 → Prop} {e : Nat} (hS : MMs g h m S pl) (he : e < 48) : am_ga h (m + 18) (nI e) F = F (eO (S.2.2.2.1 e)) := by
  obtain ⟨pa, P, hR, -⟩ := hS
  exact rO hR he
theorem wS_18 {F : aH → Prop} {e : Nat} {o : Option Nat} (hS : MMs g h m S pl) (he : e < 48) (hF : ∀ h1 : aH, GR h pl h1 pl → MMs g h1 m (setO S e o) pl → F h1) : am_pa h (m + 18) (nI e) (eO o) F := by
  obtain ⟨pa, P, hR, hP⟩ := hS
  exact wO hR he (fun h1 a1 b1 hR1 => hF h1 (GR.of a1 b1) ⟨pa, P, hR1, hP⟩)
theorem pS_0 {F : aH → Prop} {k : Nat} (hS : MMs g h m S pl) (hF : ∀ h1 : aH, GR h pl h1 pl → MMs g h1 m (setMany S k) pl → F h1) : am_pf h 7 m 0 (.int (nI k)) F := by
  obtain ⟨pa, P, hR, hP⟩ := hS
  exact pM_0 hR (fun h1 a1 b1 hR1 => hF h1 (GR.of a1 b1) ⟨pa, P, hR1, hP⟩)
theorem s78 {n : Nat} (hS : MMs g h m S pl) (hB : am_BN S.2.1) (hn : n < 200) : am_R d 78 0 [some (.ref m), some (.int (nI n))] [] h Q = Q (some (.int (nI (plT S.2.1 n)))) h := by
  obtain ⟨pa, P, hR, hP, hl, hp1, hp2⟩ := hS
  exact c78n hR hB hn
theorem s79 {n k : Nat} (hS : MMs g h m S pl) (hB : am_BN S.2.1) (hn : n < 200) (hk : k < 8) : am_R d 79 0 [some (.ref m), some (.int (nI n)), some (.int (nI k))] [] h Q = Q (some (.int (b32 (wF (S.2.1 4 n) k)))) h := by
  obtain ⟨pa, P, hR, hP, hl, hp1, hp2⟩ := hS
  exact c79 hR hB hn hk
theorem s80 {n p : Nat} (hS : MMs g h m S pl) (hB : am_BN S.2.1) (hn : n < 200) (hp : p < 3) (h8 : S.2.1 8 n < 2) : am_R (d + 1) 80 0 [some (.ref m), some (.int (nI n)), some (.int (nI p))] [] h Q = Q (some (.int (nI (stF S.2.1 n p)))) h := by
  obtain ⟨pa, P, hR, hP, hl, hp1, hp2⟩ := hS
  exact c80 hR hB hn hp h8
theorem s81 {n c : Nat} (hS : MMs g h m S pl) (hB : am_BN S.2.1) (hn : n < 200) (hc : c < 6) (h8 : S.2.1 8 n < 2) : am_R (d + 2) 81 0 [some (.ref m), some (.int (nI n)), some (.int (nI c)), none] [] h Q = Q (some (.int (b32 (snF S.2.1 n c)))) h := by
  obtain ⟨pa, P, hR, hP, hl, hp1, hp2⟩ := hS
  exact c81 hR hB hn hc h8
theorem s82 {a b : Nat} (hS : MMs g h m S pl) (hB : am_BN S.2.1) (ha : a < 200) (hb : b < 200) : am_R (d + 1) 82 0 [some (.ref m), some (.int (nI a)), some (.int (nI b))] [] h Q = Q (some (.int (b32 (nwB S.2.1 a b = true)))) h := by
  obtain ⟨pa, P, hR, hP, hl, hp1, hp2⟩ := hS
  exact c82 hR hB ha hb
theorem s83 {s n k : Nat} (hS : MMs g h m S pl) (hB : am_BN S.2.1) (hs : s < 6) (hn : n < 200) (hk : k < 8) : am_R (d + 1) 83 0 [some (.ref m), some (.int (nI s)), some (.int (nI n)), some (.int (nI k))] [] h Q = Q (some (.int (b32 (hvF S.2.1 s n k)))) h := by
  obtain ⟨pa, P, hR, hP, hl, hp1, hp2⟩ := hS
  exact c83 hR hB hs hn hk
theorem s84 {n s : Nat} (hS : MMs g h m S pl) (hB : am_BN S.2.1) (hs : s < 6) (hn : n < 200) : am_R (d + 1) 84 0 [some (.ref m), some (.int (nI n)), some (.int (nI s)), none] [] h Q = Q (some (.int (b32 (coF S.2.1 n s = true)))) h := by
  obtain ⟨pa, P, hR, hP, hl, hp1, hp2⟩ := hS
  exact c84 hR hB hs hn
theorem s91 {s w : Nat} (hS : MMs g h m S pl) (hB : am_BN S.2.1) (hs : s < 6) (hw : w < 4) (hm : S.1 ≤ 200) : am_R d 91 0 [some (.ref m), some (.int (nI s)), some (.int (nI w)), none, none] [] h Q = Q (some (.int (eO (leF S.2.1 s w S.1)))) h := by
  obtain ⟨pa, P, hR, hP, hl, hp1, hp2⟩ := hS
  exact c91 hR hB hs hw hm
theorem s93 {s p : Nat} (hS : MMs g h m S pl) (hB : am_BN S.2.1) (hs : s < 6) (hp : p < 3) : am_R d 93 0 [some (.ref m), some (.int (nI s)), some (.int (nI p))] [] h Q = Q (some (.int (nI (min (S.2.1 13 (3 * s + p)) (S.2.1 14 (3 * s + p)))))) h := by
  obtain ⟨pa, P, hR, hP, hl, hp1, hp2⟩ := hS
  exact c93 hR hB hs hp
theorem s104 {s w : Nat} (hS : MMs g h m S pl) (hB : am_BN S.2.1) (hs : s < 6) (hw : w < 4) (hm : S.1 ≤ 200) : am_R d 104 0 [some (.ref m), some (.int (nI s)), some (.int (nI w)), none, none] [] h Q = Q (some (.int (nI (cntF (fun j => decide (S.2.1 11 (200 * s + j) = w)) S.1)))) h := by
  obtain ⟨pa, P, hR, hP, hl, hp1, hp2⟩ := hS
  exact c104 hR hB hs hw hm
end MSS
