/-! the model's arrays told by numbers (N k e), values (V k e), own versions (O e), the post (P e) -/
def eO (o : Option Nat) : Int32 := match o with
  | none => -1
  | some n => nI n
def eA (N : Nat → Nat → Nat) (V : Nat → Nat → Int32) (O : Nat → Option Nat) (P : Nat → Int32) (k e : Nat) : Int32 := if k = 18 then eO (O e) else if k = 23 then P e else if k = 5 ∨ k = 20 ∨ k = 21 then V k e else nI (N k e)
def up2 {β : Type} (N : Nat → Nat → β) (k e : Nat) (v : β) : Nat → Nat → β := fun k2 e2 => if k2 = k ∧ e2 = e then v else N k2 e2
abbrev MM (g : Nat → Option aE) (h : aH) (m many wt pa pl : Nat) (N : Nat → Nat → Nat) (V : Nat → Nat → Int32) (O : Nat → Option Nat) (P : Nat → Int32) : Prop := RepM g h m many wt pa pl (eA N V O P)
section MS
variable {N : Nat → Nat → Nat} {V : Nat → Nat → Int32} {O : Nat → Option Nat} {P : Nat → Int32}
theorem eA_upN {k e w : Nat} (hk : k ≠ 18 ∧ k ≠ 23 ∧ k ≠ 5 ∧ k ≠ 20 ∧ k ≠ 21) : va_up (eA N V O P) k (upd (eA N V O P k) e (nI w)) = eA (up2 N k e w) V O P := by
  funext k2 e2
  unfold va_up upd eA up2
  by_cases h1 : k2 = k
  · subst h1
    rw [if_pos rfl]
    by_cases h2 : e2 = e
    · subst h2
      simp [hk]
    · simp [hk, h2]
  · rw [if_neg h1]
    simp [h1]
theorem eA_upV {k e : Nat} {w : Int32} (hk : k = 5 ∨ k = 20 ∨ k = 21) : va_up (eA N V O P) k (upd (eA N V O P k) e w) = eA N (up2 V k e w) O P := by
  have n1 : ¬ k = 18 := by omega
  have n2 : ¬ k = 23 := by omega
  funext k2 e2
  unfold va_up upd eA up2
  by_cases h1 : k2 = k
  · subst h1
    rw [if_pos rfl]
    by_cases h2 : e2 = e
    · subst h2
      simp [hk, n1, n2]
    · simp [hk, n1, n2, h2]
  · rw [if_neg h1]
    simp [h1]
theorem eA_upO {e : Nat} {o : Option Nat} : va_up (eA N V O P) 18 (upd (eA N V O P 18) e (eO o)) = eA N V (va_up O e o) P := by
  funext k2 e2
  unfold va_up upd eA
  by_cases h1 : k2 = 18
  · subst h1
    rw [if_pos rfl]
    by_cases h2 : e2 = e
    · subst h2
      simp
    · simp [h2]
  · rw [if_neg h1]
    simp [h1]
theorem eA_upP {e : Nat} {w : Int32} : va_up (eA N V O P) 23 (upd (eA N V O P 23) e w) = eA N V O (upd P e w) := by
  funext k2 e2
  unfold va_up upd eA
  by_cases h1 : k2 = 23
  · subst h1
    rw [if_pos rfl]
    by_cases h2 : e2 = e
    · subst h2
      simp
    · simp [h2]
  · rw [if_neg h1]
    simp [h1]
variable {g : Nat → Option aE} {h : aH} {m many wt pa pl : Nat}
theorem rN_1 {F : Int32 → Prop} {e : Nat} (hR : MM g h m many wt pa pl N V O P) (he : e < 200) : am_ga h (m + 1) (nI e) F = F (nI (N 1 e)) := rM_1 hR he
theorem wN_1 {F : aH → Prop} {e w : Nat} (hR : MM g h m many wt pa pl N V O P) (he : e < 200) (hF : ∀ h1 : aH, h1.1 = h.1 → h1.2.1 = h.2.1 → MM g h1 m many wt pa pl (up2 N 1 e w) V O P → F h1) : am_pa h (m + 1) (nI e) (nI w) F := wM_1 hR he (fun h1 e1 e2 hR1 => hF h1 e1 e2 (by rw [eA_upN (by decide)] at hR1; exact hR1))
theorem rN_2 {F : Int32 → Prop} {e : Nat} (hR : MM g h m many wt pa pl N V O P) (he : e < 600) : am_ga h (m + 2) (nI e) F = F (nI (N 2 e)) := rM_2 hR he
theorem wN_2 {F : aH → Prop} {e w : Nat} (hR : MM g h m many wt pa pl N V O P) (he : e < 600) (hF : ∀ h1 : aH, h1.1 = h.1 → h1.2.1 = h.2.1 → MM g h1 m many wt pa pl (up2 N 2 e w) V O P → F h1) : am_pa h (m + 2) (nI e) (nI w) F := wM_2 hR he (fun h1 e1 e2 hR1 => hF h1 e1 e2 (by rw [eA_upN (by decide)] at hR1; exact hR1))
theorem rN_3 {F : Int32 → Prop} {e : Nat} (hR : MM g h m many wt pa pl N V O P) (he : e < 200) : am_ga h (m + 3) (nI e) F = F (nI (N 3 e)) := rM_3 hR he
theorem wN_3 {F : aH → Prop} {e w : Nat} (hR : MM g h m many wt pa pl N V O P) (he : e < 200) (hF : ∀ h1 : aH, h1.1 = h.1 → h1.2.1 = h.2.1 → MM g h1 m many wt pa pl (up2 N 3 e w) V O P → F h1) : am_pa h (m + 3) (nI e) (nI w) F := wM_3 hR he (fun h1 e1 e2 hR1 => hF h1 e1 e2 (by rw [eA_upN (by decide)] at hR1; exact hR1))
theorem rN_4 {F : Int32 → Prop} {e : Nat} (hR : MM g h m many wt pa pl N V O P) (he : e < 200) : am_ga h (m + 4) (nI e) F = F (nI (N 4 e)) := rM_4 hR he
theorem wN_4 {F : aH → Prop} {e w : Nat} (hR : MM g h m many wt pa pl N V O P) (he : e < 200) (hF : ∀ h1 : aH, h1.1 = h.1 → h1.2.1 = h.2.1 → MM g h1 m many wt pa pl (up2 N 4 e w) V O P → F h1) : am_pa h (m + 4) (nI e) (nI w) F := wM_4 hR he (fun h1 e1 e2 hR1 => hF h1 e1 e2 (by rw [eA_upN (by decide)] at hR1; exact hR1))
theorem rN_6 {F : Int32 → Prop} {e : Nat} (hR : MM g h m many wt pa pl N V O P) (he : e < 200) : am_ga h (m + 6) (nI e) F = F (nI (N 6 e)) := rM_6 hR he
theorem wN_6 {F : aH → Prop} {e w : Nat} (hR : MM g h m many wt pa pl N V O P) (he : e < 200) (hF : ∀ h1 : aH, h1.1 = h.1 → h1.2.1 = h.2.1 → MM g h1 m many wt pa pl (up2 N 6 e w) V O P → F h1) : am_pa h (m + 6) (nI e) (nI w) F := wM_6 hR he (fun h1 e1 e2 hR1 => hF h1 e1 e2 (by rw [eA_upN (by decide)] at hR1; exact hR1))
theorem rN_7 {F : Int32 → Prop} {e : Nat} (hR : MM g h m many wt pa pl N V O P) (he : e < 200) : am_ga h (m + 7) (nI e) F = F (nI (N 7 e)) := rM_7 hR he
theorem wN_7 {F : aH → Prop} {e w : Nat} (hR : MM g h m many wt pa pl N V O P) (he : e < 200) (hF : ∀ h1 : aH, h1.1 = h.1 → h1.2.1 = h.2.1 → MM g h1 m many wt pa pl (up2 N 7 e w) V O P → F h1) : am_pa h (m + 7) (nI e) (nI w) F := wM_7 hR he (fun h1 e1 e2 hR1 => hF h1 e1 e2 (by rw [eA_upN (by decide)] at hR1; exact hR1))
theorem rN_8 {F : Int32 → Prop} {e : Nat} (hR : MM g h m many wt pa pl N V O P) (he : e < 200) : am_gaz h (m + 8) (nI e) F = F (nI (N 8 e)) := rM_8 hR he
theorem wN_8 {F : aH → Prop} {e w : Nat} (hR : MM g h m many wt pa pl N V O P) (he : e < 200) (hF : ∀ h1 : aH, h1.1 = h.1 → h1.2.1 = h.2.1 → MM g h1 m many wt pa pl (up2 N 8 e w) V O P → F h1) : am_paz h (m + 8) (nI e) (nI w) F := wM_8 hR he (fun h1 e1 e2 hR1 => hF h1 e1 e2 (by rw [eA_upN (by decide)] at hR1; exact hR1))
theorem rN_9 {F : Int32 → Prop} {e : Nat} (hR : MM g h m many wt pa pl N V O P) (he : e < 200) : am_ga h (m + 9) (nI e) F = F (nI (N 9 e)) := rM_9 hR he
theorem wN_9 {F : aH → Prop} {e w : Nat} (hR : MM g h m many wt pa pl N V O P) (he : e < 200) (hF : ∀ h1 : aH, h1.1 = h.1 → h1.2.1 = h.2.1 → MM g h1 m many wt pa pl (up2 N 9 e w) V O P → F h1) : am_pa h (m + 9) (nI e) (nI w) F := wM_9 hR he (fun h1 e1 e2 hR1 => hF h1 e1 e2 (by rw [eA_upN (by decide)] at hR1; exact hR1))
theorem rN_10 {F : Int32 → Prop} {e : Nat} (hR : MM g h m many wt pa pl N V O P) (he : e < 6) : am_ga h (m + 10) (nI e) F = F (nI (N 10 e)) := rM_10 hR he
theorem wN_10 {F : aH → Prop} {e w : Nat} (hR : MM g h m many wt pa pl N V O P) (he : e < 6) (hF : ∀ h1 : aH, h1.1 = h.1 → h1.2.1 = h.2.1 → MM g h1 m many wt pa pl (up2 N 10 e w) V O P → F h1) : am_pa h (m + 10) (nI e) (nI w) F := wM_10 hR he (fun h1 e1 e2 hR1 => hF h1 e1 e2 (by rw [eA_upN (by decide)] at hR1; exact hR1))
theorem rN_11 {F : Int32 → Prop} {e : Nat} (hR : MM g h m many wt pa pl N V O P) (he : e < 1200) : am_ga h (m + 11) (nI e) F = F (nI (N 11 e)) := rM_11 hR he
theorem wN_11 {F : aH → Prop} {e w : Nat} (hR : MM g h m many wt pa pl N V O P) (he : e < 1200) (hF : ∀ h1 : aH, h1.1 = h.1 → h1.2.1 = h.2.1 → MM g h1 m many wt pa pl (up2 N 11 e w) V O P → F h1) : am_pa h (m + 11) (nI e) (nI w) F := wM_11 hR he (fun h1 e1 e2 hR1 => hF h1 e1 e2 (by rw [eA_upN (by decide)] at hR1; exact hR1))
theorem rN_12 {F : Int32 → Prop} {e : Nat} (hR : MM g h m many wt pa pl N V O P) (he : e < 1200) : am_ga h (m + 12) (nI e) F = F (nI (N 12 e)) := rM_12 hR he
theorem wN_12 {F : aH → Prop} {e w : Nat} (hR : MM g h m many wt pa pl N V O P) (he : e < 1200) (hF : ∀ h1 : aH, h1.1 = h.1 → h1.2.1 = h.2.1 → MM g h1 m many wt pa pl (up2 N 12 e w) V O P → F h1) : am_pa h (m + 12) (nI e) (nI w) F := wM_12 hR he (fun h1 e1 e2 hR1 => hF h1 e1 e2 (by rw [eA_upN (by decide)] at hR1; exact hR1))
theorem rN_13 {F : Int32 → Prop} {e : Nat} (hR : MM g h m many wt pa pl N V O P) (he : e < 18) : am_ga h (m + 13) (nI e) F = F (nI (N 13 e)) := rM_13 hR he
theorem wN_13 {F : aH → Prop} {e w : Nat} (hR : MM g h m many wt pa pl N V O P) (he : e < 18) (hF : ∀ h1 : aH, h1.1 = h.1 → h1.2.1 = h.2.1 → MM g h1 m many wt pa pl (up2 N 13 e w) V O P → F h1) : am_pa h (m + 13) (nI e) (nI w) F := wM_13 hR he (fun h1 e1 e2 hR1 => hF h1 e1 e2 (by rw [eA_upN (by decide)] at hR1; exact hR1))
theorem rN_14 {F : Int32 → Prop} {e : Nat} (hR : MM g h m many wt pa pl N V O P) (he : e < 18) : am_ga h (m + 14) (nI e) F = F (nI (N 14 e)) := rM_14 hR he
theorem wN_14 {F : aH → Prop} {e w : Nat} (hR : MM g h m many wt pa pl N V O P) (he : e < 18) (hF : ∀ h1 : aH, h1.1 = h.1 → h1.2.1 = h.2.1 → MM g h1 m many wt pa pl (up2 N 14 e w) V O P → F h1) : am_pa h (m + 14) (nI e) (nI w) F := wM_14 hR he (fun h1 e1 e2 hR1 => hF h1 e1 e2 (by rw [eA_upN (by decide)] at hR1; exact hR1))
theorem rN_15 {F : Int32 → Prop} {e : Nat} (hR : MM g h m many wt pa pl N V O P) (he : e < 6) : am_ga h (m + 15) (nI e) F = F (nI (N 15 e)) := rM_15 hR he
theorem wN_15 {F : aH → Prop} {e w : Nat} (hR : MM g h m many wt pa pl N V O P) (he : e < 6) (hF : ∀ h1 : aH, h1.1 = h.1 → h1.2.1 = h.2.1 → MM g h1 m many wt pa pl (up2 N 15 e w) V O P → F h1) : am_pa h (m + 15) (nI e) (nI w) F := wM_15 hR he (fun h1 e1 e2 hR1 => hF h1 e1 e2 (by rw [eA_upN (by decide)] at hR1; exact hR1))
theorem rN_16 {F : Int32 → Prop} {e : Nat} (hR : MM g h m many wt pa pl N V O P) (he : e < 6) : am_ga h (m + 16) (nI e) F = F (nI (N 16 e)) := rM_16 hR he
theorem wN_16 {F : aH → Prop} {e w : Nat} (hR : MM g h m many wt pa pl N V O P) (he : e < 6) (hF : ∀ h1 : aH, h1.1 = h.1 → h1.2.1 = h.2.1 → MM g h1 m many wt pa pl (up2 N 16 e w) V O P → F h1) : am_pa h (m + 16) (nI e) (nI w) F := wM_16 hR he (fun h1 e1 e2 hR1 => hF h1 e1 e2 (by rw [eA_upN (by decide)] at hR1; exact hR1))
theorem rN_17 {F : Int32 → Prop} {e : Nat} (hR : MM g h m many wt pa pl N V O P) (he : e < 18) : am_ga h (m + 17) (nI e) F = F (nI (N 17 e)) := rM_17 hR he
theorem wN_17 {F : aH → Prop} {e w : Nat} (hR : MM g h m many wt pa pl N V O P) (he : e < 18) (hF : ∀ h1 : aH, h1.1 = h.1 → h1.2.1 = h.2.1 → MM g h1 m many wt pa pl (up2 N 17 e w) V O P → F h1) : am_pa h (m + 17) (nI e) (nI w) F := wM_17 hR he (fun h1 e1 e2 hR1 => hF h1 e1 e2 (by rw [eA_upN (by decide)] at hR1; exact hR1))
theorem rN_19 {F : Int32 → Prop} {e : Nat} (hR : MM g h m many wt pa pl N V O P) (he : e < 6) : am_ga h (m + 19) (nI e) F = F (nI (N 19 e)) := rM_19 hR he
theorem wN_19 {F : aH → Prop} {e w : Nat} (hR : MM g h m many wt pa pl N V O P) (he : e < 6) (hF : ∀ h1 : aH, h1.1 = h.1 → h1.2.1 = h.2.1 → MM g h1 m many wt pa pl (up2 N 19 e w) V O P → F h1) : am_pa h (m + 19) (nI e) (nI w) F := wM_19 hR he (fun h1 e1 e2 hR1 => hF h1 e1 e2 (by rw [eA_upN (by decide)] at hR1; exact hR1))
theorem rV_5 {F : Int32 → Prop} {e : Nat} (hR : MM g h m many wt pa pl N V O P) (he : e < 1600) : am_ga h (m + 5) (nI e) F = F (V 5 e) := rM_5 (A := eA N V O P) hR he
theorem wV_5 {F : aH → Prop} {e : Nat} {w : Int32} (hR : MM g h m many wt pa pl N V O P) (he : e < 1600) (hF : ∀ h1 : aH, h1.1 = h.1 → h1.2.1 = h.2.1 → MM g h1 m many wt pa pl N (up2 V 5 e w) O P → F h1) : am_pa h (m + 5) (nI e) w F := wM_5 hR he (fun h1 e1 e2 hR1 => hF h1 e1 e2 (by rw [eA_upV (by decide)] at hR1; exact hR1))
theorem rV_20 {F : Int32 → Prop} {e : Nat} (hR : MM g h m many wt pa pl N V O P) (he : e < 48) : am_ga h (m + 20) (nI e) F = F (V 20 e) := rM_20 (A := eA N V O P) hR he
theorem wV_20 {F : aH → Prop} {e : Nat} {w : Int32} (hR : MM g h m many wt pa pl N V O P) (he : e < 48) (hF : ∀ h1 : aH, h1.1 = h.1 → h1.2.1 = h.2.1 → MM g h1 m many wt pa pl N (up2 V 20 e w) O P → F h1) : am_pa h (m + 20) (nI e) w F := wM_20 hR he (fun h1 e1 e2 hR1 => hF h1 e1 e2 (by rw [eA_upV (by decide)] at hR1; exact hR1))
theorem rV_21 {F : Int32 → Prop} {e : Nat} (hR : MM g h m many wt pa pl N V O P) (he : e < 6) : am_ga h (m + 21) (nI e) F = F (V 21 e) := rM_21 (A := eA N V O P) hR he
theorem wV_21 {F : aH → Prop} {e : Nat} {w : Int32} (hR : MM g h m many wt pa pl N V O P) (he : e < 6) (hF : ∀ h1 : aH, h1.1 = h.1 → h1.2.1 = h.2.1 → MM g h1 m many wt pa pl N (up2 V 21 e w) O P → F h1) : am_pa h (m + 21) (nI e) w F := wM_21 hR he (fun h1 e1 e2 hR1 => hF h1 e1 e2 (by rw [eA_upV (by decide)] at hR1; exact hR1))
theorem rO {F : Int32 → Prop} {e : Nat} (hR : MM g h m many wt pa pl N V O P) (he : e < 48) : am_ga h (m + 18) (nI e) F = F (eO (O e)) := rM_18 hR he
theorem wO {F : aH → Prop} {e : Nat} {o : Option Nat} (hR : MM g h m many wt pa pl N V O P) (he : e < 48) (hF : ∀ h1 : aH, h1.1 = h.1 → h1.2.1 = h.2.1 → MM g h1 m many wt pa pl N V (va_up O e o) P → F h1) : am_pa h (m + 18) (nI e) (eO o) F := wM_18 hR he (fun h1 e1 e2 hR1 => hF h1 e1 e2 (by rw [eA_upO] at hR1; exact hR1))
theorem rP {F : Int32 → Prop} {e : Nat} (hR : MM g h m many wt pa pl N V O P) (he : e < pl) : am_ga h pa (nI e) F = F (P e) := rM_23 hR he
theorem wP {F : aH → Prop} {e : Nat} {w : Int32} (hR : MM g h m many wt pa pl N V O P) (he : e < pl) (hF : ∀ h1 : aH, h1.1 = h.1 → h1.2.1 = h.2.1 → MM g h1 m many wt pa pl N V O (upd P e w) → F h1) : am_pa h pa (nI e) w F := wM_23 hR he (fun h1 e1 e2 hR1 => hF h1 e1 e2 (by rw [eA_upP] at hR1; exact hR1))
end MS
