/-! printed by wip/whole/crep2.py: writes of the class's cells -/
theorem nI_upd {f : Nat → Nat} {e v : Nat} : upd (fun p => nI (f p)) e (nI v) = fun p => nI (va_up f e v p) := by
  funext q
  unfold upd va_up
  by_cases hq : q = e
  · rw [if_pos hq, if_pos hq]
  · rw [if_neg hq, if_neg hq]
section RCW
variable {g : Nat → Option aE} {h : aH} {c : Nat} {X : aX} {F : aH → Prop}
theorem pA0_4 {v : Nat} (hR : RC g h c X) (hF : ∀ h1 : aH, h1.1 = h.1 → h1.2.1 = h.2.1 → RC g h1 c (xs_cnt X v) → F h1) : am_pf h 0 (c) 4 (.int (nI v)) F := by
  rw [am_pf_of (kA0 hR) (Nat.le_of_ble_eq_true rfl)]
  exact hF _ rfl rfl (uA0 hR)
theorem pC0_dg {i : Nat} {v : Nat} (hi : i < 6) (hR : RC g h c X) (hF : ∀ h1 : aH, h1.1 = h.1 → h1.2.1 = h.2.1 → RC g h1 c (xs_dg X (va_up (x_dg X) i v)) → F h1) : am_pf h 1 (c + 2 + 6 * i) 4 (.int (nI v)) F := by
  rw [am_pf_of (kC0 hR i hi) (Nat.le_of_ble_eq_true rfl)]
  exact hF _ rfl rfl (uC0_dg hR hi)
theorem pC0_lt {i : Nat} {v : Nat} (hi : i < 6) (hR : RC g h c X) (hF : ∀ h1 : aH, h1.1 = h.1 → h1.2.1 = h.2.1 → RC g h1 c (xs_lt X (va_up (x_lt X) i v)) → F h1) : am_pf h 1 (c + 2 + 6 * i) 5 (.int (nI v)) F := by
  rw [am_pf_of (kC0 hR i hi) (Nat.le_of_ble_eq_true rfl)]
  exact hF _ rfl rfl (uC0_lt hR hi)
theorem pC0_lr {i : Nat} {v : Int32} (hi : i < 6) (hR : RC g h c X) (hF : ∀ h1 : aH, h1.1 = h.1 → h1.2.1 = h.2.1 → RC g h1 c (xs_lr X (va_up (x_lr X) i v)) → F h1) : am_pf h 1 (c + 2 + 6 * i) 6 (.int v) F := by
  rw [am_pf_of (kC0 hR i hi) (Nat.le_of_ble_eq_true rfl)]
  exact hF _ rfl rfl (uC0_lr hR hi)
theorem pV0_kc {i v : Nat} (hi : i < 6) (hR : RC g h c X) (hF : ∀ h1 : aH, h1.1 = h.1 → h1.2.1 = h.2.1 → RC g h1 c (xs_kc X (va_up (x_kc X) i v)) → F h1) : am_pf h 4 (c + 39 + 6 * i) 7 (.int (nI v)) F := by
  rw [am_pf_of (kV0 hR i hi) (Nat.le_of_ble_eq_true rfl)]
  exact hF _ rfl rfl (uV0_kc hR hi)
theorem pV0_ck {i v : Nat} (hi : i < 6) (hR : RC g h c X) (hF : ∀ h1 : aH, h1.1 = h.1 → h1.2.1 = h.2.1 → RC g h1 c (xs_ck X (va_up (x_ck X) i v)) → F h1) : am_pf h 4 (c + 39 + 6 * i) 8 (.int (nI v)) F := by
  rw [am_pf_of (kV0 hR i hi) (Nat.le_of_ble_eq_true rfl)]
  exact hF _ rfl rfl (uV0_ck hR hi)
theorem pL0_lf {l : Nat} {v : Option Nat} (hl : l < 36) (hk : lkd l = true) (hR : RC g h c X) (hF : ∀ h1 : aH, h1.1 = h.1 → h1.2.1 = h.2.1 → RC g h1 c (xs_lf X (va_up (x_lf X) l v)) → F h1) : am_pf h 2 (c + 76 + rk l) 0 (va_rf v) F := by
  rw [am_pf_of (kL0 hR l hl hk) (Nat.le_of_ble_eq_true rfl)]
  exact hF _ rfl rfl (uL0_lf hR hl hk)
theorem pL0_ll {l : Nat} {v : Option Nat} (hl : l < 36) (hk : lkd l = true) (hR : RC g h c X) (hF : ∀ h1 : aH, h1.1 = h.1 → h1.2.1 = h.2.1 → RC g h1 c (xs_ll X (va_up (x_ll X) l v)) → F h1) : am_pf h 2 (c + 76 + rk l) 1 (va_rf v) F := by
  rw [am_pf_of (kL0 hR l hl hk) (Nat.le_of_ble_eq_true rfl)]
  exact hF _ rfl rfl (uL0_ll hR hl hk)
theorem pL0_lc {l : Nat} {v : Nat} (hl : l < 36) (hk : lkd l = true) (hR : RC g h c X) (hF : ∀ h1 : aH, h1.1 = h.1 → h1.2.1 = h.2.1 → RC g h1 c (xs_lc X (va_up (x_lc X) l v)) → F h1) : am_pf h 2 (c + 76 + rk l) 2 (.int (nI v)) F := by
  rw [am_pf_of (kL0 hR l hl hk) (Nat.le_of_ble_eq_true rfl)]
  exact hF _ rfl rfl (uL0_lc hR hl hk)
theorem wC1 {i e v : Nat} (hi : i < 6) (he : e < 3) (hR : RC g h c X) (hF : ∀ h1 : aH, h1.1 = h.1 → h1.2.1 = h.2.1 → RC g h1 c (xs_sn X (va_up (x_sn X) i (va_up (x_sn X i) e v))) → F h1) : am_pa h (c + 3 + 6 * i) (nI e) (nI v) F := by
  rw [am_pa_of (kC1 hR i hi) (am_in_nI he (by decide)), nI_clamp (by omega), nI_upd]
  exact hF _ rfl rfl (uC1 hR hi)
theorem wC4 {i e v : Nat} (hi : i < 6) (he : e < 8) (hR : RC g h c X) (hF : ∀ h1 : aH, h1.1 = h.1 → h1.2.1 = h.2.1 → RC g h1 c (xs_hs X (va_up (x_hs X) i (va_up (x_hs X i) e v))) → F h1) : am_paz h (c + 6 + 6 * i) (nI e) (nI v) F := by
  rw [am_paz_of (kC4 hR i hi) (am_in_nI he (by decide)), nI_clamp (by omega), nI_upd]
  exact hF _ rfl rfl (uC4 hR hi)
theorem wV1 {i e v : Nat} (hi : i < 6) (he : e < 3) (hR : RC g h c X) (hF : ∀ h1 : aH, h1.1 = h.1 → h1.2.1 = h.2.1 → RC g h1 c (xs_kn X (va_up (x_kn X) i (va_up (x_kn X i) e v))) → F h1) : am_pa h (c + 40 + 6 * i) (nI e) (nI v) F := by
  rw [am_pa_of (kV1 hR i hi) (am_in_nI he (by decide)), nI_clamp (by omega), nI_upd]
  exact hF _ rfl rfl (uV1 hR hi)
theorem wV2 {i e v : Nat} (hi : i < 6) (he : e < 3) (hR : RC g h c X) (hF : ∀ h1 : aH, h1.1 = h.1 → h1.2.1 = h.2.1 → RC g h1 c (xs_hd X (va_up (x_hd X) i (va_up (x_hd X i) e v))) → F h1) : am_pa h (c + 41 + 6 * i) (nI e) (nI v) F := by
  rw [am_pa_of (kV2 hR i hi) (am_in_nI he (by decide)), nI_clamp (by omega), nI_upd]
  exact hF _ rfl rfl (uV2 hR hi)
theorem wV3 {i e v : Nat} (hi : i < 6) (he : e < 200) (hR : RC g h c X) (hF : ∀ h1 : aH, h1.1 = h.1 → h1.2.1 = h.2.1 → RC g h1 c (xs_sg X (va_up (x_sg X) i (va_up (x_sg X i) e v))) → F h1) : am_pa h (c + 42 + 6 * i) (nI e) (nI v) F := by
  rw [am_pa_of (kV3 hR i hi) (am_in_nI he (by decide)), nI_clamp (by omega), nI_upd]
  exact hF _ rfl rfl (uV3 hR hi)
theorem wV4 {i e v : Nat} (hi : i < 6) (he : e < 200) (hR : RC g h c X) (hF : ∀ h1 : aH, h1.1 = h.1 → h1.2.1 = h.2.1 → RC g h1 c (xs_tm X (va_up (x_tm X) i (va_up (x_tm X i) e v))) → F h1) : am_pa h (c + 43 + 6 * i) (nI e) (nI v) F := by
  rw [am_pa_of (kV4 hR i hi) (am_in_nI he (by decide)), nI_clamp (by omega), nI_upd]
  exact hF _ rfl rfl (uV4 hR hi)
theorem wC5 {i e : Nat} {v : Int32} (hi : i < 6) (he : e < 8) (hR : RC g h c X) (hF : ∀ h1 : aH, h1.1 = h.1 → h1.2.1 = h.2.1 → RC g h1 c (xs_iv X (va_up (x_iv X) i (upd (x_iv X i) e v))) → F h1) : am_pa h (c + 7 + 6 * i) (nI e) v F := by
  rw [am_pa_of (kC5 hR i hi) (am_in_nI he (by decide)), nI_clamp (by omega)]
  exact hF _ rfl rfl (uC5 hR hi)
theorem wC2 {i e : Nat} {o : Option Nat} (hi : i < 6) (he : e < 8) (hR : RC g h c X) (ho : am_isc h 5 o = true) (hF : ∀ h1 : aH, h1.1 = h.1 → h1.2.1 = h.2.1 → RC g h1 c (xs_ow X (va_up (x_ow X) i (va_up (x_ow X i) e o))) → F h1) : am_paq h (c + 4 + 6 * i) (nI e) o F := by
  rw [am_paq_of (kC2 hR i hi) (am_in_nI he (by decide)) ho, nI_clamp (by omega)]
  exact hF _ rfl rfl (uC2 hR hi)
theorem wV5 {i e : Nat} {o : Option Nat} (hi : i < 6) (he : e < 200) (hR : RC g h c X) (ho : am_isc h 5 o = true) (hF : ∀ h1 : aH, h1.1 = h.1 → h1.2.1 = h.2.1 → RC g h1 c (xs_kp X (va_up (x_kp X) i (va_up (x_kp X i) e o))) → F h1) : am_paq h (c + 44 + 6 * i) (nI e) o F := by
  rw [am_paq_of (kV5 hR i hi) (am_in_nI he (by decide)) ho, nI_clamp (by omega)]
  exact hF _ rfl rfl (uV5 hR hi)
theorem wA4 {e : Nat} {o : Option Nat} (he : e < 200) (hR : RC g h c X) (ho : am_isc h 5 o = true) (hF : ∀ h1 : aH, h1.1 = h.1 → h1.2.1 = h.2.1 → RC g h1 c (xs_ta X (va_up (x_ta X) e o)) → F h1) : am_paq h (c + 94) (nI e) o F := by
  rw [am_paq_of (kA4 hR) (am_in_nI he (by decide)) ho, nI_clamp (by omega)]
  exact hF _ rfl rfl (uA4 hR)
theorem pY {a ci k : Nat} {fs : List Value} {v : Value} (ha : x_Y X a = some (.inr (ci, fs))) (hk : k < fs.length) (hR : RC g h c X) (hF : ∀ h1 : aH, h1.1 = h.1 → h1.2.1 = h.2.1 → RC g h1 c (xs_Y X (va_up (x_Y X) a (some (.inr (ci, fs.set k v))))) → F h1) : am_pf h ci a k v F := by
  rw [am_pf_of (kY hR ha) hk]
  exact hF _ rfl rfl (uY hR ha)
theorem gY {a ci k : Nat} {fs : List Value} {v : Value} {F : Value → Prop} (ha : x_Y X a = some (.inr (ci, fs))) (hv : fs[k]? = some v) (hR : RC g h c X) : am_gf h ci a k F = F v := am_gf_of (kY hR ha) hv
theorem oY {a ci : Nat} {fs : List Value} (ha : x_Y X a = some (.inr (ci, fs))) (hR : RC g h c X) : (am_fld h ci a).isSome = true := am_fld_of (kY hR ha)
end RCW
