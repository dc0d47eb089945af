/-! the messages on their way, as one list with their addresses -/
abbrev aLm : Type := Nat × Option Nat × aMsg
def msOf (z : aLm) : aMs := (z.1, nI z.2.2.2.2.1, z.2.2.2.2.2.1, (if z.2.2.2.2.1 = 6 then nI 0 else nI z.2.2.2.2.2.2.1), z.2.1)
def lkM (q : aMsg) : Nat := 6 * q.1 + q.2.1
def QLf (LL : List aLm) (l : Nat) : List aMs := (LL.filter (fun z => decide (lkM z.2.2 = l))).map msOf
/-- a message's own array, if it is of kind 6 -/
def vcO (Y : Nat → Option aE) (z : aLm) : Prop := z.2.2.2.2.1 = 6 → ∃ (a : Nat) (b : Nat → Nat), z.2.1 = some a ∧ Y a = some (.inl (0, 3, .inl (fun p => nI (b p)))) ∧ b 0 = z.2.2.2.2.2.2.1 ∧ b 1 = z.2.2.2.2.2.2.2.1 ∧ b 2 = z.2.2.2.2.2.2.2.2
def SL (X : aX) (L : List aMsg) (LL : List aLm) (tg : Nat → Nat) : Prop := LL.map (fun z => z.2.2) = L ∧ WQ X (QLf LL) tg ∧ ∀ z, z ∈ LL → vcO (x_Y X) z ∧ z.2.2.1 < 6 ∧ z.2.2.2.1 < 6 ∧ lkd (lkM z.2.2) = true
section LLS
variable {d : Nat} {g : Nat → Option aE} {c : Nat} {X X1 X2 : aX} {Q : Option Value → aH → Prop} {L : List aMsg} {LL : List aLm} {tg : Nat → Nat}
theorem QLf_push {z : aLm} : QLf (LL ++ [z]) = va_up (QLf LL) (lkM z.2.2) (QLf LL (lkM z.2.2) ++ [msOf z]) := by
  funext l
  unfold QLf va_up
  rw [List.filter_append, List.map_append]
  by_cases h1 : l = lkM z.2.2
  · subst h1
    rw [if_pos rfl, List.filter_cons_of_pos (by simp), List.filter_nil]
    rfl
  · rw [if_neg h1, List.filter_cons_of_neg (by simp; omega), List.filter_nil, List.map_nil, List.append_nil]
theorem QLf_no {A : List aLm} {l : Nat} (hA : ∀ y, y ∈ A → ¬ lkM y.2.2 = l) : QLf A l = [] := by
  unfold QLf
  rw [List.filter_eq_nil_iff.mpr (fun y hy => by simp [hA y hy])]
  rfl
theorem QLf_app {A B : List aLm} {l : Nat} : QLf (A ++ B) l = QLf A l ++ QLf B l := by
  unfold QLf
  rw [List.filter_append, List.map_append]
theorem QLf_cs {z : aLm} {B : List aLm} : QLf (z :: B) (lkM z.2.2) = msOf z :: QLf B (lkM z.2.2) := by
  unfold QLf
  rw [List.filter_cons_of_pos (by simp)]
  rfl
theorem QLf_cn {z : aLm} {B : List aLm} {l : Nat} (h : ¬ lkM z.2.2 = l) : QLf (z :: B) l = QLf B l := by
  unfold QLf
  rw [List.filter_cons_of_neg (by simp [h])]
theorem QLf_pop {A B : List aLm} {z : aLm} (hA : ∀ y, y ∈ A → ¬ lkM y.2.2 = lkM z.2.2) : QLf (A ++ z :: B) (lkM z.2.2) = msOf z :: QLf (A ++ B) (lkM z.2.2) ∧ va_up (QLf (A ++ z :: B)) (lkM z.2.2) (QLf (A ++ B) (lkM z.2.2)) = QLf (A ++ B) := by
  refine ⟨?_, ?_⟩
  · rw [QLf_app, QLf_app, QLf_no hA, QLf_cs]
    rfl
  · funext l
    unfold va_up
    by_cases h1 : l = lkM z.2.2
    · rw [if_pos h1, h1]
    · rw [if_neg h1, QLf_app, QLf_app, QLf_cn (fun q => h1 q.symm)]
theorem chn_mem {Y : Nat → Option aE} {nx : Option Nat} {x : aMs} : ∀ ms : List aMs, x ∈ ms → chn Y nx ms → ∃ w, Y x.1 = some (msC x.2.1 x.2.2.1 x.2.2.2.1 x.2.2.2.2 w) := by
  intro ms
  induction ms with
  | nil => intro h; cases h
  | cons y r ih =>
    intro h hc
    rcases List.mem_cons.mp h with h | h
    · subst h
      exact ⟨_, hc.1⟩
    · exact ih h hc.2
theorem SL_at {z : aLm} (hS : SL X L LL tg) (hz : z ∈ LL) : ∃ w, x_Y X z.1 = some (msC (nI z.2.2.2.2.1) z.2.2.2.2.2.1 (if z.2.2.2.2.1 = 6 then nI 0 else nI z.2.2.2.2.2.2.1) z.2.1 w) := by
  have h4 := hS.2.2 z hz
  have hl : lkM z.2.2 < 36 := by unfold lkM; omega
  have hq := hS.2.1 (lkM z.2.2) hl h4.2.2.2
  have hm : msOf z ∈ QLf LL (lkM z.2.2) := List.mem_map.mpr ⟨z, List.mem_filter.mpr ⟨hz, by simp⟩, rfl⟩
  exact chn_mem _ hm hq.2.2.2.1
theorem SL_lt {h : aH} {z : aLm} (hR : RC g h c X) (hS : SL X L LL tg) (hz : z ∈ LL) : z.1 < h.1 := by
  obtain ⟨w, hw⟩ := SL_at hS hz
  exact (hR.2.2.2.2.2.2.2.2.2.2.2.2.2.2.2.2.2.2.1 _ _ hw).2.2
theorem yN {h : aH} {a : Nat} (hR : RC g h c X) (ha : h.1 ≤ a) : x_Y X a = none := by
  cases hy : x_Y X a with
  | none => rfl
  | some e =>
    have := (hR.2.2.2.2.2.2.2.2.2.2.2.2.2.2.2.2.2.2.1 a e hy).2.2
    omega
theorem chn_ex {Y Y1 : Nat → Option aE} {nx : Option Nat} (hY : ∀ b e, Y b = some e → Y1 b = some e) : ∀ ms : List aMs, chn Y nx ms → chn Y1 nx ms := by
  intro ms
  induction ms with
  | nil => intro _; exact True.intro
  | cons y r ih =>
    intro hc
    exact ⟨hY _ _ hc.1, ih hc.2⟩
/-- more cells, the same links -/
theorem SL_ex {Y1 : Nat → Option aE} (hY : ∀ b e, x_Y X b = some e → Y1 b = some e) (hS : SL X L LL tg) : SL (xs_Y X Y1) L LL tg := by
  refine ⟨hS.1, fun l hl hk => ?_, fun z hz => ?_⟩
  · obtain ⟨p1, p2, p3, p4, p5, p6⟩ := hS.2.1 l hl hk
    exact ⟨p1, p2, p3, chn_ex hY _ p4, p5, p6⟩
  · obtain ⟨p1, p2⟩ := hS.2.2 z hz
    refine ⟨fun q => ?_, p2⟩
    obtain ⟨a, b, h1, h2, h3⟩ := p1 q
    exact ⟨a, b, h1, hY _ _ h2, h3⟩
/-- other fields, the same links and cells -/
theorem SL_cg (h1 : x_lf X1 = x_lf X) (h2 : x_ll X1 = x_ll X) (h3 : x_lc X1 = x_lc X) (h4 : ∀ b e, x_Y X b = some e → (∀ fs, ¬ e = .inr (5, fs)) → x_Y X1 b = some e) (hS : SL X L LL tg) : SL X1 L LL tg := by
  refine ⟨hS.1, fun l hl hk => ?_, fun z hz => ?_⟩
  · obtain ⟨p1, p2, p3, p4, p5, p6⟩ := hS.2.1 l hl hk
    refine ⟨by rw [h1]; exact p1, by rw [h2]; exact p2, by rw [h3]; exact p3, ?_, p5, p6⟩
    clear p1 p2 p3 p5 p6
    generalize QLf LL l = ms at p4
    induction ms with
    | nil => exact True.intro
    | cons y r ih => exact ⟨h4 _ _ p4.1 (fun fs q => by cases q), ih p4.2⟩
  · obtain ⟨p1, p2⟩ := hS.2.2 z hz
    refine ⟨fun q => ?_, p2⟩
    obtain ⟨a, b, k1, k2, k3⟩ := p1 q
    exact ⟨a, b, k1, h4 _ _ k2 (fun fs q => by cases q), k3⟩
theorem Xlk_rf : Xlk X X := ⟨x_lf X, x_ll X, x_lc X, x_Y X, rfl, fun _ _ h _ => h, Xm_rf⟩
theorem Xlk_tr (h1 : Xlk X X1) (h2 : Xlk X1 X2) : Xlk X X2 := by
  obtain ⟨q1, q2, q3, q4, q5, q6, q7, q8, q9, q10, q11, q12, q13, q14, q15, q16, q17, q18, q19, q20⟩ := X
  obtain ⟨a, b, c, Y, e1, hY, hM⟩ := h1
  have e3 : X1 = (q1, q2, q3, q4, q5, q6, q7, q8, q9, q10, q11, q12, q13, q14, q15, a, b, c, q19, Y) := e1
  clear e1
  subst e3
  obtain ⟨a2, b2, c2, Y2, e2, hY2, hM2⟩ := h2
  have e4 : X2 = (q1, q2, q3, q4, q5, q6, q7, q8, q9, q10, q11, q12, q13, q14, q15, a2, b2, c2, q19, Y2) := e2
  exact ⟨a2, b2, c2, Y2, e4, fun b e he hn => hY2 b e (hY b e he hn) hn, Xm_tr hM hM2⟩
theorem Xlk_Y {Y1 : Nat → Option aE} (hY : ∀ b e, x_Y X b = some e → Y1 b = some e) : Xlk X (xs_Y X Y1) := ⟨x_lf X, x_ll X, x_lc X, Y1, rfl, fun b e h _ => hY b e h, fun b fs h => ⟨fs, hY _ _ h, rfl⟩⟩
theorem ex_nw {h : aH} {e : Option aE} (hR : RC g h c X) : ∀ b e1, x_Y X b = some e1 → va_up (x_Y X) h.1 e b = some e1 := by
  intro b e1 hb
  refine (if_neg (fun q => ?_)).trans hb
  rw [q, yN hR (Nat.le_refl _)] at hb
  cases hb
/-- send, the message made and at the address a -/
theorem d32s {h : aH} {f u a k x y z : Nat} {n : Int32} {vc : Option Nat} (hf : f < 6) (hu : u < 6) (hk : lkd (6 * f + u) = true) (hS : SL X L LL tg) (hm : x_Y X a = some (msC (nI k) n (if k = 6 then nI 0 else nI x) vc none)) (hv : vcO (x_Y X) (a, vc, f, u, k, n, x, y, z)) (ha : ∀ z, z ∈ LL → z.1 < a) (hc : (QLf LL (6 * f + u)).length < 512) (hR : RC g h c X) (hQ : ∀ (h1 : aH) (X1 : aX) (tg1 : Nat → Nat), h1.1 = h.1 → h1.2.1 = h.2.1 → RC g h1 c X1 → SL X1 (L ++ [(f, u, k, n, x, y, z)]) (LL ++ [(a, vc, f, u, k, n, x, y, z)]) tg1 → Xlk X X1 → Q none h1) : am_R (d + 1) 32 0 [some (.ref c), some (.int (nI f)), some (.int (nI u)), some (.ref a), none] [] h Q := by
  refine d32q (m := msOf (a, vc, f, u, k, n, x, y, z)) (QL := QLf LL) (tg := tg) hf hu hk hS.2.1 hm (fun l hl hkl q hq => ?_) hc hR (fun h1 X1 g1 g2 hR1 hW1 hx => ?_)
  · obtain ⟨w, hw, rfl⟩ := List.mem_map.mp hq
    exact ha w (List.mem_filter.mp hw).1
  · refine hQ h1 X1 (va_up tg a (6 * f + u)) g1 g2 hR1 ⟨?_, ?_, fun w hw => ?_⟩ hx
    · rw [List.map_append, hS.1]
      rfl
    · rw [QLf_push]
      exact hW1
    · obtain ⟨lf, ll, lc, Y, rfl, hY, hM⟩ := hx
      have key : ∀ w : aLm, vcO (x_Y X) w → vcO Y w := fun w hw q => by
        obtain ⟨a, b, k1, k2, k3⟩ := hw q
        exact ⟨a, b, k1, hY _ _ k2 (fun fs q => by cases q), k3⟩
      rcases List.mem_append.mp hw with hw | hw
      · obtain ⟨p1, p2⟩ := hS.2.2 w hw
        exact ⟨key w p1, p2⟩
      · rw [List.mem_singleton.mp hw]
        exact ⟨key _ hv, hf, hu, hk⟩
end LLS
