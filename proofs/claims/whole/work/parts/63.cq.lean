/-! queues of messages -/
abbrev aMs : Type := Nat × Int32 × Int32 × Int32 × Option Nat
def nxA (r : List aMs) (nx : Option Nat) : Option Nat := match r with
  | [] => nx
  | y :: _ => some y.1
def chn (Y : Nat → Option aE) (nx : Option Nat) : List aMs → Prop
  | [] => True
  | x :: r => Y x.1 = some (msC x.2.1 x.2.2.1 x.2.2.2.1 x.2.2.2.2 (nxA r nx)) ∧ chn Y nx r
section CQ
variable {Y : Nat → Option aE} {nx : Option Nat}
theorem chn_up {b : Nat} {e : Option aE} : ∀ ms : List aMs, (∀ x, x ∈ ms → ¬ x.1 = b) → chn Y nx ms → chn (va_up Y b e) nx ms := by
  intro ms
  induction ms with
  | nil => intro _ _; exact True.intro
  | cons x r ih =>
    intro hb hc
    exact ⟨(if_neg (hb x List.mem_cons_self)).trans hc.1, ih (fun y hy => hb y (List.mem_cons_of_mem _ hy)) hc.2⟩
theorem nxA_app {r : List aMs} {z : aMs} {a b : Option Nat} : nxA (r ++ [z]) a = nxA (r ++ [z]) b := by
  cases r with
  | nil => rfl
  | cons x r => rfl
theorem chn_last {a : Nat} {z : aMs} : ∀ ms : List aMs, (ms ++ [z]).Pairwise (fun x y => x.1 < y.1) → chn Y none (ms ++ [z]) → chn (va_up Y z.1 (some (msC z.2.1 z.2.2.1 z.2.2.2.1 z.2.2.2.2 (some a)))) (some a) (ms ++ [z]) := by
  intro ms
  induction ms with
  | nil => intro _ hc; exact ⟨vu_s, True.intro⟩
  | cons x r ih =>
    intro hp hc
    have hp := List.pairwise_cons.mp hp
    refine ⟨?_, ih hp.2 hc.2⟩
    have hx : x.1 < z.1 := hp.1 z (List.mem_append_right _ List.mem_cons_self)
    refine (if_neg (by omega)).trans ?_
    have h1 := hc.1
    rw [h1]
    show some (msC _ _ _ _ (nxA (r ++ [z]) none)) = some (msC _ _ _ _ (nxA (r ++ [z]) (some a)))
    rw [nxA_app]
theorem chn_snoc {m : aMs} : ∀ ms : List aMs, chn Y (some m.1) ms → Y m.1 = some (msC m.2.1 m.2.2.1 m.2.2.2.1 m.2.2.2.2 none) → chn Y none (ms ++ [m]) := by
  intro ms
  induction ms with
  | nil => intro _ hm; exact ⟨hm, True.intro⟩
  | cons x r ih =>
    intro hc hm
    refine ⟨?_, ih hc.2 hm⟩
    rw [hc.1]
    cases r with
    | nil => rfl
    | cons y r => rfl
/-- the links' queues: QL l the messages of link l, tg the link of a message's address -/
def WQ (X : aX) (QL : Nat → List aMs) (tg : Nat → Nat) : Prop := ∀ l, l < 36 → lkd l = true →
  x_lf X l = nxA (QL l) none ∧ x_ll X l = ((QL l).getLast?).map (fun x => x.1) ∧ x_lc X l = (QL l).length ∧ chn (x_Y X) none (QL l) ∧ (QL l).Pairwise (fun x y => x.1 < y.1) ∧ ∀ x, x ∈ QL l → tg x.1 = l
/-- messages' cells but for what is next -/
def Xm (Y Y1 : Nat → Option aE) : Prop := ∀ b fs, Y b = some (.inr (3, fs)) → ∃ fs1, Y1 b = some (.inr (3, fs1)) ∧ fs1.take 4 = fs.take 4
theorem Xm_rf {Y : Nat → Option aE} : Xm Y Y := fun _ fs h => ⟨fs, h, rfl⟩
theorem Xm_tr {Y Y1 Y2 : Nat → Option aE} (h1 : Xm Y Y1) (h2 : Xm Y1 Y2) : Xm Y Y2 := fun b fs h => by
  obtain ⟨f1, a1, a2⟩ := h1 b fs h
  obtain ⟨f2, b1, b2⟩ := h2 b f1 a1
  exact ⟨f2, b1, b2.trans a2⟩
/-- X1 is X but for its links and for messages' cells -/
def Xlk (X X1 : aX) : Prop := ∃ lf ll lc Y, X1 = xs_lc (xs_ll (xs_lf (xs_Y X Y) lf) ll) lc ∧ (∀ b e, x_Y X b = some e → (∀ fs, ¬ e = .inr (3, fs)) → Y b = some e) ∧ Xm (x_Y X) Y
end CQ
section CQ2
variable {d : Nat} {g : Nat → Option aE} {c : Nat} {X : aX} {Q : Option Value → aH → Prop} {QL : Nat → List aMs} {tg : Nat → Nat}
theorem d32q {h : aH} {f u : Nat} {m : aMs} (hf : f < 6) (hu : u < 6) (hk : lkd (6 * f + u) = true) (hW : WQ X QL tg) (hm : x_Y X m.1 = some (msC m.2.1 m.2.2.1 m.2.2.2.1 m.2.2.2.2 none)) (ha : ∀ l, l < 36 → lkd l = true → ∀ x, x ∈ QL l → x.1 < m.1) (hc : (QL (6 * f + u)).length < 512) (hR : RC g h c X) (hQ : ∀ (h1 : aH) (X1 : aX), h1.1 = h.1 → h1.2.1 = h.2.1 → RC g h1 c X1 → WQ X1 (va_up QL (6 * f + u) (QL (6 * f + u) ++ [m])) (va_up tg m.1 (6 * f + u)) → Xlk X X1 → Q none h1) : am_R (d + 1) 32 0 [some (.ref c), some (.int (nI f)), some (.int (nI u)), some (.ref m.1), none] [] h Q := by
  have hl : 6 * f + u < 36 := by omega
  generalize hL : 6 * f + u = l at *
  obtain ⟨q1, q2, q3, q4, q5, q6⟩ := hW l hl hk
  have htg : ∀ j, j < 36 → lkd j = true → ∀ x, x ∈ QL j → va_up tg m.1 l x.1 = tg x.1 := fun j hj hkj x hx => if_neg (by have := ha j hj hkj x hx; omega)
  rcases List.eq_nil_or_concat (QL l) with hn | ⟨ms, z, hn⟩
  · rw [hn] at q1 q2 q3 q4
    refine d32e hf hu (by rw [hL]; exact hk) (by rw [hL]; exact q2) (by rw [hL, q3]; decide) hR (fun h1 g1 g2 hR1 => ?_)
    rw [hL] at hR1
    refine hQ h1 _ g1 g2 hR1 ?_ ⟨_, _, _, x_Y X, rfl, fun b e hb _ => hb, Xm_rf⟩
    intro j hj hkj
    by_cases hjl : j = l
    · subst hjl
      simp only [vu_s, hn, List.nil_append]
      refine ⟨vu_s, vu_s, vu_s.trans (by rw [q3]; rfl), ⟨hm, True.intro⟩, List.pairwise_singleton _ _, fun x hx => ?_⟩
      rw [List.mem_singleton.mp hx]
      exact vu_s
    · obtain ⟨p1, p2, p3, p4, p5, p6⟩ := hW j hj hkj
      simp only [vu_n hjl]
      exact ⟨(vu_n hjl).trans p1, (vu_n hjl).trans p2, (vu_n hjl).trans p3, p4, p5, fun x hx => (htg j hj hkj x hx).trans (p6 x hx)⟩
  · rw [List.concat_eq_append] at hn
    have hz : z ∈ QL l := by rw [hn]; exact List.mem_append_right _ List.mem_cons_self
    rw [hn] at q2 q4 q5
    have hzc : x_Y X z.1 = some (msC z.2.1 z.2.2.1 z.2.2.2.1 z.2.2.2.2 none) := by
      clear hn q2 q5
      induction ms with
      | nil => exact q4.1
      | cons x r ih => exact ih q4.2
    have hzm := ha l hl hk z hz
    refine d32n (b := z.1) hf hu (by rw [hL]; exact hk) (by rw [hL, q2]; simp) hzc rfl (by rw [hL, q3]; exact hc) hR (fun h1 g1 g2 hR1 => ?_)
    rw [hL] at hR1
    refine hQ h1 _ g1 g2 hR1 ?_ ⟨x_lf X, _, _, va_up (x_Y X) z.1 (some (msC z.2.1 z.2.2.1 z.2.2.2.1 z.2.2.2.2 (some m.1))), rfl, fun b e hb he => ?_, fun b fs hb => ?_⟩
    · intro j hj hkj
      by_cases hjl : j = l
      · subst hjl
        simp only [vu_s]
        refine ⟨?_, ?_, ?_, ?_, ?_, fun x hx => ?_⟩
        · rw [hn] at q1 ⊢
          refine q1.trans ?_
          cases ms <;> rfl
        · refine vu_s.trans ?_
          simp
        · refine vu_s.trans ?_
          rw [q3, List.length_append]; rfl
        · rw [hn]
          refine chn_snoc _ (chn_last ms q5 q4) ?_
          exact (if_neg (by omega)).trans hm
        · rw [hn]
          refine List.pairwise_append.mpr ⟨q5, List.pairwise_singleton _ _, fun x hx y hy => ?_⟩
          rw [List.mem_singleton.mp hy]
          exact ha j hj hk x (by rw [hn]; exact hx)
        · rcases List.mem_append.mp hx with hx | hx
          · exact (htg j hj hk x hx).trans (q6 x hx)
          · rw [List.mem_singleton.mp hx]
            exact vu_s
      · obtain ⟨p1, p2, p3, p4, p5, p6⟩ := hW j hj hkj
        simp only [vu_n hjl]
        refine ⟨p1, (vu_n hjl).trans p2, (vu_n hjl).trans p3, ?_, p5, fun x hx => (htg j hj hkj x hx).trans (p6 x hx)⟩
        refine chn_up _ (fun x hx q => hjl ?_) p4
        rw [← p6 x hx, q]
        exact q6 z hz
    · refine (if_neg (fun q => ?_)).trans hb
      rw [q, hzc] at hb
      cases hb
      exact he _ rfl
    · by_cases q : b = z.1
      · subst q
        rw [hzc] at hb
        cases hb
        exact ⟨_, vu_s, rfl⟩
      · exact ⟨fs, (vu_n q).trans hb, rfl⟩
end CQ2
