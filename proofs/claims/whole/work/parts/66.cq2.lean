/-! removeFirst over queues -/
section CQ3
variable {d : Nat} {g : Nat → Option aE} {c : Nat} {X : aX} {Q : Option Value → aH → Prop} {QL : Nat → List aMs} {tg : Nat → Nat}
theorem d41qe {h : aH} {l : Nat} (hl : l < 36) (hk : lkd l = true) (hW : WQ X QL tg) (he : QL l = []) (hR : RC g h c X) : am_R d 41 0 [some (.ref (c + 76 + rk l)), none] [] h Q = Q (some .null) h := by
  refine d41e hl hk ?_ hR
  have q := (hW l hl hk).1
  rw [he] at q
  exact q
theorem d41q {h : aH} {l : Nat} {m : aMs} {r : List aMs} (hl : l < 36) (hk : lkd l = true) (hW : WQ X QL tg) (he : QL l = m :: r) (hR : RC g h c X) (hQ : ∀ (h1 : aH) (X1 : aX), h1.1 = h.1 → h1.2.1 = h.2.1 → RC g h1 c X1 → WQ X1 (va_up QL l r) tg → Xlk X X1 → x_Y X1 = x_Y X → Q (some (.ref m.1)) h1) : am_R d 41 0 [some (.ref (c + 76 + rk l)), none] [] h Q := by
  obtain ⟨q1, q2, q3, q4, q5, q6⟩ := hW l hl hk
  rw [he] at q1 q2 q3 q4 q5 q6
  have h5 := List.pairwise_cons.mp q5
  have oth : ∀ j, ¬ j = l → va_up QL l r j = QL j := fun j hj => vu_n hj
  cases r with
  | nil =>
    refine d41z hl hk q1 q4.1 (by rw [q3]; exact Nat.le_refl _) hR (fun h1 g1 g2 hR1 => ?_)
    refine hQ h1 _ g1 g2 hR1 ?_ ⟨_, _, _, x_Y X, rfl, fun b e hb _ => hb, Xm_rf⟩ rfl
    intro j hj hkj
    by_cases hjl : j = l
    · subst hjl
      simp only [vu_s]
      exact ⟨vu_s, vu_s, vu_s.trans (by rw [q3]; rfl), True.intro, List.Pairwise.nil, fun x hx => by cases hx⟩
    · obtain ⟨p1, p2, p3, p4, p5, p6⟩ := hW j hj hkj
      simp only [vu_n hjl]
      exact ⟨(vu_n hjl).trans p1, (vu_n hjl).trans p2, (vu_n hjl).trans p3, p4, p5, p6⟩
  | cons y r =>
    refine d41s (nx := y.1) hl hk q1 q4.1 (by rw [q3]; exact Nat.le_add_left _ _) hR (fun h1 g1 g2 hR1 => ?_)
    refine hQ h1 _ g1 g2 hR1 ?_ ⟨va_up (x_lf X) l (some y.1), x_ll X, va_up (x_lc X) l (x_lc X l - 1), x_Y X, rfl, fun b e hb _ => hb, Xm_rf⟩ rfl
    intro j hj hkj
    by_cases hjl : j = l
    · subst hjl
      simp only [vu_s]
      refine ⟨vu_s, q2.trans ?_, vu_s.trans (by rw [q3]; rfl), q4.2, h5.2, fun x hx => q6 x (List.mem_cons_of_mem _ hx)⟩
      rw [List.getLast?_cons_cons]
    · obtain ⟨p1, p2, p3, p4, p5, p6⟩ := hW j hj hkj
      simp only [vu_n hjl]
      exact ⟨(vu_n hjl).trans p1, p2, (vu_n hjl).trans p3, p4, p5, p6⟩
end CQ3
