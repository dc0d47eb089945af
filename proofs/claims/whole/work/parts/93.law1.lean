/-! the two objects side by side -/
def gMf (b m pa : Nat) (h : aH) : Nat → Option aE := fun a => if a = b ∨ (m ≤ a ∧ a ≤ m + 21) ∨ a = pa then h.2.2 a else none
def gCf (b c : Nat) (X : aX) (h : aH) : Nat → Option aE := fun a => if a = b ∨ (c ≤ a ∧ a < c + 95) ∨ (x_Y X a).isSome = true then h.2.2 a else none
section LWS
variable {c b L : Nat} {xs : Nat → Int32} {h h1 h2 : aH} {X X1 : aX} {g g2 : Nat → Option aE} {S S1 : aSt} {pa pl k : Nat} {P : Nat → Int32}
theorem rk_l18 {l : Nat} (hl : l < 36) (hk : lkd l = true) : rk l < 18 := by
  have := rk_mono (a := l + 1) 36 (by omega)
  rw [rk_36, rk_s, if_pos hk] at this
  omega
theorem RC_tr (hR : RC g h c X) (hc : ∀ a, (c ≤ a ∧ a < c + 95) ∨ (x_Y X a).isSome = true → h2.2.2 a = h.2.2 a) (hl : h.1 ≤ h2.1) (hg : ∀ a e, g2 a = some e → h2.2.2 a = some e ∧ a < h2.1 ∧ (a < c ∨ c + 95 ≤ a) ∧ x_Y X a = none) : RC g2 h2 c X := by
  obtain ⟨a1, a2, a3, a4, a5, a6, a7, a8, a9, a10, a11, a12, a13, a14, a15, a16, a17, a18, a19, a20, a21⟩ := hR
  refine ⟨?_, ?_, fun i hi => ?_, fun i hi => ?_, fun i hi => ?_, fun i hi => ?_, fun i hi => ?_, fun i hi => ?_, ?_, fun i hi => ?_, fun i hi => ?_, fun i hi => ?_, fun i hi => ?_, fun i hi => ?_, fun i hi => ?_, ?_, fun l hl hk => ?_, ?_, fun a e ha => ?_, hg, by omega⟩
  · rw [hc _ (Or.inl (by omega))]; exact a1
  · rw [hc _ (Or.inl (by omega))]; exact a2
  · rw [hc _ (Or.inl (by omega))]; exact a3 i hi
  · rw [hc _ (Or.inl (by omega))]; exact a4 i hi
  · rw [hc _ (Or.inl (by omega))]; exact a5 i hi
  · rw [hc _ (Or.inl (by omega))]; exact a6 i hi
  · rw [hc _ (Or.inl (by omega))]; exact a7 i hi
  · rw [hc _ (Or.inl (by omega))]; exact a8 i hi
  · rw [hc _ (Or.inl (by omega))]; exact a9
  · rw [hc _ (Or.inl (by omega))]; exact a10 i hi
  · rw [hc _ (Or.inl (by omega))]; exact a11 i hi
  · rw [hc _ (Or.inl (by omega))]; exact a12 i hi
  · rw [hc _ (Or.inl (by omega))]; exact a13 i hi
  · rw [hc _ (Or.inl (by omega))]; exact a14 i hi
  · rw [hc _ (Or.inl (by omega))]; exact a15 i hi
  · rw [hc _ (Or.inl (by omega))]; exact a16
  · have := rk_l18 hl hk
    rw [hc _ (Or.inl (by omega))]; exact a17 l hl hk
  · rw [hc _ (Or.inl (by omega))]; exact a18
  · obtain ⟨p1, p2, p3⟩ := a19 a e ha
    exact ⟨(hc a (Or.inr (by rw [ha]; rfl))).trans p1, p2, by omega⟩
/-- both objects and the script in one heap -/
def LW (c b L : Nat) (xs : Nat → Int32) (h : aH) (X : aX) (S : aSt) (pa pl : Nat) (P : Nat → Int32) : Prop :=
  RC (gMf b (c + 95) pa h) h c X ∧ MM (fun _ => none) h (c + 95) S.1 S.2.2.2.2.length pa pl S.2.1 S.2.2.1 S.2.2.2.1 P ∧ (PR P S.2.2.2.2 ∧ 7 * S.2.2.2.2.length ≤ pl ∧ 448 ≤ pl ∧ pl ≤ 200000) ∧ h.2.2 b = some (.inl (9, L, .inl xs)) ∧ b < c ∧ ¬ pa = b
def LWx (c b L : Nat) (xs : Nat → Int32) (k : Nat) (h : aH) : Prop := ∃ (S : aSt) (X : aX) (T : Nat → Nat) (K : Nat → List Nat) (LL : List aLm) (tg : Nat → Nat) (pa pl : Nat) (P : Nat → Int32), LW c b L xs h X S pa pl P ∧ SS c X S T K ∧ SC X S T ∧ SL X S.2.2.2.2 LL tg ∧ INV S k 1000 ∧ h.1 ≤ c + 200 + 620 * k + pl ∧ h.2.1 ≤ 12000 + 3200 * k + 2 * pl
theorem toLW {pl2 : Nat} (hR1 : RC g h1 c X1) (kb : h1.2.2 b = some (.inl (9, L, .inl xs))) (w5 : b < c) (g4 : h1.1 ≤ h2.1) (hM2 : MMs (gCf b c X1 h1) h2 (c + 95) S1 pl2) : ∃ pa2 P2, LW c b L xs h2 X1 S1 pa2 pl2 P2 := by
  have hYb := hR1.2.2.2.2.2.2.2.2.2.2.2.2.2.2.2.2.2.2.1
  have h95 : c + 95 ≤ h1.1 := hR1.2.2.2.2.2.2.2.2.2.2.2.2.2.2.2.2.2.2.2.2
  obtain ⟨pa2, P2, ⟨n1, n2, n3, ⟨n4, n5, n6, n7⟩, n8, n9, n10⟩, w32⟩ := hM2
  have keep : ∀ a, (a = b ∨ (c ≤ a ∧ a < c + 95) ∨ (x_Y X1 a).isSome = true) → h2.2.2 a = h1.2.2 a := fun a ha => by
    cases he : h1.2.2 a with
    | none =>
      exfalso
      rcases ha with q | q | q
      · rw [q, kb] at he; cases he
      · -- a static cell is there
        have st : ∀ a, c ≤ a → a < c + 95 → ∃ e, h1.2.2 a = some e := by
          obtain ⟨a1, a2, a3, a4, a5, a6, a7, a8, a9, a10, a11, a12, a13, a14, a15, a16, a17, a18, a19, a20, a21⟩ := hR1
          intro a ha1 ha2
          by_cases e0 : a = c
          · rw [e0]; exact ⟨_, a1⟩
          by_cases e1 : a = c + 1
          · rw [e1]; exact ⟨_, a2⟩
          by_cases e2 : a < c + 38
          · have hi : (a - (c + 2)) / 6 < 6 := by omega
            have hr : (a - (c + 2)) % 6 = 0 ∨ (a - (c + 2)) % 6 = 1 ∨ (a - (c + 2)) % 6 = 2 ∨ (a - (c + 2)) % 6 = 3 ∨ (a - (c + 2)) % 6 = 4 ∨ (a - (c + 2)) % 6 = 5 := by omega
            generalize hq : (a - (c + 2)) / 6 = i at hi
            rcases hr with r | r | r | r | r | r
            · rw [show a = c + 2 + 6 * i by omega]; exact ⟨_, a3 i hi⟩
            · rw [show a = c + 3 + 6 * i by omega]; exact ⟨_, a4 i hi⟩
            · rw [show a = c + 4 + 6 * i by omega]; exact ⟨_, a5 i hi⟩
            · rw [show a = c + 5 + 6 * i by omega]; exact ⟨_, a6 i hi⟩
            · rw [show a = c + 6 + 6 * i by omega]; exact ⟨_, a7 i hi⟩
            · rw [show a = c + 7 + 6 * i by omega]; exact ⟨_, a8 i hi⟩
          by_cases e3 : a = c + 38
          · rw [e3]; exact ⟨_, a9⟩
          by_cases e4 : a < c + 75
          · have hi : (a - (c + 39)) / 6 < 6 := by omega
            have hr : (a - (c + 39)) % 6 = 0 ∨ (a - (c + 39)) % 6 = 1 ∨ (a - (c + 39)) % 6 = 2 ∨ (a - (c + 39)) % 6 = 3 ∨ (a - (c + 39)) % 6 = 4 ∨ (a - (c + 39)) % 6 = 5 := by omega
            generalize hq : (a - (c + 39)) / 6 = i at hi
            rcases hr with r | r | r | r | r | r
            · rw [show a = c + 39 + 6 * i by omega]; exact ⟨_, a10 i hi⟩
            · rw [show a = c + 40 + 6 * i by omega]; exact ⟨_, a11 i hi⟩
            · rw [show a = c + 41 + 6 * i by omega]; exact ⟨_, a12 i hi⟩
            · rw [show a = c + 42 + 6 * i by omega]; exact ⟨_, a13 i hi⟩
            · rw [show a = c + 43 + 6 * i by omega]; exact ⟨_, a14 i hi⟩
            · rw [show a = c + 44 + 6 * i by omega]; exact ⟨_, a15 i hi⟩
          by_cases e5 : a = c + 75
          · rw [e5]; exact ⟨_, a16⟩
          by_cases e6 : a = c + 94
          · rw [e6]; exact ⟨_, a18⟩
          have hl : ∀ r, r < 18 → ∃ l, l < 36 ∧ lkd l = true ∧ rk l = r := by decide +kernel
          obtain ⟨l, l1, l2, l3⟩ := hl (a - (c + 76)) (by omega)
          rw [show a = c + 76 + rk l by omega]
          exact ⟨_, a17 l l1 l2⟩
        obtain ⟨e, h3⟩ := st a q.1 q.2
        rw [h3] at he; cases he
      · cases hy : x_Y X1 a with
        | none => rw [hy] at q; cases q
        | some e2 =>
          have := (hYb a e2 hy).1
          rw [this] at he; cases he
    | some e =>
      exact (n8 a e ((if_pos ha).trans he)).1
  have hp2 : gCf b c X1 h1 pa2 = none := n10
  have kb2 : h2.2.2 b = some (.inl (9, L, .inl xs)) := (keep b (Or.inl rfl)).trans kb
  have notC : ∀ a, gCf b c X1 h1 a = none → (∃ e, h2.2.2 a = some e) → ¬ a = b ∧ (a < c ∨ c + 95 ≤ a) ∧ x_Y X1 a = none := fun a hn ⟨e, he⟩ => by
    have q : ¬ (a = b ∨ (c ≤ a ∧ a < c + 95) ∨ (x_Y X1 a).isSome = true) := fun q => by
      have h3 : h1.2.2 a = none := by
        unfold gCf at hn
        rw [if_pos q] at hn
        exact hn
      rw [keep a q, h3] at he
      cases he
    refine ⟨fun w => q (Or.inl w), ?_, ?_⟩
    · by_cases w : c ≤ a ∧ a < c + 95
      · exact absurd (Or.inr (Or.inl w)) q
      · omega
    · cases hy : x_Y X1 a with
      | none => rfl
      | some e2 => exact absurd (Or.inr (Or.inr (by rw [hy]; rfl))) q
  have np := notC pa2 hp2 ⟨_, n3⟩
  refine ⟨pa2, P2, ?_, ⟨n1, n2, n3, ⟨n4, n5, n6, n7⟩, fun a e ha => (by cases ha), fun _ _ => rfl, rfl⟩, w32, kb2, w5, np.1⟩
  refine RC_tr hR1 (fun a ha => keep a (Or.inr ha)) g4 (fun a e ha => ?_)
  unfold gMf at ha
  by_cases q : a = b ∨ (c + 95 ≤ a ∧ a ≤ c + 95 + 21) ∨ a = pa2
  · rw [if_pos q] at ha
    refine ⟨ha, ?_⟩
    rcases q with q | q | q
    · rw [q]
      refine ⟨by omega, Or.inl w5, ?_⟩
      cases hy : x_Y X1 b with
      | none => rfl
      | some e2 =>
        have := (hYb b e2 hy).2.1
        omega
    · have := n9 (a - (c + 95)) (by omega)
      rw [show c + 95 + (a - (c + 95)) = a by omega] at this
      have nn := notC a this ⟨e, ha⟩
      exact ⟨by omega, nn.2.1, nn.2.2⟩
    · rw [q]
      exact ⟨n5, np.2.1, np.2.2⟩
  · rw [if_neg q] at ha
    cases ha
theorem toMod {T : Nat → Nat} {K : Nat → List Nat} {LL : List aLm} {tg : Nat → Nat} (hW : LW c b L xs h X S pa pl P) (r1 : h.1 ≤ c + 200 + 620 * k + pl) (r2 : h.2.1 ≤ 12000 + 3200 * k + 2 * pl) (hR1 : RC (gMf b (c + 95) pa h) h1 c X1) (s1 : h1.1 ≤ h.1 + 620) (s2 : h1.2.1 ≤ h.2.1 + 3200) (hSS : SS c X1 S1 T K) (hSC : SC X1 S1 T) (hSL : SL X1 S1.2.2.2.2 LL tg) (hI : INV S1 (k + 1) 1000) : h1.2.2 b = some (.inl (9, L, .inl xs)) ∧ ∃ g, MMs g h1 (c + 95) S pl ∧ (∀ h2 pl2, GR h1 pl h2 pl2 → MMs g h2 (c + 95) S1 pl2 → LWx c b L xs (k + 1) h2) ∧ ∀ h2 pl2 m, MMs g h2 m S1 pl2 → h2.2.2 b = some (.inl (9, L, .inl xs)) := by
  obtain ⟨w1, ⟨m1, m2, m3, ⟨m4, m5, m6, m7⟩, m8, m9, m10⟩, w3, w4, w5, w6⟩ := hW
  have gk : ∀ a e, (a = b ∨ (c + 95 ≤ a ∧ a ≤ c + 95 + 21) ∨ a = pa) → h.2.2 a = some e → gMf b (c + 95) pa h a = some e := fun a e ha he => (if_pos ha).trans he
  have fr := hR1.2.2.2.2.2.2.2.2.2.2.2.2.2.2.2.2.2.2.2.1
  have hYb := hR1.2.2.2.2.2.2.2.2.2.2.2.2.2.2.2.2.2.2.1
  have h95 : c + 95 ≤ h1.1 := hR1.2.2.2.2.2.2.2.2.2.2.2.2.2.2.2.2.2.2.2.2
  have kb := fr b _ (gk b _ (Or.inl rfl) w4)
  have km := fr (c + 95) _ (gk (c + 95) _ (Or.inr (Or.inl (by omega))) m1)
  have kk : ∀ j, 1 ≤ j → j ≤ 21 → _ := fun j j1 j2 => fr (c + 95 + j) _ (gk (c + 95 + j) _ (Or.inr (Or.inl (by omega))) (m2 j j1 j2))
  have kp := fr pa _ (gk pa _ (Or.inr (Or.inr rfl)) m3)
  have hMM1 : MMs (gCf b c X1 h1) h1 (c + 95) S pl := by
    refine ⟨pa, P, ⟨km.1, fun j j1 j2 => (kk j j1 j2).1, kp.1, ⟨m4, kp.2.1, (kk 21 (by decide) (by decide)).2.1, m7⟩, fun a e ha => ?_, fun j hj => ?_, ?_⟩, w3⟩
    · unfold gCf at ha
      by_cases q : a = b ∨ (c ≤ a ∧ a < c + 95) ∨ (x_Y X1 a).isSome = true
      · rw [if_pos q] at ha
        refine ⟨ha, ?_⟩
        rcases q with q | q | q
        · omega
        · omega
        · cases hy : x_Y X1 a with
          | none => rw [hy] at q; cases q
          | some e2 => exact (hYb a e2 hy).2.2
      · rw [if_neg q] at ha
        cases ha
    · have hy : x_Y X1 (c + 95 + j) = none := by
        by_cases e : j = 0
        · rw [e]; exact km.2.2.2
        · exact (kk j (by omega) hj).2.2.2
      refine if_neg (fun q => ?_)
      rw [hy] at q
      rcases q with q | q | q
      · omega
      · omega
      · cases q
    · have hp := kp.2.2
      refine if_neg (fun q => ?_)
      rw [hp.2] at q
      rcases q with q | q | q
      · exact w6 q
      · omega
      · cases q
  refine ⟨kb.1, gCf b c X1 h1, hMM1, fun h2 pl2 hGR hM2 => ?_, fun h2 pl2 m hM2 => ?_⟩
  · obtain ⟨g1, g2, g3, g4⟩ := hGR
    obtain ⟨pa2, P2, hLW⟩ := toLW hR1 kb.1 w5 g4 hM2
    exact ⟨S1, X1, T, K, LL, tg, pa2, pl2, P2, hLW, hSS, hSC, hSL, hI, by omega, by omega⟩
  · obtain ⟨pa2, P2, ⟨n1, n2, n3, n4, n8, n9, n10⟩, w32⟩ := hM2
    exact (n8 b _ ((if_pos (Or.inl rfl)).trans kb.1)).1
end LWS
