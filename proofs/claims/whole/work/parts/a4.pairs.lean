/-! PAIRS: the book, the images -/
section
variable {S0 hd hd1 hd2 : amD} {T : Nat → Int} {m o ne ne' lby : Nat} {L H H' : Lnd} {E E' : Nat → Nat → Nat}
theorem RL_bk (ho : isLand o) (hR : RLw S0 o hd T m L H E ne lby) (f1 : ∀ i, ¬ (53 ≤ i ∧ i ≤ 56) → hd1 i = hd i) (f2 : ∀ i, i ≠ 98 → ¬ (151 ≤ i ∧ i ≤ 153) → hd2 i = hd1 i) (f3 : ∀ j, j ≠ 55 → hd2 98 j = hd1 98 j) (h03 : hd 98 19 = 0 ∧ ne' = 0 ∨ hd 98 19 = 1 ∧ 0 < L 0 0) (h07 : r7 hd2 L E' ne') : RLw S0 o hd2 T m L H E' ne' lby := by
  obtain ⟨h1, h2, h3, h4, h5, h6, h7, h8, h9⟩ := hR
  have F : ∀ i, i ≠ 98 → ¬ (151 ≤ i ∧ i ≤ 153) → ¬ (53 ≤ i ∧ i ≤ 56) → hd2 i = hd i := fun i a b c => (f2 i a b).trans (f1 i c)
  have G : ∀ j, j ≠ 55 → hd2 98 j = hd 98 j := fun j a => (f3 j a).trans (by rw [f1 98 (by decide)])
  exact ⟨r1_fr (fun i _ _ => F i (by omega) (by omega) (by omega)) (F _ (by omega) (by omega) (by omega)) (G _ (by omega)) h1, r2_fr ho (fun i _ _ => F i (by omega) (by omega) (by omega)) (fun i _ _ => F i (by omega) (by omega) (by omega)) (G _ (by omega)) h2, ⟨by rw [F 17 (by omega) (by omega) (by omega), G 19 (by omega)]; exact h3.1, by rw [G 19 (by omega)]; exact h03⟩, r4_fr (fun i _ _ => F i (by omega) (by omega) (by omega)) (fun i _ _ => F i (by omega) (by omega) (by omega)) (fun j _ _ => G _ (by omega)) h4, r5_fr (F _ (by omega) (by omega) (by omega)) (F _ (by omega) (by omega) (by omega)) h5, r6_fr (fun i _ _ => F i (by omega) (by omega) (by omega)) (fun i _ _ => F i (by omega) (by omega) (by omega)) h6, h07, r8_fr (fun i _ _ => F i (by omega) (by omega) (by omega)) h8, r9_fr (fun j _ _ => G _ (by omega)) h9⟩
theorem RL_bk1 (ho : isLand o) (hR : RLw S0 o hd T m L H E ne lby) (f1 : ∀ i, ¬ (53 ≤ i ∧ i ≤ 56) → hd1 i = hd i) : (∀ i, i < 17 → hd1 i = S0 i) ∧ mL hd1 L ∧ hd1 98 = hd 98 := by
  have e98 : hd1 98 = hd 98 := f1 98 (by decide)
  obtain ⟨h1, h2, h3, h4, h5, h6, h7, h8, h9⟩ := hR
  exact ⟨fun i hi => by rw [f1 i (by omega)]; exact h1.1 i hi, mL_fr (fun i _ _ => f1 i (by omega)) (by rw [e98]) h2.2.1, e98⟩
end
section
variable {d f0 n : Nat} {b : Bool} {Q : amQ} {hd S0 : amD}
theorem pr_entry {p w : Int} (hd9 : 24 ≤ d) (hn : 159 ≤ n) (hs : strB S0) (hR : RLx S0 b hd) (h : prK d f0 291 [vR 98, vI p, vI w] S0 Q n) : wpM d 190 [vR 17, vI p, vI w] Q (am_R f0 b) hd n := by
  obtain ⟨T, m, L, H, E, ne, lby, R⟩ := hR
  have h1 := R.1
  have h2 := R.2.1
  have h3 := R.2.2.1
  have h4 := R.2.2.2.1
  have h5 := R.2.2.2.2.1
  have h6 := R.2.2.2.2.2.1
  have h7 := R.2.2.2.2.2.2.1
  have h8 := R.2.2.2.2.2.2.2.1
  have h9 := R.2.2.2.2.2.2.2.2
  have h01 := RL_01 R
  have h01' : hd 17 11 = 0 ∨ hd 17 11 = 1 := by rw [h3.1]; exact h01
  refine g_fentry (by omega) hn h2.1 h7.1.1 h7.1.2.2 (fun c => ?_) (fun c e1 => ?_) (fun c e1 e2 => ?_) (fun c e1 e2 => ?_)
  · skip
    obtain ⟨⟨g1, g2, g3⟩, ⟨g4, g6, g7⟩, g8, g9⟩ := RL_57r (tld_land b) R 0
    refine h _ b _ n g1.1 (Nat.le_refl _) (fun Q2 hq => ?_)
    have fin := hq b _ n ⟨T, m, L, H, E, ne, lby, RL_rf (tld_land b) R (k := 0) (by omega)⟩ (Nat.le_refl _)
    refine m_entry (by omega) hn g2.2.1 g7.1.2.1 g7.1.2.2 (fun c2 => ?_) (fun c2 c3 => ?_) (fun c2 c3 c4 => ?_) (fun c2 c3 c4 => ?_)
    · exact fin
    · exact absurd c2 c
    · exact absurd c2 c
    · exact absurd c2 c
  · skip
    obtain ⟨⟨g1, g2, g3⟩, ⟨g4, g6, g7⟩, g8, g9⟩ := RL_57r (tld_land b) R 1
    refine h _ b _ n g1.1 (Nat.le_refl _) (fun Q2 hq => ?_)
    have fin := hq b _ n ⟨T, m, L, H, E, ne, lby, RL_rf (tld_land b) R (k := 1) (by omega)⟩ (Nat.le_refl _)
    refine m_entry (by omega) hn g2.2.1 g7.1.2.1 g7.1.2.2 (fun c2 => ?_) (fun c2 c3 => ?_) (fun c2 c3 c4 => ?_) (fun c2 c3 c4 => ?_)
    · exact absurd c c2
    · exact fin
    · omega
    · omega
  · skip
    obtain ⟨⟨g1, g2, g3⟩, ⟨g4, g6, g7⟩, g8, g9⟩ := RL_57r (tld_land b) R 2
    refine h _ b _ n g1.1 (Nat.le_refl _) (fun Q2 hq => ?_)
    have fin := hq b _ n ⟨T, m, L, H, E, ne, lby, RL_rf (tld_land b) R (k := 2) (by omega)⟩ (Nat.le_refl _)
    refine m_entry (by omega) hn g2.2.1 g7.1.2.1 g7.1.2.2 (fun c2 => ?_) (fun c2 c3 => ?_) (fun c2 c3 c4 => ?_) (fun c2 c3 c4 => ?_)
    · exact absurd c c2
    · omega
    · exact fin
    · exact absurd e2 c4
  · obtain ⟨⟨p0, p1⟩, p2, p3⟩ := c
    obtain ⟨p', rfl⟩ := Int.eq_ofNat_of_zero_le p0
    obtain ⟨w', rfl⟩ := Int.eq_ofNat_of_zero_le p2
    have f1 : ∀ i, ¬ (53 ≤ i ∧ i ≤ 56) → (am_up (am_up (am_up (am_up hd 54 ne (p' : Int)) 55 ne (w' : Int)) 53 3 ((ne + 1 : Nat) : Int)) 53 4 0) i = hd i := fun i hi => by rw [up_ne (by omega), up_ne (by omega), up_ne (by omega), up_ne (by omega)]
    have u3 : (am_up (am_up (am_up (am_up hd 54 ne (p' : Int)) 55 ne (w' : Int)) 53 3 ((ne + 1 : Nat) : Int)) 53 4 0) 53 3 = ((ne + 1 : Nat) : Int) := by rw [up_at, if_pos rfl, if_neg (by decide), up_at, if_pos rfl, if_pos rfl]
    have u4 : (am_up (am_up (am_up (am_up hd 54 ne (p' : Int)) 55 ne (w' : Int)) 53 3 ((ne + 1 : Nat) : Int)) 53 4 0) 53 4 = 0 := by rw [up_at, if_pos rfl, if_pos rfl]
    have u54 : ∀ i, (am_up (am_up (am_up (am_up hd 54 ne (p' : Int)) 55 ne (w' : Int)) 53 3 ((ne + 1 : Nat) : Int)) 53 4 0) 54 i = if i = ne then (p' : Int) else hd 54 i := fun i => by rw [up_ne (by decide), up_ne (by decide), up_ne (by decide), up_at, if_pos rfl]
    have u55 : ∀ i, (am_up (am_up (am_up (am_up hd 54 ne (p' : Int)) 55 ne (w' : Int)) 53 3 ((ne + 1 : Nat) : Int)) 53 4 0) 55 i = if i = ne then (w' : Int) else hd 55 i := fun i => by rw [up_ne (by decide), up_ne (by decide), up_at, if_pos rfl, up_ne (show 55 ≠ 54 by decide)]
    generalize (am_up (am_up (am_up (am_up hd 54 ne (p' : Int)) 55 ne (w' : Int)) 53 3 ((ne + 1 : Nat) : Int)) 53 4 0) = hd1 at f1 u3 u4 u54 u55
    obtain ⟨q1, q2, q4⟩ := RL_bk1 (tld_land b) R f1
    refine h _ b hd1 n q1 (Nat.le_refl _) (fun Q2 hq => ?_)
    refine m_entry (by omega) hn q2 (by rw [q4]; exact h7.1.2.1) h7.1.2.2 (fun c2 => ?_) (fun c2 c3 => ?_) (fun c2 c3 c4 => ?_) (fun c2 c3 c4 => ?_)
    · exact absurd ⟨⟨p0, p1⟩, p2, p3⟩ c2
    · omega
    · exact absurd c4 e2
    · have hP : 0 < L 0 0 := by omega
      have h19 := land_1 h2.2.1 (Or.inl hP)
      refine hq b _ n ⟨T, m, L, H, upN (upN E 0 ne p') 1 ne w', ne + 1, lby, RL_bk (tld_land b) R f1 (fun i a1 a2 => ?_) (fun j hj => ?_) (Or.inr ⟨h19, hP⟩) ⟨⟨?_, ?_, by omega⟩, fun i hi => ?_, fun _ i hi => ?_, Or.inl ?_⟩⟩ (Nat.le_refl _)
      · rw [up_ne (by omega), up_ne (by omega), up_ne (by omega)]
      · rw [up_at, if_pos rfl, if_neg hj, up_ne (by decide), up_ne (by decide)]
      · rw [up_ne (by decide), up_ne (by decide), up_ne (by decide), u3]
      · rw [up_at, if_pos rfl, if_pos rfl]
      · rw [up_ne (show 54 ≠ 98 by decide), up_ne (show 54 ≠ 152 by decide), up_ne (show 54 ≠ 151 by decide), up_ne (show 55 ≠ 98 by decide), up_ne (show 55 ≠ 152 by decide), up_ne (show 55 ≠ 151 by decide), up_ne (show 151 ≠ 98 by decide), up_ne (show 151 ≠ 152 by decide), up_ne (show 152 ≠ 98 by decide), up_at, if_pos rfl, up_at, if_pos rfl, up_ne (show 152 ≠ 151 by decide), u54, u55, f1 151 (by decide), f1 152 (by decide)]
        have E0 : upN (upN E 0 ne p') 1 ne w' 0 i = if i = ne then p' else E 0 i := by simp [upN]
        have E1 : upN (upN E 0 ne p') 1 ne w' 1 i = if i = ne then w' else E 1 i := by simp [upN]
        rw [E0, E1]
        by_cases c : i = ne
        · rw [if_pos c, if_pos c, if_pos c, if_pos c, if_pos c, if_pos c]
          exact ⟨⟨rfl, rfl⟩, rfl, rfl⟩
        · rw [if_neg c, if_neg c, if_neg c, if_neg c, if_neg c, if_neg c]
          exact h7.2.1 i (by omega)
      · have E0 : upN (upN E 0 ne p') 1 ne w' 0 i = if i = ne then p' else E 0 i := by simp [upN]
        have E1 : upN (upN E 0 ne p') 1 ne w' 1 i = if i = ne then w' else E 1 i := by simp [upN]
        rw [E0, E1]
        by_cases c : i = ne
        · rw [if_pos c, if_pos c]
          omega
        · rw [if_neg c, if_neg c]
          exact h7.2.2.1 hP i hi
      · rw [up_ne (by decide), up_ne (by decide), up_ne (by decide), u4]
theorem pr_undo (hd9 : 24 ≤ d) (hn : 159 ≤ n) (hs : strB S0) (hR : RLx S0 b hd) (h : prK d f0 292 [vR 98] S0 Q n) : wpM d 191 [vR 17] Q (am_R f0 b) hd n := by
  obtain ⟨T, m, L, H, E, ne, lby, R⟩ := hR
  have h1 := R.1
  have h2 := R.2.1
  have h3 := R.2.2.1
  have h4 := R.2.2.2.1
  have h5 := R.2.2.2.2.1
  have h6 := R.2.2.2.2.2.1
  have h7 := R.2.2.2.2.2.2.1
  have h8 := R.2.2.2.2.2.2.2.1
  have h9 := R.2.2.2.2.2.2.2.2
  have h01 := RL_01 R
  have h01' : hd 17 11 = 0 ∨ hd 17 11 = 1 := by rw [h3.1]; exact h01
  refine g_fundo (by omega) hn h7.1.1 h7.1.2.2 (fun c => ?_) (fun c => ?_)
  · skip
    obtain ⟨⟨g1, g2, g3⟩, ⟨g4, g6, g7⟩, g8, g9⟩ := RL_57r (tld_land b) R 2
    refine h _ b _ n g1.1 (Nat.le_refl _) (fun Q2 hq => ?_)
    have fin := hq b _ n ⟨T, m, L, H, E, ne, lby, RL_rf (tld_land b) R (k := 2) (by omega)⟩ (Nat.le_refl _)
    refine m_undo (by omega) hn g7.1.2.1 g7.1.2.2 (fun c2 => ?_) (fun c2 => ?_)
    · exact fin
    · omega
  · have f1 : ∀ i, ¬ (53 ≤ i ∧ i ≤ 56) → (am_up (am_up hd 53 3 ((ne - 1 : Nat) : Int)) 53 4 0) i = hd i := fun i hi => by rw [up_ne (by omega), up_ne (by omega)]
    have u3 : (am_up (am_up hd 53 3 ((ne - 1 : Nat) : Int)) 53 4 0) 53 3 = ((ne - 1 : Nat) : Int) := by rw [up_at, if_pos rfl, if_neg (by decide), up_at, if_pos rfl, if_pos rfl]
    have u4 : (am_up (am_up hd 53 3 ((ne - 1 : Nat) : Int)) 53 4 0) 53 4 = 0 := by rw [up_at, if_pos rfl, if_pos rfl]
    have u5 : (am_up (am_up hd 53 3 ((ne - 1 : Nat) : Int)) 53 4 0) 54 = hd 54 ∧ (am_up (am_up hd 53 3 ((ne - 1 : Nat) : Int)) 53 4 0) 55 = hd 55 := ⟨by rw [up_ne (by decide), up_ne (by decide)], by rw [up_ne (by decide), up_ne (by decide)]⟩
    generalize (am_up (am_up hd 53 3 ((ne - 1 : Nat) : Int)) 53 4 0) = hd1 at f1 u3 u4 u5
    obtain ⟨q1, q2, q4⟩ := RL_bk1 (tld_land b) R f1
    refine h _ b hd1 n q1 (Nat.le_refl _) (fun Q2 hq => ?_)
    refine m_undo (by omega) hn (by rw [q4]; exact h7.1.2.1) h7.1.2.2 (fun c2 => ?_) (fun c2 => ?_)
    · omega
    · refine hq b _ n ⟨T, m, L, H, E, ne - 1, lby, RL_bk (tld_land b) R f1 (fun i a1 a2 => up_ne a1) (fun j hj => ?_) ?_ ⟨⟨?_, ?_, by have := h7.1.2.2; omega⟩, fun i hi => ?_, h7.2.2.1, Or.inl ?_⟩⟩ (Nat.le_refl _)
      · rw [up_at, if_pos rfl, if_neg hj]
      · rcases h3.2 with ⟨_, c3⟩ | c3
        · omega
        · exact Or.inr c3
      · rw [up_ne (by decide), u3]
      · rw [up_at, if_pos rfl, if_pos rfl]
      · rw [up_ne (show 54 ≠ 98 by decide), up_ne (show 55 ≠ 98 by decide), up_ne (show 151 ≠ 98 by decide), up_ne (show 152 ≠ 98 by decide), u5.1, u5.2, f1 151 (by decide), f1 152 (by decide)]
        exact h7.2.1 i (by omega)
      · rw [up_ne (by decide), u4]
theorem pr_earth {p : Int} (hd9 : 24 ≤ d) (hn : 159 ≤ n) (hs : strB S0) (hR : RLx S0 b hd) (h : prK d f0 295 [vR 98, vI p] S0 Q n) : wpM d 192 [vR 17, vI p] Q (am_R f0 b) hd n := by
  obtain ⟨T, m, L, H, E, ne, lby, R⟩ := hR
  have h1 := R.1
  have h2 := R.2.1
  have h3 := R.2.2.1
  have h4 := R.2.2.2.1
  have h5 := R.2.2.2.2.1
  have h6 := R.2.2.2.2.2.1
  have h7 := R.2.2.2.2.2.2.1
  have h8 := R.2.2.2.2.2.2.2.1
  have h9 := R.2.2.2.2.2.2.2.2
  have h01 := RL_01 R
  have h01' : hd 17 11 = 0 ∨ hd 17 11 = 1 := by rw [h3.1]; exact h01
  have hE9 : hd 17 11 = 1 → ∀ i, i < 10 → E 0 i < L 0 0 ∧ E 1 i < L 0 0 := fun c => by
    rcases h3.2 with ⟨c3, _⟩ | c3
    · rw [h3.1, c3] at c
      exact absurd c (by decide)
    · exact h7.2.2.1 c3.2
  refine g_fearth (by omega) hn h2.1 h01' h2.1.1.1.1 hE9 h7.1.1 h7.1.2.2 (fun i hi => (h7.2.1 i hi).1) h7.2.2.2 (fun c => ?_) (fun hd1 c f1 f2 => ?_)
  · refine h _ b hd n h1.1 (Nat.le_refl _) (fun Q2 hq => ?_)
    refine m_earth (by omega) hn h2.2.1 (fun c3 => ?_) h01 h2.1.1.1.1 (by rw [← h3.1]; exact hE9) h7.1.2.1 h7.1.2.2 (fun i hi => (h7.2.1 i hi).2) (fun c2 => ?_) (fun hd2 c2 f3 => ?_)
    · rw [h3.1, c3] at c
      exact absurd c (by decide)
    · exact hq b hd n ⟨T, m, L, H, E, ne, lby, R⟩ (Nat.le_refl _)
    · rw [h3.1, c2] at c
      exact absurd c (by decide)
  · have g1 : ∀ i, ¬ (53 ≤ i ∧ i ≤ 56) → hd1 i = hd i := fun i hi => f1.1 i (by omega) (by omega)
    obtain ⟨q1, q2, q4⟩ := RL_bk1 (tld_land b) R g1
    have hP : 0 < L 0 0 := by
      rcases h3.2 with ⟨c3, _⟩ | c3
      · rw [h3.1, c3] at c
        exact absurd c (by decide)
      · exact c3.2
    have c19 : hd1 98 19 = 1 := by rw [q4, ← h3.1]; exact c
    refine h _ b hd1 n q1 (Nat.le_refl _) (fun Q2 hq => ?_)
    refine m_earth (by omega) hn q2 (fun _ => hP) (Or.inr c19) h2.1.1.1.1 (fun _ => hE9 c) (by rw [q4]; exact h7.1.2.1) h7.1.2.2 (fun i hi => by rw [g1 151 (by decide), g1 152 (by decide)]; exact (h7.2.1 i hi).2) (fun c2 => ?_) (fun hd2 c2 f3 => ?_)
    · rw [c19] at c2
      exact absurd c2 (by decide)
    · refine hq b hd2 n ⟨T, m, L, H, E, ne, lby, RL_bk (tld_land b) R g1 (fun i a1 a2 => f3 i (by omega)) (fun j hj => by rw [f3 98 (by decide)]) h3.2 ⟨⟨?_, ?_, h7.1.2.2⟩, fun i hi => ?_, h7.2.2.1, ?_⟩⟩ (Nat.le_refl _)
      · rw [f3 53 (by decide), f1.2 3 (by decide)]
        exact h7.1.1
      · rw [f3 98 (by decide), q4]
        exact h7.1.2.1
      · rw [f3 54 (by decide), f3 55 (by decide), f3 151 (by decide), f3 152 (by decide), f1.1 54 (by decide) (by decide), f1.1 55 (by decide) (by decide), f1.1 151 (by decide) (by decide), f1.1 152 (by decide) (by decide)]
        exact h7.2.1 i hi
      · unfold bkC at *
        rw [f3 53 (by decide)]
        exact f2
theorem pr_image {p : Int} (hd9 : 24 ≤ d) (hn : 159 ≤ n) (hs : strB S0) (hR : RLx S0 b hd) (h : prK d f0 300 [vR 98, vI p] S0 Q n) : wpM d 194 [vR 17, vI p] Q (am_R f0 b) hd n := by
  obtain ⟨T, m, L, H, E, ne, lby, R⟩ := hR
  have h1 := R.1
  have h2 := R.2.1
  have h3 := R.2.2.1
  have h4 := R.2.2.2.1
  have h5 := R.2.2.2.2.1
  have h6 := R.2.2.2.2.2.1
  have h7 := R.2.2.2.2.2.2.1
  have h8 := R.2.2.2.2.2.2.2.1
  have h9 := R.2.2.2.2.2.2.2.2
  have h01 := RL_01 R
  have h01' : hd 17 11 = 0 ∨ hd 17 11 = 1 := by rw [h3.1]; exact h01
  refine g_fimage (by omega) hn (fun c => ?_) (fun c1 c => ?_) (fun k hd1 e1 hk c1 f1 e7 => ?_)
  · skip
    obtain ⟨⟨g1, g2, g3⟩, ⟨g4, g6, g7⟩, g8, g9⟩ := RL_57r (tld_land b) R 0
    refine h _ b _ n g1.1 (Nat.le_refl _) (fun Q2 hq => ?_)
    have fin := hq b _ n ⟨T, m, L, H, E, ne, lby, RL_rf (tld_land b) R (k := 0) (by omega)⟩ (Nat.le_refl _)
    refine m_image (by omega) hn (fun c2 => ?_) (fun c3 c2 => ?_) (fun k hd2 e2 hk2 c3 f2 => ?_)
    · exact fin
    · exact absurd c2 c
    · exact absurd ⟨by omega, by omega⟩ c
  · skip
    obtain ⟨⟨g1, g2, g3⟩, ⟨g4, g6, g7⟩, g8, g9⟩ := RL_57r (tld_land b) R 2
    refine h _ b _ n g1.1 (Nat.le_refl _) (fun Q2 hq => ?_)
    have fin := hq b _ n ⟨T, m, L, H, E, ne, lby, RL_rf (tld_land b) R (k := 2) (by omega)⟩ (Nat.le_refl _)
    have z19 : rf 57 hd 2 98 19 = 0 := by rw [← g3.1]; exact c1
    refine m_image (by omega) hn (fun c2 => ?_) (fun c3 c2 => ?_) (fun k hd2 e2 hk2 c3 f2 => ?_)
    · exact absurd c c2
    · exact fin
    · exact absurd z19 c3
  · have F1 : ∀ i, ¬ (86 ≤ i ∧ i ≤ 97) → hd1 i = hd i := fun i hi => f1.1 i (by omega)
    have e98 := F1 98 (by decide)
    have z19 : ¬ hd1 98 19 = 0 := by rw [e98, ← h3.1]; exact c1
    refine h _ b hd1 n (fun i hi => by rw [F1 i (by omega)]; exact h1.1 i hi) (Nat.le_refl _) (fun Q2 hq => ?_)
    refine m_image (by omega) hn (fun c2 => ?_) (fun c3 c2 => ?_) (fun k2 hd2 e2 hk2 c3 f2 => ?_)
    · exact absurd ⟨by omega, by omega⟩ c2
    · exact absurd c3 z19
    · obtain rfl : k2 = k := by omega
      obtain ⟨i1, i2, i3⟩ := imR_keep h2.1.1 h4.1 h4.2.1 h4.2.2.1 h4.2.2.2.1 h4.2.2.2.2.1 hk2 f1 e7 f2 h6.1
      have F : ∀ i, i ≠ 98 → ¬ (86 ≤ i ∧ i ≤ 97) → ¬ (155 ≤ i ∧ i ≤ 158) → hd2 i = hd i := fun i a b c => (f2.1 i a (by omega) (by omega)).trans (F1 i b)
      have G : ∀ j, j ≠ 59 → hd2 98 j = hd 98 j := fun j a => (f2.2.1 j a).trans (by rw [e98])
      have e21 := F 21 (by decide) (by decide) (by decide)
      refine hq b hd2 n ⟨T, m, L, H, E, ne, lby, r1_fr (fun i _ _ => F i (by omega) (by omega) (by omega)) (F _ (by omega) (by omega) (by omega)) (G _ (by omega)) h1, r2_fr (tld_land b) (fun i _ _ => F i (by omega) (by omega) (by omega)) (fun i _ _ => F i (by omega) (by omega) (by omega)) (G _ (by omega)) h2, r3_fr (by rw [F 17 (by omega) (by omega) (by omega)]) (G _ (by omega)) h3, ⟨h4.1, i2, i3, by rw [G 28 (by decide), e21]; exact h4.2.2.2.1, by rw [e21]; exact h4.2.2.2.2.1, h4.2.2.2.2.2⟩, r5_fr (F _ (by omega) (by omega) (by omega)) (F _ (by omega) (by omega) (by omega)) h5, ⟨i1, fun q hq3 h7' => ?_⟩, r7_fr (fun j _ _ => by rw [F 53 (by omega) (by omega) (by omega)]) (F _ (by omega) (by omega) (by omega)) (F _ (by omega) (by omega) (by omega)) (F _ (by omega) (by omega) (by omega)) (F _ (by omega) (by omega) (by omega)) (G _ (by omega)) h7, r8_fr (fun i _ _ => F i (by omega) (by omega) (by omega)) h8, r9_fr (fun j _ _ => G _ (by omega)) h9⟩ (Nat.le_refl _)
      by_cases cq : q = k2
      · refine ⟨H 0 3, ?_, h4.2.2.2.2.2⟩
        rw [cq, f2.1 (86 + 4 * k2) (by omega) (by omega) (by omega), f1.2.1 5 (by decide) (by decide)]
        exact h4.2.1.2.1
      · have eq9 : hd2 (86 + 4 * q) = hd (86 + 4 * q) := by rw [f2.1 (86 + 4 * q) (by omega) (by omega) (by omega), f1.1 (86 + 4 * q) (by omega)]
        rw [eq9] at h7' ⊢
        exact h6.2 q hq3 h7'
theorem pr_on {p : Int} (hd9 : 24 ≤ d) (hn : 159 ≤ n) (hs : strB S0) (hR : RLx S0 b hd) (h : prK d f0 301 [vR 98, vI p] S0 Q n) : wpM d 195 [vR 17, vI p] Q (am_R f0 b) hd n := by
  obtain ⟨T, m, L, H, E, ne, lby, R⟩ := hR
  have h1 := R.1
  have h2 := R.2.1
  have h3 := R.2.2.1
  have h4 := R.2.2.2.1
  have h5 := R.2.2.2.2.1
  have h6 := R.2.2.2.2.2.1
  have h7 := R.2.2.2.2.2.2.1
  have h8 := R.2.2.2.2.2.2.2.1
  have h9 := R.2.2.2.2.2.2.2.2
  have h01 := RL_01 R
  have h01' : hd 17 11 = 0 ∨ hd 17 11 = 1 := by rw [h3.1]; exact h01
  have k9 : ∀ k : Nat, k < 3 → (hd (86 + 4 * k) 7 = 0 ∧ hd 158 k = 0) ∨ (hd (86 + 4 * k) 7 = 1 ∧ hd 158 k = 1) := fun k hk => by
    rcases h6.1 k hk with c | c
    · exact Or.inl c
    · exact Or.inr c.1
  refine g_fon (by omega) hn (fun k hk => (k9 k hk).elim (fun z => Or.inl z.1) (fun z => Or.inr z.1)) (fun c => ?_) (fun k e1 hk c => ?_) (fun k hd1 e1 hk e7 f1 e8 => ?_)
  · skip
    obtain ⟨⟨g1, g2, g3⟩, ⟨g4, g6, g7⟩, g8, g9⟩ := RL_57r (tld_land b) R 0
    refine h _ b _ n g1.1 (Nat.le_refl _) (fun Q2 hq => ?_)
    have fin := hq b _ n ⟨T, m, L, H, E, ne, lby, RL_rf (tld_land b) R (k := 0) (by omega)⟩ (Nat.le_refl _)
    refine m_on (by omega) hn (fun k hk => (k9 k hk).elim (fun z => Or.inl z.2) (fun z => Or.inr z.2)) (fun c2 => ?_) (fun k2 e2 hk2 c2 => ?_) (fun k2 hd2 e2 hk2 c2 f2 => ?_)
    · exact fin
    · exact absurd ⟨by omega, by omega⟩ c
    · exact absurd ⟨by omega, by omega⟩ c
  · skip
    obtain ⟨⟨g1, g2, g3⟩, ⟨g4, g6, g7⟩, g8, g9⟩ := RL_57r (tld_land b) R 0
    refine h _ b _ n g1.1 (Nat.le_refl _) (fun Q2 hq => ?_)
    have fin := hq b _ n ⟨T, m, L, H, E, ne, lby, RL_rf (tld_land b) R (k := 0) (by omega)⟩ (Nat.le_refl _)
    have z0 : hd 158 k = 0 := by
      rcases k9 k hk with z | z
      · exact z.2
      · rw [z.1] at c
        exact absurd c (by decide)
    refine m_on (by omega) hn (fun k hk => (k9 k hk).elim (fun z => Or.inl z.2) (fun z => Or.inr z.2)) (fun c2 => ?_) (fun k2 e2 hk2 c2 => ?_) (fun k2 hd2 e2 hk2 c2 f2 => ?_)
    · exact absurd ⟨by omega, by omega⟩ c2
    · exact fin
    · obtain rfl : k2 = k := by omega
      have c3 : hd 158 k2 = 1 := c2
      rw [z0] at c3
      exact absurd c3 (by decide)
  · have F1 : ∀ i, ¬ (21 ≤ i ∧ i ≤ 24) → hd1 i = hd i := fun i hi => f1.1 i (by omega)
    have e158 := F1 158 (by decide)
    have z1 : hd1 158 k = 1 := by
      rw [e158]
      rcases k9 k hk with z | z
      · rw [z.1] at e7
        exact absurd e7 (by decide)
      · exact z.2
    refine h _ b hd1 n (fun i hi => by rw [F1 i (by omega)]; exact h1.1 i hi) (Nat.le_refl _) (fun Q2 hq => ?_)
    refine m_on (by omega) hn (fun k hk => by rw [e158]; exact (k9 k hk).elim (fun z => Or.inl z.2) (fun z => Or.inr z.2)) (fun c2 => ?_) (fun k2 e2 hk2 c2 => ?_) (fun k2 hd2 e2 hk2 c2 f2 => ?_)
    · exact absurd ⟨by omega, by omega⟩ c2
    · obtain rfl : k2 = k := by omega
      rw [z1] at c2
      exact absurd c2 (by decide)
    · obtain rfl : k2 = k := by omega
      obtain ⟨i1, i2, i3, H', i4, i5, i6⟩ := imR_lay h2.1.1 hk2 e7 f1 f2 h6.1
      obtain ⟨z, z2, z3⟩ := h6.2 k2 hk2 e7
      have F : ∀ i, i ≠ 98 → ¬ (21 ≤ i ∧ i ≤ 24) → ¬ (136 ≤ i ∧ i ≤ 139) → hd2 i = hd i := fun i a b c => (f2.1 i a (by omega)).trans (F1 i b)
      have G : ∀ j, j ≠ 59 → ¬ (27 ≤ j ∧ j ≤ 29) → hd2 98 j = hd 98 j := fun j a b => (f2.2.1 j a (by omega) (by omega) (by omega)).trans (by rw [F1 98 (by decide)])
      have e5 : H' 0 3 = z := by
        have a1 := i5.2.1
        rw [f2.1 21 (by decide) (by decide), f1.2.1 5 (by decide) (by decide), z2] at a1
        omega
      exact hq b hd2 n ⟨T, m, L, H', E, ne, lby, r1_fr (fun i _ _ => F i (by omega) (by omega) (by omega)) (F _ (by omega) (by omega) (by omega)) (G _ (by omega) (by omega)) h1, r2_fr (tld_land b) (fun i _ _ => F i (by omega) (by omega) (by omega)) (fun i _ _ => F i (by omega) (by omega) (by omega)) (G _ (by omega) (by omega)) h2, r3_fr (by rw [F 17 (by omega) (by omega) (by omega)]) (G _ (by omega) (by omega)) h3, ⟨i4, i5, i6, i2, i3, by rw [e5]; exact z3⟩, r5_fr (F _ (by omega) (by omega) (by omega)) (F _ (by omega) (by omega) (by omega)) h5, ⟨i1, (r6_fr (fun i _ _ => F i (by omega) (by omega) (by omega)) (fun i _ _ => F i (by omega) (by omega) (by omega)) h6).2⟩, r7_fr (fun j _ _ => by rw [F 53 (by omega) (by omega) (by omega)]) (F _ (by omega) (by omega) (by omega)) (F _ (by omega) (by omega) (by omega)) (F _ (by omega) (by omega) (by omega)) (F _ (by omega) (by omega) (by omega)) (G _ (by omega) (by omega)) h7, r8_fr (fun i _ _ => F i (by omega) (by omega) (by omega)) h8, r9_fr (fun j _ _ => G _ (by omega) (by omega)) h9⟩ (Nat.le_refl _)
end
