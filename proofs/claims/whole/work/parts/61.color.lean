/-! PURE: digits; there is always a way to give -/
section
variable {a : Nat → Nat} {M : Nat}
theorem dg_tail (ha : ∀ w, M.testBit w = true → a w ≤ 3) : ∀ j k : Nat, k + j = 12 → sumN k (fun w => if M.testBit w = true then a w * dgN w else 0) ≤ Dg a M ∧ Dg a M + 1 ≤ sumN k (fun w => if M.testBit w = true then a w * dgN w else 0) + 4 ^ j
  | 0, k, h => by
    have : k = 12 := by omega
    subst this
    exact ⟨Nat.le_refl _, by rw [Nat.pow_zero]; exact Nat.le_refl _⟩
  | j + 1, k, h => by
    obtain ⟨h1, h2⟩ := dg_tail ha j (k + 1) (by omega)
    rw [sumN_s] at h1 h2
    have e2 : dgN k = 4 ^ j := by
      unfold dgN
      rw [show 11 - k = j by omega]
    have e3 : 4 ^ (j + 1) = 4 * 4 ^ j := by rw [Nat.pow_succ, Nat.mul_comm]
    (try dsimp only at h1 h2)
    rw [e2] at h1 h2
    rw [e3]
    by_cases hm : M.testBit k = true
    · rw [if_pos hm] at h1 h2
      have := Nat.mul_le_mul_right (4 ^ j) (ha k hm)
      omega
    · rw [if_neg hm] at h1 h2
      omega
theorem dg_div : ∀ k : Nat, k ≤ 12 → ∃ q, sumN k (fun w => if M.testBit w = true then a w * dgN w else 0) = 4 ^ (12 - k) * q
  | 0, _ => ⟨0, by simp [sumN]⟩
  | k + 1, hk => by
    obtain ⟨q, hq⟩ := dg_div k (by omega)
    have e : 4 ^ (12 - k) = 4 ^ (12 - (k + 1)) * 4 := by
      rw [show 12 - k = (12 - (k + 1)) + 1 by omega, Nat.pow_succ]
    have e2 : dgN k = 4 ^ (12 - (k + 1)) := by
      unfold dgN
      rw [show 11 - k = 12 - (k + 1) by omega]
    rw [sumN_s, hq, e]
    (try dsimp only)
    by_cases h : M.testBit k = true
    · exact ⟨4 * q + a k, by rw [if_pos h, e2, Nat.mul_add, Nat.mul_assoc, Nat.mul_comm (a k)]⟩
    · exact ⟨4 * q, by rw [if_neg h, Nat.mul_assoc, Nat.add_zero]⟩
/-- which thing a want has, read from the number -/
theorem dg_read (ha : ∀ w, M.testBit w = true → a w ≤ 3) {w F : Nat} (hw : w < 12) (hm : M.testBit w = true) : (16777216 * F + Dg a M) / 4 ^ (11 - w) % 4 = a w := by
  obtain ⟨h1, h2⟩ := dg_tail ha (11 - w) (w + 1) (by omega)
  obtain ⟨q, hq⟩ := dg_div (a := a) (M := M) w (by omega)
  rw [sumN_s, hq] at h1 h2
  (try dsimp only at h1 h2)
  rw [if_pos hm, show dgN w = 4 ^ (11 - w) from rfl] at h1 h2
  have e : 4 ^ (12 - w) = 4 ^ (11 - w) * 4 := by rw [show 12 - w = (11 - w) + 1 by omega, Nat.pow_succ]
  have e2 : 16777216 = 4 ^ (11 - w) * (4 ^ (w + 1)) := by
    rw [← Nat.pow_add, show 11 - w + (w + 1) = 12 by omega]
  have e3 : 4 ^ (w + 1) = 4 ^ w * 4 := Nat.pow_succ ..
  have a3 := ha w hm
  generalize hB : 4 ^ (11 - w) = B at *
  have hBpos : 0 < B := by rw [← hB]; exact Nat.pow_pos (by decide)
  obtain ⟨lo, hlo⟩ : ∃ lo, Dg a M = B * 4 * q + a w * B + lo := ⟨Dg a M - (B * 4 * q + a w * B), by rw [e] at h1; omega⟩
  have hlt : lo < B := by rw [e] at h2; omega
  have eq : 16777216 * F + Dg a M = B * (4 * (4 ^ w * F + q) + a w) + lo := by
    rw [hlo, e2, e3, Nat.mul_add B, Nat.mul_comm (a w) B, ← Nat.mul_assoc B 4, Nat.mul_add (B * 4), ← Nat.mul_assoc (B * 4), Nat.mul_comm (4 ^ w) 4, ← Nat.mul_assoc B 4 (4 ^ w)]
    omega
  rw [eq, Nat.mul_add_div hBpos, Nat.div_eq_of_lt hlt]
  omega
end
theorem card_le {p : Nat → Bool} : ∀ (W k : Nat) (r : Nat → Nat), (∀ i, i < k → r i < W ∧ p (r i) = true) → (∀ i j, i < j → j < k → r i ≠ r j) → k ≤ sumN W (fun w => if p w = true then 1 else 0)
  | 0, k, r, h1, _ => by
    cases k with
    | zero => exact Nat.zero_le _
    | succ k => exact absurd (h1 0 (by omega)).1 (Nat.not_lt_zero _)
  | W + 1, k, r, h1, h2 => by
    rw [sumN_s]
    by_cases h : ∃ i, i < k ∧ r i = W
    · obtain ⟨i0, h3, h4⟩ := h
      have hp : p W = true := by rw [← h4]; exact (h1 i0 h3).2
      have ne : ∀ i, i < k → i ≠ i0 → r i < W := by
        intro i hi hne
        have a1 := (h1 i hi).1
        have : r i ≠ W := by
          intro e
          by_cases hc : i < i0
          · exact h2 i i0 hc h3 (by rw [e, h4])
          · exact h2 i0 i (by omega) hi (by rw [e, h4])
        omega
      have := card_le (p := p) W (k - 1) (fun i => if i < i0 then r i else r (i + 1)) (fun i hi => by
        (try dsimp only)
        split
        · exact ⟨ne i (by omega) (by omega), (h1 i (by omega)).2⟩
        · exact ⟨ne (i + 1) (by omega) (by omega), (h1 (i + 1) (by omega)).2⟩) (fun i j hij hj => by
        (try dsimp only)
        by_cases c1 : i < i0
        · rw [if_pos c1]
          by_cases c2 : j < i0
          · rw [if_pos c2]; exact h2 i j hij (by omega)
          · rw [if_neg c2]; exact h2 i (j + 1) (by omega) (by omega)
        · rw [if_neg c1, if_neg (show ¬ j < i0 by omega)]
          exact h2 (i + 1) (j + 1) (by omega) (by omega))
      (try dsimp only)
      rw [if_pos hp]
      omega
    · have := card_le (p := p) W k r (fun i hi => ⟨by
        have a1 := (h1 i hi).1
        have : r i ≠ W := fun e => h ⟨i, hi, e⟩
        omega, (h1 i hi).2⟩) h2
      omega
/-- the things that there are suffice for wants that are met -/
theorem color_ex {L : Lnd} {bits m sz : Nat} {ws : Nat → Nat} (hk : Lok L) (hw : wsOk L bits ws sz) (hf : fitP L m (-1) (-1) 0 bits) (hsub : ∀ w, bits.testBit w = true → w < L 0 3) : ∃ a, asg L m bits a := by
  have key : ∀ j, j ≤ sz → ∃ a : Nat → Nat, (∀ i, i < j → a (ws i) < m) ∧ ∀ i i', i < i' → i' < j → a (ws i) = a (ws i') → L 9 (ws i) ≤ L 8 (ws i') := by
    intro j
    induction j with
    | zero => exact fun _ => ⟨fun _ => 0, fun i hi => absurd hi (Nat.not_lt_zero i), fun i i' _ hi => absurd hi (Nat.not_lt_zero i')⟩
    | succ j ih =>
      intro hj
      obtain ⟨a, a1, a2⟩ := ih (by omega)
      have hwj := hw.1 j (by omega)
      have hkj := hk.2.2.2.2.1 (ws j) hwj.1
      by_cases hc : ∃ c, c < m ∧ ∀ i, i < j → a (ws i) = c → L 9 (ws i) ≤ L 8 (ws j)
      · obtain ⟨c, c1, c2⟩ := hc
        refine ⟨fun w => if w = ws j then c else a w, fun i hi => ?_, fun i i' hii hi' he => ?_⟩
        · (try dsimp only)
          by_cases e : ws i = ws j
          · rw [if_pos e]; exact c1
          · rw [if_neg e]
            exact a1 i (by
              by_cases e2 : i = j
              · subst e2; exact absurd rfl e
              · omega)
        · (try dsimp only at he)
          rw [if_neg (hw.2.2 i j (by omega) (by omega)).2] at he
          by_cases e : i' = j
          · subst e
            rw [if_pos rfl] at he
            exact c2 i (by omega) he
          · rw [if_neg (hw.2.2 i' j (by omega) (by omega)).2] at he
            exact a2 i i' hii (by omega) he
      · exfalso
        have hall : ∀ c : Nat, ∃ i, c < m → i < j ∧ a (ws i) = c ∧ L 8 (ws j) < L 9 (ws i) := by
          intro c
          by_cases h1 : c < m
          · by_cases h2 : ∃ i, i < j ∧ a (ws i) = c ∧ L 8 (ws j) < L 9 (ws i)
            · obtain ⟨i, h3⟩ := h2
              exact ⟨i, fun _ => h3⟩
            · exact absurd ⟨c, h1, fun i hi he => by
                by_cases h4 : L 9 (ws i) ≤ L 8 (ws j)
                · exact h4
                · exact absurd ⟨i, hi, he, by omega⟩ h2⟩ hc
          · exact ⟨0, fun h => absurd h h1⟩
        obtain ⟨f, hf2⟩ := Classical.axiomOfChoice hall
        have cnt := card_le (p := fun w => bits.testBit w && decide (L 8 w ≤ L 8 (ws j)) && decide (L 8 (ws j) < eE L (-1) 0 w)) (L 0 3) (m + 1) (fun c => if c < m then ws (f c) else ws j) (fun c hc2 => by
          (try dsimp only)
          by_cases h1 : c < m
          · rw [if_pos h1]
            obtain ⟨g1, g2, g3⟩ := hf2 c h1
            have q1 := hw.1 (f c) (by omega)
            have q2 := (hw.2.2 (f c) j g1 (by omega)).1
            refine ⟨q1.1, ?_⟩
            rw [q1.2, eE_m1]
            simp [q2, g3]
          · rw [if_neg h1]
            refine ⟨hwj.1, ?_⟩
            rw [hwj.2, eE_m1]
            simp
            omega) (fun c c' hcc hc2 => by
          (try dsimp only)
          rw [if_pos (show c < m by omega)]
          obtain ⟨g1, g2, g3⟩ := hf2 c (by omega)
          by_cases h1 : c' < m
          · rw [if_pos h1]
            obtain ⟨g1', g2', g3'⟩ := hf2 c' h1
            intro e
            rw [e, g2'] at g2
            omega
          · rw [if_neg h1]
            exact (hw.2.2 (f c) j g1 (by omega)).2)
        have h9 := hf (L 8 (ws j)) (by omega)
        rw [if_neg (by omega)] at h9
        have e9 : sumN (L 0 3) (fun w => if (bits.testBit w && decide (L 8 w ≤ L 8 (ws j)) && decide (L 8 (ws j) < eE L (-1) 0 w)) = true then 1 else 0) = cD L (-1) 0 bits (L 8 (ws j)) := by
          unfold cD
          refine sumN_congr _ (fun w _ => ?_)
          by_cases hq : bits.testBit w = true ∧ L 8 w ≤ L 8 (ws j) ∧ L 8 (ws j) < eE L (-1) 0 w
          · rw [if_pos hq, if_pos (by simp [hq.1, hq.2.1, hq.2.2])]
          · rw [if_neg hq, if_neg (fun h => hq (by simpa [and_assoc] using h))]
        omega
  obtain ⟨a, a1, a2⟩ := key sz (Nat.le_refl sz)
  refine ⟨a, fun w h => ?_, fun i _ w w' h1 h2 hne => ?_⟩
  · obtain ⟨p, p1, p2⟩ := hw.2.1 w h
    rw [← p2]
    exact a1 p p1
  · obtain ⟨_, b1, b2⟩ := clsM_test.mp h1
    obtain ⟨_, b3, b4⟩ := clsM_test.mp h2
    obtain ⟨p, p1, p2⟩ := hw.2.1 w b1
    obtain ⟨p', p3, p4⟩ := hw.2.1 w' b3
    rintro ⟨g1, g2⟩
    by_cases hc : p < p'
    · have := a2 p p' hc p3 (by rw [p2, p4, b2, b4])
      rw [p2, p4] at this
      omega
    · have hne2 : p ≠ p' := fun e => hne (by rw [← p2, ← p4, e])
      have := a2 p' p (by omega) p1 (by rw [p2, p4, b2, b4])
      rw [p2, p4] at this
      omega
