/-! THE IMAGES: the relation -/
/-- the holdings that row 155 + k keeps, laid as the model's own -/
def imV (hd : amD) (k : Nat) : amD := fun i j => if i = 136 then hd (155 + k) (3 + j) else if i = 137 then hd (155 + k) (123 + j) else if i = 138 then hd (155 + k) (243 + j) else if i = 139 then hd (155 + k) (255 + j) else if j = 27 then hd (155 + k) 0 else hd (155 + k) 2
/-- image k of the class and of the model are the same -/
def imO (hd : amD) (L : Lnd) (k : Nat) : Prop := hd (86 + 4 * k) 7 = 0 ∧ hd 158 k = 0 ∨ (hd (86 + 4 * k) 7 = 1 ∧ hd 158 k = 1) ∧ hd (155 + k) 1 = hd (86 + 4 * k) 4 ∧ in32 (hd (86 + 4 * k) 4) ∧ ∃ H, Hok L H ∧ cH hd (86 + 4 * k) H (L 0 2) ∧ mH (imV hd k) H (L 0 2)
def imR (hd : amD) (L : Lnd) : Prop := ∀ k, k < 3 → imO hd L k
theorem imO_fr {hd hd' : amD} {L : Lnd} {k : Nat} (h1 : ∀ i, 86 + 4 * k ≤ i → i ≤ 89 + 4 * k → hd' i = hd i) (h2 : hd' (155 + k) = hd (155 + k)) (h3 : hd' 158 k = hd 158 k) (h : imO hd L k) : imO hd' L k := by
  unfold imO imV cH at *
  rw [h1 (86 + 4 * k) (by omega) (by omega), h1 (86 + 4 * k + 1) (by omega) (by omega), h1 (86 + 4 * k + 2) (by omega) (by omega), h1 (86 + 4 * k + 3) (by omega) (by omega), h2, h3]
  exact h
theorem cH_cp {hd hd' : amD} {o f T : Nat} {H : Lnd} (hT : T ≤ 12) (h8 : ∀ t, t < T → H 1 t ≤ 8) (h : cpH hd hd' o f) (hH : cH hd f H T) : cH hd' o H T := by
  obtain ⟨_, a2, _, a4, a5, a6⟩ := h
  obtain ⟨c1, c2, c3, c4⟩ := hH
  refine ⟨by rw [a2 3 (by omega) (by omega), c1], by rw [a2 5 (by omega) (by omega), c2], by rw [a2 6 (by omega) (by omega), c3], fun t ht => ?_⟩
  have e8 := h8 t ht
  obtain ⟨d1, d2⟩ := c4 t ht
  refine ⟨by rw [a4 t (by omega), d1], fun k hk => ?_⟩
  rw [a5 _ (by omega), a6 _ (by omega)]
  exact d2 k hk
theorem mH_keep {hd hd' : amD} {k T : Nat} {H : Lnd} (hT : T ≤ 12) (h8 : ∀ t, t < T → H 1 t ≤ 8) (h : imP hd hd' k) (hH : mH hd H T) : mH (imV hd' k) H T := by
  obtain ⟨_, _, ⟨b1, _, b3⟩, ⟨b4, b5, b6, b7⟩, _⟩ := h
  obtain ⟨c1, c2, c4⟩ := hH
  refine ⟨by simp [imV]; rw [b1, c1], by simp [imV]; rw [b3, c2], fun t ht => ?_⟩
  have e8 := h8 t ht
  obtain ⟨d1, d2, d3⟩ := c4 t ht
  refine ⟨by simp [imV]; rw [b6 t (by omega), d1], by simp [imV]; rw [b7 t (by omega), d2], fun q hq => ?_⟩
  obtain ⟨d4, d5⟩ := d3 q hq
  refine ⟨?_, ?_⟩
  · simp [imV]
    rw [b4 _ (by omega), d4]
  · simp [imV]
    rw [b5 _ (by omega), d5]
theorem mH_lay {hd hd' : amD} {k T : Nat} {H : Lnd} (hT : T ≤ 12) (h8 : ∀ t, t < T → H 1 t ≤ 8) (h : imQ hd hd' k) (hH : mH (imV hd k) H T) : mH hd' H T := by
  obtain ⟨_, _, ⟨b1, _, b3⟩, b4, b5, b6, b7⟩ := h
  obtain ⟨c1, c2, c4⟩ := hH
  refine ⟨by rw [b1, ← c1]; simp [imV], by rw [b3, ← c2]; simp [imV], fun t ht => ?_⟩
  have e8 := h8 t ht
  obtain ⟨d1, d2, d3⟩ := c4 t ht
  refine ⟨by rw [b6 t (by omega), ← d1]; simp [imV], by rw [b7 t (by omega), ← d2]; simp [imV], fun q hq => ?_⟩
  obtain ⟨d4, d5⟩ := d3 q hq
  refine ⟨?_, ?_⟩
  · rw [b4 _ (by omega), ← d4]
    simp [imV]
  · rw [b5 _ (by omega), ← d5]
    simp [imV]
theorem mH_fr {hd hd' : amD} {T : Nat} {H : Lnd} (h : hd' 98 = hd 98 ∧ hd' 136 = hd 136 ∧ hd' 137 = hd 137 ∧ hd' 138 = hd 138 ∧ hd' 139 = hd 139) (hH : mH hd H T) : mH hd' H T := by
  unfold mH at *
  rw [h.1, h.2.1, h.2.2.1, h.2.2.2.1, h.2.2.2.2]
  exact hH
theorem mH_fr2 {hd hd' : amD} {T : Nat} {H : Lnd} (h : (hd' 98 27 = hd 98 27 ∧ hd' 98 29 = hd 98 29) ∧ hd' 136 = hd 136 ∧ hd' 137 = hd 137 ∧ hd' 138 = hd 138 ∧ hd' 139 = hd 139) (hH : mH hd H T) : mH hd' H T := by
  unfold mH at *
  rw [h.1.1, h.1.2, h.2.1, h.2.2.1, h.2.2.2.1, h.2.2.2.2]
  exact hH
theorem cH_fr2 {hd hd' : amD} {o T : Nat} {H : Lnd} (h : hd' o = hd o ∧ hd' (o + 1) = hd (o + 1) ∧ hd' (o + 2) = hd (o + 2) ∧ hd' (o + 3) = hd (o + 3)) (hH : cH hd o H T) : cH hd' o H T := by
  unfold cH at *
  rw [h.1, h.2.1, h.2.2.1, h.2.2.2]
  exact hH
/-- keeping image k on both sides -/
theorem imR_keep {hd hd1 hd2 : amD} {L H : Lnd} {k : Nat} (hk : Lok L) (hO : Hok L H) (hC : cH hd 21 H (L 0 2)) (hM : mH hd H (L 0 2)) (h28 : hd 98 28 = hd 21 4) (h32 : in32 (hd 21 4)) (hk3 : k < 3) (h1 : cpH hd hd1 (86 + 4 * k) 21) (h7 : hd1 (86 + 4 * k) 7 = 1) (h2 : imP hd1 hd2 k) (hR : imR hd L) : imR hd2 L ∧ cH hd2 21 H (L 0 2) ∧ mH hd2 H (L 0 2) := by
  have hT := hk.1.2.2.1
  have h8 : ∀ t, t < L 0 2 → H 1 t ≤ 8 := fun t ht => (hO.2 t ht).1.2
  have hM1 : mH hd1 H (L 0 2) := mH_fr ⟨h1.1 98 (by omega), h1.1 136 (by omega), h1.1 137 (by omega), h1.1 138 (by omega), h1.1 139 (by omega)⟩ hM
  refine ⟨fun k' hk' => ?_, ?_, ?_⟩
  · by_cases c : k' = k
    · subst c
      have e0 : hd2 (86 + 4 * k') = hd1 (86 + 4 * k') := h2.1 _ (by omega) (by omega) (by omega)
      refine Or.inr ⟨⟨by rw [e0, h7], h2.2.2.2.2.1⟩, ?_, ?_, H, hO, ?_, ?_⟩
      · rw [h2.2.2.1.2.1, e0, h1.2.1 4 (by omega) (by omega), h1.1 98 (by omega), h28]
      · rw [e0, h1.2.1 4 (by omega) (by omega)]
        exact h32
      · exact cH_fr2 ⟨e0, h2.1 _ (by omega) (by omega) (by omega), h2.1 _ (by omega) (by omega) (by omega), h2.1 _ (by omega) (by omega) (by omega)⟩ (cH_cp hT h8 h1 hC)
      · exact mH_keep hT h8 h2 hM1
    · refine imO_fr (fun i a1 a2 => ?_) ?_ ?_ (hR k' hk')
      · rw [h2.1 i (by omega) (by omega) (by omega), h1.1 i (by omega)]
      · rw [h2.1 _ (by omega) (by omega) (by omega), h1.1 _ (by omega)]
      · rw [h2.2.2.2.2.2 k' c, h1.1 158 (by omega)]
  · exact cH_fr2 ⟨by rw [h2.1 21 (by omega) (by omega) (by omega), h1.1 21 (by omega)], by rw [h2.1 (21 + 1) (by omega) (by omega) (by omega), h1.1 (21 + 1) (by omega)], by rw [h2.1 (21 + 2) (by omega) (by omega) (by omega), h1.1 (21 + 2) (by omega)], by rw [h2.1 (21 + 3) (by omega) (by omega) (by omega), h1.1 (21 + 3) (by omega)]⟩ hC
  · exact mH_fr2 ⟨⟨h2.2.1 27 (by decide), h2.2.1 29 (by decide)⟩, h2.1 136 (by omega) (by omega) (by omega), h2.1 137 (by omega) (by omega) (by omega), h2.1 138 (by omega) (by omega) (by omega), h2.1 139 (by omega) (by omega) (by omega)⟩ hM1
/-- laying image k on both sides -/
theorem imR_lay {hd hd1 hd2 : amD} {L : Lnd} {k : Nat} (hk : Lok L) (hk3 : k < 3) (h7 : hd (86 + 4 * k) 7 = 1) (h1 : cpH hd hd1 21 (86 + 4 * k)) (h2 : imQ hd1 hd2 k) (hR : imR hd L) : imR hd2 L ∧ hd2 98 28 = hd2 21 4 ∧ in32 (hd2 21 4) ∧ ∃ H, Hok L H ∧ cH hd2 21 H (L 0 2) ∧ mH hd2 H (L 0 2) := by
  have hT := hk.1.2.2.1
  have fr : ∀ i, i ≠ 98 → ¬ (21 ≤ i ∧ i ≤ 24) → ¬ (136 ≤ i ∧ i ≤ 139) → hd2 i = hd i := fun i a1 a2 a3 => by rw [h2.1 i a1 a3, h1.1 i (by omega)]
  refine ⟨fun k' hk' => imO_fr (fun i a1 a2 => fr i (by omega) (by omega) (by omega)) (fr _ (by omega) (by omega) (by omega)) (by rw [fr 158 (by omega) (by omega) (by omega)]) (hR k' hk'), ?_⟩
  rcases hR k hk3 with ⟨c1, _⟩ | ⟨⟨_, _⟩, c2, c3, H, hO, hC, hM⟩
  · rw [h7] at c1
    exact absurd c1 (by decide)
  have h8 : ∀ t, t < L 0 2 → H 1 t ≤ 8 := fun t ht => (hO.2 t ht).1.2
  have e4 : hd2 21 4 = hd (86 + 4 * k) 4 := by rw [h2.1 21 (by decide) (by decide), h1.2.1 4 (by decide) (by decide)]
  refine ⟨?_, by rw [e4]; exact c3, H, hO, ?_, ?_⟩
  · rw [h2.2.2.1.2.1, h1.1 (155 + k) (by omega), c2, e4]
  · exact cH_fr2 ⟨h2.1 21 (by decide) (by decide), h2.1 22 (by decide) (by decide), h2.1 23 (by decide) (by decide), h2.1 24 (by decide) (by decide)⟩ (cH_cp hT h8 h1 hC)
  · refine mH_lay hT h8 h2 ?_
    unfold imV at *
    rw [h1.1 (155 + k) (by omega)]
    exact hM
