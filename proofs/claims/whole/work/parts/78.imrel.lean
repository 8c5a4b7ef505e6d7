/-! THE IMAGES: the relation -/
/-- the holdings that row 155 + k keeps, laid as the model's own -/
def imV (hd : amD) (k : Nat) : amD := fun i j => if i = 136 then hd (155 + k) (3 + j) else if i = 137 then hd (155 + k) (123 + j) else if i = 138 then hd (155 + k) (243 + j) else if i = 139 then hd (155 + k) (255 + j) else if j = 27 then hd (155 + k) 0 else hd (155 + k) 2
/-- image k of the class and of the model are the same -/
def imO (hd : amD) (L : Lnd) (k : Nat) : Prop := hd (86 + 4 * k) 7 = 0 ∧ hd 158 k = 0 ∨ (hd (86 + 4 * k) 7 = 1 ∧ hd 158 k = 1) ∧ hd (155 + k) 1 = hd (86 + 4 * k) 4 ∧ in32 (hd (86 + 4 * k) 4) ∧ ∃ H, Hok L H ∧ cH hd (86 + 4 * k) H (L 0 2) ∧ mH (imV hd k) H (L 0 2)
def imR (hd : amD) (L : Lnd) : Prop := ∀ k, k < 3 → imO hd L k
theorem imO_fr {hd hd' : amD} {L : Lnd} {k : Nat} (h1 : ∀ i, 86 + 4 * k ≤ i → i ≤ 89 + 4 * k → hd' i = hd i) (h2 : hd' (155 + k) = hd (155 + k)) (h3 : hd' 158 k = hd 158 k) (h : imO hd L k) : imO hd' L k := by
  unfold imO imV cH at *
  rw [h1 (86 + 4 * k) (by omega) (by omega), h1 (86 + 4 * k + 1) (by omega) (by omega), h1 (86 + 4 * k + 2) (by omega) (by omega), h1 (86 + 4 * k + 3) (by omega) (by omega), h2, h3]
  exact h
theorem cH_cp {hd hd' : amD} {o f T : Nat} {L H : Lnd} (hT : T ≤ 12) (h8 : ∀ t, t < T → H 1 t ≤ 8) (h : cpH hd hd' o f) (hH : cH hd f H T) : cH hd' o H T := by
  obtain ⟨_, a2, _, a4, a5, a6⟩ := h
  obtain ⟨c1, c2, c3, c4⟩ := hH
  refine ⟨by rw [a2 3 (by omega) (by omega), c1], by rw [a2 5 (by omega) (by omega), c2], by rw [a2 6 (by omega) (by omega), c3], fun t ht => ?_⟩
  have e8 := h8 t ht
  obtain ⟨d1, d2⟩ := c4 t ht
  refine ⟨by rw [a4 t (by omega), d1], fun k hk => ?_⟩
  rw [a5 _ (by omega), a6 _ (by omega)]
  exact d2 k hk
theorem mH_keep {hd hd' : amD} {k T : Nat} {H : Lnd} (hT : T ≤ 12) (h8 : ∀ t, t < T → H 1 t ≤ 8) (h : imP hd hd' k) (hH : mH hd H T) : mH (imV hd' k) H T := by
  obtain ⟨_, _, ⟨b1, _, b3⟩, ⟨b4, b5, b6, b7⟩, _⟩ := h
  obtain ⟨c1, c2, c4⟩ := hH
  refine ⟨by simp [imV]; rw [b1, c1], by simp [imV]; rw [b3, c2], fun t ht => ?_⟩
  have e8 := h8 t ht
  obtain ⟨d1, d2, d3⟩ := c4 t ht
  refine ⟨by simp [imV]; rw [b6 t (by omega), d1], by simp [imV]; rw [b7 t (by omega), d2], fun q hq => ?_⟩
  obtain ⟨d4, d5⟩ := d3 q hq
  refine ⟨?_, ?_⟩
  · simp [imV]
    rw [b4 _ (by omega), d4]
  · simp [imV]
    rw [b5 _ (by omega), d5]
theorem mH_lay {hd hd' : amD} {k T : Nat} {H : Lnd} (hT : T ≤ 12) (h8 : ∀ t, t < T → H 1 t ≤ 8) (h : imQ hd hd' k) (hH : mH (imV hd k) H T) : mH hd' H T := by
  obtain ⟨_, _, ⟨b1, _, b3⟩, b4, b5, b6, b7⟩ := h
  obtain ⟨c1, c2, c4⟩ := hH
  refine ⟨by rw [b1, ← c1]; simp [imV], by rw [b3, ← c2]; simp [imV], fun t ht => ?_⟩
  have e8 := h8 t ht
  obtain ⟨d1, d2, d3⟩ := c4 t ht
  refine ⟨by rw [b6 t (by omega), ← d1]; simp [imV], by rw [b7 t (by omega), ← d2]; simp [imV], fun q hq => ?_⟩
  obtain ⟨d4, d5⟩ := d3 q hq
  refine ⟨?_, ?_⟩
  · rw [b4 _ (by omega), ← d4]
    simp [imV]
  · rw [b5 _ (by omega), ← d5]
    simp [imV]
