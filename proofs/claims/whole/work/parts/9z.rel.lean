/-! THE RELATION -/
def r1 (S0 hd : amD) (T : Nat → Int) (m : Nat) : Prop := (∀ i, i < 17 → hd i = S0 i) ∧ txC hd T m ∧ txM hd T m
def r2 (hd : amD) (o : Nat) (L : Lnd) : Prop := cL hd o L ∧ mL hd L ∧ ∀ p, L 1 p ≤ 99
def r3 (hd : amD) (L : Lnd) (ne : Nat) : Prop := hd 17 11 = hd 98 19 ∧ (hd 98 19 = 0 ∧ ne = 0 ∨ hd 98 19 = 1 ∧ 0 < L 0 0)
def r4 (hd : amD) (L H : Lnd) : Prop := Hok L H ∧ cH hd 21 H (L 0 2) ∧ mH hd H (L 0 2) ∧ hd 98 28 = hd 21 4 ∧ in32 (hd 21 4) ∧ ∀ t, (H 0 3).testBit t = true → t < L 0 2
def r5 (hd : amD) : Prop := ∀ k, k < 3 → hd 57 k = hd 99 k
def r6 (hd : amD) (L : Lnd) : Prop := imR hd L ∧ ∀ k, k < 3 → hd (86 + 4 * k) 7 = 1 → ∃ z : Nat, hd (86 + 4 * k) 5 = (z : Int) ∧ ∀ t, z.testBit t = true → t < L 0 2
def r7 (hd : amD) (L : Lnd) (E : Nat → Nat → Nat) (ne : Nat) : Prop := (hd 53 3 = (ne : Int) ∧ hd 98 55 = (ne : Int) ∧ ne ≤ 10) ∧ (∀ i, i < ne → (hd 54 i = (E 0 i : Int) ∧ hd 55 i = (E 1 i : Int)) ∧ hd 151 i = (E 0 i : Int) ∧ hd 152 i = (E 1 i : Int)) ∧ (0 < L 0 0 → ∀ i, i < 10 → E 0 i < L 0 0 ∧ E 1 i < L 0 0) ∧ bkC hd E ne (L 0 0)
def r8 (hd : amD) (L : Lnd) : Prop := plC hd L ∧ chN hd
def r9 (hd : amD) (lby : Nat) : Prop := hd 98 30 = -1 ∧ hd 98 31 = -1 ∧ hd 98 33 = -1 ∧ hd 98 32 = (lby : Int) ∧ lby ≤ 60
def RLw (S0 : amD) (o : Nat) (hd : amD) (T : Nat → Int) (m : Nat) (L H : Lnd) (E : Nat → Nat → Nat) (ne lby : Nat) : Prop := r1 S0 hd T m ∧ r2 hd o L ∧ r3 hd L ne ∧ r4 hd L H ∧ r5 hd ∧ r6 hd L ∧ r7 hd L E ne ∧ r8 hd L ∧ r9 hd lby
/-- the two stores stand alike -/
def RLx (S0 : amD) (b : Bool) (hd : amD) : Prop := ∃ (T : Nat → Int) (m : Nat) (L H : Lnd) (E : Nat → Nat → Nat) (ne lby : Nat), RLw S0 (tld b) hd T m L H E ne lby
section
variable {S0 hd hd' : amD} {T : Nat → Int} {m o ne lby : Nat} {L H : Lnd} {E : Nat → Nat → Nat}
theorem r1_fr (h : ∀ i, i < 20 → i ≠ 17 → hd' i = hd i) (h1 : hd' 100 = hd 100) (h2 : hd' 98 2 = hd 98 2) (hr : r1 S0 hd T m) : r1 S0 hd' T m :=
  ⟨fun i hi => by rw [h i (by omega) (by omega)]; exact hr.1 i hi, txC_fr (h 18 (by decide) (by decide)) (h 19 (by decide) (by decide)) hr.2.1, txM_fr h2 h1 hr.2.2⟩
theorem r2_fr (ho : isLand o) (h : ∀ i, 58 ≤ i → i ≤ 85 → hd' i = hd i) (h1 : ∀ i, 101 ≤ i → i ≤ 132 → hd' i = hd i) (h2 : hd' 98 19 = hd 98 19) (hr : r2 hd o L) : r2 hd' o L := by
  refine ⟨cL_fr (fun k hk => h _ (by rcases ho with rfl | rfl <;> omega) (by rcases ho with rfl | rfl <;> omega)) hr.1, ?_, hr.2.2⟩
  have hL := hr.2.1
  unfold mL at *
  rw [h2, h1 132 (by omega) (by omega), h1 102 (by omega) (by omega), h1 105 (by omega) (by omega), h1 108 (by omega) (by omega), h1 111 (by omega) (by omega), h1 114 (by omega) (by omega), h1 117 (by omega) (by omega), h1 120 (by omega) (by omega), h1 123 (by omega) (by omega), h1 126 (by omega) (by omega), h1 129 (by omega) (by omega)]
  exact hL
theorem r3_fr (h : hd' 17 11 = hd 17 11) (h2 : hd' 98 19 = hd 98 19) (hr : r3 hd L ne) : r3 hd' L ne := by
  unfold r3 at *
  rw [h, h2]
  exact hr
theorem r4_fr (h : ∀ i, 21 ≤ i → i ≤ 24 → hd' i = hd i) (h1 : ∀ i, 136 ≤ i → i ≤ 139 → hd' i = hd i) (h2 : ∀ j, 27 ≤ j → j ≤ 29 → hd' 98 j = hd 98 j) (hr : r4 hd L H) : r4 hd' L H := by
  obtain ⟨a, b, c, e, f⟩ := hr
  refine ⟨a, cH_fr2 ⟨h 21 (by omega) (by omega), h 22 (by omega) (by omega), h 23 (by omega) (by omega), h 24 (by omega) (by omega)⟩ b, mH_fr2 ⟨⟨h2 27 (by omega) (by omega), h2 29 (by omega) (by omega)⟩, h1 136 (by omega) (by omega), h1 137 (by omega) (by omega), h1 138 (by omega) (by omega), h1 139 (by omega) (by omega)⟩ c, ?_, ?_⟩
  · rw [h2 28 (by omega) (by omega), h 21 (by omega) (by omega), e]
  · rw [h 21 (by omega) (by omega)]
    exact f
theorem r5_fr (h : hd' 57 = hd 57) (h1 : hd' 99 = hd 99) (hr : r5 hd) : r5 hd' := by
  unfold r5 at *
  rw [h, h1]
  exact hr
theorem r6_fr (h : ∀ i, 86 ≤ i → i ≤ 97 → hd' i = hd i) (h1 : ∀ i, 155 ≤ i → i ≤ 158 → hd' i = hd i) (hr : r6 hd L) : r6 hd' L := by
  refine ⟨fun k hk => imO_fr (fun i a1 a2 => h i (by omega) (by omega)) (h1 _ (by omega) (by omega)) (by rw [h1 158 (by omega) (by omega)]) (hr.1 k hk), fun k hk => ?_⟩
  rw [h (86 + 4 * k) (by omega) (by omega)]
  exact hr.2 k hk
theorem r7_fr (h : ∀ j, 3 ≤ j → j ≤ 7 → hd' 53 j = hd 53 j) (h1 : hd' 54 = hd 54) (h2 : hd' 55 = hd 55) (h3 : hd' 151 = hd 151) (h4 : hd' 152 = hd 152) (h5 : hd' 98 55 = hd 98 55) (hr : r7 hd L E ne) : r7 hd' L E ne := by
  unfold r7 bkC at *
  rw [h 3 (by omega) (by omega), h 4 (by omega) (by omega), h 5 (by omega) (by omega), h 6 (by omega) (by omega), h 7 (by omega) (by omega), h1, h2, h3, h4, h5]
  exact hr
theorem r8_fr (h : ∀ i, 26 ≤ i → i ≤ 52 → hd' i = hd i) (hr : r8 hd L) : r8 hd' L := by
  refine ⟨plC_fr (fun i a1 a2 _ _ _ _ _ _ _ _ => h i (by omega) (by omega)) hr.1, ?_⟩
  unfold chN
  rw [h 26 (by omega) (by omega)]
  exact hr.2
theorem r9_fr (h : ∀ j, 30 ≤ j → j ≤ 33 → hd' 98 j = hd 98 j) (hr : r9 hd lby) : r9 hd' lby := by
  unfold r9 at *
  rw [h 30 (by omega) (by omega), h 31 (by omega) (by omega), h 32 (by omega) (by omega), h 33 (by omega) (by omega)]
  exact hr
/-- after the plan's work in the class -/
theorem RL_pl (ho : isLand o) (hR : RLw S0 o hd T m L H E ne lby) (h : plU hd hd' L) : RLw S0 o hd' T m L H E ne lby := by
  obtain ⟨h1, h2, h3, h4, h5, h6, h7, h8, h9⟩ := hR
  obtain ⟨F, p1, p2⟩ := h
  have e98 : hd' 98 = hd 98 := F 98 (by omega)
  exact ⟨r1_fr (fun i _ _ => F i (by omega)) (F _ (by omega)) (by rw [e98]) h1, r2_fr ho (fun i _ _ => F i (by omega)) (fun i _ _ => F i (by omega)) (by rw [e98]) h2, r3_fr (by rw [F 17 (by omega)]) (by rw [e98]) h3, r4_fr (fun i _ _ => F i (by omega)) (fun i _ _ => F i (by omega)) (fun j _ _ => by rw [e98]) h4, r5_fr (F _ (by omega)) (F _ (by omega)) h5, r6_fr (fun i _ _ => F i (by omega)) (fun i _ _ => F i (by omega)) h6, r7_fr (fun j _ _ => by rw [F 53 (by omega)]) (F _ (by omega)) (F _ (by omega)) (F _ (by omega)) (F _ (by omega)) (by rw [e98]) h7, ⟨p1, p2⟩, r9_fr (fun j _ _ => by rw [e98]) h9⟩
/-- what the plan's work in the model leaves -/
def mdF (hd hd' : amD) : Prop := (∀ i, i ≠ 98 → ¬ (140 ≤ i ∧ i ≤ 150) → i ≠ 153 → hd' i = hd i) ∧ ∀ j, j ≠ 32 → ¬ (38 ≤ j ∧ j ≤ 41) → j ≠ 47 → j ≠ 50 → j ≠ 51 → j ≠ 56 → hd' 98 j = hd 98 j
theorem RL_md (ho : isLand o) {k : Nat} (hR : RLw S0 o hd T m L H E ne lby) (h : mdF hd hd') (hk : k ≤ 60) (h32 : hd' 98 32 = (k : Int)) : RLw S0 o hd' T m L H E ne k := by
  obtain ⟨h1, h2, h3, h4, h5, h6, h7, h8, h9⟩ := hR
  obtain ⟨F, G⟩ := h
  have g : ∀ j, j ≤ 31 ∨ j = 33 ∨ j = 55 → hd' 98 j = hd 98 j := fun j hj => G j (by omega) (by omega) (by omega) (by omega) (by omega) (by omega)
  exact ⟨r1_fr (fun i _ _ => F i (by omega) (by omega) (by omega)) (F _ (by omega) (by omega) (by omega)) (g _ (by omega)) h1, r2_fr ho (fun i _ _ => F i (by omega) (by omega) (by omega)) (fun i _ _ => F i (by omega) (by omega) (by omega)) (g _ (by omega)) h2, r3_fr (by rw [F 17 (by omega) (by omega) (by omega)]) (g _ (by omega)) h3, r4_fr (fun i _ _ => F i (by omega) (by omega) (by omega)) (fun i _ _ => F i (by omega) (by omega) (by omega)) (fun j _ _ => g _ (by omega)) h4, r5_fr (F _ (by omega) (by omega) (by omega)) (F _ (by omega) (by omega) (by omega)) h5, r6_fr (fun i _ _ => F i (by omega) (by omega) (by omega)) (fun i _ _ => F i (by omega) (by omega) (by omega)) h6, r7_fr (fun j _ _ => by rw [F 53 (by omega) (by omega) (by omega)]) (F _ (by omega) (by omega) (by omega)) (F _ (by omega) (by omega) (by omega)) (F _ (by omega) (by omega) (by omega)) (F _ (by omega) (by omega) (by omega)) (g _ (by omega)) h7, r8_fr (fun i _ _ => F i (by omega) (by omega) (by omega)) h8, by rw [g 30 (by omega)]; exact h9.1, by rw [g 31 (by omega)]; exact h9.2.1, by rw [g 33 (by omega)]; exact h9.2.2.1, h32, hk⟩
theorem RL_md0 (ho : isLand o) (hR : RLw S0 o hd T m L H E ne lby) (h : mdF hd hd') (h32 : hd' 98 32 = hd 98 32) : RLw S0 o hd' T m L H E ne lby :=
  RL_md ho hR h hR.2.2.2.2.2.2.2.2.2.2.2.2 (by rw [h32]; exact hR.2.2.2.2.2.2.2.2.2.2.2.1)
theorem isLo_of (hr : r4 hd L H) : isLo hd (L 0 2) (H 0 3) := ⟨hr.1.1.2.2, fun t ht => mH_l hr.2.2.1 ht⟩
theorem tld_land (b : Bool) : isLand (tld b) := by cases b <;> simp [isLand, tld]
theorem RL_strB (hs : strB S0) (hR : RLw S0 o hd T m L H E ne lby) : strB hd := strB_fr (fun i hi => hR.1.1 i hi) hs
theorem RL_01 (hR : RLw S0 o hd T m L H E ne lby) : hd 98 19 = 0 ∨ hd 98 19 = 1 := by
  rcases hR.2.2.1.2 with h | h
  · exact Or.inl h.1
  · exact Or.inr h.1
end
/-- what is asked of the rest behind a pair of calls -/
def prK (d f0 mm : Nat) (args : List amV) (S0 : amD) (Q : amQ) (n : Nat) : Prop := ∀ (x : Int) (b1 : Bool) (hd1 : amD) (n1 : Nat), (∀ i, i < 17 → hd1 i = S0 i) → n ≤ n1 → (∀ Q2 : amQ, (∀ (b' : Bool) (hd' : amD) (n' : Nat), RLx S0 b' hd' → n1 ≤ n' → Q2 (some (vI x)) (am_R f0 b') hd' n') → wpM d mm args Q2 (am_R f0 b1) hd1 n1) → Q (some (vI x)) (am_R f0 b1) hd1 n1
