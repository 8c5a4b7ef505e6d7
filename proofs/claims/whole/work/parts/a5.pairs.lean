/-! PAIRS: fault, land -/
section
variable {S0 hd hd1 hd2 : amD} {T : Nat → Int} {m o ne ne' lby : Nat} {L H H' L' : Lnd} {E E' : Nat → Nat → Nat} {b : Bool}
/-- the reader's traces on both sides -/
theorem RL_rd (hR : RLw S0 (tld b) hd T m L H E ne lby) (F : ∀ i, i < 159 → i ≠ 98 → i ≠ 20 → i ≠ 57 → i ≠ 99 → ¬ (spr b ≤ i ∧ i ≤ spr b + 13) → ¬ isRw i → hd2 i = hd i) (G : ∀ j, ¬ (3 ≤ j ∧ j ≤ 6) → j ≠ 20 → j ≠ 21 → hd2 98 j = hd 98 j) (h05 : r5 hd2) : RLw S0 (tld b) hd2 T m L H E ne lby := by
  obtain ⟨h1, h2, h3, h4, h5, h6, h7, h8, h9⟩ := hR
  have hsp : spr b = 58 ∧ tld b = 72 ∨ spr b = 72 ∧ tld b = 58 := by cases b <;> simp [spr, tld]
  have K : ∀ i, i < 159 → i ≠ 98 → i ≠ 20 → i ≠ 57 → i ≠ 99 → ¬ (58 ≤ i ∧ i ≤ 85) → ¬ (101 ≤ i ∧ i ≤ 134) → hd2 i = hd i := fun i a1 a2 a3 a4 a5 a6 a7 => F i a1 a2 a3 a4 a5 (by omega) (by unfold isRw; omega)
  have M : ∀ i, 102 ≤ i → i ≤ 132 → i % 3 = 0 → hd2 i = hd i := fun i a1 a2 a3 => F i (by omega) (by omega) (by omega) (by omega) (by omega) (by omega) (by unfold isRw; omega)
  refine ⟨r1_fr (fun i _ _ => ?_) (K _ (by omega) (by omega) (by omega) (by omega) (by omega) (by omega) (by omega)) (G _ (by omega) (by omega) (by omega)) h1, ⟨cL_fr (fun k hk => F _ (by omega) (by omega) (by omega) (by omega) (by omega) (by omega) (by unfold isRw; omega)) h2.1, ?_, h2.2.2⟩, r3_fr (by rw [K 17 (by omega) (by omega) (by omega) (by omega) (by omega) (by omega) (by omega)]) (G _ (by omega) (by omega) (by omega)) h3, r4_fr (fun i _ _ => K i (by omega) (by omega) (by omega) (by omega) (by omega) (by omega) (by omega)) (fun i _ _ => K i (by omega) (by omega) (by omega) (by omega) (by omega) (by omega) (by omega)) (fun j _ _ => G _ (by omega) (by omega) (by omega)) h4, h05, r6_fr (fun i _ _ => K i (by omega) (by omega) (by omega) (by omega) (by omega) (by omega) (by omega)) (fun i _ _ => K i (by omega) (by omega) (by omega) (by omega) (by omega) (by omega) (by omega)) h6, r7_fr (fun j _ _ => by rw [K 53 (by omega) (by omega) (by omega) (by omega) (by omega) (by omega) (by omega)]) (K _ (by omega) (by omega) (by omega) (by omega) (by omega) (by omega) (by omega)) (K _ (by omega) (by omega) (by omega) (by omega) (by omega) (by omega) (by omega)) (K _ (by omega) (by omega) (by omega) (by omega) (by omega) (by omega) (by omega)) (K _ (by omega) (by omega) (by omega) (by omega) (by omega) (by omega) (by omega)) (G _ (by omega) (by omega) (by omega)) h7, r8_fr (fun i _ _ => K i (by omega) (by omega) (by omega) (by omega) (by omega) (by omega) (by omega)) h8, r9_fr (fun j _ _ => G _ (by omega) (by omega) (by omega)) h9⟩
  · exact K i (by omega) (by omega) (by omega) (by omega) (by omega) (by omega) (by omega)
  · have hL := h2.2.1
    unfold mL at *
    rw [G 19 (by omega) (by omega) (by omega), M 132 (by omega) (by omega) (by omega), M 102 (by omega) (by omega) (by omega), M 105 (by omega) (by omega) (by omega), M 108 (by omega) (by omega) (by omega), M 111 (by omega) (by omega) (by omega), M 114 (by omega) (by omega) (by omega), M 117 (by omega) (by omega) (by omega), M 120 (by omega) (by omega) (by omega), M 123 (by omega) (by omega) (by omega), M 126 (by omega) (by omega) (by omega), M 129 (by omega) (by omega) (by omega)]
    exact hL
theorem flt_n (h : flt T m = -1) : 0 < (prs T m).2.1 0 0 := by
  by_cases c : 0 < (prs T m).2.1 0 0
  · exact c
  · unfold flt at h
    by_cases c1 : (prs T m).1 = 1
    · rw [cit_p c1, cit_p (Or.inl (by omega))] at h
      omega
    · rw [cit_n c1] at h
      omega
/-- a new land on both sides -/
theorem RL_ld (hR : RLw S0 (tld b) hd T m L H E ne lby) (hP : 0 < L' 0 0) (hLk : LkP L') (f1 : laF hd hd1 (spr b)) (p1 : laP hd1 (spr b) L') (f2 : mlN hd1 hd2) (p2 : mlQ hd2 L') : RLw S0 (tld (!b)) hd2 T 0 L' (hdN L') (fun _ _ => 0) 0 lby := by
  obtain ⟨h1, h2, h3, h4, h5, h6, h7, h8, h9⟩ := hR
  obtain ⟨a1, a2, a3, a4, a5, a6, ⟨a7, a8⟩, a9⟩ := p1
  obtain ⟨b1, b2, b3, b4, b5, b6, b7⟩ := p2
  have hsp : spr b = 58 ∨ spr b = 72 := by cases b <;> simp [spr]
  have F : ∀ i, i < 98 → hd2 i = hd1 i := fun i a => f2.1 i (by omega) (by omega) (by omega) (by omega) (by omega)
  have K : ∀ i, i < 58 ∨ 98 < i ∧ i < 101 ∨ 139 < i ∧ i < 158 → i ≠ 17 → i ≠ 18 → ¬ (20 ≤ i ∧ i ≤ 24) → i ≠ 34 → i ≠ 53 → hd2 i = hd i := fun i a b c e f g => (f2.1 i (by omega) (by omega) (by omega) (by omega) (by omega)).trans (f1 i b c e f g (by omega) (by omega) (by omega) (by omega))
  have e98 : hd1 98 = hd 98 := f1 98 (by omega) (by omega) (by omega) (by omega) (by omega) (by omega) (by omega) (by omega) (by omega)
  have G : ∀ j, 30 ≤ j → j ≤ 33 → hd2 98 j = hd 98 j := fun j a b => (f2.2 j (by omega) (by omega) (by omega) (by omega)).trans (by rw [e98])
  rw [tld_not]
  refine ⟨⟨fun i hi => ?_, ⟨?_, by omega, fun j hj => absurd hj (Nat.not_lt_zero j)⟩, ⟨b5, by omega, fun j hj => absurd hj (Nat.not_lt_zero j)⟩⟩, ⟨cL_fr (fun k hk => F _ (by omega)) a1, b1, hLk.2.1⟩, ⟨?_, Or.inr ⟨b4, hP⟩⟩, ⟨hdN_ok a1.1, cH_fr2 ⟨F 21 (by omega), F 22 (by omega), F 23 (by omega), F 24 (by omega)⟩ a2, b2, ?_, ?_, fun t ht => ?_⟩, ?_, ⟨fun k hk => Or.inl ⟨?_, b7 k hk⟩, fun k hk h7' => ?_⟩, ⟨⟨?_, b6, by omega⟩, fun i hi => absurd hi (Nat.not_lt_zero i), fun _ i _ => ⟨hP, hP⟩, Or.inl ?_⟩, ⟨Or.inl ?_, ?_⟩, ?_⟩
  · rw [K i (by omega) (by omega) (by omega) (by omega) (by omega) (by omega)]
    exact h1.1 i hi
  · rw [F 18 (by omega), a5]
    rfl
  · rw [F 17 (by omega), a4, b4]
  · rw [b3, F 21 (by omega), a3]
  · rw [F 21 (by omega), a3]
    exact ⟨by omega, by omega⟩
  · exact absurd ht (by simp [hdN])
  · intro k hk
    rw [K 57 (by omega) (by omega) (by omega) (by omega) (by omega) (by omega), K 99 (by omega) (by omega) (by omega) (by omega) (by omega) (by omega)]
    exact h5 k hk
  · rw [F _ (by omega)]
    exact a6 k hk
  · rw [F _ (by omega), a6 k hk] at h7'
    exact absurd h7' (by decide)
  · rw [F _ (by omega), a7]
    rfl
  · rw [F _ (by omega), a8]
  · rw [F _ (by omega), a9]
  · unfold chN
    rw [K 26 (by omega) (by omega) (by omega) (by omega) (by omega) (by omega)]
    exact h8.2
  · exact r9_fr (fun j c1 c2 => G j c1 c2) h9
end
section
variable {d f0 n : Nat} {b : Bool} {Q : amQ} {hd S0 : amD}
theorem pr_fault (hd9 : 24 ≤ d) (hn : 159 ≤ n) (hs : strB S0) (hR : RLx S0 b hd) (h : prK d f0 235 [vR 98] S0 Q n) : wpM d 165 [vR 17] Q (am_R f0 b) hd n := by
  obtain ⟨T, m, L, H, E, ne, lby, R⟩ := hR
  have h1 := R.1
  have h2 := R.2.1
  have h3 := R.2.2.1
  have h4 := R.2.2.2.1
  have h5 := R.2.2.2.2.1
  have h6 := R.2.2.2.2.2.1
  have h7 := R.2.2.2.2.2.2.1
  have h8 := R.2.2.2.2.2.2.2.1
  have h9 := R.2.2.2.2.2.2.2.2
  have h01 := RL_01 R
  have h01' : hd 17 11 = 0 ∨ hd 17 11 = 1 := by rw [h3.1]; exact h01
  refine g_ffault (by omega) hn h1.2.1 (RL_strB hs R) (fun hd1 f1 => ?_)
  have hsp : spr b = 58 ∨ spr b = 72 := by cases b <;> simp [spr]
  have q1 : ∀ i, i < 17 → hd1 i = S0 i := fun i hi => by rw [f1 i (by omega) (by omega)]; exact h1.1 i hi
  refine h _ b hd1 n q1 (Nat.le_refl _) (fun Q2 hq => ?_)
  have e98 := f1 98 (by omega) (by omega)
  refine m_mfault (by omega) hn (txM_fr (by rw [e98]) (f1 100 (by omega) (by omega)) h1.2.2) (strB_fr q1 hs) (fun hd2 f2 => ?_)
  exact hq b hd2 (n + 1) ⟨T, m, L, H, E, ne, lby, RL_rd R (fun i a1 a2 a3 a4 a5 a6 a7 => (f2.1 i a1 a2 a7).trans (f1 i a3 a6)) (fun j a1 a2 a3 => (f2.2 j a1 a2 a3).trans (by rw [e98])) (r5_fr ((f2.1 57 (by omega) (by omega) (by unfold isRw; omega)).trans (f1 57 (by omega) (by omega))) ((f2.1 99 (by omega) (by omega) (by unfold isRw; omega)).trans (f1 99 (by omega) (by omega))) h5)⟩ (by omega)
theorem pr_land (hd9 : 24 ≤ d) (hn : 159 ≤ n) (hs : strB S0) (hR : RLx S0 b hd) (h : prK d f0 237 [vR 98] S0 Q n) : wpM d 166 [vR 17] Q (am_R f0 b) hd n := by
  obtain ⟨T, m, L, H, E, ne, lby, R⟩ := hR
  have h1 := R.1
  have h2 := R.2.1
  have h3 := R.2.2.1
  have h4 := R.2.2.2.1
  have h5 := R.2.2.2.2.1
  have h6 := R.2.2.2.2.2.1
  have h7 := R.2.2.2.2.2.2.1
  have h8 := R.2.2.2.2.2.2.2.1
  have h9 := R.2.2.2.2.2.2.2.2
  have h01 := RL_01 R
  have h01' : hd 17 11 = 0 ∨ hd 17 11 = 1 := by rw [h3.1]; exact h01
  have hsp : spr b = 58 ∨ spr b = 72 := by cases b <;> simp [spr]
  refine g_fland (by omega) hn h1.2.1 (RL_strB hs R) (fun c hd0 f0' => ?_) (fun c hLk hd1 f1 p1 => ?_)
  · have q1 : ∀ i, i < 17 → rf 57 hd0 2 i = S0 i := fun i hi => by
      have e : rf 57 hd0 2 i = hd0 i := up_ne (by omega)
      rw [e, f0' i (by omega) (by omega)]
      exact h1.1 i hi
    refine h _ b _ n q1 (Nat.le_refl _) (fun Q2 hq => ?_)
    have e98 : rf 57 hd0 2 98 = hd 98 := Eq.trans (up_ne (by decide)) (f0' 98 (by omega) (by omega))
    have e100 : rf 57 hd0 2 100 = hd 100 := Eq.trans (up_ne (by decide)) (f0' 100 (by omega) (by omega))
    refine m_land (by omega) hn (txM_fr (by rw [e98]) e100 h1.2.2) (strB_fr q1 hs) (fun c2 hd2 f2 => ?_) (fun c2 => absurd c2 c)
    refine hq b _ (n + 1) ⟨T, m, L, H, E, ne, lby, RL_rd R (fun i a1 a2 a3 a4 a5 a6 a7 => ?_) (fun j a1 a2 a3 => ?_) ?_⟩ (by omega)
    · have e1 : rf 99 hd2 2 i = hd2 i := up_ne a5
      have e2 : rf 57 hd0 2 i = hd0 i := up_ne a4
      rw [e1, f2.1 i a1 a2 a7, e2, f0' i a3 a6]
    · have e1 : rf 99 hd2 2 98 = hd2 98 := up_ne (by decide)
      rw [e1, f2.2 j a1 a2 a3, e98]
    · intro k hk
      have e1 : rf 99 hd2 2 57 = hd2 57 := up_ne (by decide)
      rw [e1, f2.1 57 (by omega) (by omega) (by unfold isRw; omega)]
      have e2 : hd2 99 = rf 57 hd0 2 99 := f2.1 99 (by omega) (by omega) (by unfold isRw; omega)
      have e3 : rf 57 hd0 2 99 = hd 99 := Eq.trans (up_ne (by decide)) (f0' 99 (by omega) (by omega))
      unfold rf at *
      rw [up_at, if_pos rfl, up_at, if_pos rfl, e2, e3, f0' 57 (by omega) (by omega)]
      by_cases c : k = 2
      · rw [if_pos c, if_pos c, h5 2 (by omega)]
      · rw [if_neg c, if_neg c, h5 k hk]
  · have q1 : ∀ i, i < 17 → hd1 i = S0 i := fun i hi => by
      rw [f1 i (by omega) (by omega) (by omega) (by omega) (by omega) (by omega) (by omega) (by omega) (by omega)]
      exact h1.1 i hi
    refine h _ (!b) hd1 n q1 (Nat.le_refl _) (fun Q2 hq => ?_)
    have e98 : hd1 98 = hd 98 := f1 98 (by omega) (by omega) (by omega) (by omega) (by omega) (by omega) (by omega) (by omega) (by omega)
    have e100 : hd1 100 = hd 100 := f1 100 (by omega) (by omega) (by omega) (by omega) (by omega) (by omega) (by omega) (by omega) (by omega)
    refine m_land (by omega) hn (txM_fr (by rw [e98]) e100 h1.2.2) (strB_fr q1 hs) (fun c2 hd2 f2 => absurd c c2) (fun c2 hd2 f2 p2 => ?_)
    exact hq (!b) hd2 (n + 1) ⟨T, 0, _, _, _, 0, lby, RL_ld R (flt_n c) hLk f1 p1 f2 p2⟩ (by omega)
end
