/-! PAIRS: the holdings -/
section
variable {S0 hd hd1 hd2 : amD} {T : Nat → Int} {m o ne lby : Nat} {L H H' : Lnd} {E : Nat → Nat → Nat}
theorem push_ok {t p dd : Nat} {x : Int} (hk : Hok L H) (ht : t < L 0 2) (hp : p < L 0 0) (h8 : H 1 t < 8) (hm : mayP L H t p x) (hx : x = (dd : Int) - 1) : Hok L (pushH H t p dd) := by
  refine ⟨hk.1, fun t' ht' => ?_⟩
  obtain ⟨⟨a1, a2⟩, a3, a4, a5, a6, a7⟩ := hk.2 t' ht'
  obtain ⟨m1, m2, m3, m4, m5, m6⟩ := hm
  have e1 : pushH H t p dd 1 t' = if t' = t then H 1 t + 1 else H 1 t' := by simp [pushH, upN]
  have e2 : ∀ j, pushH H t p dd 2 j = if j = 10 * t + H 1 t then p else H 2 j := fun j => by simp [pushH, upN]
  have e3 : ∀ j, pushH H t p dd 3 j = if j = 10 * t + H 1 t then dd else H 3 j := fun j => by simp [pushH, upN]
  by_cases c : t' = t
  · rw [if_pos c] at e1
    subst c
    have z2 : ∀ k, k < H 1 t' → pushH H t' p dd 2 (10 * t' + k) = H 2 (10 * t' + k) := fun k hk => by rw [e2, if_neg (by omega)]
    have z3 : ∀ k, k < H 1 t' → pushH H t' p dd 3 (10 * t' + k) = H 3 (10 * t' + k) := fun k hk => by rw [e3, if_neg (by omega)]
    have y2 : pushH H t' p dd 2 (10 * t' + H 1 t') = p := by rw [e2, if_pos rfl]
    have y3 : pushH H t' p dd 3 (10 * t' + H 1 t') = dd := by rw [e3, if_pos rfl]
    rw [e1]
    refine ⟨⟨by omega, by omega⟩, by rw [← a3]; exact z2 0 (by omega), by rw [← a4]; exact z3 0 (by omega), fun k hk => ?_, fun k h1 hk => ?_, fun i j hi hj => ?_⟩
    · by_cases c : k = H 1 t'
      · rw [c, y2]
        exact hp
      · rw [z2 k (by omega)]
        exact a5 k (by omega)
    · by_cases c : k = H 1 t'
      · rw [c, y3]
        omega
      · rw [z3 k (by omega)]
        exact a6 k h1 (by omega)
    · by_cases c : j = H 1 t'
      · rw [c, y2, z2 i (by omega)]
        exact m6 i (by omega)
      · rw [z2 i (by omega), z2 j (by omega)]
        exact a7 i j hi (by omega)
  · rw [if_neg c] at e1
    have h9 := hk.2 t ht
    have z2 : ∀ k, k ≤ 8 → pushH H t p dd 2 (10 * t' + k) = H 2 (10 * t' + k) := fun k hk => by rw [e2, if_neg (by omega)]
    have z3 : ∀ k, k ≤ 8 → pushH H t p dd 3 (10 * t' + k) = H 3 (10 * t' + k) := fun k hk => by rw [e3, if_neg (by omega)]
    rw [e1]
    refine ⟨⟨a1, a2⟩, by rw [← a3]; exact z2 0 (by omega), by rw [← a4]; exact z3 0 (by omega), fun k hk => ?_, fun k h1 hk => ?_, fun i j hi hj => ?_⟩
    · rw [z2 k (by omega)]
      exact a5 k hk
    · rw [z3 k (by omega)]
      exact a6 k h1 hk
    · rw [z2 i (by omega), z2 j (by omega)]
      exact a7 i j hi hj
theorem pop_ok {t : Nat} (hk : Hok L H) (h2 : 2 ≤ H 1 t) : Hok L (upN H 1 t (H 1 t - 1)) := by
  refine ⟨hk.1, fun t' ht' => ?_⟩
  obtain ⟨⟨a1, a2⟩, a3, a4, a5, a6, a7⟩ := hk.2 t' ht'
  have e1 : upN H 1 t (H 1 t - 1) 1 t' = if t' = t then H 1 t - 1 else H 1 t' := by simp [upN]
  have ee : 1 ≤ upN H 1 t (H 1 t - 1) 1 t' ∧ upN H 1 t (H 1 t - 1) 1 t' ≤ H 1 t' := by
    rw [e1]
    by_cases c : t' = t
    · rw [if_pos c, c]
      omega
    · rw [if_neg c]
      omega
  refine ⟨⟨ee.1, by omega⟩, a3, a4, fun k hk => a5 k (Nat.lt_of_lt_of_le hk ee.2), fun k h1 hk => a6 k h1 (Nat.lt_of_lt_of_le hk ee.2), fun i j hi hj => a7 i j hi (Nat.lt_of_lt_of_le hj ee.2)⟩
theorem lose_ok {t : Nat} (hL : Lok L) (hk : Hok L H) (ht : t < L 0 2) : Hok L (upN H 0 3 (H 0 3 ||| 1 <<< t)) := by
  refine ⟨⟨hk.1.1, hk.1.2.1, ?_⟩, hk.2⟩
  show H 0 3 ||| 1 <<< t < 2 ^ 12
  have h12 := hL.1.2.2.1
  refine Nat.or_lt_two_pow hk.1.2.2 ?_
  rw [Nat.shiftLeft_eq, Nat.one_mul]
  exact Nat.pow_lt_pow_right (by omega) (by omega)
theorem law_ok {x : Nat} (hk : Hok L H) (hx : x ≤ 1) : Hok L (upN H 0 2 x) := ⟨⟨hk.1.1, hx, hk.1.2.2⟩, hk.2⟩
theorem goH_3 : ∀ k : Nat, goH L H k 0 3 = H 0 3
  | 0 => rfl
  | k + 1 => by
    show dH (goH L H k) (L 0 2) 0 3 = _
    unfold dH
    rw [if_neg (by omega), if_neg (by omega)]
    exact goH_3 k
/-- other holdings of the day on both sides -/
theorem RL_now (ho : isLand o) (hR : RLw S0 o hd T m L H E ne lby) (f1 : nowF hd hd1) (f2 : mnowF hd1 hd2) (hk : Hok L H') (hC : cH hd1 21 H' (L 0 2)) (hM : mH hd2 H' (L 0 2)) (h28 : hd2 98 28 = hd1 21 4) (h32 : in32 (hd1 21 4)) (hl : ∀ t, (H' 0 3).testBit t = true → t < L 0 2) : RLw S0 o hd2 T m L H' E ne lby := by
  obtain ⟨h1, h2, h3, h4, h5, h6, h7, h8, h9⟩ := hR
  have F : ∀ i, i ≠ 98 → ¬ (136 ≤ i ∧ i ≤ 139) → ¬ (21 ≤ i ∧ i ≤ 24) → hd2 i = hd i := fun i a b c => (f2.1 i a b).trans (f1 i c)
  have G : ∀ j, ¬ (27 ≤ j ∧ j ≤ 29) → hd2 98 j = hd 98 j := fun j a => (f2.2 j a).trans (by rw [f1 98 (by decide)])
  have e21 : ∀ i, 21 ≤ i → i ≤ 24 → hd2 i = hd1 i := fun i a b => f2.1 i (by omega) (by omega)
  exact ⟨r1_fr (fun i _ _ => F i (by omega) (by omega) (by omega)) (F _ (by omega) (by omega) (by omega)) (G _ (by omega)) h1, r2_fr ho (fun i _ _ => F i (by omega) (by omega) (by omega)) (fun i _ _ => F i (by omega) (by omega) (by omega)) (G _ (by omega)) h2, r3_fr (by rw [F 17 (by omega) (by omega) (by omega)]) (G _ (by omega)) h3, ⟨hk, cH_fr2 ⟨e21 21 (by omega) (by omega), e21 22 (by omega) (by omega), e21 23 (by omega) (by omega), e21 24 (by omega) (by omega)⟩ hC, hM, by rw [h28, e21 21 (by omega) (by omega)], by rw [e21 21 (by omega) (by omega)]; exact h32, hl⟩, r5_fr (F _ (by omega) (by omega) (by omega)) (F _ (by omega) (by omega) (by omega)) h5, r6_fr (fun i _ _ => F i (by omega) (by omega) (by omega)) (fun i _ _ => F i (by omega) (by omega) (by omega)) h6, r7_fr (fun j _ _ => by rw [F 53 (by omega) (by omega) (by omega)]) (F _ (by omega) (by omega) (by omega)) (F _ (by omega) (by omega) (by omega)) (F _ (by omega) (by omega) (by omega)) (F _ (by omega) (by omega) (by omega)) (G _ (by omega)) h7, r8_fr (fun i _ _ => F i (by omega) (by omega) (by omega)) h8, r9_fr (fun j _ _ => G _ (by omega)) h9⟩
theorem RL_now1 (ho : isLand o) (hR : RLw S0 o hd T m L H E ne lby) (f1 : nowF hd hd1) : (∀ i, i < 17 → hd1 i = S0 i) ∧ mL hd1 L ∧ mH hd1 H (L 0 2) ∧ hd1 98 = hd 98 := by
  have e98 : hd1 98 = hd 98 := f1 98 (by decide)
  obtain ⟨h1, h2, h3, h4, h5, h6, h7, h8, h9⟩ := hR
  exact ⟨fun i hi => by rw [f1 i (by omega)]; exact h1.1 i hi, mL_fr (fun i _ _ => f1 i (by omega)) (by rw [e98]) h2.2.1, mH_fr ⟨e98, f1 136 (by decide), f1 137 (by decide), f1 138 (by decide), f1 139 (by decide)⟩ h4.2.2.1, e98⟩
end
section
variable {d f0 n : Nat} {b : Bool} {Q : amQ} {hd S0 : amD}
theorem pr_lend {p w x : Int} (hd9 : 24 ≤ d) (hn : 159 ≤ n) (hs : strB S0) (hR : RLx S0 b hd) (hx : in32 x) (h : prK d f0 253 [vR 98, vI p, vI w, vI x] S0 Q n) : wpM d 171 [vR 17, vI p, vI w, vI x] Q (am_R f0 b) hd n := by
  obtain ⟨T, m, L, H, E, ne, lby, R⟩ := hR
  have h1 := R.1
  have h2 := R.2.1
  have h3 := R.2.2.1
  have h4 := R.2.2.2.1
  have h5 := R.2.2.2.2.1
  have h6 := R.2.2.2.2.2.1
  have h7 := R.2.2.2.2.2.2.1
  have h8 := R.2.2.2.2.2.2.2.1
  have h9 := R.2.2.2.2.2.2.2.2
  have h01 := RL_01 R
  have h01' : hd 17 11 = 0 ∨ hd 17 11 = 1 := by rw [h3.1]; exact h01
  refine g_flend (by omega) hn h2.1 h4.2.1 h4.1 (fun c => ?_) (fun t' p' dd e1 e2 e3 ht hp hm h8' hd1 f1 c4 c7 c1 => ?_) (fun t' p' e1 e2 ht hp hm => ?_)
  · skip
    obtain ⟨⟨g1, g2, g3⟩, ⟨g4, g6, g7⟩, g8, g9⟩ := RL_57r (tld_land b) R 0
    refine h _ b _ n g1.1 (Nat.le_refl _) (fun Q2 hq => ?_)
    have fin := hq b _ n ⟨T, m, L, H, E, ne, lby, RL_rf (tld_land b) R (k := 0) (by omega)⟩ (Nat.le_refl _)
    refine m_lend (by omega) hn g2.2.1 g4.2.2.1 g4.1 hx (fun c2 => ?_) (fun t2 p2 dd2 e1 e2 e3 ht hp hm hd2 f2 m4 m1 => ?_) (fun t2 p2 e1 e2 ht hp hm => ?_)
    · exact fin
    · exact absurd ⟨⟨by omega, by omega⟩, by omega, by omega⟩ c
    · exact absurd ⟨⟨by omega, by omega⟩, by omega, by omega⟩ c
  · skip
    obtain ⟨q1, q2, q3, q4⟩ := RL_now1 (tld_land b) R f1
    refine h _ b hd1 n q1 (Nat.le_refl _) (fun Q2 hq => ?_)
    refine m_lend (by omega) hn q2 q3 h4.1 hx (fun c2 => ?_) (fun t2 p2 dd2 e4 e5 e6 ht2 hp2 hm2 hd2 f2 m4 m1 => ?_) (fun t2 p2 e4 e5 ht2 hp2 hm2 => ?_)
    · exact absurd ⟨⟨by omega, by omega⟩, by omega, by omega⟩ c2
    · obtain rfl : t2 = t' := by omega
      obtain rfl : p2 = p' := by omega
      obtain rfl : dd2 = dd := by omega
      exact hq b hd2 n ⟨T, m, L, _, E, ne, lby, RL_now (tld_land b) R f1 f2 (push_ok h4.1 ht hp h8' hm e3) c1 m1 (by rw [m4, c4, q4, h4.2.2.2.1]) (by rw [c4]; exact w32_in _) h4.2.2.2.2.2⟩ (Nat.le_refl _)
    · obtain rfl : t2 = t' := by omega
      obtain rfl : p2 = p' := by omega
      exact absurd hm hm2
  · skip
    obtain ⟨⟨g1, g2, g3⟩, ⟨g4, g6, g7⟩, g8, g9⟩ := RL_57r (tld_land b) R 2
    refine h _ b _ n g1.1 (Nat.le_refl _) (fun Q2 hq => ?_)
    have fin := hq b _ n ⟨T, m, L, H, E, ne, lby, RL_rf (tld_land b) R (k := 2) (by omega)⟩ (Nat.le_refl _)
    refine m_lend (by omega) hn g2.2.1 g4.2.2.1 g4.1 hx (fun c2 => ?_) (fun t2 p2 dd2 e4 e5 e6 ht2 hp2 hm2 hd2 f2 m4 m1 => ?_) (fun t2 p2 e4 e5 ht2 hp2 hm2 => ?_)
    · exact absurd ⟨⟨by omega, by omega⟩, by omega, by omega⟩ c2
    · obtain rfl : t2 = t' := by omega
      obtain rfl : p2 = p' := by omega
      exact absurd hm2 hm
    · exact fin
theorem pr_back {p : Int} (hd9 : 24 ≤ d) (hn : 159 ≤ n) (hs : strB S0) (hR : RLx S0 b hd) (h : prK d f0 254 [vR 98, vI p] S0 Q n) : wpM d 172 [vR 17, vI p] Q (am_R f0 b) hd n := by
  obtain ⟨T, m, L, H, E, ne, lby, R⟩ := hR
  have h1 := R.1
  have h2 := R.2.1
  have h3 := R.2.2.1
  have h4 := R.2.2.2.1
  have h5 := R.2.2.2.2.1
  have h6 := R.2.2.2.2.2.1
  have h7 := R.2.2.2.2.2.2.1
  have h8 := R.2.2.2.2.2.2.2.1
  have h9 := R.2.2.2.2.2.2.2.2
  have h01 := RL_01 R
  have h01' : hd 17 11 = 0 ∨ hd 17 11 = 1 := by rw [h3.1]; exact h01
  refine g_fback (by omega) hn h2.1 h4.2.1 h4.1 (fun c => ?_) (fun t' e1 ht hb h2' hd1 f1 c4 c7 c1 => ?_) (fun t' e1 ht hm => ?_)
  · skip
    obtain ⟨⟨g1, g2, g3⟩, ⟨g4, g6, g7⟩, g8, g9⟩ := RL_57r (tld_land b) R 0
    refine h _ b _ n g1.1 (Nat.le_refl _) (fun Q2 hq => ?_)
    have fin := hq b _ n ⟨T, m, L, H, E, ne, lby, RL_rf (tld_land b) R (k := 0) (by omega)⟩ (Nat.le_refl _)
    refine m_back (by omega) hn g2.2.1 g4.2.2.1 g4.1 (fun c2 => ?_) (fun t2 e1 ht hb h2 hd2 f2 m4 m1 => ?_) (fun t2 e1 ht hm => ?_)
    · exact fin
    · exact absurd ⟨by omega, by omega⟩ c
    · exact absurd ⟨by omega, by omega⟩ c
  · skip
    obtain ⟨q1, q2, q3, q4⟩ := RL_now1 (tld_land b) R f1
    refine h _ b hd1 n q1 (Nat.le_refl _) (fun Q2 hq => ?_)
    refine m_back (by omega) hn q2 q3 h4.1 (fun c2 => ?_) (fun t2 e4 ht2 hb2 h22 hd2 f2 m4 m1 => ?_) (fun t2 e4 ht2 hm2 => ?_)
    · exact absurd ⟨by omega, by omega⟩ c2
    · obtain rfl : t2 = t' := by omega
      exact hq b hd2 n ⟨T, m, L, _, E, ne, lby, RL_now (tld_land b) R f1 f2 (pop_ok h4.1 h2') c1 m1 (by rw [m4, c4, q4, h4.2.2.2.1]) (by rw [c4]; exact w32_in _) h4.2.2.2.2.2⟩ (Nat.le_refl _)
    · obtain rfl : t2 = t' := by omega
      exact absurd ⟨hb, h2'⟩ hm2
  · skip
    obtain ⟨⟨g1, g2, g3⟩, ⟨g4, g6, g7⟩, g8, g9⟩ := RL_57r (tld_land b) R 2
    refine h _ b _ n g1.1 (Nat.le_refl _) (fun Q2 hq => ?_)
    have fin := hq b _ n ⟨T, m, L, H, E, ne, lby, RL_rf (tld_land b) R (k := 2) (by omega)⟩ (Nat.le_refl _)
    refine m_back (by omega) hn g2.2.1 g4.2.2.1 g4.1 (fun c2 => ?_) (fun t2 e4 ht2 hb2 h22 hd2 f2 m4 m1 => ?_) (fun t2 e4 ht2 hm2 => ?_)
    · exact absurd ⟨by omega, by omega⟩ c2
    · obtain rfl : t2 = t' := by omega
      exact absurd ⟨hb2, h22⟩ hm
    · exact fin
theorem pr_go {p : Int} (hd9 : 24 ≤ d) (hn : 159 ≤ n) (hs : strB S0) (hR : RLx S0 b hd) (hx : in32 p) (h : prK d f0 255 [vR 98, vI p] S0 Q n) : wpM d 173 [vR 17, vI p] Q (am_R f0 b) hd n := by
  obtain ⟨T, m, L, H, E, ne, lby, R⟩ := hR
  have h1 := R.1
  have h2 := R.2.1
  have h3 := R.2.2.1
  have h4 := R.2.2.2.1
  have h5 := R.2.2.2.2.1
  have h6 := R.2.2.2.2.2.1
  have h7 := R.2.2.2.2.2.2.1
  have h8 := R.2.2.2.2.2.2.2.1
  have h9 := R.2.2.2.2.2.2.2.2
  have h01 := RL_01 R
  have h01' : hd 17 11 = 0 ∨ hd 17 11 = 1 := by rw [h3.1]; exact h01
  refine g_fgo (by omega) hn h2.1 h4.2.1 h4.1 h01' h4.2.2.2.2.1 hx (fun k e1 hk1 hk6 hl hd1 f1 c4 c7 c1 => ?_) (fun c => ?_)
  · skip
    obtain ⟨q1, q2, q3, q4⟩ := RL_now1 (tld_land b) R f1
    refine h _ b hd1 n q1 (Nat.le_refl _) (fun Q2 hq => ?_)
    have z1 : hd1 98 19 = 1 := by rw [q4, ← h3.1]; exact hl
    refine m_go (by omega) hn q2 q3 h4.1 (Or.inr z1) (by rw [q4, h4.2.2.2.1]; exact h4.2.2.2.2.1) hx (fun k2 e2 hk2 hk62 hl2 hd2 f2 m4 m1 => ?_) (fun c2 => ?_)
    · obtain rfl : k2 = k := by omega
      exact hq b hd2 n ⟨T, m, L, _, E, ne, lby, RL_now (tld_land b) R f1 f2 (goH_ok h4.1 k2 hk6).1 c1 m1 (by rw [m4, c4, q4, h4.2.2.2.1]) (by rw [c4]; exact w32_in _) (fun t ht => h4.2.2.2.2.2 t (by rw [goH_3] at ht; exact ht))⟩ (Nat.le_refl _)
    · exact absurd ⟨z1, by omega, by omega⟩ c2
  · skip
    obtain ⟨⟨g1, g2, g3⟩, ⟨g4, g6, g7⟩, g8, g9⟩ := RL_57r (tld_land b) R 2
    refine h _ b _ n g1.1 (Nat.le_refl _) (fun Q2 hq => ?_)
    have fin := hq b _ n ⟨T, m, L, H, E, ne, lby, RL_rf (tld_land b) R (k := 2) (by omega)⟩ (Nat.le_refl _)
    refine m_go (by omega) hn g2.2.1 g4.2.2.1 g4.1 (g3.2.elim (fun z => Or.inl z.1) (fun z => Or.inr z.1)) (by rw [g4.2.2.2.1]; exact g4.2.2.2.2.1) hx (fun k2 e2 hk2 hk62 hl2 hd2 f2 m4 m1 => ?_) (fun c2 => ?_)
    · refine absurd ⟨?_, by omega, by omega⟩ c
      rw [h3.1]
      have e98 : rf 57 hd 2 98 = hd 98 := up_ne (by decide)
      rw [e98] at hl2
      exact hl2
    · exact fin
theorem pr_lose {p : Int} (hd9 : 24 ≤ d) (hn : 159 ≤ n) (hs : strB S0) (hR : RLx S0 b hd) (h : prK d f0 256 [vR 98, vI p] S0 Q n) : wpM d 174 [vR 17, vI p] Q (am_R f0 b) hd n := by
  obtain ⟨T, m, L, H, E, ne, lby, R⟩ := hR
  have h1 := R.1
  have h2 := R.2.1
  have h3 := R.2.2.1
  have h4 := R.2.2.2.1
  have h5 := R.2.2.2.2.1
  have h6 := R.2.2.2.2.2.1
  have h7 := R.2.2.2.2.2.2.1
  have h8 := R.2.2.2.2.2.2.2.1
  have h9 := R.2.2.2.2.2.2.2.2
  have h01 := RL_01 R
  have h01' : hd 17 11 = 0 ∨ hd 17 11 = 1 := by rw [h3.1]; exact h01
  refine g_flose (by omega) hn h2.1 h4.2.1 h4.1 (fun c => ?_) (fun t' e1 ht hb => ?_) (fun t' e1 ht hm => ?_)
  · skip
    obtain ⟨⟨g1, g2, g3⟩, ⟨g4, g6, g7⟩, g8, g9⟩ := RL_57r (tld_land b) R 0
    refine h _ b _ n g1.1 (Nat.le_refl _) (fun Q2 hq => ?_)
    have fin := hq b _ n ⟨T, m, L, H, E, ne, lby, RL_rf (tld_land b) R (k := 0) (by omega)⟩ (Nat.le_refl _)
    refine m_lose (by omega) hn g2.2.1 g4.2.2.1 g4.1 (fun c2 => ?_) (fun t2 e1 ht hb => ?_) (fun t2 e1 ht hm => ?_)
    · exact fin
    · exact absurd ⟨by omega, by omega⟩ c
    · exact absurd ⟨by omega, by omega⟩ c
  · have f1 : nowF hd (am_up hd 21 5 ((H 0 3 ||| 1 <<< t' : Nat) : Int)) := fun i hi => up_ne (by omega)
    have c1 : cH (am_up hd 21 5 ((H 0 3 ||| 1 <<< t' : Nat) : Int)) 21 (upN H 0 3 (H 0 3 ||| 1 <<< t')) (L 0 2) := by
      obtain ⟨a1, a2, a3, a4⟩ := h4.2.1
      refine ⟨by rw [up_at, if_pos rfl, if_neg (by decide), a1]; rfl, by rw [up_at, if_pos rfl, if_pos rfl]; rfl, by rw [up_at, if_pos rfl, if_neg (by decide), a3]; rfl, fun t ht => ?_⟩
      rw [up_ne (show 21 + 1 ≠ 21 by decide), up_ne (show 21 + 2 ≠ 21 by decide), up_ne (show 21 + 3 ≠ 21 by decide)]
      exact a4 t ht
    have c4 : (am_up hd 21 5 ((H 0 3 ||| 1 <<< t' : Nat) : Int)) 21 4 = hd 21 4 := by rw [up_at, if_pos rfl, if_neg (by decide)]
    generalize am_up hd 21 5 ((H 0 3 ||| 1 <<< t' : Nat) : Int) = hd1 at f1 c1 c4
    obtain ⟨q1, q2, q3, q4⟩ := RL_now1 (tld_land b) R f1
    refine h _ b hd1 n q1 (Nat.le_refl _) (fun Q2 hq => ?_)
    refine m_lose (by omega) hn q2 q3 h4.1 (fun c2 => ?_) (fun t2 e4 ht2 hb2 => ?_) (fun t2 e4 ht2 hb2 => ?_)
    · exact absurd ⟨by omega, by omega⟩ c2
    · obtain rfl : t2 = t' := by omega
      have f2 : mnowF hd1 (am_up hd1 139 t2 1) := ⟨fun i _ a2 => up_ne (by omega), fun j _ => by rw [up_ne (by decide)]⟩
      have m1 : mH (am_up hd1 139 t2 1) (upN H 0 3 (H 0 3 ||| 1 <<< t2)) (L 0 2) := by
        obtain ⟨a1, a2, a3⟩ := q3
        refine ⟨by rw [up_ne (show 98 ≠ 139 by decide), a1]; rfl, by rw [up_ne (show 98 ≠ 139 by decide), a2]; rfl, fun t ht => ?_⟩
        obtain ⟨b1, b2, b3⟩ := a3 t ht
        rw [up_ne (show 138 ≠ 139 by decide), up_ne (show 136 ≠ 139 by decide), up_ne (show 137 ≠ 139 by decide)]
        refine ⟨b1, ?_, b3⟩
        rw [up_at, if_pos rfl]
        have e3 : (upN H 0 3 (H 0 3 ||| 1 <<< t2) 0 3).testBit t = ((H 0 3).testBit t || decide (t = t2)) := by
          show (H 0 3 ||| 1 <<< t2).testBit t = _
          rw [Nat.testBit_or, Nat.shiftLeft_eq, Nat.one_mul, Nat.testBit_two_pow]
          congr 1
          exact decide_eq_decide.mpr ⟨Eq.symm, Eq.symm⟩
        rw [e3]
        by_cases c : t = t2
        · rw [if_pos c, if_pos (by simp [c])]
        · rw [if_neg c, b2]
          simp [c]
      have m4 : (am_up hd1 139 t2 1) 98 28 = hd1 98 28 := by rw [up_ne (by decide)]
      exact hq b _ n ⟨T, m, L, _, E, ne, lby, RL_now (tld_land b) R f1 f2 (lose_ok h2.1.1 h4.1 ht) c1 m1 (by rw [m4, c4, q4, h4.2.2.2.1]) (by rw [c4]; exact h4.2.2.2.2.1) (fun t ht3 => by
        have e3 : (H 0 3 ||| 1 <<< t2).testBit t = true := ht3
        rw [Nat.testBit_or, Nat.shiftLeft_eq, Nat.one_mul, Nat.testBit_two_pow] at e3
        rcases Bool.or_eq_true_iff.mp e3 with e4 | e4
        · exact h4.2.2.2.2.2 t e4
        · have := of_decide_eq_true e4
          omega)⟩ (Nat.le_refl _)
    · obtain rfl : t2 = t' := by omega
      rw [hb] at hb2
      exact absurd hb2 (by decide)
  · skip
    obtain ⟨⟨g1, g2, g3⟩, ⟨g4, g6, g7⟩, g8, g9⟩ := RL_57r (tld_land b) R 2
    refine h _ b _ n g1.1 (Nat.le_refl _) (fun Q2 hq => ?_)
    have fin := hq b _ n ⟨T, m, L, H, E, ne, lby, RL_rf (tld_land b) R (k := 2) (by omega)⟩ (Nat.le_refl _)
    refine m_lose (by omega) hn g2.2.1 g4.2.2.1 g4.1 (fun c2 => ?_) (fun t2 e4 ht2 hb2 => ?_) (fun t2 e4 ht2 hb2 => ?_)
    · exact absurd ⟨by omega, by omega⟩ c2
    · obtain rfl : t2 = t' := by omega
      rw [hm] at hb2
      exact absurd hb2 (by decide)
    · exact fin
theorem pr_law {p : Int} (hd9 : 24 ≤ d) (hn : 159 ≤ n) (hs : strB S0) (hR : RLx S0 b hd) (h : prK d f0 257 [vR 98, vI p] S0 Q n) : wpM d 175 [vR 17, vI p] Q (am_R f0 b) hd n := by
  obtain ⟨T, m, L, H, E, ne, lby, R⟩ := hR
  have h1 := R.1
  have h2 := R.2.1
  have h3 := R.2.2.1
  have h4 := R.2.2.2.1
  have h5 := R.2.2.2.2.1
  have h6 := R.2.2.2.2.2.1
  have h7 := R.2.2.2.2.2.2.1
  have h8 := R.2.2.2.2.2.2.2.1
  have h9 := R.2.2.2.2.2.2.2.2
  have h01 := RL_01 R
  have h01' : hd 17 11 = 0 ∨ hd 17 11 = 1 := by rw [h3.1]; exact h01
  refine g_flaw (by omega) hn (fun c => ?_) (fun c => ?_)
  · obtain ⟨q, rfl⟩ := Int.eq_ofNat_of_zero_le c.1
    have f1 : nowF hd (am_up hd 21 6 (q : Int)) := fun i hi => up_ne (by omega)
    have c1 : cH (am_up hd 21 6 (q : Int)) 21 (upN H 0 2 q) (L 0 2) := by
      obtain ⟨a1, a2, a3, a4⟩ := h4.2.1
      refine ⟨by rw [up_at, if_pos rfl, if_neg (by decide), a1]; rfl, by rw [up_at, if_pos rfl, if_neg (by decide), a2]; rfl, by rw [up_at, if_pos rfl, if_pos rfl]; rfl, fun t ht => ?_⟩
      rw [up_ne (show 21 + 1 ≠ 21 by decide), up_ne (show 21 + 2 ≠ 21 by decide), up_ne (show 21 + 3 ≠ 21 by decide)]
      exact a4 t ht
    have c4 : (am_up hd 21 6 (q : Int)) 21 4 = hd 21 4 := by rw [up_at, if_pos rfl, if_neg (by decide)]
    generalize am_up hd 21 6 (q : Int) = hd1 at f1 c1 c4
    obtain ⟨q1, q2, q3, q4⟩ := RL_now1 (tld_land b) R f1
    refine h _ b hd1 n q1 (Nat.le_refl _) (fun Q2 hq => ?_)
    refine m_law (by omega) hn (fun _ => ?_) (fun c2 => absurd c c2)
    have f2 : mnowF hd1 (am_up hd1 98 29 (q : Int)) := ⟨fun i a _ => up_ne a, fun j hj => by rw [up_at, if_pos rfl, if_neg (by omega)]⟩
    have m1 : mH (am_up hd1 98 29 (q : Int)) (upN H 0 2 q) (L 0 2) := by
      obtain ⟨a1, a2, a3⟩ := q3
      refine ⟨by rw [up_at, if_pos rfl, if_neg (by decide), a1]; rfl, by rw [up_at, if_pos rfl, if_pos rfl]; rfl, fun t ht => ?_⟩
      rw [up_ne (show 138 ≠ 98 by decide), up_ne (show 136 ≠ 98 by decide), up_ne (show 137 ≠ 98 by decide), up_ne (show 139 ≠ 98 by decide)]
      exact a3 t ht
    have m4 : (am_up hd1 98 29 (q : Int)) 98 28 = hd1 98 28 := by rw [up_at, if_pos rfl, if_neg (by decide)]
    exact hq b _ n ⟨T, m, L, _, E, ne, lby, RL_now (tld_land b) R f1 f2 (law_ok h4.1 (by omega)) c1 m1 (by rw [m4, c4, q4, h4.2.2.2.1]) (by rw [c4]; exact h4.2.2.2.2.1) h4.2.2.2.2.2⟩ (Nat.le_refl _)
  · skip
    obtain ⟨⟨g1, g2, g3⟩, ⟨g4, g6, g7⟩, g8, g9⟩ := RL_57r (tld_land b) R 0
    refine h _ b _ n g1.1 (Nat.le_refl _) (fun Q2 hq => ?_)
    have fin := hq b _ n ⟨T, m, L, H, E, ne, lby, RL_rf (tld_land b) R (k := 0) (by omega)⟩ (Nat.le_refl _)
    refine m_law (by omega) hn (fun c2 => absurd c2 c) (fun c2 => ?_)
    exact fin
end
