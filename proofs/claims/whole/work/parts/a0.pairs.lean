/-! PAIRS: the calls that change no state that shows -/
section
variable {d f0 n : Nat} {b : Bool} {Q : amQ} {hd S0 : amD}
theorem pr_person {p w : Int} (hd9 : 24 ≤ d) (hn : 159 ≤ n) (hs : strB S0) (hR : RLx S0 b hd) (h : prK d f0 249 [vR 98, vI p, vI w] S0 Q n) : wpM d 167 [vR 17, vI p, vI w] Q (am_R f0 b) hd n := by
  obtain ⟨T, m, L, H, E, ne, lby, R⟩ := hR
  have h1 := R.1
  have h2 := R.2.1
  have h3 := R.2.2.1
  have h4 := R.2.2.2.1
  have h6 := R.2.2.2.2.2.1
  have h7 := R.2.2.2.2.2.2.1
  have h8 := R.2.2.2.2.2.2.2.1
  have h01 := RL_01 R
  have h01' : hd 17 11 = 0 ∨ hd 17 11 = 1 := by rw [h3.1]; exact h01
  refine g_fperson (by omega) hn h2.1 h4.2.1 h4.1 ?_
  refine h _ b hd n h1.1 (Nat.le_refl _) (fun Q2 hq => ?_)
  refine m_person (by omega) hn h2.2.1 h4.2.2.1 h4.1 ?_
  exact hq b hd n ⟨T, m, L, H, E, ne, lby, R⟩ (Nat.le_refl _)
theorem pr_want {p w : Int} (hd9 : 24 ≤ d) (hn : 159 ≤ n) (hs : strB S0) (hR : RLx S0 b hd) (h : prK d f0 250 [vR 98, vI p, vI w] S0 Q n) : wpM d 168 [vR 17, vI p, vI w] Q (am_R f0 b) hd n := by
  obtain ⟨T, m, L, H, E, ne, lby, R⟩ := hR
  have h1 := R.1
  have h2 := R.2.1
  have h3 := R.2.2.1
  have h4 := R.2.2.2.1
  have h6 := R.2.2.2.2.2.1
  have h7 := R.2.2.2.2.2.2.1
  have h8 := R.2.2.2.2.2.2.2.1
  have h01 := RL_01 R
  have h01' : hd 17 11 = 0 ∨ hd 17 11 = 1 := by rw [h3.1]; exact h01
  refine g_fwant (by omega) hn h2.1 ?_
  refine h _ b hd n h1.1 (Nat.le_refl _) (fun Q2 hq => ?_)
  refine m_want (by omega) hn h2.2.1 ?_
  exact hq b hd n ⟨T, m, L, H, E, ne, lby, R⟩ (Nat.le_refl _)
theorem pr_thing {p w : Int} (hd9 : 24 ≤ d) (hn : 159 ≤ n) (hs : strB S0) (hR : RLx S0 b hd) (h : prK d f0 251 [vR 98, vI p, vI w] S0 Q n) : wpM d 169 [vR 17, vI p, vI w] Q (am_R f0 b) hd n := by
  obtain ⟨T, m, L, H, E, ne, lby, R⟩ := hR
  have h1 := R.1
  have h2 := R.2.1
  have h3 := R.2.2.1
  have h4 := R.2.2.2.1
  have h6 := R.2.2.2.2.2.1
  have h7 := R.2.2.2.2.2.2.1
  have h8 := R.2.2.2.2.2.2.2.1
  have h01 := RL_01 R
  have h01' : hd 17 11 = 0 ∨ hd 17 11 = 1 := by rw [h3.1]; exact h01
  refine g_fthing (by omega) hn h2.1 h4.2.1 h4.1 ?_
  refine h _ b hd n h1.1 (Nat.le_refl _) (fun Q2 hq => ?_)
  refine m_thing (by omega) hn h2.2.1 h4.2.2.1 h4.1 ?_
  exact hq b hd n ⟨T, m, L, H, E, ne, lby, R⟩ (Nat.le_refl _)
theorem pr_chain {p w x : Int} (hd9 : 24 ≤ d) (hn : 159 ≤ n) (hs : strB S0) (hR : RLx S0 b hd) (h : prK d f0 252 [vR 98, vI p, vI w, vI x] S0 Q n) : wpM d 170 [vR 17, vI p, vI w, vI x] Q (am_R f0 b) hd n := by
  obtain ⟨T, m, L, H, E, ne, lby, R⟩ := hR
  have h1 := R.1
  have h2 := R.2.1
  have h3 := R.2.2.1
  have h4 := R.2.2.2.1
  have h6 := R.2.2.2.2.2.1
  have h7 := R.2.2.2.2.2.2.1
  have h8 := R.2.2.2.2.2.2.2.1
  have h01 := RL_01 R
  have h01' : hd 17 11 = 0 ∨ hd 17 11 = 1 := by rw [h3.1]; exact h01
  refine g_fchain (by omega) hn h2.1 h4.2.1 h4.1 ?_
  refine h _ b hd n h1.1 (Nat.le_refl _) (fun Q2 hq => ?_)
  refine m_chain (by omega) hn h2.2.1 h4.2.2.1 h4.1 ?_
  exact hq b hd n ⟨T, m, L, H, E, ne, lby, R⟩ (Nat.le_refl _)
theorem pr_owes {p w : Int} (hd9 : 24 ≤ d) (hn : 159 ≤ n) (hs : strB S0) (hR : RLx S0 b hd) (h : prK d f0 259 [vR 98, vI p, vI w] S0 Q n) : wpM d 176 [vR 17, vI p, vI w] Q (am_R f0 b) hd n := by
  obtain ⟨T, m, L, H, E, ne, lby, R⟩ := hR
  have h1 := R.1
  have h2 := R.2.1
  have h3 := R.2.2.1
  have h4 := R.2.2.2.1
  have h6 := R.2.2.2.2.2.1
  have h7 := R.2.2.2.2.2.2.1
  have h8 := R.2.2.2.2.2.2.2.1
  have h01 := RL_01 R
  have h01' : hd 17 11 = 0 ∨ hd 17 11 = 1 := by rw [h3.1]; exact h01
  refine g_fowes (by omega) hn h2.1 h4.2.1 h4.1 ?_
  refine h _ b hd n h1.1 (Nat.le_refl _) (fun Q2 hq => ?_)
  refine m_owes (by omega) hn h2.2.1 h4.2.2.1 h4.1 ?_
  exact hq b hd n ⟨T, m, L, H, E, ne, lby, R⟩ (Nat.le_refl _)
theorem pr_balance {p : Int} (hd9 : 24 ≤ d) (hn : 159 ≤ n) (hs : strB S0) (hR : RLx S0 b hd) (h : prK d f0 260 [vR 98, vI p] S0 Q n) : wpM d 177 [vR 17, vI p] Q (am_R f0 b) hd n := by
  obtain ⟨T, m, L, H, E, ne, lby, R⟩ := hR
  have h1 := R.1
  have h2 := R.2.1
  have h3 := R.2.2.1
  have h4 := R.2.2.2.1
  have h6 := R.2.2.2.2.2.1
  have h7 := R.2.2.2.2.2.2.1
  have h8 := R.2.2.2.2.2.2.2.1
  have h01 := RL_01 R
  have h01' : hd 17 11 = 0 ∨ hd 17 11 = 1 := by rw [h3.1]; exact h01
  refine g_fbalance (by omega) hn h2.1 h4.2.1 h4.1 ?_
  refine h _ b hd n h1.1 (Nat.le_refl _) (fun Q2 hq => ?_)
  refine m_balance (by omega) hn h2.2.1 h4.2.2.1 h4.1 ?_
  exact hq b hd n ⟨T, m, L, H, E, ne, lby, R⟩ (Nat.le_refl _)
theorem pr_shorts {p : Int} (hd9 : 24 ≤ d) (hn : 159 ≤ n) (hs : strB S0) (hR : RLx S0 b hd) (h : prK d f0 270 [vR 98, vI p] S0 Q n) : wpM d 179 [vR 17, vI p] Q (am_R f0 b) hd n := by
  obtain ⟨T, m, L, H, E, ne, lby, R⟩ := hR
  have h1 := R.1
  have h2 := R.2.1
  have h3 := R.2.2.1
  have h4 := R.2.2.2.1
  have h6 := R.2.2.2.2.2.1
  have h7 := R.2.2.2.2.2.2.1
  have h8 := R.2.2.2.2.2.2.2.1
  have h01 := RL_01 R
  have h01' : hd 17 11 = 0 ∨ hd 17 11 = 1 := by rw [h3.1]; exact h01
  refine g_fshorts (by omega) hn h2.1 h4.2.1 h4.1 h01' ?_
  refine h _ b hd n h1.1 (Nat.le_refl _) (fun Q2 hq => ?_)
  refine m_shorts (by omega) hn h2.2.1 (isLo_of h4) ?_
  rw [← h3.1]
  exact hq b hd n ⟨T, m, L, H, E, ne, lby, R⟩ (Nat.le_refl _)
theorem pr_count {p : Int} (hd9 : 24 ≤ d) (hn : 159 ≤ n) (hs : strB S0) (hR : RLx S0 b hd) (h : prK d f0 302 [vR 98, vI p] S0 Q n) : wpM d 197 [vR 17, vI p] Q (am_R f0 b) hd n := by
  obtain ⟨T, m, L, H, E, ne, lby, R⟩ := hR
  have h1 := R.1
  have h2 := R.2.1
  have h3 := R.2.2.1
  have h4 := R.2.2.2.1
  have h6 := R.2.2.2.2.2.1
  have h7 := R.2.2.2.2.2.2.1
  have h8 := R.2.2.2.2.2.2.2.1
  have h01 := RL_01 R
  have h01' : hd 17 11 = 0 ∨ hd 17 11 = 1 := by rw [h3.1]; exact h01
  refine g_fcount (by omega) hn h2.1 h4.2.1 ?_
  refine h _ b hd n h1.1 (Nat.le_refl _) (fun Q2 hq => ?_)
  refine m_count (by omega) hn h2.2.1 h4.2.2.1 (fun c => ?_) ?_
  · rcases h3.2 with c2 | c2
    · rw [h7.1.2.1, c2.2]
      rfl
    · rw [c] at c2
      exact absurd c2.1 (by decide)
  · rw [← h3.1, h4.2.2.2.1, h7.1.2.1, ← h7.1.1, h1.2.2.1, ← h1.2.1.1]
    exact hq b hd n ⟨T, m, L, H, E, ne, lby, R⟩ (Nat.le_refl _)
theorem plS_U {hd hd' : amD} {L : Lnd} (h : plS hd hd' L) : plU hd hd' L := ⟨fun i hi => h.1 i (by omega), h.2⟩
theorem pr_met {p : Int} (hd9 : 24 ≤ d) (hn : 159 ≤ n) (hs : strB S0) (hR : RLx S0 b hd) (h : prK d f0 269 [vR 98, vI p] S0 Q n) : wpM d 178 [vR 17, vI p] Q (am_R f0 b) hd n := by
  obtain ⟨T, m, L, H, E, ne, lby, R⟩ := hR
  have h1 := R.1
  have h2 := R.2.1
  have h3 := R.2.2.1
  have h4 := R.2.2.2.1
  have h6 := R.2.2.2.2.2.1
  have h7 := R.2.2.2.2.2.2.1
  have h8 := R.2.2.2.2.2.2.2.1
  have h01 := RL_01 R
  have h01' : hd 17 11 = 0 ∨ hd 17 11 = 1 := by rw [h3.1]; exact h01
  refine g_fmet (by omega) hn h2.1 h4.2.1 h4.1 h2.2.2 h8.1 h8.2 (fun hd1 f1 => ?_)
  have u1 : plU hd hd1 L := plS_U f1
  have R1 := RL_pl (tld_land b) R u1
  have e19 : hd1 98 19 = hd 17 11 := by rw [u1.1 98 (by omega), ← h3.1]
  refine h _ b hd1 n R1.1.1 (Nat.le_refl _) (fun Q2 hq => ?_)
  have g2 := R1.2.1
  have g4 := R1.2.2.2.1
  have g9 := R1.2.2.2.2.2.2.2.2
  refine m_met (by omega) hn g2.2.1 (isLo_of g4) g9.2.2.2.1 g9.2.2.2.2 g9.1 g9.2.1 g9.2.2.1 ?_
  rw [e19]
  exact hq b hd1 n ⟨T, m, L, H, E, ne, lby, R1⟩ (Nat.le_refl _)
theorem pr_price {p w : Int} (hd9 : 24 ≤ d) (hn : 159 ≤ n) (hs : strB S0) (hR : RLx S0 b hd) (h : prK d f0 271 [vR 98, vI p, vI w] S0 Q n) : wpM d 180 [vR 17, vI p, vI w] Q (am_R f0 b) hd n := by
  obtain ⟨T, m, L, H, E, ne, lby, R⟩ := hR
  have h1 := R.1
  have h2 := R.2.1
  have h3 := R.2.2.1
  have h4 := R.2.2.2.1
  have h6 := R.2.2.2.2.2.1
  have h7 := R.2.2.2.2.2.2.1
  have h8 := R.2.2.2.2.2.2.2.1
  have h01 := RL_01 R
  have h01' : hd 17 11 = 0 ∨ hd 17 11 = 1 := by rw [h3.1]; exact h01
  refine g_fprice (by omega) hn h2.1 h4.2.1 h4.1 h2.2.2 h8.1 h8.2 (fun hd1 f1 => ?_)
  have u1 : plU hd hd1 L := plS_U f1
  have R1 := RL_pl (tld_land b) R u1
  have e19 : hd1 98 19 = hd 17 11 := by rw [u1.1 98 (by omega), ← h3.1]
  refine h _ b hd1 n R1.1.1 (Nat.le_refl _) (fun Q2 hq => ?_)
  have g2 := R1.2.1
  have g4 := R1.2.2.2.1
  have g9 := R1.2.2.2.2.2.2.2.2
  refine m_price (by omega) hn g2.2.1 (isLo_of g4) g9.2.2.2.1 g9.2.2.2.2 g9.1 g9.2.1 g9.2.2.1 ?_
  exact hq b hd1 n ⟨T, m, L, H, E, ne, lby, R1⟩ (Nat.le_refl _)
theorem pr_longer {p w : Int} (hd9 : 24 ≤ d) (hn : 159 ≤ n) (hs : strB S0) (hR : RLx S0 b hd) (h : prK d f0 272 [vR 98, vI p, vI w] S0 Q n) : wpM d 181 [vR 17, vI p, vI w] Q (am_R f0 b) hd n := by
  obtain ⟨T, m, L, H, E, ne, lby, R⟩ := hR
  have h1 := R.1
  have h2 := R.2.1
  have h3 := R.2.2.1
  have h4 := R.2.2.2.1
  have h6 := R.2.2.2.2.2.1
  have h7 := R.2.2.2.2.2.2.1
  have h8 := R.2.2.2.2.2.2.2.1
  have h01 := RL_01 R
  have h01' : hd 17 11 = 0 ∨ hd 17 11 = 1 := by rw [h3.1]; exact h01
  refine g_flonger (by omega) hn h2.1 h4.2.1 h4.1 h2.2.2 h8.1 h8.2 (fun hd1 f1 => ?_)
  have u1 : plU hd hd1 L := plS_U f1
  have R1 := RL_pl (tld_land b) R u1
  have e19 : hd1 98 19 = hd 17 11 := by rw [u1.1 98 (by omega), ← h3.1]
  refine h _ b hd1 n R1.1.1 (Nat.le_refl _) (fun Q2 hq => ?_)
  have g2 := R1.2.1
  have g4 := R1.2.2.2.1
  have g9 := R1.2.2.2.2.2.2.2.2
  refine m_longer (by omega) hn g2.2.1 (isLo_of g4) g9.2.2.2.1 g9.2.2.2.2 g9.1 g9.2.1 g9.2.2.1 (fun hd2 f2 => ?_)
  rcases f2 with rfl | ⟨k, hk, rfl⟩
  · exact hq b hd2 n ⟨T, m, L, H, E, ne, lby, R1⟩ (Nat.le_refl _)
  · exact hq b _ n ⟨T, m, L, H, E, ne, k, RL_md (tld_land b) R1 ⟨fun i a1 a2 a3 => up_ne a1, fun j a1 a2 a3 a4 a5 a6 => by rw [up_at, if_pos rfl, if_neg a1]⟩ hk (by rw [up_at, if_pos rfl, if_pos rfl])⟩ (Nat.le_refl _)
theorem pr_other (hd9 : 24 ≤ d) (hn : 159 ≤ n) (hs : strB S0) (hR : RLx S0 b hd) (h : prK d f0 273 [vR 98] S0 Q n) : wpM d 182 [vR 17] Q (am_R f0 b) hd n := by
  obtain ⟨T, m, L, H, E, ne, lby, R⟩ := hR
  have h1 := R.1
  have h2 := R.2.1
  have h3 := R.2.2.1
  have h4 := R.2.2.2.1
  have h6 := R.2.2.2.2.2.1
  have h7 := R.2.2.2.2.2.2.1
  have h8 := R.2.2.2.2.2.2.2.1
  have h01 := RL_01 R
  have h01' : hd 17 11 = 0 ∨ hd 17 11 = 1 := by rw [h3.1]; exact h01
  refine g_fother (by omega) hn h2.1 h4.2.1 h4.1 h2.2.2 h8.1 h8.2 h4.2.2.2.2.2 (fun hd1 f1 => ?_)
  have u1 : plU hd hd1 L := plS_U f1
  have R1 := RL_pl (tld_land b) R u1
  have e19 : hd1 98 19 = hd 17 11 := by rw [u1.1 98 (by omega), ← h3.1]
  refine h _ b hd1 n R1.1.1 (Nat.le_refl _) (fun Q2 hq => ?_)
  have g2 := R1.2.1
  have g4 := R1.2.2.2.1
  have g9 := R1.2.2.2.2.2.2.2.2
  refine m_other (by omega) hn g2.2.1 (isLo_of g4) g9.2.2.2.1 g9.2.2.2.2 g9.1 g9.2.1 g9.2.2.1 ?_
  rw [e19]
  exact hq b hd1 n ⟨T, m, L, H, E, ne, lby, R1⟩ (Nat.le_refl _)
theorem pr_given {p : Int} (hd9 : 24 ≤ d) (hn : 159 ≤ n) (hs : strB S0) (hR : RLx S0 b hd) (h : prK d f0 281 [vR 98, vI p] S0 Q n) : wpM d 183 [vR 17, vI p] Q (am_R f0 b) hd n := by
  obtain ⟨T, m, L, H, E, ne, lby, R⟩ := hR
  have h1 := R.1
  have h2 := R.2.1
  have h3 := R.2.2.1
  have h4 := R.2.2.2.1
  have h6 := R.2.2.2.2.2.1
  have h7 := R.2.2.2.2.2.2.1
  have h8 := R.2.2.2.2.2.2.2.1
  have h01 := RL_01 R
  have h01' : hd 17 11 = 0 ∨ hd 17 11 = 1 := by rw [h3.1]; exact h01
  refine g_fgiven (by omega) hn h2.1 h4.2.1 h4.1 h2.2.2 h8.1 h8.2 (fun hd1 f1 => ?_)
  have u1 : plU hd hd1 L := plS_U f1
  have R1 := RL_pl (tld_land b) R u1
  have e19 : hd1 98 19 = hd 17 11 := by rw [u1.1 98 (by omega), ← h3.1]
  refine h _ b hd1 n R1.1.1 (Nat.le_refl _) (fun Q2 hq => ?_)
  have g2 := R1.2.1
  have g4 := R1.2.2.2.1
  have g9 := R1.2.2.2.2.2.2.2.2
  refine m_given (by omega) hn g2.2.1 (isLo_of g4) g9.2.2.2.1 g9.2.2.2.2 g9.1 g9.2.1 g9.2.2.1 g2.2.2 (fun hd2 f2 => ?_)
  exact hq b hd2 n ⟨T, m, L, H, E, ne, lby, RL_md0 (tld_land b) R1 ⟨fun i a1 a2 a3 => f2.1 i a1 (by omega), fun j a1 a2 a3 a4 a5 a6 => f2.2 j a2⟩ (f2.2 32 (by decide))⟩ (Nat.le_refl _)
theorem pr_carry {p w : Int} (hd9 : 24 ≤ d) (hn : 159 ≤ n) (hs : strB S0) (hR : RLx S0 b hd) (h : prK d f0 282 [vR 98, vI p, vI w] S0 Q n) : wpM d 184 [vR 17, vI p, vI w] Q (am_R f0 b) hd n := by
  obtain ⟨T, m, L, H, E, ne, lby, R⟩ := hR
  have h1 := R.1
  have h2 := R.2.1
  have h3 := R.2.2.1
  have h4 := R.2.2.2.1
  have h6 := R.2.2.2.2.2.1
  have h7 := R.2.2.2.2.2.2.1
  have h8 := R.2.2.2.2.2.2.2.1
  have h01 := RL_01 R
  have h01' : hd 17 11 = 0 ∨ hd 17 11 = 1 := by rw [h3.1]; exact h01
  refine g_fcarry (by omega) hn h2.1 h4.2.1 h4.1 h2.2.2 h8.1 h8.2 (fun hd1 f1 => ?_)
  have u1 : plU hd hd1 L := plS_U f1
  have R1 := RL_pl (tld_land b) R u1
  have e19 : hd1 98 19 = hd 17 11 := by rw [u1.1 98 (by omega), ← h3.1]
  refine h _ b hd1 n R1.1.1 (Nat.le_refl _) (fun Q2 hq => ?_)
  have g2 := R1.2.1
  have g4 := R1.2.2.2.1
  have g9 := R1.2.2.2.2.2.2.2.2
  refine m_carry (by omega) hn g2.2.1 (isLo_of g4) g9.2.2.2.1 g9.2.2.2.2 g9.1 g9.2.1 g9.2.2.1 g2.2.2 (fun hd2 f2 => ?_)
  exact hq b hd2 n ⟨T, m, L, H, E, ne, lby, RL_md0 (tld_land b) R1 ⟨fun i a1 a2 a3 => f2.1 i a1 (by omega), fun j a1 a2 a3 a4 a5 a6 => f2.2 j a2⟩ (f2.2 32 (by decide))⟩ (Nat.le_refl _)
theorem pr_moves {p w x : Int} (hd9 : 24 ≤ d) (hn : 159 ≤ n) (hs : strB S0) (hR : RLx S0 b hd) (h : prK d f0 285 [vR 98, vI p, vI w, vI x] S0 Q n) : wpM d 185 [vR 17, vI p, vI w, vI x] Q (am_R f0 b) hd n := by
  obtain ⟨T, m, L, H, E, ne, lby, R⟩ := hR
  have h1 := R.1
  have h2 := R.2.1
  have h3 := R.2.2.1
  have h4 := R.2.2.2.1
  have h6 := R.2.2.2.2.2.1
  have h7 := R.2.2.2.2.2.2.1
  have h8 := R.2.2.2.2.2.2.2.1
  have h01 := RL_01 R
  have h01' : hd 17 11 = 0 ∨ hd 17 11 = 1 := by rw [h3.1]; exact h01
  refine g_fmoves (by omega) hn h2.1 h4.2.1 h4.1 h2.2.2 h8.1 h8.2 (fun hd1 f1 => ?_)
  have u1 : plU hd hd1 L := plS_U f1
  have R1 := RL_pl (tld_land b) R u1
  have e19 : hd1 98 19 = hd 17 11 := by rw [u1.1 98 (by omega), ← h3.1]
  refine h _ b hd1 n R1.1.1 (Nat.le_refl _) (fun Q2 hq => ?_)
  have g2 := R1.2.1
  have g4 := R1.2.2.2.1
  have g9 := R1.2.2.2.2.2.2.2.2
  refine m_moves2 (by omega) hn g2.2.1 (isLo_of g4) g9.2.2.2.1 g9.2.2.2.2 g9.1 g9.2.1 g9.2.2.1 g2.2.2 (fun hd2 f2 => ?_)
  exact hq b hd2 n ⟨T, m, L, H, E, ne, lby, RL_md0 (tld_land b) R1 ⟨fun i a1 a2 a3 => f2.1 i a1 (by omega), fun j a1 a2 a3 a4 a5 a6 => f2.2 j a2 a3⟩ (f2.2 32 (by decide) (by decide))⟩ (Nat.le_refl _)
theorem pr_spread (hd9 : 24 ≤ d) (hn : 159 ≤ n) (hs : strB S0) (hR : RLx S0 b hd) (h : prK d f0 286 [vR 98] S0 Q n) : wpM d 186 [vR 17] Q (am_R f0 b) hd n := by
  obtain ⟨T, m, L, H, E, ne, lby, R⟩ := hR
  have h1 := R.1
  have h2 := R.2.1
  have h3 := R.2.2.1
  have h4 := R.2.2.2.1
  have h6 := R.2.2.2.2.2.1
  have h7 := R.2.2.2.2.2.2.1
  have h8 := R.2.2.2.2.2.2.2.1
  have h01 := RL_01 R
  have h01' : hd 17 11 = 0 ∨ hd 17 11 = 1 := by rw [h3.1]; exact h01
  refine g_fspread (by omega) hn h2.1 h4.2.1 h4.1 h2.2.2 h8.1 h8.2 (fun hd1 f1 => ?_)
  have u1 : plU hd hd1 L := plS_U f1
  have R1 := RL_pl (tld_land b) R u1
  have e19 : hd1 98 19 = hd 17 11 := by rw [u1.1 98 (by omega), ← h3.1]
  refine h _ b hd1 n R1.1.1 (Nat.le_refl _) (fun Q2 hq => ?_)
  have g2 := R1.2.1
  have g4 := R1.2.2.2.1
  have g9 := R1.2.2.2.2.2.2.2.2
  refine m_spread (by omega) hn g2.2.1 (isLo_of g4) g9.2.2.2.1 g9.2.2.2.2 g9.1 g9.2.1 g9.2.2.1 g2.2.2 (fun hd2 f2 => ?_)
  rw [e19]
  exact hq b hd2 n ⟨T, m, L, H, E, ne, lby, RL_md0 (tld_land b) R1 ⟨fun i a1 a2 a3 => f2.1 i a1 (by omega), fun j a1 a2 a3 a4 a5 a6 => f2.2 j a2 a3⟩ (f2.2 32 (by decide) (by decide))⟩ (Nat.le_refl _)
theorem pr_late {p w x : Int} (hd9 : 24 ≤ d) (hn : 159 ≤ n) (hs : strB S0) (hR : RLx S0 b hd) (h : prK d f0 288 [vR 98, vI p, vI w, vI x] S0 Q n) : wpM d 187 [vR 17, vI p, vI w, vI x] Q (am_R f0 b) hd n := by
  obtain ⟨T, m, L, H, E, ne, lby, R⟩ := hR
  have h1 := R.1
  have h2 := R.2.1
  have h3 := R.2.2.1
  have h4 := R.2.2.2.1
  have h6 := R.2.2.2.2.2.1
  have h7 := R.2.2.2.2.2.2.1
  have h8 := R.2.2.2.2.2.2.2.1
  have h01 := RL_01 R
  have h01' : hd 17 11 = 0 ∨ hd 17 11 = 1 := by rw [h3.1]; exact h01
  refine g_flate (by omega) hn h2.1 h4.2.1 h4.1 h2.2.2 h8.1 h8.2 (fun hd1 f1 => ?_)
  have u1 : plU hd hd1 L := f1
  have R1 := RL_pl (tld_land b) R u1
  have e19 : hd1 98 19 = hd 17 11 := by rw [u1.1 98 (by omega), ← h3.1]
  refine h _ b hd1 n R1.1.1 (Nat.le_refl _) (fun Q2 hq => ?_)
  have g2 := R1.2.1
  have g4 := R1.2.2.2.1
  have g9 := R1.2.2.2.2.2.2.2.2
  refine m_late (by omega) hn g2.2.1 (isLo_of g4) g9.2.2.2.1 g9.2.2.2.2 g9.1 g9.2.1 g9.2.2.1 g2.2.2 (fun hd2 f2 => ?_)
  exact hq b hd2 n ⟨T, m, L, H, E, ne, lby, RL_md0 (tld_land b) R1 ⟨fun i a1 a2 a3 => f2.1 i a1 (by omega), fun j a1 a2 a3 a4 a5 a6 => f2.2 j a2 a4 a5⟩ (f2.2 32 (by decide) (by decide) (by decide))⟩ (Nat.le_refl _)
theorem pr_bears {p : Int} (hd9 : 24 ≤ d) (hn : 159 ≤ n) (hs : strB S0) (hR : RLx S0 b hd) (h : prK d f0 289 [vR 98, vI p] S0 Q n) : wpM d 188 [vR 17, vI p] Q (am_R f0 b) hd n := by
  obtain ⟨T, m, L, H, E, ne, lby, R⟩ := hR
  have h1 := R.1
  have h2 := R.2.1
  have h3 := R.2.2.1
  have h4 := R.2.2.2.1
  have h6 := R.2.2.2.2.2.1
  have h7 := R.2.2.2.2.2.2.1
  have h8 := R.2.2.2.2.2.2.2.1
  have h01 := RL_01 R
  have h01' : hd 17 11 = 0 ∨ hd 17 11 = 1 := by rw [h3.1]; exact h01
  refine g_fbears (by omega) hn h2.1 h4.2.1 h4.1 h2.2.2 h8.1 h8.2 (fun hd1 f1 => ?_)
  have u1 : plU hd hd1 L := f1
  have R1 := RL_pl (tld_land b) R u1
  have e19 : hd1 98 19 = hd 17 11 := by rw [u1.1 98 (by omega), ← h3.1]
  refine h _ b hd1 n R1.1.1 (Nat.le_refl _) (fun Q2 hq => ?_)
  have g2 := R1.2.1
  have g4 := R1.2.2.2.1
  have g9 := R1.2.2.2.2.2.2.2.2
  refine m_bears (by omega) hn g2.2.1 (isLo_of g4) g9.2.2.2.1 g9.2.2.2.2 g9.1 g9.2.1 g9.2.2.1 g2.2.2 (fun hd2 f2 => ?_)
  exact hq b hd2 n ⟨T, m, L, H, E, ne, lby, RL_md0 (tld_land b) R1 ⟨fun i a1 a2 a3 => f2.1 i a1 (by omega), fun j a1 a2 a3 a4 a5 a6 => f2.2 j a2 a4 a5⟩ (f2.2 32 (by decide) (by decide) (by decide))⟩ (Nat.le_refl _)
theorem pr_dies {p w x : Int} (hd9 : 24 ≤ d) (hn : 159 ≤ n) (hs : strB S0) (hR : RLx S0 b hd) (h : prK d f0 290 [vR 98, vI p, vI w, vI x] S0 Q n) : wpM d 189 [vR 17, vI p, vI w, vI x] Q (am_R f0 b) hd n := by
  obtain ⟨T, m, L, H, E, ne, lby, R⟩ := hR
  have h1 := R.1
  have h2 := R.2.1
  have h3 := R.2.2.1
  have h4 := R.2.2.2.1
  have h6 := R.2.2.2.2.2.1
  have h7 := R.2.2.2.2.2.2.1
  have h8 := R.2.2.2.2.2.2.2.1
  have h01 := RL_01 R
  have h01' : hd 17 11 = 0 ∨ hd 17 11 = 1 := by rw [h3.1]; exact h01
  refine g_fdies (by omega) hn h2.1 h4.2.1 h4.1 h2.2.2 h8.1 h8.2 (fun hd1 f1 => ?_)
  have u1 : plU hd hd1 L := plS_U f1
  have R1 := RL_pl (tld_land b) R u1
  have e19 : hd1 98 19 = hd 17 11 := by rw [u1.1 98 (by omega), ← h3.1]
  refine h _ b hd1 n R1.1.1 (Nat.le_refl _) (fun Q2 hq => ?_)
  have g2 := R1.2.1
  have g4 := R1.2.2.2.1
  have g9 := R1.2.2.2.2.2.2.2.2
  refine m_dies (by omega) hn g2.2.1 (isLo_of g4) g9.2.2.2.1 g9.2.2.2.2 g9.1 g9.2.1 g9.2.2.1 ?_
  exact hq b hd1 n ⟨T, m, L, H, E, ne, lby, R1⟩ (Nat.le_refl _)
theorem pr_years {p w x : Int} (hd9 : 24 ≤ d) (hn : 159 ≤ n) (hs : strB S0) (hR : RLx S0 b hd) (h : prK d f0 297 [vR 98, vI p, vI w, vI x] S0 Q n) : wpM d 193 [vR 17, vI p, vI w, vI x] Q (am_R f0 b) hd n := by
  obtain ⟨T, m, L, H, E, ne, lby, R⟩ := hR
  have h1 := R.1
  have h2 := R.2.1
  have h3 := R.2.2.1
  have h4 := R.2.2.2.1
  have h6 := R.2.2.2.2.2.1
  have h7 := R.2.2.2.2.2.2.1
  have h8 := R.2.2.2.2.2.2.2.1
  have h01 := RL_01 R
  have h01' : hd 17 11 = 0 ∨ hd 17 11 = 1 := by rw [h3.1]; exact h01
  refine g_fyears (by omega) hn h2.1 h4.2.1 h4.1 h2.2.2 h8.1 h8.2 h01' (fun hd1 f1 => ?_)
  have u1 : plU hd hd1 L := f1
  have R1 := RL_pl (tld_land b) R u1
  have e19 : hd1 98 19 = hd 17 11 := by rw [u1.1 98 (by omega), ← h3.1]
  refine h _ b hd1 n R1.1.1 (Nat.le_refl _) (fun Q2 hq => ?_)
  have g2 := R1.2.1
  have g4 := R1.2.2.2.1
  have g9 := R1.2.2.2.2.2.2.2.2
  refine m_years (by omega) hn g2.2.1 (isLo_of g4) g9.2.2.2.1 g9.2.2.2.2 g9.1 g9.2.1 g9.2.2.1 g2.2.2 (fun hd2 f2 => ?_)
  rw [e19]
  exact hq b hd2 n ⟨T, m, L, H, E, ne, lby, RL_md0 (tld_land b) R1 ⟨fun i a1 a2 a3 => f2.1 i a1 (by omega), fun j a1 a2 a3 a4 a5 a6 => f2.2 j a2 a6⟩ (f2.2 32 (by decide) (by decide))⟩ (Nat.le_refl _)
end
