/-! PAIRS: refusals, text -/
section
variable {S0 hd hd1 hd2 : amD} {T T' : Nat → Int} {m m' o ne lby : Nat} {L H : Lnd} {E : Nat → Nat → Nat}
/-- one counter of the refused is another -/
theorem RL_57 (ho : isLand o) (hR : RLw S0 o hd T m L H E ne lby) {j : Nat} {v : Int} : (r1 S0 (am_up hd 57 j v) T m ∧ r2 (am_up hd 57 j v) o L ∧ r3 (am_up hd 57 j v) L ne) ∧ (r4 (am_up hd 57 j v) L H ∧ r6 (am_up hd 57 j v) L ∧ r7 (am_up hd 57 j v) L E ne) ∧ r8 (am_up hd 57 j v) L ∧ r9 (am_up hd 57 j v) lby := by
  obtain ⟨h1, h2, h3, h4, h5, h6, h7, h8, h9⟩ := hR
  have F : ∀ i, i ≠ 57 → am_up hd 57 j v i = hd i := fun i a => up_ne a
  have e98 := F 98 (by decide)
  exact ⟨⟨r1_fr (fun i _ _ => F i (by omega)) (F _ (by omega)) (by rw [e98]) h1, r2_fr ho (fun i _ _ => F i (by omega)) (fun i _ _ => F i (by omega)) (by rw [e98]) h2, r3_fr (by rw [F 17 (by omega)]) (by rw [e98]) h3⟩, ⟨r4_fr (fun i _ _ => F i (by omega)) (fun i _ _ => F i (by omega)) (fun j _ _ => by rw [e98]) h4, r6_fr (fun i _ _ => F i (by omega)) (fun i _ _ => F i (by omega)) h6, r7_fr (fun j _ _ => by rw [F 53 (by omega)]) (F _ (by omega)) (F _ (by omega)) (F _ (by omega)) (F _ (by omega)) (by rw [e98]) h7⟩, r8_fr (fun i _ _ => F i (by omega)) h8, r9_fr (fun j _ _ => by rw [e98]) h9⟩
theorem RL_57r (ho : isLand o) (hR : RLw S0 o hd T m L H E ne lby) (j : Nat) : (r1 S0 (rf 57 hd j) T m ∧ r2 (rf 57 hd j) o L ∧ r3 (rf 57 hd j) L ne) ∧ (r4 (rf 57 hd j) L H ∧ r6 (rf 57 hd j) L ∧ r7 (rf 57 hd j) L E ne) ∧ r8 (rf 57 hd j) L ∧ r9 (rf 57 hd j) lby := RL_57 ho hR
theorem RL_rf (ho : isLand o) (hR : RLw S0 o hd T m L H E ne lby) {k : Nat} (hk : k < 3) : RLw S0 o (rf 99 (rf 57 hd k) k) T m L H E ne lby := by
  obtain ⟨h1, h2, h3, h4, h5, h6, h7, h8, h9⟩ := hR
  have F : ∀ i, i ≠ 57 → i ≠ 99 → rf 99 (rf 57 hd k) k i = hd i := fun i a b => by
    unfold rf
    rw [up_ne b, up_ne a]
  have e98 := F 98 (by decide) (by decide)
  refine ⟨r1_fr (fun i _ _ => F i (by omega) (by omega)) (F _ (by omega) (by omega)) (by rw [e98]) h1, r2_fr ho (fun i _ _ => F i (by omega) (by omega)) (fun i _ _ => F i (by omega) (by omega)) (by rw [e98]) h2, r3_fr (by rw [F 17 (by omega) (by omega)]) (by rw [e98]) h3, r4_fr (fun i _ _ => F i (by omega) (by omega)) (fun i _ _ => F i (by omega) (by omega)) (fun j _ _ => by rw [e98]) h4, ?_, r6_fr (fun i _ _ => F i (by omega) (by omega)) (fun i _ _ => F i (by omega) (by omega)) h6, r7_fr (fun j _ _ => by rw [F 53 (by omega) (by omega)]) (F _ (by omega) (by omega)) (F _ (by omega) (by omega)) (F _ (by omega) (by omega)) (F _ (by omega) (by omega)) (by rw [e98]) h7, r8_fr (fun i _ _ => F i (by omega) (by omega)) h8, r9_fr (fun j _ _ => by rw [e98]) h9⟩
  intro q hq
  have e57 : rf 99 (rf 57 hd k) k 57 q = rf 57 hd k 57 q := by
    show am_up (rf 57 hd k) 99 k _ 57 q = _
    rw [up_ne (by decide)]
  rw [e57]
  unfold rf
  rw [up_at, if_pos rfl, up_at, if_pos rfl]
  have e99 : am_up hd 57 k (w32 (hd 57 k + 1)) 99 = hd 99 := up_ne (by decide)
  rw [e99]
  by_cases c : q = k
  · rw [if_pos c, if_pos c, h5 k hk]
  · rw [if_neg c, if_neg c, h5 q hq]
/-- the text alone is another -/
theorem RL_tx (ho : isLand o) (hR : RLw S0 o hd T m L H E ne lby) (f1 : ∀ i, i ≠ 18 → i ≠ 19 → hd1 i = hd i) (f2 : ∀ i, i ≠ 98 → i ≠ 100 → hd2 i = hd1 i) (f3 : ∀ j, j ≠ 2 → hd2 98 j = hd1 98 j) (t1 : txC hd1 T' m') (t2 : txM hd2 T' m') : RLw S0 o hd2 T' m' L H E ne lby := by
  obtain ⟨h1, h2, h3, h4, h5, h6, h7, h8, h9⟩ := hR
  have F : ∀ i, i ≠ 18 → i ≠ 19 → i ≠ 98 → i ≠ 100 → hd2 i = hd i := fun i a b c e => (f2 i c e).trans (f1 i a b)
  have G : ∀ j, j ≠ 2 → hd2 98 j = hd 98 j := fun j a => (f3 j a).trans (by rw [f1 98 (by decide) (by decide)])
  exact ⟨⟨fun i hi => by rw [F i (by omega) (by omega) (by omega) (by omega)]; exact h1.1 i hi, txC_fr (f2 18 (by omega) (by omega)) (f2 19 (by omega) (by omega)) t1, t2⟩, r2_fr ho (fun i _ _ => F i (by omega) (by omega) (by omega) (by omega)) (fun i _ _ => F i (by omega) (by omega) (by omega) (by omega)) (G _ (by omega)) h2, r3_fr (by rw [F 17 (by omega) (by omega) (by omega) (by omega)]) (G _ (by omega)) h3, r4_fr (fun i _ _ => F i (by omega) (by omega) (by omega) (by omega)) (fun i _ _ => F i (by omega) (by omega) (by omega) (by omega)) (fun j _ _ => G _ (by omega)) h4, r5_fr (F _ (by omega) (by omega) (by omega) (by omega)) (F _ (by omega) (by omega) (by omega) (by omega)) h5, r6_fr (fun i _ _ => F i (by omega) (by omega) (by omega) (by omega)) (fun i _ _ => F i (by omega) (by omega) (by omega) (by omega)) h6, r7_fr (fun j _ _ => by rw [F 53 (by omega) (by omega) (by omega) (by omega)]) (F _ (by omega) (by omega) (by omega) (by omega)) (F _ (by omega) (by omega) (by omega) (by omega)) (F _ (by omega) (by omega) (by omega) (by omega)) (F _ (by omega) (by omega) (by omega) (by omega)) (G _ (by omega)) h7, r8_fr (fun i _ _ => F i (by omega) (by omega) (by omega) (by omega)) h8, r9_fr (fun j _ _ => G _ (by omega)) h9⟩
/-- what the refused are counted by at feed and end is the same -/
theorem rf_57 (hd : amD) {k : Nat} (hk : k < 3) : am_P hd 57 3 (k : Int) (w32 (am_A (hd 57) 3 (k : Int) + 1)) = rf 57 hd k := by
  unfold am_P am_A rf
  rw [if_pos ⟨by omega, by omega⟩, if_pos ⟨by omega, by omega⟩, Int.toNat_natCast]
end
section
variable {d f0 n : Nat} {b : Bool} {Q : amQ} {hd S0 : amD}
theorem pr_status {p : Int} (hd9 : 24 ≤ d) (hn : 159 ≤ n) (hs : strB S0) (hR : RLx S0 b hd) (h : prK d f0 216 [vR 98, vI p] S0 Q n) : wpM d 196 [vR 17, vI p] Q (am_R f0 b) hd n := by
  obtain ⟨T, m, L, H, E, ne, lby, R⟩ := hR
  have h1 := R.1
  have h2 := R.2.1
  have h3 := R.2.2.1
  have h4 := R.2.2.2.1
  have h5 := R.2.2.2.2.1
  have h6 := R.2.2.2.2.2.1
  have h7 := R.2.2.2.2.2.2.1
  have h8 := R.2.2.2.2.2.2.2.1
  have h9 := R.2.2.2.2.2.2.2.2
  have h01 := RL_01 R
  have h01' : hd 17 11 = 0 ∨ hd 17 11 = 1 := by rw [h3.1]; exact h01
  refine z_status (by omega) hn ?_
  refine h _ b hd n h1.1 (Nat.le_refl _) (fun Q2 hq => ?_)
  refine z_mstatus (by omega) hn ?_
  have e : (if 0 ≤ p ∧ p < 3 then hd 99 p.toNat else -1) = if 0 ≤ p ∧ p < 3 then hd 57 p.toNat else -1 := by
    by_cases c : 0 ≤ p ∧ p < 3
    · rw [if_pos c, if_pos c, h5 _ (by omega)]
    · rw [if_neg c, if_neg c]
  rw [e]
  exact hq b hd n ⟨T, m, L, H, E, ne, lby, R⟩ (Nat.le_refl _)
theorem pr_feed {p w x y z : Int} (hd9 : 24 ≤ d) (hn : 159 ≤ n) (hs : strB S0) (hR : RLx S0 b hd) (h : prK d f0 218 [vR 98, vI p, vI w, vI x, vI y, vI z] S0 Q n) : wpM d 163 [vR 17, vI p, vI w, vI x, vI y, vI z] Q (am_R f0 b) hd n := by
  obtain ⟨T, m, L, H, E, ne, lby, R⟩ := hR
  have h1 := R.1
  have h2 := R.2.1
  have h3 := R.2.2.1
  have h4 := R.2.2.2.1
  have h5 := R.2.2.2.2.1
  have h6 := R.2.2.2.2.2.1
  have h7 := R.2.2.2.2.2.2.1
  have h8 := R.2.2.2.2.2.2.2.1
  have h9 := R.2.2.2.2.2.2.2.2
  have h01 := RL_01 R
  have h01' : hd 17 11 = 0 ∨ hd 17 11 = 1 := by rw [h3.1]; exact h01
  have hm := h1.2.1.2.1
  have e18 := h1.2.1.1
  have e98 := h1.2.2.1
  have ew : w32 (hd 18 1 + 20) = (m : Int) + 20 := by rw [e18, w32_id ⟨by omega, by omega⟩]
  refine z_feed (by omega) hn (fun c => ?_) (fun c => ?_)
  · rw [ew] at c
    obtain ⟨t1, f1⟩ := txC_20 h1.2.1 (by omega) p w x y z
    generalize am_tn (am_tn (am_tn (am_tn (am_tn hd p) w) x) y) z = hd1 at t1 f1
    have t0 : txM hd1 T m := txM_fr (by rw [f1 98 (by decide) (by decide)]) (f1 100 (by decide) (by decide)) h1.2.2
    rw [t1.1]
    refine h _ b hd1 n (fun i hi => by rw [f1 i (by omega) (by omega)]; exact h1.1 i hi) (Nat.le_refl _) (fun Q2 hq => ?_)
    refine z_mfeed (by omega) hn ⟨by rw [t0.1]; omega, by rw [t0.1]; omega⟩ (fun c2 => ?_) (fun c2 => ?_)
    · obtain ⟨t2, f2, f3⟩ := txM_20 t0 (by omega) p w x y z
      rw [t0.1]
      exact hq b _ n ⟨_, _, L, H, E, ne, lby, RL_tx (tld_land b) R f1 f2 f3 t1 t2⟩ (Nat.le_refl _)
    · rw [t0.1] at c2
      exact absurd c c2
  · rw [ew] at c
    have e1 : am_P hd 57 3 1 (w32 (am_A (hd 57) 3 1 + 1)) = rf 57 hd 1 := rf_57 hd (k := 1) (by omega)
    rw [e1]
    obtain ⟨⟨g1, g2, g3⟩, ⟨g4, g6, g7⟩, g8, g9⟩ := RL_57r (tld_land b) R 1
    refine h _ b _ n g1.1 (Nat.le_refl _) (fun Q2 hq => ?_)
    have fin := hq b _ n ⟨T, m, L, H, E, ne, lby, RL_rf (tld_land b) R (k := 1) (by omega)⟩ (Nat.le_refl _)
    refine z_mfeed (by omega) hn ⟨by rw [g1.2.2.1]; omega, by rw [g1.2.2.1]; omega⟩ (fun c2 => ?_) (fun c2 => ?_)
    · rw [g1.2.2.1] at c2
      exact absurd c2 c
    · exact fin
theorem pr_end {p : Int} (hd9 : 24 ≤ d) (hn : 159 ≤ n) (hs : strB S0) (hR : RLx S0 b hd) (h : prK d f0 219 [vR 98, vI p] S0 Q n) : wpM d 164 [vR 17, vI p] Q (am_R f0 b) hd n := by
  obtain ⟨T, m, L, H, E, ne, lby, R⟩ := hR
  have h1 := R.1
  have h2 := R.2.1
  have h3 := R.2.2.1
  have h4 := R.2.2.2.1
  have h5 := R.2.2.2.2.1
  have h6 := R.2.2.2.2.2.1
  have h7 := R.2.2.2.2.2.2.1
  have h8 := R.2.2.2.2.2.2.2.1
  have h9 := R.2.2.2.2.2.2.2.2
  have h01 := RL_01 R
  have h01' : hd 17 11 = 0 ∨ hd 17 11 = 1 := by rw [h3.1]; exact h01
  have hm := h1.2.1.2.1
  have e18 := h1.2.1.1
  have e98 := h1.2.2.1
  refine z_end (by omega) hn (fun c => ?_) (fun c => ?_)
  · rw [e18] at c
    have f1 : ∀ i, i ≠ 18 → i ≠ 19 → am_up hd 18 1 p i = hd i := fun i a _ => up_ne a
    obtain ⟨q, rfl⟩ := Int.eq_ofNat_of_zero_le c.1
    have t1 : txC (am_up hd 18 1 (q : Int)) T q := ⟨by rw [up_at, if_pos rfl, if_pos rfl], by omega, fun j hj => by rw [up_ne (show 19 ≠ 18 by decide)]; exact h1.2.1.2.2 j (by omega)⟩
    generalize am_up hd 18 1 (q : Int) = hd1 at t1 f1
    have t0 : txM hd1 T m := txM_fr (by rw [f1 98 (by decide) (by decide)]) (f1 100 (by decide) (by decide)) h1.2.2
    refine h _ b hd1 n (fun i hi => by rw [f1 i (by omega) (by omega)]; exact h1.1 i hi) (Nat.le_refl _) (fun Q2 hq => ?_)
    refine z_mend (by omega) hn (fun c2 => ?_) (fun c2 => ?_)
    · have t2 : txM (am_up hd1 98 2 (q : Int)) T q := ⟨by rw [up_at, if_pos rfl, if_pos rfl], by omega, fun j hj => by rw [up_ne (show 100 ≠ 98 by decide)]; exact t0.2.2 j (by omega)⟩
      exact hq b _ n ⟨_, _, L, H, E, ne, lby, RL_tx (tld_land b) R f1 (fun i a _ => up_ne a) (fun j hj => by rw [up_at, if_pos rfl, if_neg hj]) t1 t2⟩ (Nat.le_refl _)
    · rw [t0.1] at c2
      exact absurd c c2
  · rw [e18] at c
    have e1 : am_P hd 57 3 2 (w32 (am_A (hd 57) 3 2 + 1)) = rf 57 hd 2 := rf_57 hd (k := 2) (by omega)
    rw [e1]
    obtain ⟨⟨g1, g2, g3⟩, ⟨g4, g6, g7⟩, g8, g9⟩ := RL_57r (tld_land b) R 2
    refine h _ b _ n g1.1 (Nat.le_refl _) (fun Q2 hq => ?_)
    have fin := hq b _ n ⟨T, m, L, H, E, ne, lby, RL_rf (tld_land b) R (k := 2) (by omega)⟩ (Nat.le_refl _)
    refine z_mend (by omega) hn (fun c2 => ?_) (fun c2 => ?_)
    · rw [g1.2.2.1] at c2
      exact absurd c2 c
    · exact fin
end
