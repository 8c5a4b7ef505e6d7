/-! PLAN: what each thing is given, and all moves -/
theorem min_of {P : Nat → Prop} (h : ∃ m, P m) : ∃ m, P m ∧ ∀ k, P k → m ≤ k := by
  obtain ⟨m, hm⟩ := h
  induction m using Nat.strongRecOn with
  | _ m ih =>
    by_cases h1 : ∃ k, k < m ∧ P k
    · obtain ⟨k, k1, k2⟩ := h1
      exact ih k k1 k2
    · refine ⟨m, hm, fun k hk => ?_⟩
      by_cases h2 : k < m
      · exact absurd ⟨k, h2, hk⟩ h1
      · omega
/-- the wants for which a thing is given -/
noncomputable def gmM (L : Lnd) (lost t : Nat) : Nat := bitsN (L 0 3) (fun w => decide (gvT L lost (L 0 4) (L 7 w) w = (t : Int)))
theorem gmM_test {L : Lnd} {lost t w : Nat} : (gmM L lost t).testBit w = true ↔ w < L 0 3 ∧ gvT L lost (L 0 4) (L 7 w) w = (t : Int) := by
  unfold gmM
  rw [bitsN_test]
  simp
theorem gv_ix {L : Lnd} (hk : Lok L) {lost hands s w : Nat} (hs : s < L 0 1) (hw : (bS L lost s).testBit w = true) : gvV L lost hands s / 4 ^ (11 - w) % 4 < tC L s lost (L 0 2) := by
  obtain ⟨c, ⟨c0, h1, e⟩, h3⟩ := min_of (P := fun c => ∃ a, asg L (tC L s lost (L 0 2)) (bS L lost s) a ∧ c = codA L hands (tF L s lost (L 0 2)) (tC L s lost (L 0 2)) (bS L lost s) a) (by
    obtain ⟨a, ha⟩ := gv_ok (lost := lost) (hands := hands) hk hs
    exact ⟨_, a, ha, rfl⟩)
  have g := gv_eq hk (hands := hands) hs h1 (fun c9 hc => by
    have := h3 _ ⟨c9, hc, rfl⟩
    omega)
  rw [g.2.2 w hw]
  exact h1.1 w hw
theorem gm_ok {L : Lnd} (hk : Lok L) {lost t w : Nat} (h : (gmM L lost t).testBit w = true) : w < L 0 3 ∧ (bS L lost (L 7 w)).testBit w = true ∧ t < L 0 2 ∧ L 4 t = L 7 w ∧ lost.testBit t = false := by
  obtain ⟨h1, h2⟩ := gmM_test.mp h
  have hs := (hk.2.2.2.2.1 w h1).2.1
  unfold gvT at h2
  by_cases hb : (bS L lost (L 7 w)).testBit w = true
  · rw [if_pos hb] at h2
    have e := tF_of (L 0 2) _ (gv_ix hk (hands := L 0 4) hs hb)
    have e2 : tF L (L 7 w) lost (L 0 2) (gvV L lost (L 0 4) (L 7 w) / 4 ^ (11 - w) % 4) = t := by exact_mod_cast h2
    rw [e2] at e
    exact ⟨h1, hb, e.1, e.2.1.1, e.2.1.2⟩
  · rw [if_neg hb] at h2
    omega
theorem gm_card {L : Lnd} (hk : Lok L) {lost t : Nat} : cardP (fun w => (gmM L lost t).testBit w = true) 6 := by
  intro k r h1 h2
  by_cases k0 : k = 0
  · omega
  · have a := gm_ok hk (h1 0 (by omega))
    have hs := (hk.2.2.2.2.1 _ a.1).2.1
    refine sort_card hk hs k r (fun i hi => ?_) h2
    have b := gm_ok hk (h1 i hi)
    exact fS_w' b.1 (b.2.2.2.1.symm.trans a.2.2.2.1)
/-- how many wants a thing is given for, and which, by first days -/
noncomputable def cM (L : Lnd) (lost t : Nat) : Nat := ldC L (gmM L lost t) (L 0 3)
noncomputable def fM (L : Lnd) (lost t : Nat) : Nat → Nat := ldF L (gmM L lost t) (L 0 3)
theorem cM_6 {L : Lnd} (hk : Lok L) {lost t : Nat} : cM L lost t ≤ 6 := ldC_card hk (fun w hw => (gm_ok hk hw).1) (gm_card hk)
theorem fM_row {L : Lnd} (hk : Lok L) {lost t : Nat} : rwOk L (fun w => (gmM L lost t).testBit w = true) (L 0 3) (cM L lost t) (fM L lost t) := row_ex hk (fun w hw => (gm_ok hk hw).1)
theorem fM_in {L : Lnd} (hk : Lok L) {lost t i : Nat} (hi : i < cM L lost t) : fM L lost t i < L 0 3 ∧ L 7 (fM L lost t i) = L 4 t := by
  have a := (fM_row hk).1 i hi
  exact ⟨a.1, (gm_ok hk a.2).2.2.2.1.symm⟩
/-- a thing that is given for something is not lost -/
theorem cM_lost {L : Lnd} (hk : Lok L) {lost t : Nat} (h : lost.testBit t = true) : cM L lost t = 0 := by
  by_cases c : cM L lost t = 0
  · exact c
  · have a := (fM_row hk).1 0 (Nat.pos_of_ne_zero c)
    have b := (gm_ok hk a.2).2.2.2.2
    rw [h] at b
    cases b
theorem sumN_at1 {p : Nat → Bool} (h : ∀ i j, p i = true → p j = true → i = j) : ∀ T : Nat, sumN T (fun i => if p i = true then 1 else 0) ≤ 1
  | 0 => Nat.zero_le _
  | T + 1 => by
    have h1 := sumN_at1 h T
    rw [sumN_s]
    by_cases c : p T = true
    · have e : sumN T (fun i => if p i = true then 1 else 0) = 0 := by
        rw [sumN_congr (g := fun _ => 0) T (fun i hi => if_neg (fun h2 => by have := h i T h2 c; omega)), sumN_zero]
      rw [e, if_pos c]
      exact Nat.le_refl _
    · rw [if_neg c]
      exact h1
theorem cM_sumQ {L : Lnd} {lost : Nat} (T : Nat) : ∀ q : Nat, sumN T (fun t => ldC L (gmM L lost t) q) ≤ q
  | 0 => by
    rw [show sumN T (fun t => ldC L (gmM L lost t) 0) = 0 from (sumN_congr T (fun i _ => (rfl : ldC L (gmM L lost i) 0 = 0))).trans (sumN_zero T)]
    exact Nat.le_refl 0
  | q + 1 => by
    have h1 := cM_sumQ (L := L) (lost := lost) T q
    have h2 : sumN T (fun t => if (gmM L lost t).testBit (L 11 q) = true then 1 else 0) ≤ 1 := sumN_at1 (p := fun t => (gmM L lost t).testBit (L 11 q)) (fun i j a b => by
      have e1 := (gmM_test.mp a).2
      have e2 := (gmM_test.mp b).2
      omega) T
    have e : sumN T (fun t => ldC L (gmM L lost t) (q + 1)) = sumN T (fun t => ldC L (gmM L lost t) q) + sumN T (fun t => if (gmM L lost t).testBit (L 11 q) = true then 1 else 0) := by
      rw [← sumN_add]
      refine sumN_congr T (fun i _ => ?_)
      show (if (gmM L lost i).testBit (L 11 q) = true then ldC L (gmM L lost i) q + 1 else ldC L (gmM L lost i) q) = ldC L (gmM L lost i) q + (if (gmM L lost i).testBit (L 11 q) = true then 1 else 0)
      split <;> rfl
    rw [e]
    omega
theorem cM_sum {L : Lnd} {lost : Nat} (T : Nat) : sumN T (cM L lost) ≤ L 0 3 := cM_sumQ T (L 0 3)
noncomputable def lwV (hp : Nat) (px : Nat → Nat) (hands k : Nat) : Nat := Classical.epsilon (isLw hp px hands k)
theorem lwV_eq {hp hands k v : Nat} {px : Nat → Nat} (h : isLw hp px hands k v) : lwV hp px hands k = v := isLw_eq (Classical.epsilon_spec ⟨v, h⟩) h
/-- the moves of one thing, behind those of a list -/
noncomputable def thM (L : Lnd) (lost t : Nat) (X : Lnd × Nat) : Lnd × Nat := goT (L 4 t) (L 1 (L 5 t)) (cM L lost t) (lwV (L 1 (L 5 t)) (fun i => L 1 (L 6 (fM L lost t i))) (L 0 4) (cM L lost t)) (fun i => L 1 (L 6 (fM L lost t i))) (fun i => L 8 (fM L lost t i)) (fun i => L 9 (fM L lost t i)) (cM L lost t) X
noncomputable def mvL (L : Lnd) (lost : Nat) : Nat → Lnd × Nat
  | 0 => (fun _ _ => 0, 0)
  | t + 1 => thM L lost t (mvL L lost t)
theorem mvL_le (L : Lnd) (lost : Nat) : ∀ T : Nat, (mvL L lost T).2 ≤ 2 * sumN T (cM L lost)
  | 0 => Nat.le_refl 0
  | T + 1 => by
    have h1 := mvL_le L lost T
    have h2 := goT_le (L 4 T) (L 1 (L 5 T)) (cM L lost T) (lwV (L 1 (L 5 T)) (fun i => L 1 (L 6 (fM L lost T i))) (L 0 4) (cM L lost T)) (fun i => L 1 (L 6 (fM L lost T i))) (fun i => L 8 (fM L lost T i)) (fun i => L 9 (fM L lost T i)) (mvL L lost T) (cM L lost T)
    have e : mvL L lost (T + 1) = thM L lost T (mvL L lost T) := rfl
    rw [sumN_s, e]
    unfold thM
    omega
theorem cM_sum2 {L : Lnd} (hk : Lok L) {lost T : Nat} : sumN T (cM L lost) + cM L lost T ≤ 12 := by
  have h := cM_sum (L := L) (lost := lost) (T + 1)
  have hW := lk_W hk
  rw [sumN_s] at h
  omega
theorem pm_gm {hd : amD} {L : Lnd} {lost t : Nat} (h : ∀ w, w < L 0 3 → hd 50 w = gvT L lost (L 0 4) (L 7 w) w) : pmM hd L t = gmM L lost t := by
  apply Nat.eq_of_testBit_eq
  intro w
  have a := pmM_test (hd := hd) (L := L) (t := t) (w := w)
  have b := gmM_test (L := L) (lost := lost) (t := t) (w := w)
  rw [Bool.eq_iff_iff, a, b]
  exact ⟨fun ⟨x, y⟩ => ⟨x, by rw [← h w x]; exact y⟩, fun ⟨x, y⟩ => ⟨x, by rw [h w x]; exact y⟩⟩
/-- the plan of the class, once it is made -/
def planOk (hd : amD) (L : Lnd) (lost : Nat) : Prop := (hd 34 8 = (metB L lost : Int) ∧ ∀ w, w < L 0 3 → hd 50 w = gvT L lost (L 0 4) (L 7 w) w) ∧ trR hd (mvL L lost (L 0 2)).1 (mvL L lost (L 0 2)).2
/-- the plan may be made, for some that were lost -/
def plC (hd : amD) (L : Lnd) : Prop := hd 34 6 = 0 ∨ hd 34 6 = 1 ∧ ∃ lost : Nat, lost < 4096 ∧ hd 34 7 = (lost : Int) ∧ planOk hd L lost
/-- only choice and plan are others -/
def plF (hd hd' : amD) : Prop := ∀ i, ¬ (26 ≤ i ∧ i ≤ 51) → hd' i = hd i
def chN (hd : amD) : Prop := hd 26 9 = -1 ∧ hd 26 10 = -1 ∧ hd 26 11 = 0
theorem planOk_fr {hd hd' : amD} {L : Lnd} {lost : Nat} (h : ∀ i, 34 ≤ i → i ≤ 50 → i ≠ 35 → i ≠ 36 → i ≠ 37 → i ≠ 38 → i ≠ 39 → i ≠ 40 → i ≠ 41 → i ≠ 47 → hd' i = hd i) (hp : planOk hd L lost) : planOk hd' L lost := by
  unfold planOk trR at *
  rw [h 34 (by decide) (by decide) (by decide) (by decide) (by decide) (by decide) (by decide) (by decide) (by decide) (by decide), h 50 (by decide) (by decide) (by decide) (by decide) (by decide) (by decide) (by decide) (by decide) (by decide) (by decide), h 42 (by decide) (by decide) (by decide) (by decide) (by decide) (by decide) (by decide) (by decide) (by decide) (by decide), h 43 (by decide) (by decide) (by decide) (by decide) (by decide) (by decide) (by decide) (by decide) (by decide) (by decide), h 44 (by decide) (by decide) (by decide) (by decide) (by decide) (by decide) (by decide) (by decide) (by decide) (by decide), h 45 (by decide) (by decide) (by decide) (by decide) (by decide) (by decide) (by decide) (by decide) (by decide) (by decide), h 46 (by decide) (by decide) (by decide) (by decide) (by decide) (by decide) (by decide) (by decide) (by decide) (by decide), h 48 (by decide) (by decide) (by decide) (by decide) (by decide) (by decide) (by decide) (by decide) (by decide) (by decide), h 49 (by decide) (by decide) (by decide) (by decide) (by decide) (by decide) (by decide) (by decide) (by decide) (by decide)]
  exact hp
