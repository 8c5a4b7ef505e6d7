/-! FACES that need the plan: pure facts -/
theorem met_and {L : Lnd} {lost s : Nat} (hs : s < L 0 1) : metB L lost &&& fS L s = bS L lost s := by
  apply Nat.eq_of_testBit_eq
  intro w
  rw [Nat.testBit_and, Bool.eq_iff_iff, Bool.and_eq_true]
  constructor
  · rintro ⟨h1, h2⟩
    obtain ⟨i, h3, h4⟩ := (orN_test (L 0 1)).mp h1
    have e : i = s := by
      have := (bS_w h4).2
      have := (fS_w h2).2
      omega
    subst e
    exact h4
  · intro h
    exact ⟨(orN_test (L 0 1)).mpr ⟨s, hs, h⟩, sub_lt bS_sub h⟩
theorem fW_or {L : Lnd} {m m' : Nat} (h : ∀ w, m.testBit w = true → ¬ m'.testBit w = true) : fW L (m ||| m') = fW L m + fW L m' := by
  unfold fW
  rw [← sumN_add]
  refine sumN_congr (L 0 3) (fun w _ => ?_)
  show (if (m ||| m').testBit w = true then L 10 w else 0) = (if m.testBit w = true then L 10 w else 0) + (if m'.testBit w = true then L 10 w else 0)
  rw [Nat.testBit_or]
  by_cases c : m.testBit w = true
  · rw [if_pos (by rw [c]; rfl), if_pos c, if_neg (h w c)]
    rfl
  · by_cases c2 : m'.testBit w = true
    · rw [if_pos (by rw [c2]; exact Bool.or_true _), if_neg c, if_pos c2, Nat.zero_add]
    · rw [if_neg c, if_neg c2, if_neg (fun h9 => by
        rcases (Bool.or_eq_true _ _).mp h9 with h9 | h9
        · exact c h9
        · exact c2 h9)]
theorem fW_orN {L : Lnd} {f : Nat → Nat} (h : ∀ i j w, i ≠ j → (f i).testBit w = true → ¬ (f j).testBit w = true) : ∀ k : Nat, fW L (orN k f) = sumN k (fun i => fW L (f i))
  | 0 => by
    unfold fW orN
    rw [sumN_congr (g := fun _ => 0) (L 0 3) (fun w _ => by simp), sumN_zero]
    rfl
  | k + 1 => by
    rw [orN_s, fW_or, fW_orN h k, sumN_s]
    intro w h1
    obtain ⟨i, h2, h3⟩ := (orN_test k).mp h1
    exact h i k w (by omega) h3
/-- the class's others: all wants but a person's -/
theorem fS_x {L : Lnd} {s p : Nat} : fS L s ^^^ (fS L s &&& fP L p) = fSx L s p := by
  apply Nat.eq_of_testBit_eq
  intro w
  unfold fS fP fSx
  rw [Nat.testBit_xor, Nat.testBit_and, bitsN_test, bitsN_test, bitsN_test]
  by_cases cw : w < L 0 3 <;> by_cases cs : L 7 w = s <;> by_cases c : L 6 w = p <;> simp [cw, cs, c, Int.ofNat_inj]
  have e1 : (L 7 w == s) = false := by simp [cs]
  rw [e1]
  rfl
theorem fW_x {L : Lnd} {m p : Nat} : fW L (m ^^^ (m &&& fP L p)) = sumN (L 0 3) (fun w => if m.testBit w = true ∧ ¬ L 6 w = p then L 10 w else 0) := by
  unfold fW
  refine sumN_congr (L 0 3) (fun w hw => ?_)
  show (if (m ^^^ (m &&& fP L p)).testBit w = true then L 10 w else 0) = (if m.testBit w = true ∧ ¬ L 6 w = p then L 10 w else 0)
  unfold fP
  rw [Nat.testBit_xor, Nat.testBit_and, bitsN_test]
  by_cases c : m.testBit w = true
  · by_cases c2 : L 6 w = p
    · simp [c, c2, hw]
    · simp [c, c2, hw]
  · simp [c]
theorem sum_one {S x : Nat} {q : Bool} (h : x < S) : sumN S (fun s => if x = s ∧ q = false then 1 else 0) = (if q = false then 1 else 0) := by
  induction S with
  | zero => omega
  | succ S ih =>
    rw [sumN_s]
    by_cases c : x = S
    · rw [sumN_congr (g := fun _ => 0) S (fun i hi => if_neg (fun h2 => by omega)), sumN_zero, Nat.zero_add]
      by_cases c2 : q = false
      · rw [if_pos ⟨c, c2⟩, if_pos c2]
      · rw [if_neg (fun h2 => c2 h2.2), if_neg c2]
    · have e : (if x = S ∧ q = false then 1 else 0) = 0 := if_neg (fun h2 => c h2.1)
      rw [ih (by omega), e, Nat.add_zero]
theorem left_all {L : Lnd} {lost S : Nat} : ∀ T : Nat, (∀ t, t < T → L 4 t < S) → sumN S (fun s => sumN T (fun t => if L 4 t = s ∧ lost.testBit t = false then 1 else 0)) = sumN T (fun t => if lost.testBit t = false then 1 else 0)
  | 0, _ => by
    exact (sumN_congr S (fun i _ => (rfl : sumN 0 (fun t => if L 4 t = i ∧ lost.testBit t = false then 1 else 0) = 0))).trans (sumN_zero S)
  | T + 1, h => by
    show sumN S (fun s => sumN T (fun t => if L 4 t = s ∧ lost.testBit t = false then 1 else 0) + (if L 4 T = s ∧ lost.testBit T = false then 1 else 0)) = _
    rw [sumN_add, left_all T (fun t ht => h t (by omega)), sum_one (h T (by omega)), sumN_s]
theorem pop_left {lost T : Nat} (hT : T ≤ 12) (h : ∀ t, lost.testBit t = true → t < T) : popN lost + sumN T (fun t => if lost.testBit t = false then 1 else 0) = T := by
  have h1 : ∀ k : Nat, sumN k (fun t => if lost.testBit t = true then 1 else 0) + sumN k (fun t => if lost.testBit t = false then 1 else 0) = k := by
    intro k
    induction k with
    | zero => rfl
    | succ k ih =>
      rw [sumN_s, sumN_s]
      by_cases c : lost.testBit k = true
      · rw [if_pos c, if_neg (by rw [c]; decide)]
        omega
      · rw [if_neg c, if_pos (by simpa using c)]
        omega
  have h2 : ∀ j : Nat, sumN (T + j) (fun t => if lost.testBit t = true then 1 else 0) = sumN T (fun t => if lost.testBit t = true then 1 else 0) := by
    intro j
    induction j with
    | zero => rfl
    | succ j ih =>
      rw [← Nat.add_assoc, sumN_s, ih, if_neg (fun c => by have := h _ c; omega), Nat.add_zero]
  have h3 : popN lost = sumN T (fun t => if lost.testBit t = true then 1 else 0) := by
    rw [← h2 (12 - T), show T + (12 - T) = 12 by omega]
    rfl
  rw [h3]
  exact h1 T
theorem pow_bits {k w : Nat} : (2 ^ k - 1).testBit w = true → w < k := by
  intro h
  rw [Nat.testBit_two_pow_sub_one] at h
  simpa using h
/-- only choice and plan are others, and they stand as they should -/
def plS (hd hd' : amD) (L : Lnd) : Prop := plF hd hd' ∧ plC hd' L ∧ chN hd'
theorem plS_r {hd : amD} {L : Lnd} (h1 : plC hd L) (h2 : chN hd) : plS hd hd L := ⟨fun _ _ => rfl, h1, h2⟩
theorem cL_pl {hd hd' : amD} {o : Nat} {L : Lnd} (ho : isLand o) (h : plF hd hd') (hL : cL hd o L) : cL hd' o L := cL_fr (fun k hk => h _ (by rcases ho with rfl | rfl <;> omega)) hL
theorem cH_pl {hd hd' : amD} {H : Lnd} {T : Nat} (h : plF hd hd') (hH : cH hd 21 H T) : cH hd' 21 H T := cH_fr2 ⟨h 21 (by decide), h 22 (by decide), h 23 (by decide), h 24 (by decide)⟩ hH
