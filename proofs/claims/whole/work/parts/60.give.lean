/-! PURE: who gets which thing -/
theorem isWf_congr {hp hands : Nat} {px px' : Nat → Nat} : ∀ (f k c : Nat), (∀ i, i < k → px i = px' i) → isWf hp px hands f k c → isWf hp px' hands f k c
  | 0, _, _, _, h => h
  | f + 1, k, c, hx, h => by
    rcases h with h | ⟨i, c', a, e, g, l⟩
    · exact Or.inl h
    · refine Or.inr ⟨i, c', a, e, isWf_congr f i c' (fun j hj => hx j (by omega)) g, ?_⟩
      have es : sgN hp px i (k - 1) = sgN hp px' i (k - 1) := by
        unfold sgN
        rw [hx i a, hx (k - 1) (by omega)]
        congr 2
        exact sumN_congr _ (fun t ht => by rw [hx (i + t) (by omega), hx (i + t + 1) (by omega)])
      rw [l, es]
theorem isW_congr {hp hands k c : Nat} {px px' : Nat → Nat} (hx : ∀ i, i < k → px i = px' i) : isW hp px hands k c ↔ isW hp px' hands k c :=
  ⟨fun ⟨f, h⟩ => ⟨f, isWf_congr f k c hx h⟩, fun ⟨f, h⟩ => ⟨f, isWf_congr f k c (fun i hi => (hx i hi).symm) h⟩⟩
theorem isLw_congr {hp hands k v : Nat} {px px' : Nat → Nat} (hx : ∀ i, i < k → px i = px' i) (h : isLw hp px hands k v) : isLw hp px' hands k v :=
  ⟨(isW_congr hx).mp h.1, fun c hc => h.2 c ((isW_congr hx).mpr hc)⟩
/-- how far a thing goes for a heap of wants -/
def wayR (L : Lnd) (hands t M f : Nat) : Prop := ∃ rn r v, rwOk L (fun w => M.testBit w = true) (L 0 3) rn r ∧ isLw (L 1 (L 5 t)) (fun i => L 1 (L 6 (r i))) hands rn v ∧ f = v / 4096
noncomputable def wayF (L : Lnd) (hands t M : Nat) : Nat := Classical.epsilon (wayR L hands t M)
theorem wayR_eq {L : Lnd} {hands t M f f' : Nat} (h : wayR L hands t M f) (h' : wayR L hands t M f') : f = f' := by
  obtain ⟨rn, r, v, a, c, e⟩ := h
  obtain ⟨rn', r', v', a', c', e'⟩ := h'
  obtain ⟨q1, q2⟩ := rwOk_eq a a'
  subst q1
  have := isLw_eq (isLw_congr (px' := fun i => L 1 (L 6 (r' i))) (fun i hi => by rw [q2 i hi]) c) c'
  rw [e, e', this]
theorem wayF_eq {L : Lnd} {hands t M f : Nat} (h : wayR L hands t M f) : wayF L hands t M = f := wayR_eq (Classical.epsilon_spec ⟨f, h⟩) h
def okM (L : Lnd) (M : Nat) : Prop := ∀ w w', M.testBit w = true → M.testBit w' = true → w ≠ w' → ¬ (L 8 w < L 9 w' ∧ L 8 w' < L 9 w)
def dgN (w : Nat) : Nat := 4 ^ (11 - w)
def Dg (a : Nat → Nat) (M : Nat) : Nat := sumN 12 (fun w => if M.testBit w = true then a w * dgN w else 0)
def clsM (M : Nat) (a : Nat → Nat) (i : Nat) : Nat := bitsN 12 (fun w => M.testBit w && a w == i)
theorem clsM_test {M i w : Nat} {a : Nat → Nat} : (clsM M a i).testBit w = true ↔ w < 12 ∧ M.testBit w = true ∧ a w = i := by
  unfold clsM
  rw [bitsN_test]
  simp
theorem clsM_lt {M i : Nat} {a : Nat → Nat} : clsM M a i < 4096 := bitsN_12 (Nat.le_refl 12)
noncomputable def codA (L : Lnd) (hands : Nat) (th : Nat → Nat) (m M : Nat) (a : Nat → Nat) : Nat := 16777216 * sumN m (fun i => wayF L hands (th i) (clsM M a i)) + Dg a M
def asg (L : Lnd) (m M : Nat) (a : Nat → Nat) : Prop := (∀ w, M.testBit w = true → a w < m) ∧ ∀ i, i < m → okM L (clsM M a i)
def isG (L : Lnd) (hands : Nat) (th : Nat → Nat) : Nat → Nat → Nat → Prop
  | 0, M, c => M = 0 ∧ c = 0
  | k + 1, M, c => ∃ P c', P &&& M = P ∧ okM L P ∧ isG L hands th k (M ^^^ P) c' ∧ c = c' + (16777216 * wayF L hands (th k) P + Dg (fun _ => k) P)
theorem xor_test {M P w : Nat} (hP : P &&& M = P) : (M ^^^ P).testBit w = true ↔ M.testBit w = true ∧ ¬ P.testBit w = true := by
  rw [Nat.testBit_xor]
  by_cases h : P.testBit w = true
  · have := sub_lt hP h
    rw [h, this]
    simp
  · simp at h
    rw [h]
    simp
theorem bit_12 {M w : Nat} (hM : M < 4096) (h : M.testBit w = true) : w < 12 := by
  by_cases hc : w < 12
  · exact hc
  · rw [Nat.testBit_lt_two_pow (Nat.lt_of_lt_of_le hM (show 4096 ≤ 2 ^ w from Nat.le_trans (show 4096 ≤ 2 ^ 12 by decide) (Nat.pow_le_pow_right (by decide) (by omega))))] at h
    cases h
theorem Dg_split {M P : Nat} {a a' : Nat → Nat} {k : Nat} (hP : P &&& M = P) (h1 : ∀ w, P.testBit w = true → a w = k) (h2 : ∀ w, M.testBit w = true → ¬ P.testBit w = true → a w = a' w) : Dg a M = Dg a' (M ^^^ P) + Dg (fun _ => k) P := by
  unfold Dg
  rw [← sumN_add]
  refine sumN_congr 12 (fun w _ => ?_)
  by_cases hp : P.testBit w = true
  · have hm := sub_lt hP hp
    rw [if_pos hm, if_neg (fun h => ((xor_test hP).mp h).2 hp), if_pos hp, h1 w hp, Nat.zero_add]
  · rw [if_neg (c := P.testBit w = true) hp, Nat.add_zero]
    by_cases hm : M.testBit w = true
    · rw [if_pos hm, if_pos ((xor_test hP).mpr ⟨hm, hp⟩), h2 w hm hp]
    · rw [if_neg hm, if_neg (fun h => hm ((xor_test hP).mp h).1)]
section
variable {L : Lnd} {hands : Nat} {th : Nat → Nat}
theorem G_iff : ∀ (k M c : Nat), M < 4096 → (isG L hands th k M c ↔ ∃ a, asg L k M a ∧ c = codA L hands th k M a)
  | 0, M, c, hM => by
    constructor
    · rintro ⟨rfl, rfl⟩
      refine ⟨fun _ => 0, ⟨fun w h => by simp at h, fun i hi => by omega⟩, ?_⟩
      unfold codA Dg
      simp [sumN, sumN_zero]
    · rintro ⟨a, ⟨h1, _⟩, h2⟩
      have hM0 : M = 0 := by
        apply Nat.eq_of_testBit_eq
        intro w
        rw [Nat.zero_testBit]
        by_cases h : M.testBit w = true
        · exact absurd (h1 w h) (Nat.not_lt_zero _)
        · simpa using h
      subst hM0
      refine ⟨rfl, ?_⟩
      rw [h2]
      unfold codA Dg
      simp [sumN, sumN_zero]
  | k + 1, M, c, hM => by
    constructor
    · rintro ⟨P, c', h1, h2, h3, h4⟩
      have hx : M ^^^ P < 4096 := Nat.xor_lt_two_pow (n := 12) hM (Nat.lt_of_le_of_lt (sub_le h1) hM)
      obtain ⟨a', ⟨g1, g2⟩, g3⟩ := (G_iff k (M ^^^ P) c' hx).mp h3
      have ck : clsM M (fun w => if P.testBit w = true then k else a' w) k = P := by
        apply Nat.eq_of_testBit_eq
        intro w
        by_cases hp : P.testBit w = true
        · rw [hp]
          exact clsM_test.mpr ⟨bit_12 hM (sub_lt h1 hp), sub_lt h1 hp, by (try dsimp only); rw [if_pos hp]⟩
        · have : ¬ (clsM M (fun w => if P.testBit w = true then k else a' w) k).testBit w = true := by
            intro h
            obtain ⟨q1, q2, q3⟩ := clsM_test.mp h
            (try dsimp only at q3)
            rw [if_neg hp] at q3
            have := g1 w ((xor_test h1).mpr ⟨q2, hp⟩)
            omega
          simp at this hp
          rw [this, hp]
      have ci : ∀ i, i < k → clsM M (fun w => if P.testBit w = true then k else a' w) i = clsM (M ^^^ P) a' i := by
        intro i hi
        apply Nat.eq_of_testBit_eq
        intro w
        rw [Bool.eq_iff_iff, clsM_test, clsM_test, xor_test h1]
        (try dsimp only)
        by_cases hp : P.testBit w = true
        · rw [if_pos hp]
          constructor
          · rintro ⟨_, _, q⟩
            omega
          · rintro ⟨_, ⟨_, q⟩, _⟩
            exact absurd hp q
        · rw [if_neg hp]
          constructor
          · rintro ⟨q1, q2, q3⟩
            exact ⟨q1, ⟨q2, hp⟩, q3⟩
          · rintro ⟨q1, ⟨q2, _⟩, q3⟩
            exact ⟨q1, q2, q3⟩
      refine ⟨fun w => if P.testBit w = true then k else a' w, ⟨fun w hw => ?_, fun i hi => ?_⟩, ?_⟩
      · (try dsimp only)
        by_cases hp : P.testBit w = true
        · rw [if_pos hp]; omega
        · rw [if_neg hp]
          have := g1 w ((xor_test h1).mpr ⟨hw, hp⟩)
          omega
      · by_cases e : i = k
        · rw [e, ck]; exact h2
        · rw [ci i (by omega)]; exact g2 i (by omega)
      · unfold codA at g3 ⊢
        rw [sumN_s, ck, sumN_congr k (g := fun i => wayF L hands (th i) (clsM (M ^^^ P) a' i)) (fun i hi => by rw [ci i hi]), Dg_split h1 (a' := a') (k := k) (fun w hp => if_pos hp) (fun w _ hp => if_neg hp), h4, g3]
        omega
    · rintro ⟨a, ⟨g1, g2⟩, g3⟩
      have hP : clsM M a k &&& M = clsM M a k := sub_iff.mpr (fun w h => (clsM_test.mp h).2.1)
      have ci : ∀ i, i < k → clsM (M ^^^ clsM M a k) a i = clsM M a i := by
        intro i hi
        apply Nat.eq_of_testBit_eq
        intro w
        rw [Bool.eq_iff_iff, clsM_test, clsM_test, xor_test hP, clsM_test]
        constructor
        · rintro ⟨q1, ⟨q2, _⟩, q3⟩
          exact ⟨q1, q2, q3⟩
        · rintro ⟨q1, q2, q3⟩
          exact ⟨q1, ⟨q2, fun h => by omega⟩, q3⟩
      have hx : M ^^^ clsM M a k < 4096 := Nat.xor_lt_two_pow (n := 12) hM clsM_lt
      refine ⟨clsM M a k, codA L hands th k (M ^^^ clsM M a k) a, hP, g2 k (by omega), (G_iff k _ _ hx).mpr ⟨a, ⟨fun w hw => ?_, fun i hi => by rw [ci i hi]; exact g2 i (by omega)⟩, rfl⟩, ?_⟩
      · obtain ⟨q1, q2⟩ := (xor_test hP).mp hw
        have := g1 w q1
        by_cases e : a w = k
        · exact absurd (clsM_test.mpr ⟨bit_12 hM q1, q1, e⟩) q2
        · omega
      · rw [g3]
        unfold codA
        rw [sumN_s, sumN_congr k (f := fun i => wayF L hands (th i) (clsM M a i)) (g := fun i => wayF L hands (th i) (clsM (M ^^^ clsM M a k) a i)) (fun i hi => by rw [ci i hi]), Dg_split hP (a' := a) (k := k) (fun w hp => (clsM_test.mp hp).2.2) (fun w _ _ => rfl)]
        omega
/-- the digits -/
theorem dg_sum {a : Nat → Nat} {M : Nat} (ha : ∀ w, M.testBit w = true → a w ≤ 3) : ∀ k : Nat, k ≤ 12 → sumN k (fun w => if M.testBit w = true then a w * dgN w else 0) + 4 ^ (12 - k) ≤ 16777216
  | 0, _ => by
    show 0 + 4 ^ 12 ≤ 16777216
    decide
  | k + 1, hk => by
    have ih := dg_sum ha k (by omega)
    rw [sumN_s]
    have e : 4 ^ (12 - k) = 4 * 4 ^ (12 - (k + 1)) := by
      rw [show 12 - k = (12 - (k + 1)) + 1 by omega, Nat.pow_succ, Nat.mul_comm]
    have e2 : dgN k = 4 ^ (12 - (k + 1)) := by
      unfold dgN
      rw [show 11 - k = 12 - (k + 1) by omega]
    (try dsimp only)
    by_cases h : M.testBit k = true
    · rw [if_pos h, e2]
      have h3 := Nat.mul_le_mul_right (4 ^ (12 - (k + 1))) (ha k h)
      omega
    · rw [if_neg h]
      have := Nat.two_pow_pos 0
      omega
theorem Dg_lt {a : Nat → Nat} {M : Nat} (ha : ∀ w, M.testBit w = true → a w ≤ 3) : Dg a M < 16777216 := by
  have := dg_sum ha 12 (Nat.le_refl _)
  unfold Dg
  rw [Nat.sub_self, Nat.pow_zero] at this
  omega
end
