/-! PURE: sums, sets, the land -/
abbrev Lnd : Type := Nat → Nat → Nat
def sumN : Nat → (Nat → Nat) → Nat
  | 0, _ => 0
  | k + 1, f => sumN k f + f k
theorem sumN_s (k : Nat) (f : Nat → Nat) : sumN (k + 1) f = sumN k f + f k := rfl
theorem sumN_le {f : Nat → Nat} {c : Nat} : ∀ k : Nat, (∀ i, i < k → f i ≤ c) → sumN k f ≤ k * c
  | 0, _ => by simp [sumN]
  | k + 1, h => by
    have h1 := sumN_le k (fun i hi => h i (by omega))
    have h2 := h k (by omega)
    rw [sumN_s, Nat.succ_mul]
    omega
theorem sumN_congr {f g : Nat → Nat} : ∀ k : Nat, (∀ i, i < k → f i = g i) → sumN k f = sumN k g
  | 0, _ => rfl
  | k + 1, h => by rw [sumN_s, sumN_s, sumN_congr k (fun i hi => h i (by omega)), h k (by omega)]
theorem sumN_mono {f g : Nat → Nat} : ∀ k : Nat, (∀ i, i < k → f i ≤ g i) → sumN k f ≤ sumN k g
  | 0, _ => Nat.le_refl _
  | k + 1, h => by
    have h1 := sumN_mono k (fun i hi => h i (by omega))
    have h2 := h k (by omega)
    rw [sumN_s, sumN_s]
    omega
theorem sumN_add (f g : Nat → Nat) : ∀ k : Nat, sumN k (fun i => f i + g i) = sumN k f + sumN k g
  | 0 => rfl
  | k + 1 => by
    rw [sumN_s, sumN_s, sumN_s, sumN_add f g k]
    omega
theorem sumN_zero : ∀ k : Nat, sumN k (fun _ => 0) = 0
  | 0 => rfl
  | k + 1 => by rw [sumN_s, sumN_zero k]
def bitsN : Nat → (Nat → Bool) → Nat
  | 0, _ => 0
  | k + 1, p => bitsN k p ||| (if p k then 1 <<< k else 0)
theorem bitsN_s (k : Nat) (p : Nat → Bool) : bitsN (k + 1) p = bitsN k p ||| (if p k then 1 <<< k else 0) := rfl
theorem bitsN_test (p : Nat → Bool) (i : Nat) : ∀ k : Nat, (bitsN k p).testBit i = (decide (i < k) && p i)
  | 0 => by simp [bitsN]
  | k + 1 => by
    rw [bitsN_s, Nat.testBit_or, bitsN_test p i k]
    by_cases hp : p k = true
    · rw [if_pos hp, Nat.one_shiftLeft, Nat.testBit_two_pow]
      by_cases h1 : k = i
      · subst h1
        simp [hp]
      · by_cases h2 : i < k
        · simp [h1, h2, Nat.lt_succ_of_lt h2]
        · simp [h1, h2, show ¬ i < k + 1 by omega]
    · rw [if_neg hp]
      by_cases h1 : k = i
      · subst h1
        simp at hp
        simp [hp]
      · by_cases h2 : i < k
        · simp [h2, Nat.lt_succ_of_lt h2]
        · simp [h2, show ¬ i < k + 1 by omega]
theorem bitsN_lt (p : Nat → Bool) (k : Nat) : bitsN k p < 2 ^ k := by
  apply Nat.lt_pow_two_of_testBit
  intro i hi
  rw [bitsN_test]
  simp [show ¬ i < k by omega]
theorem bitsN_lt' (p : Nat → Bool) {k c : Nat} (h : k ≤ c) : bitsN k p < 2 ^ c := Nat.lt_of_lt_of_le (bitsN_lt p k) (Nat.pow_le_pow_right (by decide) h)
theorem shl1_lt {k c : Nat} (h : k < c) : 1 <<< k < 2 ^ c := by
  rw [Nat.one_shiftLeft]
  exact Nat.pow_lt_pow_right (by decide) h
/-- W together of a heap -/
def fW (L : Lnd) (m : Nat) : Nat := sumN (L 0 3) (fun w => if m.testBit w then L 10 w else 0)
/-- the wants of a sort -/
def fS (L : Lnd) (s : Nat) : Nat := bitsN (L 0 3) (fun w => L 7 w == s)
def fP (L : Lnd) (p : Nat) : Nat := bitsN (L 0 3) (fun w => L 6 w == p)
def fOn (L : Lnd) (s day : Nat) : Nat := sumN (L 0 3) (fun w => if L 7 w = s ∧ L 8 w ≤ day ∧ day < L 9 w then 1 else 0)
def fLeft (L : Lnd) (s lost : Nat) : Nat := sumN (L 0 2) (fun t => if L 4 t = s ∧ lost.testBit t = false then 1 else 0)
def fFar (L : Lnd) (p q : Nat) : Nat := (L 1 p - L 1 q) + (L 1 q - L 1 p)
/-- what holds of every land -/
def Lok (L : Lnd) : Prop :=
  (L 0 0 ≤ 8 ∧ L 0 1 ≤ 4 ∧ L 0 2 ≤ 12 ∧ L 0 3 ≤ 12 ∧ 1 ≤ L 0 4 ∧ L 0 4 ≤ 9 ∧ 1 ≤ L 0 5 ∧ L 0 5 ≤ 20) ∧
  (∀ p, p < L 0 0 → L 1 p ≤ 99 ∧ L 2 p ≤ L 0 0 ∧ L 2 p ≠ p + 1) ∧
  (∀ s, s < L 0 1 → 1 ≤ L 3 s ∧ L 3 s ≤ 99) ∧
  (∀ t, t < L 0 2 → L 4 t < L 0 1 ∧ L 5 t < L 0 0) ∧
  (∀ w, w < L 0 3 → L 6 w < L 0 0 ∧ L 7 w < L 0 1 ∧ L 8 w < L 9 w ∧ L 9 w ≤ 60 ∧ 1 ≤ L 10 w ∧ L 10 w ≤ 99) ∧
  (∀ s, s < L 0 1 → sumN (L 0 2) (fun t => if L 4 t = s then 1 else 0) ≤ 4 ∧ sumN (L 0 3) (fun w => if L 7 w = s then 1 else 0) ≤ 6) ∧
  (∀ i, i < L 0 3 → L 11 i < L 0 3) ∧
  (∀ i j, i < j → j < L 0 3 → L 8 (L 11 i) < L 8 (L 11 j) ∨ L 8 (L 11 i) = L 8 (L 11 j) ∧ L 11 i < L 11 j)
/-- the class's land at o is L -/
def cL (hd : amD) (o : Nat) (L : Lnd) : Prop := Lok L ∧ (hd o 13 = L 0 0 ∧ hd o 14 = L 0 1 ∧ hd o 15 = L 0 2 ∧ hd o 16 = L 0 3) ∧ ((hd o 17 = L 0 4 ∨ hd o 17 = -1 ∧ L 0 4 = 9) ∧ (hd o 18 = L 0 5 ∨ hd o 18 = -1 ∧ L 0 5 = 20)) ∧ (∀ i, i < L 0 0 → hd (o + 2) i = (L 1 i : Int)) ∧ (∀ i, i < L 0 0 → hd (o + 3) i = (L 2 i : Int) - 1) ∧ (∀ i, i < L 0 1 → hd (o + 5) i = (L 3 i : Int)) ∧ (∀ i, i < L 0 2 → hd (o + 6) i = (L 4 i : Int)) ∧ (∀ i, i < L 0 2 → hd (o + 7) i = (L 5 i : Int)) ∧ (∀ i, i < L 0 3 → hd (o + 8) i = (L 6 i : Int)) ∧ (∀ i, i < L 0 3 → hd (o + 9) i = (L 7 i : Int)) ∧ (∀ i, i < L 0 3 → hd (o + 10) i = (L 8 i : Int)) ∧ (∀ i, i < L 0 3 → hd (o + 11) i = (L 9 i : Int)) ∧ (∀ i, i < L 0 3 → hd (o + 12) i = (L 10 i : Int)) ∧ (∀ i, i < L 0 3 → hd (o + 13) i = (L 11 i : Int))
theorem cL_k {hd : amD} {o : Nat} {L : Lnd} (h : cL hd o L) : Lok L := h.1
theorem cL_c0 {hd : amD} {o : Nat} {L : Lnd} (h : cL hd o L) : hd o 13 = L 0 0 := h.2.1.1
theorem cL_c1 {hd : amD} {o : Nat} {L : Lnd} (h : cL hd o L) : hd o 14 = L 0 1 := h.2.1.2.1
theorem cL_c2 {hd : amD} {o : Nat} {L : Lnd} (h : cL hd o L) : hd o 15 = L 0 2 := h.2.1.2.2.1
theorem cL_c3 {hd : amD} {o : Nat} {L : Lnd} (h : cL hd o L) : hd o 16 = L 0 3 := h.2.1.2.2.2
theorem cL_h4 {hd : amD} {o : Nat} {L : Lnd} (h : cL hd o L) : hd o 17 = L 0 4 ∨ hd o 17 = -1 ∧ L 0 4 = 9 := h.2.2.1.1
theorem cL_h5 {hd : amD} {o : Nat} {L : Lnd} (h : cL hd o L) : hd o 18 = L 0 5 ∨ hd o 18 = -1 ∧ L 0 5 = 20 := h.2.2.1.2
theorem cL_1 {hd : amD} {o : Nat} {L : Lnd} (h : cL hd o L) {i : Nat} (hi : i < L 0 0) : hd (o + 2) i = (L 1 i : Int) := h.2.2.2.1 i hi
theorem cL_2 {hd : amD} {o : Nat} {L : Lnd} (h : cL hd o L) {i : Nat} (hi : i < L 0 0) : hd (o + 3) i = (L 2 i : Int) - 1 := h.2.2.2.2.1 i hi
theorem cL_3 {hd : amD} {o : Nat} {L : Lnd} (h : cL hd o L) {i : Nat} (hi : i < L 0 1) : hd (o + 5) i = (L 3 i : Int) := h.2.2.2.2.2.1 i hi
theorem cL_4 {hd : amD} {o : Nat} {L : Lnd} (h : cL hd o L) {i : Nat} (hi : i < L 0 2) : hd (o + 6) i = (L 4 i : Int) := h.2.2.2.2.2.2.1 i hi
theorem cL_5 {hd : amD} {o : Nat} {L : Lnd} (h : cL hd o L) {i : Nat} (hi : i < L 0 2) : hd (o + 7) i = (L 5 i : Int) := h.2.2.2.2.2.2.2.1 i hi
theorem cL_6 {hd : amD} {o : Nat} {L : Lnd} (h : cL hd o L) {i : Nat} (hi : i < L 0 3) : hd (o + 8) i = (L 6 i : Int) := h.2.2.2.2.2.2.2.2.1 i hi
theorem cL_7 {hd : amD} {o : Nat} {L : Lnd} (h : cL hd o L) {i : Nat} (hi : i < L 0 3) : hd (o + 9) i = (L 7 i : Int) := h.2.2.2.2.2.2.2.2.2.1 i hi
theorem cL_8 {hd : amD} {o : Nat} {L : Lnd} (h : cL hd o L) {i : Nat} (hi : i < L 0 3) : hd (o + 10) i = (L 8 i : Int) := h.2.2.2.2.2.2.2.2.2.2.1 i hi
theorem cL_9 {hd : amD} {o : Nat} {L : Lnd} (h : cL hd o L) {i : Nat} (hi : i < L 0 3) : hd (o + 11) i = (L 9 i : Int) := h.2.2.2.2.2.2.2.2.2.2.2.1 i hi
theorem cL_10 {hd : amD} {o : Nat} {L : Lnd} (h : cL hd o L) {i : Nat} (hi : i < L 0 3) : hd (o + 12) i = (L 10 i : Int) := h.2.2.2.2.2.2.2.2.2.2.2.2.1 i hi
theorem cL_11 {hd : amD} {o : Nat} {L : Lnd} (h : cL hd o L) {i : Nat} (hi : i < L 0 3) : hd (o + 13) i = (L 11 i : Int) := h.2.2.2.2.2.2.2.2.2.2.2.2.2 i hi
theorem lk_P {L : Lnd} (h : Lok L) : L 0 0 ≤ 8 := h.1.1
theorem lk_S {L : Lnd} (h : Lok L) : L 0 1 ≤ 4 := h.1.2.1
theorem lk_T {L : Lnd} (h : Lok L) : L 0 2 ≤ 12 := h.1.2.2.1
theorem lk_W {L : Lnd} (h : Lok L) : L 0 3 ≤ 12 := h.1.2.2.2.1
section
variable {d f0 n o : Nat} {b : Bool} {L : Lnd} {Q : amQ} {hd : amD}
theorem g_placeOf (hd9 : 2 ≤ d) (ho : isLand o) (hn : 159 ≤ n) (hL : cL hd o L) {w : Nat} (hw : w < L 0 0) (h : Q (some (vI (L 1 w : Int))) (am_R f0 b) hd n) : wpM d 80 [vR o, vI (w : Int)] Q (am_R f0 b) hd n := by
  have hk := lk_P hL.1
  refine z_placeOf hd9 ho hn ?_
  rw [show am_A (hd (o + 2)) 8 (w : Int) = if 0 ≤ (w : Int) ∧ (w : Int) < ((8 : Nat) : Int) then hd (o + 2) (w : Int).toNat else 0 from rfl, if_pos ⟨by omega, by omega⟩, Int.toNat_natCast, cL_1 hL hw]
  exact h
theorem g_worthOf (hd9 : 2 ≤ d) (ho : isLand o) (hn : 159 ≤ n) (hL : cL hd o L) {w : Nat} (hw : w < L 0 1) (h : Q (some (vI (L 3 w : Int))) (am_R f0 b) hd n) : wpM d 82 [vR o, vI (w : Int)] Q (am_R f0 b) hd n := by
  have hk := lk_S hL.1
  refine z_X4_worthOf hd9 ho hn ?_
  rw [if_pos ⟨by omega, by omega⟩, Int.toNat_natCast, cL_3 hL hw]
  exact h
theorem g_sortOfThing (hd9 : 2 ≤ d) (ho : isLand o) (hn : 159 ≤ n) (hL : cL hd o L) {w : Nat} (hw : w < L 0 2) (h : Q (some (vI (L 4 w : Int))) (am_R f0 b) hd n) : wpM d 83 [vR o, vI (w : Int)] Q (am_R f0 b) hd n := by
  have hk := lk_T hL.1
  refine z_X4_sortOfThing hd9 ho hn ?_
  rw [if_pos ⟨by omega, by omega⟩, Int.toNat_natCast, cL_4 hL hw]
  exact h
theorem g_ownerOf (hd9 : 2 ≤ d) (ho : isLand o) (hn : 159 ≤ n) (hL : cL hd o L) {w : Nat} (hw : w < L 0 2) (h : Q (some (vI (L 5 w : Int))) (am_R f0 b) hd n) : wpM d 84 [vR o, vI (w : Int)] Q (am_R f0 b) hd n := by
  have hk := lk_T hL.1
  refine z_X4_ownerOf hd9 ho hn ?_
  rw [if_pos ⟨by omega, by omega⟩, Int.toNat_natCast, cL_5 hL hw]
  exact h
theorem g_whoWants (hd9 : 2 ≤ d) (ho : isLand o) (hn : 159 ≤ n) (hL : cL hd o L) {w : Nat} (hw : w < L 0 3) (h : Q (some (vI (L 6 w : Int))) (am_R f0 b) hd n) : wpM d 86 [vR o, vI (w : Int)] Q (am_R f0 b) hd n := by
  have hk := lk_W hL.1
  refine z_X4_whoWants hd9 ho hn ?_
  rw [if_pos ⟨by omega, by omega⟩, Int.toNat_natCast, cL_6 hL hw]
  exact h
theorem g_sortOfWant (hd9 : 2 ≤ d) (ho : isLand o) (hn : 159 ≤ n) (hL : cL hd o L) {w : Nat} (hw : w < L 0 3) (h : Q (some (vI (L 7 w : Int))) (am_R f0 b) hd n) : wpM d 88 [vR o, vI (w : Int)] Q (am_R f0 b) hd n := by
  have hk := lk_W hL.1
  refine z_X4_sortOfWant hd9 ho hn ?_
  rw [if_pos ⟨by omega, by omega⟩, Int.toNat_natCast, cL_7 hL hw]
  exact h
theorem g_fromOf (hd9 : 2 ≤ d) (ho : isLand o) (hn : 159 ≤ n) (hL : cL hd o L) {w : Nat} (hw : w < L 0 3) (h : Q (some (vI (L 8 w : Int))) (am_R f0 b) hd n) : wpM d 89 [vR o, vI (w : Int)] Q (am_R f0 b) hd n := by
  have hk := lk_W hL.1
  refine z_X4_fromOf hd9 ho hn ?_
  rw [if_pos ⟨by omega, by omega⟩, Int.toNat_natCast, cL_8 hL hw]
  exact h
theorem g_tillOf (hd9 : 2 ≤ d) (ho : isLand o) (hn : 159 ≤ n) (hL : cL hd o L) {w : Nat} (hw : w < L 0 3) (h : Q (some (vI (L 9 w : Int))) (am_R f0 b) hd n) : wpM d 90 [vR o, vI (w : Int)] Q (am_R f0 b) hd n := by
  have hk := lk_W hL.1
  refine z_X4_tillOf hd9 ho hn ?_
  rw [if_pos ⟨by omega, by omega⟩, Int.toNat_natCast, cL_9 hL hw]
  exact h
theorem g_weightOf (hd9 : 2 ≤ d) (ho : isLand o) (hn : 159 ≤ n) (hL : cL hd o L) {w : Nat} (hw : w < L 0 3) (h : Q (some (vI (L 10 w : Int))) (am_R f0 b) hd n) : wpM d 91 [vR o, vI (w : Int)] Q (am_R f0 b) hd n := by
  have hk := lk_W hL.1
  refine z_X4_weightOf hd9 ho hn ?_
  rw [if_pos ⟨by omega, by omega⟩, Int.toNat_natCast, cL_10 hL hw]
  exact h
theorem g_byFirstDay (hd9 : 2 ≤ d) (ho : isLand o) (hn : 159 ≤ n) (hL : cL hd o L) {w : Nat} (hw : w < L 0 3) (h : Q (some (vI (L 11 w : Int))) (am_R f0 b) hd n) : wpM d 92 [vR o, vI (w : Int)] Q (am_R f0 b) hd n := by
  have hk := lk_W hL.1
  refine z_X4_byFirstDay hd9 ho hn ?_
  rw [if_pos ⟨by omega, by omega⟩, Int.toNat_natCast, cL_11 hL hw]
  exact h
theorem g_heirOf (hd9 : 2 ≤ d) (ho : isLand o) (hn : 159 ≤ n) (hL : cL hd o L) {w : Nat} (hw : w < L 0 0) (h : Q (some (vI ((L 2 w : Int) - 1))) (am_R f0 b) hd n) : wpM d 81 [vR o, vI (w : Int)] Q (am_R f0 b) hd n := by
  have hk := lk_P hL.1
  refine z_X4_heirOf hd9 ho hn ?_
  rw [if_pos ⟨by omega, by omega⟩, Int.toNat_natCast, cL_2 hL hw]
  exact h
theorem g_people (hd9 : 1 ≤ d) (ho : isLand o) (hn : 159 ≤ n) (hL : cL hd o L) (h : Q (some (vI (L 0 0 : Int))) (am_R f0 b) hd n) : wpM d 66 [vR o] Q (am_R f0 b) hd n := by
  refine y_X4_people hd9 (ld_s ho) (ld_n ho hn) ?_
  rw [cL_c0 hL]
  exact h
theorem g_sorts (hd9 : 1 ≤ d) (ho : isLand o) (hn : 159 ≤ n) (hL : cL hd o L) (h : Q (some (vI (L 0 1 : Int))) (am_R f0 b) hd n) : wpM d 67 [vR o] Q (am_R f0 b) hd n := by
  refine y_X4_sorts hd9 (ld_s ho) (ld_n ho hn) ?_
  rw [cL_c1 hL]
  exact h
theorem g_things (hd9 : 1 ≤ d) (ho : isLand o) (hn : 159 ≤ n) (hL : cL hd o L) (h : Q (some (vI (L 0 2 : Int))) (am_R f0 b) hd n) : wpM d 68 [vR o] Q (am_R f0 b) hd n := by
  refine y_X4_things hd9 (ld_s ho) (ld_n ho hn) ?_
  rw [cL_c2 hL]
  exact h
theorem g_wants (hd9 : 1 ≤ d) (ho : isLand o) (hn : 159 ≤ n) (hL : cL hd o L) (h : Q (some (vI (L 0 3 : Int))) (am_R f0 b) hd n) : wpM d 69 [vR o] Q (am_R f0 b) hd n := by
  refine y_X4_wants hd9 (ld_s ho) (ld_n ho hn) ?_
  rw [cL_c3 hL]
  exact h
theorem g_isPerson (hd9 : 1 ≤ d) (ho : isLand o) (hn : 159 ≤ n) (hL : cL hd o L) {j : Int} (ha : 0 ≤ j ∧ j < (L 0 0 : Int) → Q (some (vI 1)) (am_R f0 b) hd n) (hb : ¬ (0 ≤ j ∧ j < (L 0 0 : Int)) → Q (some (vI 0)) (am_R f0 b) hd n) : wpM d 74 [vR o, vI j] Q (am_R f0 b) hd n := by
  refine y_X4_isPerson hd9 (ld_s ho) (ld_n ho hn) ?_
  rw [cL_c0 hL]
  exact ⟨fun h1 => hb (by omega), fun h1 => ⟨fun h2 => hb (by omega), fun h2 => ha ⟨by omega, by omega⟩⟩⟩
theorem g_isSort (hd9 : 1 ≤ d) (ho : isLand o) (hn : 159 ≤ n) (hL : cL hd o L) {j : Int} (ha : 0 ≤ j ∧ j < (L 0 1 : Int) → Q (some (vI 1)) (am_R f0 b) hd n) (hb : ¬ (0 ≤ j ∧ j < (L 0 1 : Int)) → Q (some (vI 0)) (am_R f0 b) hd n) : wpM d 75 [vR o, vI j] Q (am_R f0 b) hd n := by
  refine y_X4_isSort hd9 (ld_s ho) (ld_n ho hn) ?_
  rw [cL_c1 hL]
  exact ⟨fun h1 => hb (by omega), fun h1 => ⟨fun h2 => hb (by omega), fun h2 => ha ⟨by omega, by omega⟩⟩⟩
theorem g_isThing (hd9 : 1 ≤ d) (ho : isLand o) (hn : 159 ≤ n) (hL : cL hd o L) {j : Int} (ha : 0 ≤ j ∧ j < (L 0 2 : Int) → Q (some (vI 1)) (am_R f0 b) hd n) (hb : ¬ (0 ≤ j ∧ j < (L 0 2 : Int)) → Q (some (vI 0)) (am_R f0 b) hd n) : wpM d 76 [vR o, vI j] Q (am_R f0 b) hd n := by
  refine y_X4_isThing hd9 (ld_s ho) (ld_n ho hn) ?_
  rw [cL_c2 hL]
  exact ⟨fun h1 => hb (by omega), fun h1 => ⟨fun h2 => hb (by omega), fun h2 => ha ⟨by omega, by omega⟩⟩⟩
theorem g_isWant (hd9 : 1 ≤ d) (ho : isLand o) (hn : 159 ≤ n) (hL : cL hd o L) {j : Int} (ha : 0 ≤ j ∧ j < (L 0 3 : Int) → Q (some (vI 1)) (am_R f0 b) hd n) (hb : ¬ (0 ≤ j ∧ j < (L 0 3 : Int)) → Q (some (vI 0)) (am_R f0 b) hd n) : wpM d 77 [vR o, vI j] Q (am_R f0 b) hd n := by
  refine y_X4_isWant hd9 (ld_s ho) (ld_n ho hn) ?_
  rw [cL_c3 hL]
  exact ⟨fun h1 => hb (by omega), fun h1 => ⟨fun h2 => hb (by omega), fun h2 => ha ⟨by omega, by omega⟩⟩⟩
theorem g_hands (hd9 : 1 ≤ d) (ho : isLand o) (hn : 159 ≤ n) (hL : cL hd o L) (h : Q (some (vI (L 0 4 : Int))) (am_R f0 b) hd n) : wpM d 72 [vR o] Q (am_R f0 b) hd n := by
  refine y_X4_hands hd9 (ld_s ho) (ld_n ho hn) ?_
  rcases cL_h4 hL with h1 | ⟨h1, h2⟩
  · rw [h1]
    exact ⟨fun _ => h, fun h3 => absurd (show ¬ (L 0 4 : Int) = -1 by omega) h3⟩
  · rw [h1]
    rw [h2] at h
    exact ⟨fun h3 => absurd rfl h3, fun _ => h⟩
theorem g_road (hd9 : 1 ≤ d) (ho : isLand o) (hn : 159 ≤ n) (hL : cL hd o L) (h : Q (some (vI (L 0 5 : Int))) (am_R f0 b) hd n) : wpM d 73 [vR o] Q (am_R f0 b) hd n := by
  refine y_X4_road hd9 (ld_s ho) (ld_n ho hn) ?_
  rcases cL_h5 hL with h1 | ⟨h1, h2⟩
  · rw [h1]
    exact ⟨fun _ => h, fun h3 => absurd (show ¬ (L 0 5 : Int) = -1 by omega) h3⟩
  · rw [h1]
    rw [h2] at h
    exact ⟨fun h3 => absurd rfl h3, fun _ => h⟩
theorem g_hasBit {hr : amR} (hd9 : 1 ≤ d) {m w : Nat} (hm : m < 2147483648) (hw : w < 32) (ha : m.testBit w = true → Q (some (vI 1)) hr hd n) (hb : ¬ m.testBit w = true → Q (some (vI 0)) hr hd n) : wpM d 211 [vI (m : Int), vI (w : Int)] Q hr hd n := by
  refine x_hasBit hd9 ?_
  rw [bit_nat hm hw]
  by_cases h : m.testBit w = true
  · simp only [h, if_true]
    exact ha h
  · simp only [h]
    exact hb h
/-- for omega and the rewriting of ints that are small -/
theorem w32_b {x : Int} (h1 : -2147483648 ≤ x) (h2 : x ≤ 2147483647) : w32 x = x := w32_id ⟨h1, by omega⟩
theorem fin0_4 : ((0 : Fin 4) : Nat) = 0 := rfl
theorem fin1_4 : ((1 : Fin 4) : Nat) = 1 := rfl
theorem fin2_4 : ((2 : Fin 4) : Nat) = 2 := rfl
theorem fin3_4 : ((3 : Fin 4) : Nat) = 3 := rfl
theorem w32_1 : w32 1 = 1 := w32_id ⟨by decide, by decide⟩
theorem w32_m1 : w32 (-1) = -1 := w32_id ⟨by decide, by decide⟩
theorem w32_s {q : Nat} (h : q < 2147483647) : w32 ((q : Int) + 1) = ((q + 1 : Nat) : Int) := by
  rw [w32_b (by omega) (by omega)]
  omega
theorem w32_n {a c : Nat} (h : a + c < 2147483648) : w32 ((a : Int) + (c : Int)) = ((a + c : Nat) : Int) := by
  rw [w32_b (by omega) (by omega)]
  omega
theorem am_A_nat {f : Nat → Int} {M w : Nat} (h : w < M) : am_A f M (w : Int) = f w := by
  unfold am_A
  rw [if_pos ⟨by omega, by omega⟩, Int.toNat_natCast]
theorem am_P_nat {M i w : Nat} {x : Int} (h : w < M) : am_P hd i M (w : Int) x = am_up hd i w x := by
  unfold am_P
  rw [if_pos ⟨by omega, by omega⟩, Int.toNat_natCast]
end
