/-! PURE: heaps -/
theorem sub_pred : ∀ (h all s : Nat), h &&& all = h → s &&& all = s → s < h → s ≤ (h - 1) &&& all := by
  intro h
  induction h using Nat.strongRecOn with
  | _ h ih =>
    intro all s h1 h2 h3
    have a1 : h / 2 &&& all / 2 = h / 2 := by rw [← Nat.and_div_two, h1]
    have a2 : s / 2 &&& all / 2 = s / 2 := by rw [← Nat.and_div_two, h2]
    have a3 : s % 2 = 1 → all % 2 = 1 := fun hs => (Nat.and_mod_two_eq_one.mp (by rw [h2]; exact hs)).2
    have b1 : ((h - 1) &&& all) / 2 = (h - 1) / 2 &&& all / 2 := Nat.and_div_two
    have b2 : ((h - 1) &&& all) % 2 = 1 ↔ (h - 1) % 2 = 1 ∧ all % 2 = 1 := Nat.and_mod_two_eq_one
    by_cases ho : h % 2 = 1
    · have e1 : (h - 1) / 2 = h / 2 := by omega
      rw [e1, a1] at b1
      omega
    · have e1 : (h - 1) / 2 = h / 2 - 1 := by omega
      have := ih (h / 2) (by omega) (all / 2) (s / 2) a1 a2 (by omega)
      rw [e1] at b1
      by_cases hs : s % 2 = 1
      · have := a3 hs
        have : ((h - 1) &&& all) % 2 = 1 := b2.mpr ⟨by omega, this⟩
        omega
      · omega
theorem sub_iff {a b : Nat} : a &&& b = a ↔ ∀ i, a.testBit i = true → b.testBit i = true := by
  constructor
  · intro h i hi
    rw [← h, Nat.testBit_and, Bool.and_eq_true] at hi
    exact hi.2
  · intro h
    apply Nat.eq_of_testBit_eq
    intro i
    rw [Nat.testBit_and]
    by_cases hi : a.testBit i = true
    · rw [hi, h i hi]
      rfl
    · simp at hi
      rw [hi]
      rfl
theorem sub_le {a b : Nat} (h : a &&& b = a) : a ≤ b := by
  rw [← h]
  exact Nat.and_le_right
def popN (m : Nat) : Nat := sumN 12 (fun i => if m.testBit i then 1 else 0)
theorem popN_le (m : Nat) : popN m ≤ 12 := sumN_le (c := 1) 12 (fun i _ => by split <;> omega)
theorem sumN_or {m w : Nat} (g : Nat → Nat) (hb : m.testBit w = false) : ∀ k : Nat, sumN k (fun i => if (m ||| 1 <<< w).testBit i then g i else 0) = sumN k (fun i => if m.testBit i then g i else 0) + (if w < k then g w else 0)
  | 0 => by simp [sumN]
  | k + 1 => by
    rw [sumN_s, sumN_s, sumN_or g hb k, Nat.testBit_or, Nat.one_shiftLeft, Nat.testBit_two_pow]
    by_cases h1 : w = k
    · subst h1
      simp [hb]
    · by_cases h2 : w < k
      · simp [h1, h2, Nat.lt_succ_of_lt h2]
        omega
      · simp [h1, h2, show ¬ w < k + 1 by omega]
theorem or_add {m w : Nat} (hb : m.testBit w = false) : m ||| 1 <<< w = m + 1 <<< w := by
  have : ∀ w m : Nat, m.testBit w = false → m ||| 1 <<< w = m + 1 <<< w := by
    intro w
    induction w with
    | zero =>
      intro m h
      rw [Nat.testBit_zero] at h
      simp at h
      show m ||| 1 = m + 1
      have h1 : (m ||| 1) / 2 = m / 2 ||| 1 / 2 := Nat.or_div_two
      have h2 : (m ||| 1) % 2 = 1 ↔ m % 2 = 1 ∨ 1 % 2 = 1 := Nat.or_mod_two_eq_one
      rw [show 1 / 2 = 0 from rfl, Nat.or_zero] at h1
      have h3 := h2.mpr (Or.inr rfl)
      omega
    | succ w ih =>
      intro m h
      rw [Nat.testBit_succ] at h
      have := ih (m / 2) h
      rw [Nat.one_shiftLeft] at this ⊢
      have e : 2 ^ (w + 1) / 2 = 2 ^ w := by rw [Nat.pow_succ]; omega
      have e2 : 2 ^ (w + 1) % 2 = 0 := by rw [Nat.pow_succ]; omega
      have h1 : (m ||| 2 ^ (w + 1)) / 2 = m / 2 ||| 2 ^ (w + 1) / 2 := Nat.or_div_two
      have h2 : (m ||| 2 ^ (w + 1)) % 2 = 1 ↔ m % 2 = 1 ∨ 2 ^ (w + 1) % 2 = 1 := Nat.or_mod_two_eq_one
      rw [e, this] at h1
      rw [e2] at h2
      have e3 : 2 ^ (w + 1) = 2 ^ w + 2 ^ w := by rw [Nat.pow_succ]; omega
      have h4 : (m ||| 2 ^ (w + 1)) % 2 = m % 2 := by
        by_cases h5 : m % 2 = 1
        · rw [h2.mpr (Or.inl h5), h5]
        · have : ¬ (m ||| 2 ^ (w + 1)) % 2 = 1 := fun h6 => by
            rcases h2.mp h6 with h7 | h7
            · exact h5 h7
            · cases h7
          omega
      omega
  exact this w m hb
/-- the order of heaps: most, then fewest, then least -/
def vN (L : Lnd) (m : Nat) : Int := 65536 * (fW L m : Int) - 4096 * (popN m : Int) - (m : Int)
theorem vN_or {L : Lnd} {m w : Nat} (hw : w < L 0 3) (h12 : L 0 3 ≤ 12) (hb : m.testBit w = false) : vN L (m ||| 1 <<< w) = vN L m + (65536 * (L 10 w : Int) - 4096 - ((1 <<< w : Nat) : Int)) := by
  have h1 : fW L (m ||| 1 <<< w) = fW L m + L 10 w := by
    unfold fW
    rw [sumN_or (L 10) hb, if_pos hw]
  have h2 : popN (m ||| 1 <<< w) = popN m + 1 := by
    unfold popN
    rw [sumN_or (fun _ => 1) hb, if_pos (by omega)]
  unfold vN
  rw [h1, h2, or_add hb]
  omega
theorem vN_inj {L : Lnd} {m m' : Nat} (h : m < 4096) (h' : m' < 4096) (e : vN L m = vN L m') : m = m' := by
  have := popN_le m
  have := popN_le m'
  unfold vN at e
  omega
theorem vN_lt {L : Lnd} {m m' : Nat} (h : m < 4096) (h' : m' < 4096) : vN L m' < vN L m ↔ fW L m' < fW L m ∨ fW L m = fW L m' ∧ (popN m < popN m' ∨ popN m = popN m' ∧ m < m') := by
  have := popN_le m
  have := popN_le m'
  unfold vN
  omega
theorem vN_zero (L : Lnd) : vN L 0 = 0 := by
  have h1 : fW L 0 = 0 := by
    unfold fW
    simp [sumN_zero]
  have h2 : popN 0 = 0 := by
    unfold popN
    simp [sumN_zero]
  unfold vN
  rw [h1, h2]
  rfl
/-- until when a want lasts, with one that lasts longer -/
def eE (L : Lnd) (long : Int) (lby w : Nat) : Nat := L 9 w + (if (w : Int) = long then lby else 0)
/-- how many of a heap are on a day -/
def cD (L : Lnd) (long : Int) (lby m d : Nat) : Nat := sumN (L 0 3) (fun w => if m.testBit w ∧ L 8 w ≤ d ∧ d < eE L long lby w then 1 else 0)
def fitP (L : Lnd) (many : Nat) (more long : Int) (lby m : Nat) : Prop := ∀ d : Nat, d < 60 → cD L long lby m d ≤ many + (if (d : Int) = more then 1 else 0)
def mustP (must : Int) (m : Nat) : Prop := ∀ w : Nat, (w : Int) = must → m.testBit w = true
/-- the best heap -/
def isBest (L : Lnd) (all many : Nat) (more long : Int) (lby : Nat) (must : Int) (m : Nat) : Prop :=
  (m &&& all = m ∧ mustP must m ∧ fitP L many more long lby m) ∧ ∀ m' : Nat, m' &&& all = m' → mustP must m' → fitP L many more long lby m' → vN L m' ≤ vN L m
theorem isBest_eq {L : Lnd} {all many : Nat} {more long : Int} {lby : Nat} {must : Int} {m m' : Nat} (ha : all < 4096) (h : isBest L all many more long lby must m) (h' : isBest L all many more long lby must m') : m = m' := by
  have e1 := h.2 m' h'.1.1 h'.1.2.1 h'.1.2.2
  have e2 := h'.2 m h.1.1 h.1.2.1 h.1.2.2
  have := sub_le h.1.1
  have := sub_le h'.1.1
  exact vN_inj (L := L) (by omega) (by omega) (by omega)
