/-! PURE: the ways of a thing along places px, from hp and back -/
def dN (a b : Nat) : Nat := (a - b) + (b - a)
def sgN (hp : Nat) (px : Nat → Nat) (i j : Nat) : Nat := dN hp (px i) + sumN (j - i) (fun t => dN (px (i + t)) (px (i + t + 1))) + dN (px j) hp
def isWf (hp : Nat) (px : Nat → Nat) (hands : Nat) : Nat → Nat → Nat → Prop
  | 0, k, c => k = 0 ∧ c = 0
  | f + 1, k, c => (k = 0 ∧ c = 0) ∨ ∃ i c', i < k ∧ k - i ≤ hands ∧ isWf hp px hands f i c' ∧ c = c' + sgN hp px i (k - 1) * 4096 + 64 + 2 ^ (k - 1)
/-- c is the number of a way along the first k places -/
def isW (hp : Nat) (px : Nat → Nat) (hands k c : Nat) : Prop := ∃ f, isWf hp px hands f k c
section
variable {hp hands : Nat} {px : Nat → Nat}
theorem isW_0 {c : Nat} : isW hp px hands 0 c ↔ c = 0 := by
  constructor
  · rintro ⟨f, h⟩
    cases f with
    | zero => exact h.2
    | succ f =>
      rcases h with h | ⟨i, c', h, _⟩
      · exact h.2
      · omega
  · intro h
    exact ⟨0, rfl, h⟩
theorem isW_s {k c : Nat} (hk : 0 < k) : isW hp px hands k c ↔ ∃ i c', i < k ∧ k - i ≤ hands ∧ isW hp px hands i c' ∧ c = c' + sgN hp px i (k - 1) * 4096 + 64 + 2 ^ (k - 1) := by
  constructor
  · rintro ⟨f, h⟩
    cases f with
    | zero => exact absurd h.1 (by omega)
    | succ f =>
      rcases h with h | ⟨i, c', a, e, g, l⟩
      · omega
      · exact ⟨i, c', a, e, ⟨f, g⟩, l⟩
  · rintro ⟨i, c', a, e, ⟨f, g⟩, l⟩
    exact ⟨f + 1, Or.inr ⟨i, c', a, e, g, l⟩⟩
def isLw (hp : Nat) (px : Nat → Nat) (hands k v : Nat) : Prop := isW hp px hands k v ∧ ∀ c, isW hp px hands k c → v ≤ c
theorem isLw_eq {k v v' : Nat} (h : isLw hp px hands k v) (h' : isLw hp px hands k v') : v = v' := Nat.le_antisymm (h.2 v' h'.1) (h'.2 v h.1)
/-- the model's step behind its i-th want, and its sums -/
def stpN (hp : Nat) (px : Nat → Nat) (b i : Nat) : Nat := if b.testBit i = true then dN (px i) hp + dN hp (px (i + 1)) else dN (px i) (px (i + 1))
def arrN (hp : Nat) (px : Nat → Nat) (b i : Nat) : Nat := dN hp (px 0) + sumN i (stpN hp px b)
def popB (b i : Nat) : Nat := sumN i (fun j => if b.testBit j = true then 1 else 0)
def stB (b : Nat) : Nat → Nat
  | 0 => 0
  | i + 1 => if b.testBit i = true then i + 1 else stB b i
def onB (b i : Nat) : Nat := i - stB b i + 1
/-- the number of the way that b tells, the last want being the i-th -/
def codB (hp : Nat) (px : Nat → Nat) (b i : Nat) : Nat := 4096 * (arrN hp px b i + dN (px i) hp) + 64 * (popB b i + 1) + (b % 2 ^ i + 2 ^ i)
theorem mod_succ_t {b i : Nat} (h : b.testBit i = true) : b % 2 ^ (i + 1) = b % 2 ^ i + 2 ^ i := by
  rw [Nat.mod_pow_succ]
  rw [Nat.testBit_eq_decide_div_mod_eq, decide_eq_true_iff] at h
  rw [h, Nat.mul_one]
theorem mod_succ_f {b i : Nat} (h : ¬ b.testBit i = true) : b % 2 ^ (i + 1) = b % 2 ^ i := by
  rw [Nat.mod_pow_succ]
  rw [Nat.testBit_eq_decide_div_mod_eq, decide_eq_true_iff] at h
  rw [show b / 2 ^ i % 2 = 0 by omega, Nat.mul_zero, Nat.add_zero]
theorem arrN_s {b i : Nat} : arrN hp px b (i + 1) = arrN hp px b i + stpN hp px b i := by
  unfold arrN
  rw [sumN_s]
  omega
theorem popB_s {b i : Nat} : popB b (i + 1) = popB b i + (if b.testBit i = true then 1 else 0) := rfl
theorem way_P {b : Nat} : ∀ i : Nat, stB b i ≤ i ∧ (stB b i = 0 → arrN hp px b i = dN hp (px 0) + sumN i (fun t => dN (px (0 + t)) (px (0 + t + 1))) ∧ popB b i = 0 ∧ b % 2 ^ i = 0) ∧ (∀ s, stB b i = s + 1 → b.testBit s = true ∧ arrN hp px b i = arrN hp px b s + dN (px s) hp + dN hp (px (s + 1)) + sumN (i - (s + 1)) (fun t => dN (px (s + 1 + t)) (px (s + 1 + t + 1))) ∧ popB b i = popB b s + 1 ∧ b % 2 ^ i = b % 2 ^ s + 2 ^ s)
  | 0 => by
    refine ⟨Nat.le_refl _, fun _ => ⟨rfl, rfl, Nat.mod_one b⟩, fun s h => ?_⟩
    exact absurd h (by simp [stB])
  | i + 1 => by
    obtain ⟨h1, h2, h3⟩ := way_P (b := b) i
    by_cases hb : b.testBit i = true
    · have e : stB b (i + 1) = i + 1 := by
        unfold stB
        rw [if_pos hb]
      rw [e]
      refine ⟨Nat.le_refl _, fun h => by omega, fun s h => ?_⟩
      have es : s = i := by omega
      subst es
      refine ⟨hb, ?_, ?_, mod_succ_t hb⟩
      · rw [arrN_s, Nat.sub_self]
        unfold stpN
        rw [if_pos hb]
        show _ = _ + 0
        omega
      · rw [popB_s, if_pos hb]
    · have e : stB b (i + 1) = stB b i := by
        show (if _ then _ else _) = _
        rw [if_neg hb]
      have es : stpN hp px b i = dN (px i) (px (i + 1)) := by
        unfold stpN
        rw [if_neg hb]
      have ep : popB b (i + 1) = popB b i := by
        rw [popB_s, if_neg hb]
        rfl
      rw [e]
      refine ⟨by omega, fun h => ?_, fun s h => ?_⟩
      · obtain ⟨a, c, f⟩ := h2 h
        refine ⟨?_, by rw [ep, c], by rw [mod_succ_f hb, f]⟩
        rw [arrN_s, a, es, sumN_s, Nat.zero_add]
        omega
      · obtain ⟨g, a, c, f⟩ := h3 s h
        refine ⟨g, ?_, by rw [ep, c], by rw [mod_succ_f hb, f]⟩
        rw [arrN_s, a, es, show i + 1 - (s + 1) = (i - (s + 1)) + 1 by omega, sumN_s, show s + 1 + (i - (s + 1)) = i by omega]
        omega
/-- what the model looks at is a way -/
theorem way_A {b : Nat} : ∀ i : Nat, (∀ j, j ≤ i → onB b j ≤ hands) → isW hp px hands (i + 1) (codB hp px b i) := by
  intro i
  induction i using Nat.strongRecOn with
  | _ i ih =>
    intro hv
    obtain ⟨h1, h2, h3⟩ := way_P (hp := hp) (px := px) (b := b) i
    have ho := hv i (Nat.le_refl i)
    unfold onB at ho
    rw [isW_s (by omega)]
    by_cases h0 : stB b i = 0
    · obtain ⟨a, c, f⟩ := h2 h0
      refine ⟨0, 0, by omega, by omega, isW_0.mpr rfl, ?_⟩
      unfold codB sgN
      rw [a, c, f, show i + 1 - 1 = i from rfl, Nat.sub_zero]
      omega
    · obtain ⟨s, hs⟩ : ∃ s, stB b i = s + 1 := ⟨stB b i - 1, by omega⟩
      obtain ⟨g, a, c, f⟩ := h3 s hs
      refine ⟨s + 1, codB hp px b s, by omega, by omega, ih s (by omega) (fun j hj => hv j (by omega)), ?_⟩
      unfold codB sgN
      rw [a, c, f, show i + 1 - 1 = i from rfl]
      omega
theorem agree_P {b b' : Nat} : ∀ i : Nat, (∀ j, j < i → b.testBit j = b'.testBit j) → arrN hp px b i = arrN hp px b' i ∧ popB b i = popB b' i ∧ stB b i = stB b' i ∧ b % 2 ^ i = b' % 2 ^ i
  | 0, _ => ⟨rfl, rfl, rfl, by rw [Nat.pow_zero, Nat.mod_one, Nat.mod_one]⟩
  | i + 1, h => by
    obtain ⟨a, c, e, f⟩ := agree_P i (fun j hj => h j (by omega))
    have hi := h i (by omega)
    refine ⟨?_, ?_, ?_, ?_⟩
    · rw [arrN_s, arrN_s, a]
      unfold stpN
      rw [hi]
    · rw [popB_s, popB_s, c, hi]
    · unfold stB
      rw [hi, e]
    · by_cases hb : b.testBit i = true
      · rw [mod_succ_t hb, mod_succ_t (by rw [← hi]; exact hb), f]
      · rw [mod_succ_f hb, mod_succ_f (by rw [← hi]; exact hb), f]
/-- every way is one that the model looks at -/
theorem way_B : ∀ (i c : Nat), isW hp px hands (i + 1) c → ∃ b, b < 2 ^ i ∧ (∀ j, j ≤ i → onB b j ≤ hands) ∧ c = codB hp px b i := by
  intro i
  induction i using Nat.strongRecOn with
  | _ i ih =>
    intro c hc
    obtain ⟨f, c', h1, h2, h3, h4⟩ := (isW_s (by omega)).mp hc
    rw [show i + 1 - 1 = i from rfl] at h4
    cases f with
    | zero =>
      rw [isW_0] at h3
      have z : ∀ j, stB 0 j = 0 := by
        intro j
        induction j with
        | zero => rfl
        | succ j ihj =>
          unfold stB
          rw [if_neg (by simp), ihj]
      refine ⟨0, Nat.two_pow_pos i, fun j hj => ?_, ?_⟩
      · unfold onB
        rw [z]
        omega
      · obtain ⟨a, c2, f2⟩ := (way_P (hp := hp) (px := px) (b := 0) i).2.1 (z i)
        unfold codB
        rw [a, c2, f2, h4, h3]
        unfold sgN
        rw [Nat.sub_zero]
        omega
    | succ s =>
      obtain ⟨b', hb1, hb2, hb3⟩ := ih s (by omega) c' h3
      have bit : ∀ j, (2 ^ s + b').testBit j = if j < s then b'.testBit j else decide (j = s) := by
        intro j
        by_cases hj : j < s
        · rw [if_pos hj, Nat.testBit_two_pow_add_gt hj]
        · rw [if_neg hj]
          by_cases hj2 : j = s
          · subst hj2
            rw [Nat.testBit_two_pow_add_eq, Nat.testBit_lt_two_pow hb1]
            simp
          · rw [Nat.testBit_lt_two_pow (Nat.lt_of_lt_of_le (show 2 ^ s + b' < 2 ^ (s + 1) by rw [Nat.pow_succ]; omega) (Nat.pow_le_pow_right (by decide) (by omega)))]
            simp [hj2]
      have ag : ∀ j, j ≤ s → arrN hp px (2 ^ s + b') j = arrN hp px b' j ∧ popB (2 ^ s + b') j = popB b' j ∧ stB (2 ^ s + b') j = stB b' j ∧ (2 ^ s + b') % 2 ^ j = b' % 2 ^ j := fun j hj => agree_P j (fun t ht => by rw [bit t, if_pos (by omega)])
      have st : ∀ j, s < j → stB (2 ^ s + b') j = s + 1 := by
        intro j
        induction j with
        | zero => intro h; omega
        | succ j ihj =>
          intro h
          have e : (2 ^ s + b').testBit j = decide (j = s) := by rw [bit j, if_neg (by omega)]
          unfold stB
          by_cases hj : j = s
          · rw [if_pos (by rw [e]; simpa using hj), hj]
          · rw [if_neg (by rw [e]; simpa using hj)]
            exact ihj (by omega)
      refine ⟨2 ^ s + b', ?_, fun j hj => ?_, ?_⟩
      · have : 2 ^ (s + 1) ≤ 2 ^ i := Nat.pow_le_pow_right (by decide) (by omega)
        rw [Nat.pow_succ] at this
        omega
      · by_cases hjs : j ≤ s
        · have := hb2 j hjs
          unfold onB at *
          rw [(ag j hjs).2.2.1]
          exact this
        · unfold onB
          rw [st j (by omega)]
          omega
      · obtain ⟨g, a, c2, f2⟩ := (way_P (hp := hp) (px := px) (b := 2 ^ s + b') i).2.2 s (st i (by omega))
        obtain ⟨a1, a2, a3, a4⟩ := ag s (Nat.le_refl s)
        unfold codB
        rw [a, c2, f2, a1, a2, a4, h4, hb3]
        unfold codB sgN
        omega
/-- numbers of ways are small -/
theorem way_le (hh : 1 ≤ hands) (hd : ∀ a c, dN (px a) (px c) ≤ 99 ∧ dN hp (px a) ≤ 99 ∧ dN (px a) hp ≤ 99) : ∀ k : Nat, k ≤ 6 → ∃ c, isW hp px hands k c ∧ c ≤ k * 900000
  | 0, _ => ⟨0, isW_0.mpr rfl, by omega⟩
  | k + 1, hk => by
    obtain ⟨c, h1, h2⟩ := way_le hh hd k (by omega)
    refine ⟨c + sgN hp px k (k + 1 - 1) * 4096 + 64 + 2 ^ (k + 1 - 1), (isW_s (by omega)).mpr ⟨k, c, by omega, by omega, h1, rfl⟩, ?_⟩
    have e1 : sgN hp px k (k + 1 - 1) ≤ 198 := by
      have a1 := (hd k k).2.1
      have a2 := (hd k k).2.2
      unfold sgN
      rw [show k + 1 - 1 = k from rfl, Nat.sub_self]
      show _ + 0 + _ ≤ _
      omega
    have e2 : 2 ^ (k + 1 - 1) ≤ 2 ^ 6 := Nat.pow_le_pow_right (by decide) (by omega)
    rw [show (2 : Nat) ^ 6 = 64 from rfl] at e2
    omega
end
