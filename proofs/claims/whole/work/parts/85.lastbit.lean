/-! WAYS: home behind the last want -/
theorem isW_low {hp hands : Nat} {px : Nat → Nat} : ∀ (m k c : Nat), k ≤ m → k ≤ 6 → isW hp px hands k c → c % 64 < 2 ^ k
  | 0, k, c, hm, _, h => by
    have : k = 0 := by omega
    subst this
    rw [isW_0] at h
    subst h
    decide
  | m + 1, k, c, hm, h6, h => by
    by_cases k0 : k = 0
    · subst k0
      rw [isW_0] at h
      subst h
      decide
    · rw [isW_s (by omega)] at h
      obtain ⟨i, c', h1, h2, h3, h4⟩ := h
      have h5 := isW_low m i c' (by omega) (by omega) h3
      have h7 : 2 ^ i ≤ 2 ^ (k - 1) := Nat.pow_le_pow_right (by decide) (by omega)
      have h8 : 2 ^ k = 2 ^ (k - 1) + 2 ^ (k - 1) := by
        rw [show k = k - 1 + 1 by omega, Nat.pow_succ]
        simp
        omega
      have h9 : 2 ^ k ≤ 2 ^ 6 := Nat.pow_le_pow_right (by decide) h6
      omega
theorem isW_last {hp hands k c : Nat} {px : Nat → Nat} (h0 : 0 < k) (h6 : k ≤ 6) (h : isW hp px hands k c) : c.testBit (k - 1) = true := by
  rw [isW_s h0] at h
  obtain ⟨i, c', h1, h2, h3, h4⟩ := h
  have h5 := isW_low i i c' (by omega) (by omega) h3
  have h7 : 2 ^ i ≤ 2 ^ (k - 1) := Nat.pow_le_pow_right (by decide) (by omega)
  have h9 : 2 ^ (k - 1) ≤ 2 ^ 5 := Nat.pow_le_pow_right (by decide) (by omega)
  have e : c % 2 ^ 6 = 2 ^ (k - 1) + c' % 64 := by omega
  have t := Nat.testBit_mod_two_pow c 6 (k - 1)
  rw [e, Nat.testBit_two_pow_add_eq, Nat.testBit_lt_two_pow (by omega)] at t
  simp at t
  exact t.2
