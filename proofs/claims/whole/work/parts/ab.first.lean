/-! THE FIRST STATE: the relation -/
def hdF (hd : amD) : amD := (am_up (am_up (am_up (am_up (am_up (am_up (am_up (am_up (am_up (am_up (am_up (am_up (am_up (am_up (am_up (am_up (am_up (am_up (am_up (am_up (am_up (am_up (am_up (am_up (am_up (am_up (am_up (am_up (am_up (am_up (am_up (am_up (am_up (am_up (am_up (am_up (am_up (am_up (am_up (am_up (am_up (am_up (am_up (am_up (am_up (am_up (am_up (am_up (am_up (am_up (am_up (am_up (am_up (am_up (am_up (am_up (am_up (am_up (am_up (am_up (am_up hd 18 1 0) 20 1 0) 20 2 0) 20 3 0) 20 4 0) 20 5 0) 21 3 0) 21 4 0) 21 5 0) 21 6 0) 21 7 0) 26 7 0) 26 8 0) 26 9 (-1)) 26 10 (-1)) 26 11 0) 26 12 (-1)) 26 13 0) 38 4 0) 42 7 0) 34 6 0) 34 7 0) 34 8 0) 52 0 0) 52 1 0) 53 3 0) 53 4 0) 53 5 0) 53 6 0) 53 7 0) 58 13 0) 58 14 0) 58 15 0) 58 16 0) 58 17 (-1)) 58 18 (-1)) 72 13 0) 72 14 0) 72 15 0) 72 16 0) 72 17 (-1)) 72 18 (-1)) 17 11 0) 86 3 0) 86 4 0) 86 5 0) 86 6 0) 86 7 0) 90 3 0) 90 4 0) 90 5 0) 90 6 0) 90 7 0) 94 3 0) 94 4 0) 94 5 0) 94 6 0) 94 7 0) 98 30 (-1)) 98 31 (-1)) 98 33 (-1))
section
variable {Lx : Nat} {xs : Nat → Int32}
theorem f_18_1 : hdF (am_hd0 Lx xs) 18 1 = 0 := by rfl
theorem f_98_2 : hdF (am_hd0 Lx xs) 98 2 = 0 := by rfl
theorem f_58_13 : hdF (am_hd0 Lx xs) 58 13 = 0 := by rfl
theorem f_58_14 : hdF (am_hd0 Lx xs) 58 14 = 0 := by rfl
theorem f_58_15 : hdF (am_hd0 Lx xs) 58 15 = 0 := by rfl
theorem f_58_16 : hdF (am_hd0 Lx xs) 58 16 = 0 := by rfl
theorem f_58_17 : hdF (am_hd0 Lx xs) 58 17 = -1 := by rfl
theorem f_58_18 : hdF (am_hd0 Lx xs) 58 18 = -1 := by rfl
theorem f_132_0 : hdF (am_hd0 Lx xs) 132 0 = 0 := by rfl
theorem f_132_1 : hdF (am_hd0 Lx xs) 132 1 = 0 := by rfl
theorem f_132_2 : hdF (am_hd0 Lx xs) 132 2 = 0 := by rfl
theorem f_132_3 : hdF (am_hd0 Lx xs) 132 3 = 0 := by rfl
theorem f_98_19 : hdF (am_hd0 Lx xs) 98 19 = 0 := by rfl
theorem f_17_11 : hdF (am_hd0 Lx xs) 17 11 = 0 := by rfl
theorem f_21_3 : hdF (am_hd0 Lx xs) 21 3 = 0 := by rfl
theorem f_21_4 : hdF (am_hd0 Lx xs) 21 4 = 0 := by rfl
theorem f_21_5 : hdF (am_hd0 Lx xs) 21 5 = 0 := by rfl
theorem f_21_6 : hdF (am_hd0 Lx xs) 21 6 = 0 := by rfl
theorem f_98_27 : hdF (am_hd0 Lx xs) 98 27 = 0 := by rfl
theorem f_98_28 : hdF (am_hd0 Lx xs) 98 28 = 0 := by rfl
theorem f_98_29 : hdF (am_hd0 Lx xs) 98 29 = 0 := by rfl
theorem f_57_0 : hdF (am_hd0 Lx xs) 57 0 = 0 := by rfl
theorem f_57_1 : hdF (am_hd0 Lx xs) 57 1 = 0 := by rfl
theorem f_57_2 : hdF (am_hd0 Lx xs) 57 2 = 0 := by rfl
theorem f_99_0 : hdF (am_hd0 Lx xs) 99 0 = 0 := by rfl
theorem f_99_1 : hdF (am_hd0 Lx xs) 99 1 = 0 := by rfl
theorem f_99_2 : hdF (am_hd0 Lx xs) 99 2 = 0 := by rfl
theorem f_86_7 : hdF (am_hd0 Lx xs) 86 7 = 0 := by rfl
theorem f_90_7 : hdF (am_hd0 Lx xs) 90 7 = 0 := by rfl
theorem f_94_7 : hdF (am_hd0 Lx xs) 94 7 = 0 := by rfl
theorem f_158_0 : hdF (am_hd0 Lx xs) 158 0 = 0 := by rfl
theorem f_158_1 : hdF (am_hd0 Lx xs) 158 1 = 0 := by rfl
theorem f_158_2 : hdF (am_hd0 Lx xs) 158 2 = 0 := by rfl
theorem f_53_3 : hdF (am_hd0 Lx xs) 53 3 = 0 := by rfl
theorem f_53_4 : hdF (am_hd0 Lx xs) 53 4 = 0 := by rfl
theorem f_98_55 : hdF (am_hd0 Lx xs) 98 55 = 0 := by rfl
theorem f_34_6 : hdF (am_hd0 Lx xs) 34 6 = 0 := by rfl
theorem f_26_9 : hdF (am_hd0 Lx xs) 26 9 = -1 := by rfl
theorem f_26_10 : hdF (am_hd0 Lx xs) 26 10 = -1 := by rfl
theorem f_26_11 : hdF (am_hd0 Lx xs) 26 11 = 0 := by rfl
theorem f_98_30 : hdF (am_hd0 Lx xs) 98 30 = -1 := by rfl
theorem f_98_31 : hdF (am_hd0 Lx xs) 98 31 = -1 := by rfl
theorem f_98_33 : hdF (am_hd0 Lx xs) 98 33 = -1 := by rfl
theorem f_98_32 : hdF (am_hd0 Lx xs) 98 32 = 0 := by rfl
theorem f_low {hd : amD} {i : Nat} (h : i < 17) : hdF hd i = hd i := by
  unfold hdF
  repeat rw [up_ne (by omega)]
theorem strB_0 : strB (am_hd0 Lx xs) := by
  intro w hw
  have h7 : w = 0 ∨ w = 1 ∨ w = 2 ∨ w = 3 ∨ w = 4 ∨ w = 5 ∨ w = 6 := by omega
  rcases h7 with rfl | rfl | rfl | rfl | rfl | rfl | rfl <;> exact ⟨rfl, fun i => rfl⟩
theorem RL_first : RLx (am_hd0 Lx xs) false (hdF (am_hd0 Lx xs)) := by
  have hk := emptL_ok
  refine ⟨fun _ => 0, 0, emptL, (fun _ _ => 0), (fun _ _ => 0), 0, 0, ⟨fun i hi => f_low hi, ⟨f_18_1, by omega, fun j hj => absurd hj (Nat.not_lt_zero j)⟩, ⟨f_98_2, by omega, fun j hj => absurd hj (Nat.not_lt_zero j)⟩⟩, ⟨?_, ?_, hk.2.1⟩, ⟨by rw [f_17_11, f_98_19], Or.inl ⟨f_98_19, rfl⟩⟩, ⟨⟨⟨Nat.zero_le _, Nat.zero_le _, by decide⟩, fun t ht => absurd ht (Nat.not_lt_zero t)⟩, ⟨f_21_3, f_21_5, f_21_6, fun t ht => absurd ht (Nat.not_lt_zero t)⟩, ⟨f_98_27, f_98_29, fun t ht => absurd ht (Nat.not_lt_zero t)⟩, by rw [f_98_28, f_21_4], by rw [f_21_4]; exact ⟨by omega, by omega⟩, fun t ht => absurd ht (by simp)⟩, ?_, ⟨fun k hk3 => Or.inl ?_, fun k hk3 h7 => ?_⟩, ⟨⟨f_53_3, f_98_55, by omega⟩, fun i hi => absurd hi (Nat.not_lt_zero i), fun h => absurd h (Nat.not_lt_zero 0), Or.inl f_53_4⟩, ⟨Or.inl f_34_6, f_26_9, f_26_10, f_26_11⟩, f_98_30, f_98_31, f_98_33, f_98_32, by omega⟩
  · exact ⟨hk.1, ⟨f_58_13, f_58_14, f_58_15, f_58_16⟩, ⟨Or.inr ⟨f_58_17, rfl⟩, Or.inr ⟨f_58_18, rfl⟩⟩, fun i hi => absurd hi (Nat.not_lt_zero i), fun i hi => absurd hi (Nat.not_lt_zero i), fun i hi => absurd hi (Nat.not_lt_zero i), fun i hi => absurd hi (Nat.not_lt_zero i), fun i hi => absurd hi (Nat.not_lt_zero i), fun i hi => absurd hi (Nat.not_lt_zero i), fun i hi => absurd hi (Nat.not_lt_zero i), fun i hi => absurd hi (Nat.not_lt_zero i), fun i hi => absurd hi (Nat.not_lt_zero i), fun i hi => absurd hi (Nat.not_lt_zero i), fun i hi => absurd hi (Nat.not_lt_zero i)⟩
  · exact ⟨hk.1, ⟨f_132_0, f_132_1, f_132_2, f_132_3⟩, Or.inr ⟨f_98_19, rfl, rfl, rfl, rfl⟩, fun h => by rw [f_98_19] at h; exact absurd h (by decide), fun i hi => absurd hi (Nat.not_lt_zero i), fun i hi => absurd hi (Nat.not_lt_zero i), fun i hi => absurd hi (Nat.not_lt_zero i), fun i hi => absurd hi (Nat.not_lt_zero i), fun i hi => absurd hi (Nat.not_lt_zero i), fun i hi => absurd hi (Nat.not_lt_zero i), fun i hi => absurd hi (Nat.not_lt_zero i), fun i hi => absurd hi (Nat.not_lt_zero i), fun i hi => absurd hi (Nat.not_lt_zero i), fun i hi => absurd hi (Nat.not_lt_zero i)⟩
  · intro k hk3
    rcases (by omega : k = 0 ∨ k = 1 ∨ k = 2) with rfl | rfl | rfl
    · rw [f_57_0, f_99_0]
    · rw [f_57_1, f_99_1]
    · rw [f_57_2, f_99_2]
  · rcases (by omega : k = 0 ∨ k = 1 ∨ k = 2) with rfl | rfl | rfl
    · exact ⟨f_86_7, f_158_0⟩
    · exact ⟨f_90_7, f_158_1⟩
    · exact ⟨f_94_7, f_158_2⟩
  · exfalso
    rcases (by omega : k = 0 ∨ k = 1 ∨ k = 2) with rfl | rfl | rfl
    · rw [show 86 + 4 * 0 = 86 from rfl, f_86_7] at h7
      exact absurd h7 (by decide)
    · rw [show 86 + 4 * 1 = 90 from rfl, f_90_7] at h7
      exact absurd h7 (by decide)
    · rw [show 86 + 4 * 2 = 94 from rfl, f_94_7] at h7
      exact absurd h7 (by decide)
end
