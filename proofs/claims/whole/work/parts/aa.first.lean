/-! THE FIRST STATE -/
def am_ups {α : Type} (f : Nat → Nat → α) (l : List (Nat × Nat × α)) : Nat → Nat → α := l.foldl (fun g e => am_up g e.1 e.2.1 e.2.2) f
theorem ups_eq {α : Type} {R : Nat → Nat → α} : ∀ (l : List (Nat × Nat × α)) (f : Nat → Nat → α), (∀ e, e ∈ l → R e.1 e.2.1 = e.2.2) → (∀ i j, (∀ e, e ∈ l → ¬ (e.1 = i ∧ e.2.1 = j)) → f i j = R i j) → am_ups f l = R
  | [], f, _, h => by
    funext i j
    exact h i j (fun e he => by cases he)
  | e :: l, f, h1, h2 => by
    refine ups_eq l (am_up f e.1 e.2.1 e.2.2) (fun e' he => h1 e' (List.mem_cons_of_mem _ he)) (fun i j hij => ?_)
    rw [up_at]
    by_cases c : i = e.1
    · rw [if_pos c]
      by_cases c2 : j = e.2.1
      · rw [if_pos c2, c, c2]
        exact (h1 e List.mem_cons_self).symm
      · rw [if_neg c2]
        refine h2 i j (fun e' he => ?_)
        rcases List.mem_cons.mp he with rfl | he
        · intro q
          exact c2 q.2.symm
        · exact hij e' he
    · rw [if_neg c]
      refine h2 i j (fun e' he => ?_)
      rcases List.mem_cons.mp he with rfl | he
      · intro q
        exact c q.1.symm
      · exact hij e' he
def am_RL0 : List (Nat × Nat × Nat) := [(18, 0, 19), (17, 0, 18), (20, 0, 18), (17, 1, 20), (21, 0, 22), (21, 1, 23), (21, 2, 24), (17, 2, 21), (17, 3, 25), (26, 0, 27), (26, 1, 28), (26, 2, 29), (26, 3, 30), (26, 4, 31), (26, 5, 32), (26, 6, 33), (17, 4, 26), (35, 0, 36), (35, 1, 37), (34, 1, 35), (38, 1, 39), (38, 2, 40), (38, 3, 41), (38, 0, 35), (34, 2, 38), (42, 0, 43), (42, 1, 44), (42, 2, 45), (42, 3, 46), (42, 4, 47), (42, 5, 48), (42, 6, 49), (34, 3, 42), (34, 4, 50), (34, 5, 51), (34, 0, 26), (17, 5, 34), (17, 6, 52), (53, 0, 54), (53, 1, 55), (53, 2, 56), (17, 7, 53), (17, 8, 57), (58, 0, 59), (58, 1, 60), (58, 2, 61), (58, 3, 62), (58, 4, 63), (58, 5, 64), (58, 6, 65), (58, 7, 66), (58, 8, 67), (58, 9, 68), (58, 10, 69), (58, 11, 70), (58, 12, 71), (17, 9, 58), (72, 0, 73), (72, 1, 74), (72, 2, 75), (72, 3, 76), (72, 4, 77), (72, 5, 78), (72, 6, 79), (72, 7, 80), (72, 8, 81), (72, 9, 82), (72, 10, 83), (72, 11, 84), (72, 12, 85), (17, 10, 72), (86, 0, 87), (86, 1, 88), (86, 2, 89), (25, 0, 86), (90, 0, 91), (90, 1, 92), (90, 2, 93), (25, 1, 90), (94, 0, 95), (94, 1, 96), (94, 2, 97), (25, 2, 94), (98, 0, 99), (98, 1, 100), (101, 0, 102), (101, 1, 103), (98, 7, 101), (104, 0, 105), (104, 1, 106), (98, 8, 104), (107, 0, 108), (107, 1, 109), (98, 9, 107), (110, 0, 111), (110, 1, 112), (98, 10, 110), (113, 0, 114), (113, 1, 115), (98, 11, 113), (116, 0, 117), (116, 1, 118), (98, 12, 116), (119, 0, 120), (119, 1, 121), (98, 13, 119), (122, 0, 123), (122, 1, 124), (98, 14, 122), (125, 0, 126), (125, 1, 127), (98, 15, 125), (128, 0, 129), (128, 1, 130), (98, 16, 128), (131, 0, 132), (131, 1, 133), (98, 17, 131), (98, 18, 134), (135, 0, 1), (135, 1, 2), (135, 2, 3), (135, 3, 4), (135, 4, 5), (135, 5, 6), (135, 6, 7), (98, 22, 135), (98, 23, 136), (98, 24, 137), (98, 25, 138), (98, 26, 139), (98, 34, 140), (98, 35, 141), (98, 36, 142), (98, 37, 143), (98, 42, 144), (98, 43, 145), (98, 44, 146), (98, 45, 147), (98, 46, 148), (98, 48, 149), (98, 49, 150), (98, 52, 151), (98, 53, 152), (98, 54, 153), (154, 0, 155), (154, 1, 156), (154, 2, 157), (98, 57, 154), (98, 58, 158)]
theorem am_R17 {f0 i j : Nat} (h : 17 ≤ i) : am_R f0 false i j = am_R 0 false i j := by
  have h1 : ¬ i < 17 := by omega
  simp only [am_R, if_neg h1]
theorem getD_far {α : Type} (z : α) : ∀ (l : List α) (i : Nat), l.length ≤ i → l.getD i z = z
  | [], _, _ => rfl
  | a :: l, 0, h => by
    simp at h
  | a :: l, i + 1, h => getD_far z l i (by simpa using h)
theorem getD_mem {α : Type} (z : α) : ∀ (l : List α) (i : Nat), i < l.length → l.getD i z ∈ l
  | [], _, h => by
    simp at h
  | a :: l, 0, h => List.mem_cons_self
  | a :: l, i + 1, h => List.mem_cons_of_mem _ (getD_mem z l i (by simpa using h))
set_option maxRecDepth 100000 in
theorem RL0_a : (am_RL0.all fun e => decide (17 ≤ e.1) && (am_R 0 false e.1 e.2.1 == e.2.2)) = true := by decide +kernel
set_option maxRecDepth 100000 in
theorem RL0_b : ((List.range 142).all fun i => (List.range 60).all fun j => am_R 0 false (i + 17) j == 0 || am_RL0.any fun e => e.1 == i + 17 && e.2.1 == j) = true := by decide +kernel
set_option maxRecDepth 100000 in
theorem RT_len : (am_RT.all fun r => decide (r.length ≤ 60)) = true := by decide +kernel
theorem am_R0_big {i j : Nat} (h : 17 ≤ i) (hj : 60 ≤ j) : am_R 0 false i j = 0 := by
  unfold am_R
  rw [if_neg (by omega), if_neg (by omega), if_neg (by omega)]
  have hl : (am_RT.getD (i - 17) []).length ≤ 60 := by
    by_cases c : i - 17 < am_RT.length
    · exact of_decide_eq_true (List.all_eq_true.mp RT_len _ (getD_mem [] am_RT _ c))
    · rw [getD_far _ _ _ (by omega)]
      exact Nat.zero_le _
  exact getD_far _ _ _ (by omega)
theorem am_R0_far {i j : Nat} (h : 159 ≤ i) : am_R 0 false i j = 0 := by
  unfold am_R
  have hl : am_RT.length = 142 := rfl
  rw [if_neg (by omega), if_neg (by omega), if_neg (by omega), getD_far _ am_RT _ (by omega)]
  rfl
/-- the references after both constructors -/
theorem R_all {f0 : Nat} : (am_up (am_up (am_up (am_up (am_up (am_up (am_up (am_up (am_up (am_up (am_up (am_up (am_up (am_up (am_up (am_up (am_up (am_up (am_up (am_up (am_up (am_up (am_up (am_up (am_up (am_up (am_up (am_up (am_up (am_up (am_up (am_up (am_up (am_up (am_up (am_up (am_up (am_up (am_up (am_up (am_up (am_up (am_up (am_up (am_up (am_up (am_up (am_up (am_up (am_up (am_up (am_up (am_up (am_up (am_up (am_up (am_up (am_up (am_up (am_up (am_up (am_up (am_up (am_up (am_up (am_up (am_up (am_up (am_up (am_up (am_up (am_up (am_up (am_up (am_up (am_up (am_up (am_up (am_up (am_up (am_up (am_up (am_up (am_up (am_up (am_up (am_up (am_up (am_up (am_up (am_up (am_up (am_up (am_up (am_up (am_up (am_up (am_up (am_up (am_up (am_up (am_up (am_up (am_up (am_up (am_up (am_up (am_up (am_up (am_up (am_up (am_up (am_up (am_up (am_up (am_up (am_up (am_up (am_up (am_up (am_up (am_up (am_up (am_up (am_up (am_up (am_up (am_up (am_up (am_up (am_up (am_up (am_up (am_up (am_up (am_up (am_up (am_up (am_up (am_up (am_up (am_up (am_up (am_up (am_up (am_up (am_up (am_up (am_up (am_up (am_hr0 f0) 18 0 19) 17 0 18) 20 0 18) 17 1 20) 21 0 22) 21 1 23) 21 2 24) 17 2 21) 17 3 25) 26 0 27) 26 1 28) 26 2 29) 26 3 30) 26 4 31) 26 5 32) 26 6 33) 17 4 26) 35 0 36) 35 1 37) 34 1 35) 38 1 39) 38 2 40) 38 3 41) 38 0 35) 34 2 38) 42 0 43) 42 1 44) 42 2 45) 42 3 46) 42 4 47) 42 5 48) 42 6 49) 34 3 42) 34 4 50) 34 5 51) 34 0 26) 17 5 34) 17 6 52) 53 0 54) 53 1 55) 53 2 56) 17 7 53) 17 8 57) 58 0 59) 58 1 60) 58 2 61) 58 3 62) 58 4 63) 58 5 64) 58 6 65) 58 7 66) 58 8 67) 58 9 68) 58 10 69) 58 11 70) 58 12 71) 17 9 58) 72 0 73) 72 1 74) 72 2 75) 72 3 76) 72 4 77) 72 5 78) 72 6 79) 72 7 80) 72 8 81) 72 9 82) 72 10 83) 72 11 84) 72 12 85) 17 10 72) 86 0 87) 86 1 88) 86 2 89) 25 0 86) 90 0 91) 90 1 92) 90 2 93) 25 1 90) 94 0 95) 94 1 96) 94 2 97) 25 2 94) 98 0 99) 98 1 100) 101 0 102) 101 1 103) 98 7 101) 104 0 105) 104 1 106) 98 8 104) 107 0 108) 107 1 109) 98 9 107) 110 0 111) 110 1 112) 98 10 110) 113 0 114) 113 1 115) 98 11 113) 116 0 117) 116 1 118) 98 12 116) 119 0 120) 119 1 121) 98 13 119) 122 0 123) 122 1 124) 98 14 122) 125 0 126) 125 1 127) 98 15 125) 128 0 129) 128 1 130) 98 16 128) 131 0 132) 131 1 133) 98 17 131) 98 18 134) 135 0 1) 135 1 2) 135 2 3) 135 3 4) 135 4 5) 135 5 6) 135 6 7) 98 22 135) 98 23 136) 98 24 137) 98 25 138) 98 26 139) 98 34 140) 98 35 141) 98 36 142) 98 37 143) 98 42 144) 98 43 145) 98 44 146) 98 45 147) 98 46 148) 98 48 149) 98 49 150) 98 52 151) 98 53 152) 98 54 153) 154 0 155) 154 1 156) 154 2 157) 98 57 154) 98 58 158) = am_R f0 false := by
  show am_ups (am_hr0 f0) am_RL0 = am_R f0 false
  refine ups_eq _ _ (fun e he => ?_) (fun i j hij => ?_)
  · have h1 := List.all_eq_true.mp RL0_a e he
    rw [Bool.and_eq_true] at h1
    rw [am_R17 (of_decide_eq_true h1.1)]
    exact eq_of_beq h1.2
  · by_cases c : i < 17
    · unfold am_R
      rw [if_pos c]
    · have e0 : am_hr0 f0 i j = 0 := by
        unfold am_hr0
        rw [if_neg (by omega), if_neg (by omega)]
      rw [e0, am_R17 (by omega)]
      by_cases c1 : i < 159
      · by_cases c2 : j < 60
        · have h1 := List.all_eq_true.mp (List.all_eq_true.mp RL0_b (i - 17) (List.mem_range.mpr (by omega))) j (List.mem_range.mpr c2)
          rw [show i - 17 + 17 = i by omega, Bool.or_eq_true] at h1
          rcases h1 with h1 | h1
          · exact (eq_of_beq h1).symm
          · obtain ⟨e, h2, h3⟩ := List.any_eq_true.mp h1
            rw [Bool.and_eq_true] at h3
            exact absurd ⟨eq_of_beq h3.1, eq_of_beq h3.2⟩ (hij e h2)
        · exact (am_R0_big (by omega) (by omega)).symm
      · exact (am_R0_far (by omega)).symm
