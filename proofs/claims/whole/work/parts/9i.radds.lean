/-! READING: what a line adds, pure -/
def addP (L : Lnd) (nm x : Nat) : Lnd := am_up (am_up (am_up (am_up L 12 (L 0 0) nm) 1 (L 0 0) x) 2 (L 0 0) 0) 0 0 (L 0 0 + 1)
def addS (L : Lnd) (nm x : Nat) : Lnd := am_up (am_up (am_up L 13 (L 0 1) nm) 3 (L 0 1) x) 0 1 (L 0 1 + 1)
def addT (L : Lnd) (s p : Nat) : Lnd := am_up (am_up (am_up L 4 (L 0 2) s) 5 (L 0 2) p) 0 2 (L 0 2 + 1)
/-- where the want that comes stands by first days -/
def posO (L : Lnd) (a : Nat) : Nat → Nat
  | 0 => 0
  | i + 1 => if a < L 8 (L 11 i) then posO L a i else i + 1
def insO (L : Lnd) (a W : Nat) : Nat → Nat := fun i => if i < posO L a W then L 11 i else if i = posO L a W then W else L 11 (i - 1)
def addW (L : Lnd) (p s a c x : Nat) : Lnd := am_up (am_row (am_up (am_up (am_up (am_up (am_up L 6 (L 0 3) p) 7 (L 0 3) s) 8 (L 0 3) a) 9 (L 0 3) c) 10 (L 0 3) x) 11 (insO L a (L 0 3))) 0 3 (L 0 3 + 1)
def addH (L : Lnd) (v : Nat) : Lnd := am_up (am_up L 0 4 v) 0 6 1
def addR (L : Lnd) (v : Nat) : Lnd := am_up (am_up L 0 5 v) 0 7 1
def addE (L : Lnd) (p q : Nat) : Lnd := am_up L 2 p (q + 1)
def emptL : Lnd := fun r i => if r = 0 then (if i = 4 then 9 else if i = 5 then 20 else 0) else 0
/-- all that holds of a land that is being read -/
def LkP (L : Lnd) : Prop := Lok L ∧ (∀ p, L 1 p ≤ 99) ∧ nkP L ∧ (L 0 6 = 0 ∧ L 0 4 = 9 ∨ L 0 6 = 1) ∧ (L 0 7 = 0 ∧ L 0 5 = 20 ∨ L 0 7 = 1)
section
variable {L : Lnd} {nm x s p q a c v : Nat}
theorem addP_0 (k : Nat) : addP L nm x 0 k = if k = 0 then L 0 0 + 1 else L 0 k := by simp [addP, up_at]
theorem addP_1 (i : Nat) : addP L nm x 1 i = if i = L 0 0 then x else L 1 i := by simp [addP, up_at]
theorem addP_2 (i : Nat) : addP L nm x 2 i = if i = L 0 0 then 0 else L 2 i := by simp [addP, up_at]
theorem addP_12 (i : Nat) : addP L nm x 12 i = if i = L 0 0 then nm else L 12 i := by simp [addP, up_at]
theorem addP_r {r : Nat} (h0 : r ≠ 0) (h1 : r ≠ 1) (h2 : r ≠ 2) (h3 : r ≠ 12) : addP L nm x r = L r := by
  unfold addP
  rw [up_ne h0, up_ne h2, up_ne h1, up_ne h3]
theorem addS_0 (k : Nat) : addS L nm x 0 k = if k = 1 then L 0 1 + 1 else L 0 k := by simp [addS, up_at]
theorem addS_3 (i : Nat) : addS L nm x 3 i = if i = L 0 1 then x else L 3 i := by simp [addS, up_at]
theorem addS_13 (i : Nat) : addS L nm x 13 i = if i = L 0 1 then nm else L 13 i := by simp [addS, up_at]
theorem addS_r {r : Nat} (h0 : r ≠ 0) (h1 : r ≠ 3) (h3 : r ≠ 13) : addS L nm x r = L r := by
  unfold addS
  rw [up_ne h0, up_ne h1, up_ne h3]
theorem addT_0 (k : Nat) : addT L s p 0 k = if k = 2 then L 0 2 + 1 else L 0 k := by simp [addT, up_at]
theorem addT_4 (i : Nat) : addT L s p 4 i = if i = L 0 2 then s else L 4 i := by simp [addT, up_at]
theorem addT_5 (i : Nat) : addT L s p 5 i = if i = L 0 2 then p else L 5 i := by simp [addT, up_at]
theorem addT_r {r : Nat} (h0 : r ≠ 0) (h1 : r ≠ 4) (h3 : r ≠ 5) : addT L s p r = L r := by
  unfold addT
  rw [up_ne h0, up_ne h3, up_ne h1]
theorem addW_0 (k : Nat) : addW L p s a c x 0 k = if k = 3 then L 0 3 + 1 else L 0 k := by simp [addW, up_at, am_row]
theorem addW_6 (i : Nat) : addW L p s a c x 6 i = if i = L 0 3 then p else L 6 i := by simp [addW, up_at, am_row]
theorem addW_7 (i : Nat) : addW L p s a c x 7 i = if i = L 0 3 then s else L 7 i := by simp [addW, up_at, am_row]
theorem addW_8 (i : Nat) : addW L p s a c x 8 i = if i = L 0 3 then a else L 8 i := by simp [addW, up_at, am_row]
theorem addW_9 (i : Nat) : addW L p s a c x 9 i = if i = L 0 3 then c else L 9 i := by simp [addW, up_at, am_row]
theorem addW_10 (i : Nat) : addW L p s a c x 10 i = if i = L 0 3 then x else L 10 i := by simp [addW, up_at, am_row]
theorem addW_11 (i : Nat) : addW L p s a c x 11 i = insO L a (L 0 3) i := by simp [addW, up_at, am_row]
theorem addW_r {r : Nat} (h0 : r ≠ 0) (h6 : r < 6 ∨ 11 < r) : addW L p s a c x r = L r := by
  unfold addW
  rw [up_ne h0]
  unfold am_row
  rw [if_neg (by omega), up_ne (by omega), up_ne (by omega), up_ne (by omega), up_ne (by omega), up_ne (by omega)]
theorem emptL_ok : LkP emptL := by
  refine ⟨⟨by decide, fun p hp => ?_, fun p hp => ?_, fun p hp => ?_, fun p hp => ?_, fun p hp => ?_, fun p hp => ?_, fun i j hij hj => ?_⟩, fun p => Nat.zero_le _, ⟨fun p hp => ?_, fun p hp => ?_⟩, Or.inl ⟨rfl, rfl⟩, Or.inl ⟨rfl, rfl⟩⟩
  · exact absurd hp (Nat.not_lt_zero p)
  · exact absurd hp (Nat.not_lt_zero p)
  · exact absurd hp (Nat.not_lt_zero p)
  · exact absurd hp (Nat.not_lt_zero p)
  · exact absurd hp (Nat.not_lt_zero p)
  · exact absurd hp (Nat.not_lt_zero p)
  · exact absurd hj (Nat.not_lt_zero j)
  · exact absurd hp (Nat.not_lt_zero p)
  · exact absurd hp (Nat.not_lt_zero p)
theorem addP_ok (h : LkP L) (h8 : L 0 0 < 8) (hx : x ≤ 99) (hnm : (∀ w, w < 7 → nm ≠ kwN w) ∧ nm < 1099511627776) : LkP (addP L nm x) := by
  obtain ⟨⟨k1, k2, k3, k4, k5, k6, k7, k8⟩, a1, ⟨n1, n2⟩, f1, f2⟩ := h
  refine ⟨⟨?_, fun p hp => ?_, ?_, fun t ht => ?_, fun w hw => ?_, ?_, ?_, ?_⟩, fun p => ?_, ⟨fun i hi => ?_, ?_⟩, ?_, ?_⟩
  · simp only [addP_0]
    simp only [if_pos, if_neg (show ¬ (1 : Nat) = 0 by decide), if_neg (show ¬ (2 : Nat) = 0 by decide), if_neg (show ¬ (3 : Nat) = 0 by decide), if_neg (show ¬ (4 : Nat) = 0 by decide), if_neg (show ¬ (5 : Nat) = 0 by decide)]
    omega
  · rw [addP_0, if_pos rfl] at hp ⊢
    rw [addP_1, addP_2]
    by_cases e : p = L 0 0
    · rw [if_pos e, if_pos e]
      omega
    · rw [if_neg e, if_neg e]
      have := k2 p (by omega)
      omega
  · rw [addP_0, if_neg (by decide), addP_r (by decide) (by decide) (by decide) (by decide)]
    exact k3
  · rw [addP_0, if_neg (by decide)] at ht
    rw [addP_0, addP_0, if_neg (by decide), if_pos rfl, addP_r (by decide) (by decide) (by decide) (by decide), addP_r (by decide) (by decide) (by decide) (by decide)]
    have := k4 t ht
    omega
  · rw [addP_0, if_neg (by decide)] at hw
    rw [addP_0, addP_0, if_neg (show ¬ (1 : Nat) = 0 by decide), if_pos rfl, addP_r (by decide) (by decide) (by decide) (by decide), addP_r (by decide) (by decide) (by decide) (by decide), addP_r (by decide) (by decide) (by decide) (by decide), addP_r (by decide) (by decide) (by decide) (by decide), addP_r (by decide) (by decide) (by decide) (by decide)]
    have := k5 w hw
    omega
  · rw [addP_0, addP_0, addP_0, if_neg (by decide), if_neg (by decide), if_neg (by decide), addP_r (by decide) (by decide) (by decide) (by decide), addP_r (by decide) (by decide) (by decide) (by decide)]
    exact k6
  · rw [addP_0, if_neg (by decide), addP_r (by decide) (by decide) (by decide) (by decide)]
    exact k7
  · rw [addP_0, if_neg (by decide), addP_r (by decide) (by decide) (by decide) (by decide), addP_r (by decide) (by decide) (by decide) (by decide)]
    exact k8
  · rw [addP_1]
    split
    · exact hx
    · exact a1 p
  · rw [addP_0, if_pos rfl] at hi
    rw [addP_12]
    by_cases e : i = L 0 0
    · rw [if_pos e]
      exact hnm
    · rw [if_neg e]
      exact n1 i (by omega)
  · rw [addP_0, if_neg (by decide), addP_r (by decide) (by decide) (by decide) (by decide)]
    exact n2
  · rw [addP_0, addP_0, if_neg (by decide), if_neg (by decide)]
    exact f1
  · rw [addP_0, addP_0, if_neg (by decide), if_neg (by decide)]
    exact f2
theorem addS_ok (h : LkP L) (h8 : L 0 1 < 4) (hx1 : 1 ≤ x) (hx : x ≤ 99) (hnm : (∀ w, w < 7 → nm ≠ kwN w) ∧ nm < 1099511627776) : LkP (addS L nm x) := by
  obtain ⟨⟨k1, k2, k3, k4, k5, k6, k7, k8⟩, a1, ⟨n1, n2⟩, f1, f2⟩ := h
  refine ⟨⟨?_, ?_, fun s hs => ?_, fun t ht => ?_, fun w hw => ?_, fun s hs => ?_, ?_, ?_⟩, fun p => ?_, ⟨?_, fun i hi => ?_⟩, ?_, ?_⟩
  · simp only [addS_0]
    simp only [if_pos, if_neg (show ¬ (0 : Nat) = 1 by decide), if_neg (show ¬ (2 : Nat) = 1 by decide), if_neg (show ¬ (3 : Nat) = 1 by decide), if_neg (show ¬ (4 : Nat) = 1 by decide), if_neg (show ¬ (5 : Nat) = 1 by decide)]
    omega
  · rw [addS_0, if_neg (by decide), addS_r (by decide) (by decide) (by decide), addS_r (by decide) (by decide) (by decide)]
    exact k2
  · rw [addS_0, if_pos rfl] at hs
    rw [addS_3]
    by_cases e : s = L 0 1
    · rw [if_pos e]
      omega
    · rw [if_neg e]
      exact k3 s (by omega)
  · rw [addS_0, if_neg (by decide)] at ht
    rw [addS_0, addS_0, if_neg (show ¬ (0 : Nat) = 1 by decide), if_pos rfl, addS_r (by decide) (by decide) (by decide), addS_r (by decide) (by decide) (by decide)]
    have := k4 t ht
    omega
  · rw [addS_0, if_neg (by decide)] at hw
    rw [addS_0, addS_0, if_neg (show ¬ (0 : Nat) = 1 by decide), if_pos rfl, addS_r (by decide) (by decide) (by decide), addS_r (by decide) (by decide) (by decide), addS_r (by decide) (by decide) (by decide), addS_r (by decide) (by decide) (by decide), addS_r (by decide) (by decide) (by decide)]
    have := k5 w hw
    omega
  · rw [addS_0, if_pos rfl] at hs
    rw [addS_0, addS_0, if_neg (by decide), if_neg (by decide), addS_r (by decide) (by decide) (by decide), addS_r (by decide) (by decide) (by decide)]
    by_cases e : s = L 0 1
    · have z1 : sumN (L 0 2) (fun t => if L 4 t = s then 1 else 0) = 0 := by
        rw [sumN_congr (g := fun _ => 0) (L 0 2) (fun t ht => if_neg (by have := (k4 t ht).1; omega)), sumN_zero]
      have z2 : sumN (L 0 3) (fun w => if L 7 w = s then 1 else 0) = 0 := by
        rw [sumN_congr (g := fun _ => 0) (L 0 3) (fun w hw => if_neg (by have := (k5 w hw).2.1; omega)), sumN_zero]
      omega
    · exact k6 s (by omega)
  · rw [addS_0, if_neg (by decide), addS_r (by decide) (by decide) (by decide)]
    exact k7
  · rw [addS_0, if_neg (by decide), addS_r (by decide) (by decide) (by decide), addS_r (by decide) (by decide) (by decide)]
    exact k8
  · rw [addS_r (by decide) (by decide) (by decide)]
    exact a1 p
  · rw [addS_0, if_neg (by decide), addS_r (by decide) (by decide) (by decide)]
    exact n1
  · rw [addS_0, if_pos rfl] at hi
    rw [addS_13]
    by_cases e : i = L 0 1
    · rw [if_pos e]
      exact hnm
    · rw [if_neg e]
      exact n2 i (by omega)
  · rw [addS_0, addS_0, if_neg (by decide), if_neg (by decide)]
    exact f1
  · rw [addS_0, addS_0, if_neg (by decide), if_neg (by decide)]
    exact f2
theorem sumN_up {f : Nat → Nat} {N v s : Nat} : sumN (N + 1) (fun t => if (if t = N then v else f t) = s then 1 else 0) = sumN N (fun t => if f t = s then 1 else 0) + (if v = s then 1 else 0) := by
  rw [sumN_s, if_pos rfl]
  congr 1
  exact sumN_congr N (fun t ht => by
    show (if (if t = N then v else f t) = s then 1 else 0) = (if f t = s then 1 else 0)
    rw [if_neg (show ¬ t = N by omega)])
theorem addT_ok (h : LkP L) (h8 : L 0 2 < 12) (hs : s < L 0 1) (hp : p < L 0 0) (h4 : sumN (L 0 2) (fun t => if L 4 t = s then 1 else 0) < 4) : LkP (addT L s p) := by
  obtain ⟨⟨k1, k2, k3, k4, k5, k6, k7, k8⟩, a1, ⟨n1, n2⟩, f1, f2⟩ := h
  refine ⟨⟨?_, ?_, ?_, fun t ht => ?_, ?_, fun s' hs' => ?_, ?_, ?_⟩, fun p => ?_, ⟨?_, ?_⟩, ?_, ?_⟩
  · simp only [addT_0]
    simp only [if_pos, if_neg (show ¬ (0 : Nat) = 2 by decide), if_neg (show ¬ (1 : Nat) = 2 by decide), if_neg (show ¬ (3 : Nat) = 2 by decide), if_neg (show ¬ (4 : Nat) = 2 by decide), if_neg (show ¬ (5 : Nat) = 2 by decide)]
    omega
  · rw [addT_0, if_neg (by decide), addT_r (by decide) (by decide) (by decide), addT_r (by decide) (by decide) (by decide)]
    exact k2
  · rw [addT_0, if_neg (by decide), addT_r (by decide) (by decide) (by decide)]
    exact k3
  · rw [addT_0, if_pos rfl] at ht
    rw [addT_0, addT_0, if_neg (by decide), if_neg (by decide), addT_4, addT_5]
    by_cases e : t = L 0 2
    · rw [if_pos e, if_pos e]
      exact ⟨hs, hp⟩
    · rw [if_neg e, if_neg e]
      exact k4 t (by omega)
  · rw [addT_0, addT_0, addT_0, if_neg (by decide), if_neg (by decide), if_neg (by decide), addT_r (by decide) (by decide) (by decide), addT_r (by decide) (by decide) (by decide), addT_r (by decide) (by decide) (by decide), addT_r (by decide) (by decide) (by decide), addT_r (by decide) (by decide) (by decide)]
    exact k5
  · rw [addT_0, if_neg (by decide)] at hs'
    rw [addT_0, addT_0, if_pos rfl, if_neg (by decide), addT_r (r := 7) (by decide) (by decide) (by decide)]
    simp only [addT_4]
    rw [sumN_up]
    have := k6 s' hs'
    by_cases e : s = s'
    · subst e
      rw [if_pos rfl]
      omega
    · rw [if_neg e]
      exact this
  · rw [addT_0, if_neg (by decide), addT_r (by decide) (by decide) (by decide)]
    exact k7
  · rw [addT_0, if_neg (by decide), addT_r (by decide) (by decide) (by decide), addT_r (by decide) (by decide) (by decide)]
    exact k8
  · rw [addT_r (by decide) (by decide) (by decide)]
    exact a1 p
  · rw [addT_0, if_neg (by decide), addT_r (by decide) (by decide) (by decide)]
    exact n1
  · rw [addT_0, if_neg (by decide), addT_r (by decide) (by decide) (by decide)]
    exact n2
  · rw [addT_0, addT_0, if_neg (by decide), if_neg (by decide)]
    exact f1
  · rw [addT_0, addT_0, if_neg (by decide), if_neg (by decide)]
    exact f2
theorem posO_b : ∀ W : Nat, posO L a W ≤ W ∧ (∀ i, posO L a W ≤ i → i < W → a < L 8 (L 11 i)) ∧ (0 < posO L a W → L 8 (L 11 (posO L a W - 1)) ≤ a)
  | 0 => ⟨Nat.le_refl _, fun i _ h => absurd h (Nat.not_lt_zero i), fun h => absurd h (Nat.lt_irrefl 0)⟩
  | W + 1 => by
    obtain ⟨b1, b2, b3⟩ := posO_b W
    by_cases c : a < L 8 (L 11 W)
    · have e : posO L a (W + 1) = posO L a W := if_pos c
      rw [e]
      refine ⟨by omega, fun i h1 h2 => ?_, b3⟩
      by_cases e2 : i = W
      · rw [e2]
        exact c
      · exact b2 i h1 (by omega)
    · have e : posO L a (W + 1) = W + 1 := if_neg c
      rw [e]
      exact ⟨Nat.le_refl _, fun i h1 h2 => by omega, fun _ => by
        rw [Nat.add_sub_cancel]
        omega⟩
theorem addW_ok (h : LkP L) (h8 : L 0 3 < 12) (hp : p < L 0 0) (hs : s < L 0 1) (h6 : sumN (L 0 3) (fun w => if L 7 w = s then 1 else 0) < 6) (hac : a < c) (hc : c ≤ 60) (hx1 : 1 ≤ x) (hx : x ≤ 99) : LkP (addW L p s a c x) := by
  obtain ⟨⟨k1, k2, k3, k4, k5, k6, k7, k8⟩, a1, ⟨n1, n2⟩, f1, f2⟩ := h
  obtain ⟨b1, b2, b3⟩ := posO_b (L := L) (a := a) (L 0 3)
  refine ⟨⟨?_, ?_, ?_, ?_, fun w hw => ?_, fun s' hs' => ?_, fun i hi => ?_, fun i j hij hj => ?_⟩, fun p => ?_, ⟨?_, ?_⟩, ?_, ?_⟩
  · simp only [addW_0]
    simp only [if_pos, if_neg (show ¬ (0 : Nat) = 3 by decide), if_neg (show ¬ (1 : Nat) = 3 by decide), if_neg (show ¬ (2 : Nat) = 3 by decide), if_neg (show ¬ (4 : Nat) = 3 by decide), if_neg (show ¬ (5 : Nat) = 3 by decide)]
    omega
  · rw [addW_0, if_neg (by decide), addW_r (by decide) (by decide), addW_r (by decide) (by decide)]
    exact k2
  · rw [addW_0, if_neg (by decide), addW_r (by decide) (by decide)]
    exact k3
  · rw [addW_0, addW_0, addW_0, if_neg (by decide), if_neg (by decide), if_neg (by decide), addW_r (by decide) (by decide), addW_r (by decide) (by decide)]
    exact k4
  · rw [addW_0, if_pos rfl] at hw
    rw [addW_0, addW_0, if_neg (by decide), if_neg (by decide), addW_6, addW_7, addW_8, addW_9, addW_10]
    by_cases e : w = L 0 3
    · rw [if_pos e, if_pos e, if_pos e, if_pos e, if_pos e]
      exact ⟨hp, hs, hac, hc, hx1, hx⟩
    · rw [if_neg e, if_neg e, if_neg e, if_neg e, if_neg e]
      exact k5 w (by omega)
  · rw [addW_0, if_neg (by decide)] at hs'
    rw [addW_0, addW_0, if_neg (by decide), if_pos rfl, addW_r (r := 4) (by decide) (by decide)]
    simp only [addW_7]
    rw [sumN_up]
    have := k6 s' hs'
    by_cases e : s = s'
    · subst e
      rw [if_pos rfl]
      omega
    · rw [if_neg e]
      exact this
  · rw [addW_0, if_pos rfl] at hi
    rw [addW_0, if_pos rfl, addW_11]
    unfold insO
    by_cases c1 : i < posO L a (L 0 3)
    · rw [if_pos c1]
      have := k7 i (by omega)
      omega
    · rw [if_neg c1]
      by_cases c2 : i = posO L a (L 0 3)
      · rw [if_pos c2]
        omega
      · rw [if_neg c2]
        have := k7 (i - 1) (by omega)
        omega
  · rw [addW_0, if_pos rfl] at hj
    rw [addW_11, addW_11, addW_8, addW_8]
    have low : ∀ i, i < posO L a (L 0 3) → L 11 i < L 0 3 ∧ L 8 (L 11 i) ≤ a := fun i hi => by
      refine ⟨k7 i (by omega), ?_⟩
      by_cases e : i = posO L a (L 0 3) - 1
      · rw [e]
        exact b3 (by omega)
      · have := k8 i (posO L a (L 0 3) - 1) (by omega) (by omega)
        have := b3 (by omega)
        omega
    have high : ∀ i, posO L a (L 0 3) < i → i ≤ L 0 3 → L 11 (i - 1) < L 0 3 ∧ a < L 8 (L 11 (i - 1)) := fun i h1 h2 => ⟨k7 (i - 1) (by omega), b2 (i - 1) (by omega) (by omega)⟩
    unfold insO
    by_cases c1 : i < posO L a (L 0 3)
    · rw [if_pos c1]
      obtain ⟨l1, l2⟩ := low i c1
      by_cases c3 : j < posO L a (L 0 3)
      · rw [if_pos c3]
        obtain ⟨m1, m2⟩ := low j c3
        rw [if_neg (by omega), if_neg (by omega)]
        exact k8 i j hij (by omega)
      · rw [if_neg c3]
        by_cases c4 : j = posO L a (L 0 3)
        · rw [if_pos c4, if_neg (by omega), if_pos rfl]
          omega
        · rw [if_neg c4]
          obtain ⟨m1, m2⟩ := high j (by omega) (by omega)
          rw [if_neg (by omega), if_neg (by omega)]
          omega
    · rw [if_neg c1, if_neg (show ¬ j < posO L a (L 0 3) by omega)]
      by_cases c2 : i = posO L a (L 0 3)
      · rw [if_pos c2, if_neg (show ¬ j = posO L a (L 0 3) by omega), if_pos rfl]
        obtain ⟨m1, m2⟩ := high j (by omega) (by omega)
        rw [if_neg (by omega)]
        omega
      · rw [if_neg c2, if_neg (show ¬ j = posO L a (L 0 3) by omega)]
        obtain ⟨l1, l2⟩ := high i (by omega) (by omega)
        obtain ⟨m1, m2⟩ := high j (by omega) (by omega)
        rw [if_neg (by omega), if_neg (by omega)]
        exact k8 (i - 1) (j - 1) (by omega) (by omega)
  · rw [addW_r (by decide) (by decide)]
    exact a1 p
  · rw [addW_0, if_neg (by decide), addW_r (by decide) (by decide)]
    exact n1
  · rw [addW_0, if_neg (by decide), addW_r (by decide) (by decide)]
    exact n2
  · rw [addW_0, addW_0, if_neg (by decide), if_neg (by decide)]
    exact f1
  · rw [addW_0, addW_0, if_neg (by decide), if_neg (by decide)]
    exact f2
theorem addH_0 (k : Nat) : addH L v 0 k = if k = 6 then 1 else if k = 4 then v else L 0 k := by
  unfold addH
  rw [up_at, if_pos rfl]
  split
  · rfl
  · rw [up_at, if_pos rfl]
theorem addH_r {r : Nat} (h : r ≠ 0) : addH L v r = L r := by
  unfold addH
  rw [up_ne h, up_ne h]
theorem addR_0 (k : Nat) : addR L v 0 k = if k = 7 then 1 else if k = 5 then v else L 0 k := by
  unfold addR
  rw [up_at, if_pos rfl]
  split
  · rfl
  · rw [up_at, if_pos rfl]
theorem addR_r {r : Nat} (h : r ≠ 0) : addR L v r = L r := by
  unfold addR
  rw [up_ne h, up_ne h]
theorem addH_ok (h : LkP L) (h1 : 1 ≤ v) (h9 : v ≤ 9) : LkP (addH L v) := by
  obtain ⟨⟨k1, k2, k3, k4, k5, k6, k7, k8⟩, a1, ⟨n1, n2⟩, f1, f2⟩ := h
  unfold LkP Lok nkP
  simp only [addH_0, addH_r (show (1 : Nat) ≠ 0 by decide), addH_r (show (2 : Nat) ≠ 0 by decide), addH_r (show (3 : Nat) ≠ 0 by decide), addH_r (show (4 : Nat) ≠ 0 by decide), addH_r (show (5 : Nat) ≠ 0 by decide), addH_r (show (6 : Nat) ≠ 0 by decide), addH_r (show (7 : Nat) ≠ 0 by decide), addH_r (show (8 : Nat) ≠ 0 by decide), addH_r (show (9 : Nat) ≠ 0 by decide), addH_r (show (10 : Nat) ≠ 0 by decide), addH_r (show (11 : Nat) ≠ 0 by decide), addH_r (show (12 : Nat) ≠ 0 by decide), addH_r (show (13 : Nat) ≠ 0 by decide)]
  simp only [if_pos, if_neg (show ¬ (0 : Nat) = 6 by decide), if_neg (show ¬ (0 : Nat) = 4 by decide), if_neg (show ¬ (1 : Nat) = 6 by decide), if_neg (show ¬ (1 : Nat) = 4 by decide), if_neg (show ¬ (2 : Nat) = 6 by decide), if_neg (show ¬ (2 : Nat) = 4 by decide), if_neg (show ¬ (3 : Nat) = 6 by decide), if_neg (show ¬ (3 : Nat) = 4 by decide), if_neg (show ¬ (4 : Nat) = 6 by decide), if_neg (show ¬ (5 : Nat) = 6 by decide), if_neg (show ¬ (5 : Nat) = 4 by decide), if_neg (show ¬ (7 : Nat) = 6 by decide), if_neg (show ¬ (7 : Nat) = 4 by decide)]
  exact ⟨⟨by omega, k2, k3, k4, k5, k6, k7, k8⟩, a1, ⟨n1, n2⟩, Or.inr trivial, f2⟩
theorem addR_ok (h : LkP L) (h1 : 1 ≤ v) (h9 : v ≤ 20) : LkP (addR L v) := by
  obtain ⟨⟨k1, k2, k3, k4, k5, k6, k7, k8⟩, a1, ⟨n1, n2⟩, f1, f2⟩ := h
  unfold LkP Lok nkP
  simp only [addR_0, addR_r (show (1 : Nat) ≠ 0 by decide), addR_r (show (2 : Nat) ≠ 0 by decide), addR_r (show (3 : Nat) ≠ 0 by decide), addR_r (show (4 : Nat) ≠ 0 by decide), addR_r (show (5 : Nat) ≠ 0 by decide), addR_r (show (6 : Nat) ≠ 0 by decide), addR_r (show (7 : Nat) ≠ 0 by decide), addR_r (show (8 : Nat) ≠ 0 by decide), addR_r (show (9 : Nat) ≠ 0 by decide), addR_r (show (10 : Nat) ≠ 0 by decide), addR_r (show (11 : Nat) ≠ 0 by decide), addR_r (show (12 : Nat) ≠ 0 by decide), addR_r (show (13 : Nat) ≠ 0 by decide)]
  simp only [if_pos, if_neg (show ¬ (0 : Nat) = 7 by decide), if_neg (show ¬ (0 : Nat) = 5 by decide), if_neg (show ¬ (1 : Nat) = 7 by decide), if_neg (show ¬ (1 : Nat) = 5 by decide), if_neg (show ¬ (2 : Nat) = 7 by decide), if_neg (show ¬ (2 : Nat) = 5 by decide), if_neg (show ¬ (3 : Nat) = 7 by decide), if_neg (show ¬ (3 : Nat) = 5 by decide), if_neg (show ¬ (5 : Nat) = 7 by decide), if_neg (show ¬ (4 : Nat) = 7 by decide), if_neg (show ¬ (4 : Nat) = 5 by decide), if_neg (show ¬ (6 : Nat) = 7 by decide), if_neg (show ¬ (6 : Nat) = 5 by decide)]
  exact ⟨⟨by omega, k2, k3, k4, k5, k6, k7, k8⟩, a1, ⟨n1, n2⟩, f1, Or.inr trivial⟩
theorem addE_2 (i : Nat) : addE L p q 2 i = if i = p then q + 1 else L 2 i := by simp [addE, up_at]
theorem addE_r {r : Nat} (h : r ≠ 2) : addE L p q r = L r := by
  unfold addE
  rw [up_ne h]
theorem addE_ok (h : LkP L) (hp : p < L 0 0) (hq : q < L 0 0) (hne : q ≠ p) : LkP (addE L p q) := by
  obtain ⟨⟨k1, k2, k3, k4, k5, k6, k7, k8⟩, a1, ⟨n1, n2⟩, f1, f2⟩ := h
  unfold LkP Lok nkP
  simp only [addE_r (show (0 : Nat) ≠ 2 by decide), addE_r (show (1 : Nat) ≠ 2 by decide), addE_r (show (3 : Nat) ≠ 2 by decide), addE_r (show (4 : Nat) ≠ 2 by decide), addE_r (show (5 : Nat) ≠ 2 by decide), addE_r (show (6 : Nat) ≠ 2 by decide), addE_r (show (7 : Nat) ≠ 2 by decide), addE_r (show (8 : Nat) ≠ 2 by decide), addE_r (show (9 : Nat) ≠ 2 by decide), addE_r (show (10 : Nat) ≠ 2 by decide), addE_r (show (11 : Nat) ≠ 2 by decide), addE_r (show (12 : Nat) ≠ 2 by decide), addE_r (show (13 : Nat) ≠ 2 by decide), addE_2]
  refine ⟨⟨k1, fun i hi => ?_, k3, k4, k5, k6, k7, k8⟩, a1, ⟨n1, n2⟩, f1, f2⟩
  have := k2 i hi
  by_cases e : i = p
  · rw [if_pos e]
    omega
  · rw [if_neg e]
    exact this
end
