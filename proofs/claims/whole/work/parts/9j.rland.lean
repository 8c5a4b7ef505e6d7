/-! THE LAND of the class that is read -/
def lC (hd : amD) (o : Nat) (L : Lnd) : Prop := cL hd o L ∧ nmC hd o L ∧ ((L 0 6 = 0 ∧ hd o 17 = -1) ∨ (L 0 6 = 1 ∧ hd o 17 = (L 0 4 : Int))) ∧ ((L 0 7 = 0 ∧ hd o 18 = -1) ∨ (L 0 7 = 1 ∧ hd o 18 = (L 0 5 : Int))) ∧ LkP L
/-- only this land is another -/
def lnF (hd hd' : amD) (o : Nat) : Prop := ∀ i, ¬ (o ≤ i ∧ i ≤ o + 13) → hd' i = hd i
theorem lC_fr {hd hd' : amD} {o : Nat} {L : Lnd} (h : ∀ k, k ≤ 13 → hd' (o + k) = hd (o + k)) (hC : lC hd o L) : lC hd' o L := by
  obtain ⟨a1, a2, a3, a4, a5⟩ := hC
  have h0 : hd' o = hd o := h 0 (by decide)
  exact ⟨cL_fr h a1, nmC_fr h a2, by rw [h0]; exact a3, by rw [h0]; exact a4, a5⟩
section
variable {hd hd' : amD} {o : Nat} {L : Lnd} {nm x s p q a c v : Nat}
theorem row_keep {r : Nat} {N N' : Nat} {f f' : Nat → Int} {g : Nat → Int} (hN : N' = N) (hf : f' = f) (h : ∀ i, i < N → f i = g i) : ∀ i, i < N' → f' i = g i := by
  subst hN
  rw [hf]
  exact h
theorem row_up {N N' : Nat} {f f' g g' : Nat → Int} {v w : Int} (hN : N' = N + 1) (hf : ∀ i, f' i = if i = N then v else f i) (hg : ∀ i, g' i = if i = N then w else g i) (hv : v = w) (h : ∀ i, i < N → f i = g i) : ∀ i, i < N' → f' i = g' i := by
  subst hN
  intro i hi
  rw [hf, hg]
  by_cases e : i = N
  · rw [if_pos e, if_pos e, hv]
  · rw [if_neg e, if_neg e]
    exact h i (by omega)
theorem lC_P (h : lC hd o L) (h8 : L 0 0 < 8) (hx : x ≤ 99) (hnm : (∀ w, w < 7 → nm ≠ kwN w) ∧ nm < 1099511627776) (hf : ∀ j, j ≠ 13 → hd' o j = hd o j) (hc : hd' o 13 = ((L 0 0 + 1 : Nat) : Int)) (r1 : ∀ i, hd' (o + 1) i = if i = L 0 0 then (nm : Int) else hd (o + 1) i) (r2 : ∀ i, hd' (o + 2) i = if i = L 0 0 then (x : Int) else hd (o + 2) i) (r3 : ∀ i, hd' (o + 3) i = if i = L 0 0 then -1 else hd (o + 3) i) (rk : ∀ k, k ≠ 1 → k ≠ 2 → k ≠ 3 → 1 ≤ k → k ≤ 13 → hd' (o + k) = hd (o + k)) : lC hd' o (addP L nm x) := by
  obtain ⟨⟨k0, ⟨c0, c1, c2, c3⟩, ⟨d1, d2⟩, t2, t3, t5, t6, t7, t8, t9, t10, t11, t12, t13⟩, ⟨m1, m2⟩, g1, g2, kp⟩ := h
  have ok := addP_ok kp h8 hx hnm
  exact ⟨⟨ok.1, ⟨by rw [hc, addP_0, if_pos rfl], by rw [hf 14 (by decide), addP_0, if_neg (by decide)]; exact c1, by rw [hf 15 (by decide), addP_0, if_neg (by decide)]; exact c2, by rw [hf 16 (by decide), addP_0, if_neg (by decide)]; exact c3⟩, ⟨by rw [hf 17 (by decide), addP_0, if_neg (by decide)]; exact d1, by rw [hf 18 (by decide), addP_0, if_neg (by decide)]; exact d2⟩, row_up (f := hd (o + 2)) (g := fun i => (L 1 i : Int)) (N := L 0 0) (by rw [addP_0, if_pos rfl]) r2 (fun i => by (try dsimp only); rw [addP_1]; split <;> rfl) (by omega) t2, row_up (f := hd (o + 3)) (g := fun i => (L 2 i : Int) - 1) (N := L 0 0) (by rw [addP_0, if_pos rfl]) r3 (fun i => by (try dsimp only); rw [addP_2]; split <;> rfl) (by omega) t3, row_keep (r := 0) (by rw [addP_0, if_neg (by decide)]) (rk 5 (by decide) (by decide) (by decide) (by decide) (by decide)) (by rw [addP_r (by decide) (by decide) (by decide) (by decide)]; exact t5), row_keep (r := 0) (by rw [addP_0, if_neg (by decide)]) (rk 6 (by decide) (by decide) (by decide) (by decide) (by decide)) (by rw [addP_r (by decide) (by decide) (by decide) (by decide)]; exact t6), row_keep (r := 0) (by rw [addP_0, if_neg (by decide)]) (rk 7 (by decide) (by decide) (by decide) (by decide) (by decide)) (by rw [addP_r (by decide) (by decide) (by decide) (by decide)]; exact t7), row_keep (r := 0) (by rw [addP_0, if_neg (by decide)]) (rk 8 (by decide) (by decide) (by decide) (by decide) (by decide)) (by rw [addP_r (by decide) (by decide) (by decide) (by decide)]; exact t8), row_keep (r := 0) (by rw [addP_0, if_neg (by decide)]) (rk 9 (by decide) (by decide) (by decide) (by decide) (by decide)) (by rw [addP_r (by decide) (by decide) (by decide) (by decide)]; exact t9), row_keep (r := 0) (by rw [addP_0, if_neg (by decide)]) (rk 10 (by decide) (by decide) (by decide) (by decide) (by decide)) (by rw [addP_r (by decide) (by decide) (by decide) (by decide)]; exact t10), row_keep (r := 0) (by rw [addP_0, if_neg (by decide)]) (rk 11 (by decide) (by decide) (by decide) (by decide) (by decide)) (by rw [addP_r (by decide) (by decide) (by decide) (by decide)]; exact t11), row_keep (r := 0) (by rw [addP_0, if_neg (by decide)]) (rk 12 (by decide) (by decide) (by decide) (by decide) (by decide)) (by rw [addP_r (by decide) (by decide) (by decide) (by decide)]; exact t12), row_keep (r := 0) (by rw [addP_0, if_neg (by decide)]) (rk 13 (by decide) (by decide) (by decide) (by decide) (by decide)) (by rw [addP_r (by decide) (by decide) (by decide) (by decide)]; exact t13)⟩, ⟨row_up (f := hd (o + 1)) (g := fun i => (L 12 i : Int)) (N := L 0 0) (by rw [addP_0, if_pos rfl]) r1 (fun i => by (try dsimp only); rw [addP_12]; split <;> rfl) (by omega) m1, row_keep (r := 0) (by rw [addP_0, if_neg (by decide)]) (rk 4 (by decide) (by decide) (by decide) (by decide) (by decide)) (by rw [addP_r (by decide) (by decide) (by decide) (by decide)]; exact m2)⟩, by rw [hf 17 (by decide), addP_0, addP_0, if_neg (by decide), if_neg (by decide)]; exact g1, by rw [hf 18 (by decide), addP_0, addP_0, if_neg (by decide), if_neg (by decide)]; exact g2, ok⟩
theorem lC_S (h : lC hd o L) (h8 : L 0 1 < 4) (hx1 : 1 ≤ x) (hx : x ≤ 99) (hnm : (∀ w, w < 7 → nm ≠ kwN w) ∧ nm < 1099511627776) (hf : ∀ j, j ≠ 14 → hd' o j = hd o j) (hc : hd' o 14 = ((L 0 1 + 1 : Nat) : Int)) (r4 : ∀ i, hd' (o + 4) i = if i = L 0 1 then (nm : Int) else hd (o + 4) i) (r5 : ∀ i, hd' (o + 5) i = if i = L 0 1 then (x : Int) else hd (o + 5) i) (rk : ∀ k, k ≠ 4 → k ≠ 5 → 1 ≤ k → k ≤ 13 → hd' (o + k) = hd (o + k)) : lC hd' o (addS L nm x) := by
  obtain ⟨⟨k0, ⟨c0, c1, c2, c3⟩, ⟨d1, d2⟩, t2, t3, t5, t6, t7, t8, t9, t10, t11, t12, t13⟩, ⟨m1, m2⟩, g1, g2, kp⟩ := h
  have ok := addS_ok kp h8 hx1 hx hnm
  exact ⟨⟨ok.1, ⟨by rw [hf 13 (by decide), addS_0, if_neg (by decide)]; exact c0, by rw [hc, addS_0, if_pos rfl], by rw [hf 15 (by decide), addS_0, if_neg (by decide)]; exact c2, by rw [hf 16 (by decide), addS_0, if_neg (by decide)]; exact c3⟩, ⟨by rw [hf 17 (by decide), addS_0, if_neg (by decide)]; exact d1, by rw [hf 18 (by decide), addS_0, if_neg (by decide)]; exact d2⟩, row_keep (r := 0) (by rw [addS_0, if_neg (by decide)]) (rk 2 (by decide) (by decide) (by decide) (by decide)) (by rw [addS_r (by decide) (by decide) (by decide)]; exact t2), row_keep (r := 0) (by rw [addS_0, if_neg (by decide)]) (rk 3 (by decide) (by decide) (by decide) (by decide)) (by rw [addS_r (by decide) (by decide) (by decide)]; exact t3), row_up (f := hd (o + 5)) (g := fun i => (L 3 i : Int)) (N := L 0 1) (by rw [addS_0, if_pos rfl]) r5 (fun i => by (try dsimp only); rw [addS_3]; split <;> rfl) (by omega) t5, row_keep (r := 0) (by rw [addS_0, if_neg (by decide)]) (rk 6 (by decide) (by decide) (by decide) (by decide)) (by rw [addS_r (by decide) (by decide) (by decide)]; exact t6), row_keep (r := 0) (by rw [addS_0, if_neg (by decide)]) (rk 7 (by decide) (by decide) (by decide) (by decide)) (by rw [addS_r (by decide) (by decide) (by decide)]; exact t7), row_keep (r := 0) (by rw [addS_0, if_neg (by decide)]) (rk 8 (by decide) (by decide) (by decide) (by decide)) (by rw [addS_r (by decide) (by decide) (by decide)]; exact t8), row_keep (r := 0) (by rw [addS_0, if_neg (by decide)]) (rk 9 (by decide) (by decide) (by decide) (by decide)) (by rw [addS_r (by decide) (by decide) (by decide)]; exact t9), row_keep (r := 0) (by rw [addS_0, if_neg (by decide)]) (rk 10 (by decide) (by decide) (by decide) (by decide)) (by rw [addS_r (by decide) (by decide) (by decide)]; exact t10), row_keep (r := 0) (by rw [addS_0, if_neg (by decide)]) (rk 11 (by decide) (by decide) (by decide) (by decide)) (by rw [addS_r (by decide) (by decide) (by decide)]; exact t11), row_keep (r := 0) (by rw [addS_0, if_neg (by decide)]) (rk 12 (by decide) (by decide) (by decide) (by decide)) (by rw [addS_r (by decide) (by decide) (by decide)]; exact t12), row_keep (r := 0) (by rw [addS_0, if_neg (by decide)]) (rk 13 (by decide) (by decide) (by decide) (by decide)) (by rw [addS_r (by decide) (by decide) (by decide)]; exact t13)⟩, ⟨row_keep (r := 0) (by rw [addS_0, if_neg (by decide)]) (rk 1 (by decide) (by decide) (by decide) (by decide)) (by rw [addS_r (by decide) (by decide) (by decide)]; exact m1), row_up (f := hd (o + 4)) (g := fun i => (L 13 i : Int)) (N := L 0 1) (by rw [addS_0, if_pos rfl]) r4 (fun i => by (try dsimp only); rw [addS_13]; split <;> rfl) (by omega) m2⟩, by rw [hf 17 (by decide), addS_0, addS_0, if_neg (by decide), if_neg (by decide)]; exact g1, by rw [hf 18 (by decide), addS_0, addS_0, if_neg (by decide), if_neg (by decide)]; exact g2, ok⟩
theorem lC_T (h : lC hd o L) (h8 : L 0 2 < 12) (hs : s < L 0 1) (hp : p < L 0 0) (h4 : sumN (L 0 2) (fun t => if L 4 t = s then 1 else 0) < 4) (hf : ∀ j, j ≠ 15 → hd' o j = hd o j) (hc : hd' o 15 = ((L 0 2 + 1 : Nat) : Int)) (r6 : ∀ i, hd' (o + 6) i = if i = L 0 2 then (s : Int) else hd (o + 6) i) (r7 : ∀ i, hd' (o + 7) i = if i = L 0 2 then (p : Int) else hd (o + 7) i) (rk : ∀ k, k ≠ 6 → k ≠ 7 → 1 ≤ k → k ≤ 13 → hd' (o + k) = hd (o + k)) : lC hd' o (addT L s p) := by
  obtain ⟨⟨k0, ⟨c0, c1, c2, c3⟩, ⟨d1, d2⟩, t2, t3, t5, t6, t7, t8, t9, t10, t11, t12, t13⟩, ⟨m1, m2⟩, g1, g2, kp⟩ := h
  have ok := addT_ok kp h8 hs hp h4
  exact ⟨⟨ok.1, ⟨by rw [hf 13 (by decide), addT_0, if_neg (by decide)]; exact c0, by rw [hf 14 (by decide), addT_0, if_neg (by decide)]; exact c1, by rw [hc, addT_0, if_pos rfl], by rw [hf 16 (by decide), addT_0, if_neg (by decide)]; exact c3⟩, ⟨by rw [hf 17 (by decide), addT_0, if_neg (by decide)]; exact d1, by rw [hf 18 (by decide), addT_0, if_neg (by decide)]; exact d2⟩, row_keep (r := 0) (by rw [addT_0, if_neg (by decide)]) (rk 2 (by decide) (by decide) (by decide) (by decide)) (by rw [addT_r (by decide) (by decide) (by decide)]; exact t2), row_keep (r := 0) (by rw [addT_0, if_neg (by decide)]) (rk 3 (by decide) (by decide) (by decide) (by decide)) (by rw [addT_r (by decide) (by decide) (by decide)]; exact t3), row_keep (r := 0) (by rw [addT_0, if_neg (by decide)]) (rk 5 (by decide) (by decide) (by decide) (by decide)) (by rw [addT_r (by decide) (by decide) (by decide)]; exact t5), row_up (f := hd (o + 6)) (g := fun i => (L 4 i : Int)) (N := L 0 2) (by rw [addT_0, if_pos rfl]) r6 (fun i => by (try dsimp only); rw [addT_4]; split <;> rfl) (by omega) t6, row_up (f := hd (o + 7)) (g := fun i => (L 5 i : Int)) (N := L 0 2) (by rw [addT_0, if_pos rfl]) r7 (fun i => by (try dsimp only); rw [addT_5]; split <;> rfl) (by omega) t7, row_keep (r := 0) (by rw [addT_0, if_neg (by decide)]) (rk 8 (by decide) (by decide) (by decide) (by decide)) (by rw [addT_r (by decide) (by decide) (by decide)]; exact t8), row_keep (r := 0) (by rw [addT_0, if_neg (by decide)]) (rk 9 (by decide) (by decide) (by decide) (by decide)) (by rw [addT_r (by decide) (by decide) (by decide)]; exact t9), row_keep (r := 0) (by rw [addT_0, if_neg (by decide)]) (rk 10 (by decide) (by decide) (by decide) (by decide)) (by rw [addT_r (by decide) (by decide) (by decide)]; exact t10), row_keep (r := 0) (by rw [addT_0, if_neg (by decide)]) (rk 11 (by decide) (by decide) (by decide) (by decide)) (by rw [addT_r (by decide) (by decide) (by decide)]; exact t11), row_keep (r := 0) (by rw [addT_0, if_neg (by decide)]) (rk 12 (by decide) (by decide) (by decide) (by decide)) (by rw [addT_r (by decide) (by decide) (by decide)]; exact t12), row_keep (r := 0) (by rw [addT_0, if_neg (by decide)]) (rk 13 (by decide) (by decide) (by decide) (by decide)) (by rw [addT_r (by decide) (by decide) (by decide)]; exact t13)⟩, ⟨row_keep (r := 0) (by rw [addT_0, if_neg (by decide)]) (rk 1 (by decide) (by decide) (by decide) (by decide)) (by rw [addT_r (by decide) (by decide) (by decide)]; exact m1), row_keep (r := 0) (by rw [addT_0, if_neg (by decide)]) (rk 4 (by decide) (by decide) (by decide) (by decide)) (by rw [addT_r (by decide) (by decide) (by decide)]; exact m2)⟩, by rw [hf 17 (by decide), addT_0, addT_0, if_neg (by decide), if_neg (by decide)]; exact g1, by rw [hf 18 (by decide), addT_0, addT_0, if_neg (by decide), if_neg (by decide)]; exact g2, ok⟩
theorem lC_W (h : lC hd o L) (h8 : L 0 3 < 12) (hp : p < L 0 0) (hs : s < L 0 1) (h6 : sumN (L 0 3) (fun w => if L 7 w = s then 1 else 0) < 6) (hac : a < c) (hc60 : c ≤ 60) (hx1 : 1 ≤ x) (hx : x ≤ 99) (hf : ∀ j, j ≠ 16 → hd' o j = hd o j) (hc : hd' o 16 = ((L 0 3 + 1 : Nat) : Int)) (r8 : ∀ i, hd' (o + 8) i = if i = L 0 3 then (p : Int) else hd (o + 8) i) (r9 : ∀ i, hd' (o + 9) i = if i = L 0 3 then (s : Int) else hd (o + 9) i) (r10 : ∀ i, hd' (o + 10) i = if i = L 0 3 then (a : Int) else hd (o + 10) i) (r11 : ∀ i, hd' (o + 11) i = if i = L 0 3 then (c : Int) else hd (o + 11) i) (r12 : ∀ i, hd' (o + 12) i = if i = L 0 3 then (x : Int) else hd (o + 12) i) (r13 : ∀ i, i < L 0 3 + 1 → hd' (o + 13) i = (insO L a (L 0 3) i : Int)) (rk : ∀ k, k ≠ 8 → k ≠ 9 → k ≠ 10 → k ≠ 11 → k ≠ 12 → k ≠ 13 → 1 ≤ k → k ≤ 13 → hd' (o + k) = hd (o + k)) : lC hd' o (addW L p s a c x) := by
  obtain ⟨⟨k0, ⟨c0, c1, c2, c3⟩, ⟨d1, d2⟩, t2, t3, t5, t6, t7, t8, t9, t10, t11, t12, t13⟩, ⟨m1, m2⟩, g1, g2, kp⟩ := h
  have ok := addW_ok kp h8 hp hs h6 hac hc60 hx1 hx
  exact ⟨⟨ok.1, ⟨by rw [hf 13 (by decide), addW_0, if_neg (by decide)]; exact c0, by rw [hf 14 (by decide), addW_0, if_neg (by decide)]; exact c1, by rw [hf 15 (by decide), addW_0, if_neg (by decide)]; exact c2, by rw [hc, addW_0, if_pos rfl]⟩, ⟨by rw [hf 17 (by decide), addW_0, if_neg (by decide)]; exact d1, by rw [hf 18 (by decide), addW_0, if_neg (by decide)]; exact d2⟩, row_keep (r := 0) (by rw [addW_0, if_neg (by decide)]) (rk 2 (by decide) (by decide) (by decide) (by decide) (by decide) (by decide) (by decide) (by decide)) (by rw [addW_r (by decide) (by decide)]; exact t2), row_keep (r := 0) (by rw [addW_0, if_neg (by decide)]) (rk 3 (by decide) (by decide) (by decide) (by decide) (by decide) (by decide) (by decide) (by decide)) (by rw [addW_r (by decide) (by decide)]; exact t3), row_keep (r := 0) (by rw [addW_0, if_neg (by decide)]) (rk 5 (by decide) (by decide) (by decide) (by decide) (by decide) (by decide) (by decide) (by decide)) (by rw [addW_r (by decide) (by decide)]; exact t5), row_keep (r := 0) (by rw [addW_0, if_neg (by decide)]) (rk 6 (by decide) (by decide) (by decide) (by decide) (by decide) (by decide) (by decide) (by decide)) (by rw [addW_r (by decide) (by decide)]; exact t6), row_keep (r := 0) (by rw [addW_0, if_neg (by decide)]) (rk 7 (by decide) (by decide) (by decide) (by decide) (by decide) (by decide) (by decide) (by decide)) (by rw [addW_r (by decide) (by decide)]; exact t7), row_up (f := hd (o + 8)) (g := fun i => (L 6 i : Int)) (N := L 0 3) (by rw [addW_0, if_pos rfl]) r8 (fun i => by (try dsimp only); rw [addW_6]; split <;> rfl) (by omega) t8, row_up (f := hd (o + 9)) (g := fun i => (L 7 i : Int)) (N := L 0 3) (by rw [addW_0, if_pos rfl]) r9 (fun i => by (try dsimp only); rw [addW_7]; split <;> rfl) (by omega) t9, row_up (f := hd (o + 10)) (g := fun i => (L 8 i : Int)) (N := L 0 3) (by rw [addW_0, if_pos rfl]) r10 (fun i => by (try dsimp only); rw [addW_8]; split <;> rfl) (by omega) t10, row_up (f := hd (o + 11)) (g := fun i => (L 9 i : Int)) (N := L 0 3) (by rw [addW_0, if_pos rfl]) r11 (fun i => by (try dsimp only); rw [addW_9]; split <;> rfl) (by omega) t11, row_up (f := hd (o + 12)) (g := fun i => (L 10 i : Int)) (N := L 0 3) (by rw [addW_0, if_pos rfl]) r12 (fun i => by (try dsimp only); rw [addW_10]; split <;> rfl) (by omega) t12, fun i hi => by rw [addW_0, if_pos rfl] at hi; rw [addW_11]; exact r13 i hi⟩, ⟨row_keep (r := 0) (by rw [addW_0, if_neg (by decide)]) (rk 1 (by decide) (by decide) (by decide) (by decide) (by decide) (by decide) (by decide) (by decide)) (by rw [addW_r (by decide) (by decide)]; exact m1), row_keep (r := 0) (by rw [addW_0, if_neg (by decide)]) (rk 4 (by decide) (by decide) (by decide) (by decide) (by decide) (by decide) (by decide) (by decide)) (by rw [addW_r (by decide) (by decide)]; exact m2)⟩, by rw [hf 17 (by decide), addW_0, addW_0, if_neg (by decide), if_neg (by decide)]; exact g1, by rw [hf 18 (by decide), addW_0, addW_0, if_neg (by decide), if_neg (by decide)]; exact g2, ok⟩
theorem lC_H (h : lC hd o L) (h1 : 1 ≤ v) (h9 : v ≤ 9) (hf : ∀ j, j ≠ 17 → hd' o j = hd o j) (hv : hd' o 17 = (v : Int)) (rk : ∀ k, 1 ≤ k → k ≤ 13 → hd' (o + k) = hd (o + k)) : lC hd' o (addH L v) := by
  obtain ⟨⟨k0, ⟨c0, c1, c2, c3⟩, ⟨d1, d2⟩, t2, t3, t5, t6, t7, t8, t9, t10, t11, t12, t13⟩, ⟨m1, m2⟩, g1, g2, kp⟩ := h
  have ok := addH_ok kp h1 h9
  have z := fun (r : Nat) (hr : r ≠ 0) => addH_r (L := L) (v := v) hr
  have q : ∀ k, k ≠ 6 → k ≠ 4 → addH L v 0 k = L 0 k := fun k a b => by rw [addH_0, if_neg a, if_neg b]
  refine ⟨⟨ok.1, ⟨?_, ?_, ?_, ?_⟩, ⟨Or.inl ?_, ?_⟩, ?_, ?_, ?_, ?_, ?_, ?_, ?_, ?_, ?_, ?_, ?_⟩, ⟨?_, ?_⟩, Or.inr ⟨?_, ?_⟩, ?_, ok⟩
  · rw [hf 13 (by decide), q 0 (by decide) (by decide)]; exact c0
  · rw [hf 14 (by decide), q 1 (by decide) (by decide)]; exact c1
  · rw [hf 15 (by decide), q 2 (by decide) (by decide)]; exact c2
  · rw [hf 16 (by decide), q 3 (by decide) (by decide)]; exact c3
  · rw [hv, addH_0, if_neg (by decide), if_pos rfl]
  · rw [hf 18 (by decide), q 5 (by decide) (by decide)]; exact d2
  · rw [q 0 (by decide) (by decide), rk 2 (by decide) (by decide), z 1 (by decide)]; exact t2
  · rw [q 0 (by decide) (by decide), rk 3 (by decide) (by decide), z 2 (by decide)]; exact t3
  · rw [q 1 (by decide) (by decide), rk 5 (by decide) (by decide), z 3 (by decide)]; exact t5
  · rw [q 2 (by decide) (by decide), rk 6 (by decide) (by decide), z 4 (by decide)]; exact t6
  · rw [q 2 (by decide) (by decide), rk 7 (by decide) (by decide), z 5 (by decide)]; exact t7
  · rw [q 3 (by decide) (by decide), rk 8 (by decide) (by decide), z 6 (by decide)]; exact t8
  · rw [q 3 (by decide) (by decide), rk 9 (by decide) (by decide), z 7 (by decide)]; exact t9
  · rw [q 3 (by decide) (by decide), rk 10 (by decide) (by decide), z 8 (by decide)]; exact t10
  · rw [q 3 (by decide) (by decide), rk 11 (by decide) (by decide), z 9 (by decide)]; exact t11
  · rw [q 3 (by decide) (by decide), rk 12 (by decide) (by decide), z 10 (by decide)]; exact t12
  · rw [q 3 (by decide) (by decide), rk 13 (by decide) (by decide), z 11 (by decide)]; exact t13
  · rw [q 0 (by decide) (by decide), rk 1 (by decide) (by decide), z 12 (by decide)]; exact m1
  · rw [q 1 (by decide) (by decide), rk 4 (by decide) (by decide), z 13 (by decide)]; exact m2
  · rw [addH_0, if_pos rfl]
  · rw [hv, addH_0, if_neg (by decide), if_pos rfl]
  · rw [hf 18 (by decide), q 5 (by decide) (by decide), q 7 (by decide) (by decide)]; exact g2
theorem lC_R (h : lC hd o L) (h1 : 1 ≤ v) (h9 : v ≤ 20) (hf : ∀ j, j ≠ 18 → hd' o j = hd o j) (hv : hd' o 18 = (v : Int)) (rk : ∀ k, 1 ≤ k → k ≤ 13 → hd' (o + k) = hd (o + k)) : lC hd' o (addR L v) := by
  obtain ⟨⟨k0, ⟨c0, c1, c2, c3⟩, ⟨d1, d2⟩, t2, t3, t5, t6, t7, t8, t9, t10, t11, t12, t13⟩, ⟨m1, m2⟩, g1, g2, kp⟩ := h
  have ok := addR_ok kp h1 h9
  have z := fun (r : Nat) (hr : r ≠ 0) => addR_r (L := L) (v := v) hr
  have q : ∀ k, k ≠ 7 → k ≠ 5 → addR L v 0 k = L 0 k := fun k a b => by rw [addR_0, if_neg a, if_neg b]
  refine ⟨⟨ok.1, ⟨?_, ?_, ?_, ?_⟩, ⟨?_, Or.inl ?_⟩, ?_, ?_, ?_, ?_, ?_, ?_, ?_, ?_, ?_, ?_, ?_⟩, ⟨?_, ?_⟩, ?_, Or.inr ⟨?_, ?_⟩, ok⟩
  · rw [hf 13 (by decide), q 0 (by decide) (by decide)]; exact c0
  · rw [hf 14 (by decide), q 1 (by decide) (by decide)]; exact c1
  · rw [hf 15 (by decide), q 2 (by decide) (by decide)]; exact c2
  · rw [hf 16 (by decide), q 3 (by decide) (by decide)]; exact c3
  · rw [hf 17 (by decide), q 4 (by decide) (by decide)]; exact d1
  · rw [hv, addR_0, if_neg (by decide), if_pos rfl]
  · rw [q 0 (by decide) (by decide), rk 2 (by decide) (by decide), z 1 (by decide)]; exact t2
  · rw [q 0 (by decide) (by decide), rk 3 (by decide) (by decide), z 2 (by decide)]; exact t3
  · rw [q 1 (by decide) (by decide), rk 5 (by decide) (by decide), z 3 (by decide)]; exact t5
  · rw [q 2 (by decide) (by decide), rk 6 (by decide) (by decide), z 4 (by decide)]; exact t6
  · rw [q 2 (by decide) (by decide), rk 7 (by decide) (by decide), z 5 (by decide)]; exact t7
  · rw [q 3 (by decide) (by decide), rk 8 (by decide) (by decide), z 6 (by decide)]; exact t8
  · rw [q 3 (by decide) (by decide), rk 9 (by decide) (by decide), z 7 (by decide)]; exact t9
  · rw [q 3 (by decide) (by decide), rk 10 (by decide) (by decide), z 8 (by decide)]; exact t10
  · rw [q 3 (by decide) (by decide), rk 11 (by decide) (by decide), z 9 (by decide)]; exact t11
  · rw [q 3 (by decide) (by decide), rk 12 (by decide) (by decide), z 10 (by decide)]; exact t12
  · rw [q 3 (by decide) (by decide), rk 13 (by decide) (by decide), z 11 (by decide)]; exact t13
  · rw [q 0 (by decide) (by decide), rk 1 (by decide) (by decide), z 12 (by decide)]; exact m1
  · rw [q 1 (by decide) (by decide), rk 4 (by decide) (by decide), z 13 (by decide)]; exact m2
  · rw [hf 17 (by decide), q 4 (by decide) (by decide), q 6 (by decide) (by decide)]; exact g1
  · rw [addR_0, if_pos rfl]
  · rw [hv, addR_0, if_neg (by decide), if_pos rfl]
theorem lC_E (h : lC hd o L) (hp : p < L 0 0) (hq : q < L 0 0) (hne : q ≠ p) (hf : hd' o = hd o) (r3 : ∀ i, hd' (o + 3) i = if i = p then (q : Int) else hd (o + 3) i) (rk : ∀ k, k ≠ 3 → 1 ≤ k → k ≤ 13 → hd' (o + k) = hd (o + k)) : lC hd' o (addE L p q) := by
  obtain ⟨⟨k0, ⟨c0, c1, c2, c3⟩, ⟨d1, d2⟩, t2, t3, t5, t6, t7, t8, t9, t10, t11, t12, t13⟩, ⟨m1, m2⟩, g1, g2, kp⟩ := h
  have ok := addE_ok kp hp hq hne
  have z := fun (r : Nat) (hr : r ≠ 2) => addE_r (L := L) (p := p) (q := q) hr
  refine ⟨⟨ok.1, ?_, ?_, ?_, ?_, ?_, ?_, ?_, ?_, ?_, ?_, ?_, ?_, ?_⟩, ⟨?_, ?_⟩, ?_, ?_, ok⟩
  · rw [hf, z 0 (by decide)]; exact ⟨c0, c1, c2, c3⟩
  · rw [hf, z 0 (by decide)]; exact ⟨d1, d2⟩
  · rw [z 0 (by decide), rk 2 (by decide) (by decide) (by decide), z 1 (by decide)]; exact t2
  · rw [z 0 (by decide)]
    intro i hi
    rw [r3, addE_2]
    by_cases e : i = p
    · rw [if_pos e, if_pos e]
      omega
    · rw [if_neg e, if_neg e]
      exact t3 i hi
  · rw [z 0 (by decide), rk 5 (by decide) (by decide) (by decide), z 3 (by decide)]; exact t5
  · rw [z 0 (by decide), rk 6 (by decide) (by decide) (by decide), z 4 (by decide)]; exact t6
  · rw [z 0 (by decide), rk 7 (by decide) (by decide) (by decide), z 5 (by decide)]; exact t7
  · rw [z 0 (by decide), rk 8 (by decide) (by decide) (by decide), z 6 (by decide)]; exact t8
  · rw [z 0 (by decide), rk 9 (by decide) (by decide) (by decide), z 7 (by decide)]; exact t9
  · rw [z 0 (by decide), rk 10 (by decide) (by decide) (by decide), z 8 (by decide)]; exact t10
  · rw [z 0 (by decide), rk 11 (by decide) (by decide) (by decide), z 9 (by decide)]; exact t11
  · rw [z 0 (by decide), rk 12 (by decide) (by decide) (by decide), z 10 (by decide)]; exact t12
  · rw [z 0 (by decide), rk 13 (by decide) (by decide) (by decide), z 11 (by decide)]; exact t13
  · rw [z 0 (by decide), rk 1 (by decide) (by decide) (by decide), z 12 (by decide)]; exact m1
  · rw [z 0 (by decide), rk 4 (by decide) (by decide) (by decide), z 13 (by decide)]; exact m2
  · rw [hf, z 0 (by decide)]; exact g1
  · rw [hf, z 0 (by decide)]; exact g2
end
