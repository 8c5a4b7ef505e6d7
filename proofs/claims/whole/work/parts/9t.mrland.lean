/-! THE LAND of the model that is read -/
def mP (hd : amD) (L : Lnd) : Prop := (hd 133 0 = (L 0 0 : Int) ∧ hd 133 1 = (L 0 1 : Int) ∧ hd 133 2 = (L 0 2 : Int) ∧ hd 133 3 = (L 0 3 : Int) ∧ hd 133 4 = (L 0 4 : Int) ∧ hd 133 5 = (L 0 5 : Int)) ∧ (∀ i, i < L 0 0 → hd 103 i = (L 1 i : Int)) ∧ (∀ i, i < L 0 0 → hd 106 i = (L 2 i : Int) - 1) ∧ (∀ i, i < L 0 1 → hd 109 i = (L 3 i : Int)) ∧ (∀ i, i < L 0 2 → hd 112 i = (L 4 i : Int)) ∧ (∀ i, i < L 0 2 → hd 115 i = (L 5 i : Int)) ∧ (∀ i, i < L 0 3 → hd 118 i = (L 6 i : Int)) ∧ (∀ i, i < L 0 3 → hd 121 i = (L 7 i : Int)) ∧ (∀ i, i < L 0 3 → hd 124 i = (L 8 i : Int)) ∧ (∀ i, i < L 0 3 → hd 127 i = (L 9 i : Int)) ∧ (∀ i, i < L 0 3 → hd 130 i = (L 10 i : Int)) ∧ ((∀ i, i < L 0 0 → hd 134 i = (L 12 i : Int)) ∧ ∀ i, i < L 0 1 → hd 134 (8 + i) = (L 13 i : Int)) ∧ (hd 98 20 = (L 0 6 : Int) ∧ hd 98 21 = (L 0 7 : Int)) ∧ LkP L
theorem mP_nm {hd : amD} {L : Lnd} (h : mP hd L) : nmM hd L := ⟨⟨h.1.1, h.1.2.1⟩, h.2.2.2.2.2.2.2.2.2.2.2.1⟩
theorem mP_k {hd : amD} {L : Lnd} (h : mP hd L) : LkP L := h.2.2.2.2.2.2.2.2.2.2.2.2.2
/-- rows of the land that is read -/
def isRw (i : Nat) : Prop := (103 ≤ i ∧ i ≤ 133 ∧ i % 3 = 1) ∨ i = 134
theorem mP_fr {hd hd' : amD} {L : Lnd} (h : ∀ i, isRw i → hd' i = hd i) (h98 : hd' 98 20 = hd 98 20 ∧ hd' 98 21 = hd 98 21) (hP : mP hd L) : mP hd' L := by
  unfold mP at *
  rw [h 133 (by unfold isRw; omega), h 103 (by unfold isRw; omega), h 106 (by unfold isRw; omega), h 109 (by unfold isRw; omega), h 112 (by unfold isRw; omega), h 115 (by unfold isRw; omega), h 118 (by unfold isRw; omega), h 121 (by unfold isRw; omega), h 124 (by unfold isRw; omega), h 127 (by unfold isRw; omega), h 130 (by unfold isRw; omega), h 134 (by unfold isRw; omega), h98.1, h98.2]
  exact hP
section
variable {hd hd' : amD} {L : Lnd} {nm x s p q a c v : Nat}
theorem mP_P (h : mP hd L) (h8 : L 0 0 < 8) (hx : x ≤ 99) (hnm : (∀ w, w < 7 → nm ≠ kwN w) ∧ nm < 1099511627776) (h133 : ∀ j, hd' 133 j = if j = 0 then ((L 0 0 + 1 : Nat) : Int) else hd 133 j) (r103 : ∀ i, hd' 103 i = if i = L 0 0 then (x : Int) else hd 103 i) (r106 : ∀ i, hd' 106 i = if i = L 0 0 then -1 else hd 106 i) (r134 : ∀ i, hd' 134 i = if i = L 0 0 then (nm : Int) else hd 134 i) (rk : ∀ i, isRw i → i ≠ 133 → i ≠ 134 → i ≠ 103 → i ≠ 106 → hd' i = hd i) (h98 : hd' 98 20 = hd 98 20 ∧ hd' 98 21 = hd 98 21) : mP hd' (addP L nm x) := by
  obtain ⟨⟨c0, c1, c2, c3, c4, c5⟩, t103, t106, t109, t112, t115, t118, t121, t124, t127, t130, ⟨m1, m2⟩, ⟨g1, g2⟩, kp⟩ := h
  have k8 := kp.1.1
  have ok := addP_ok kp h8 hx hnm
  exact ⟨⟨by rw [h133, if_pos rfl, addP_0, if_pos rfl], by rw [h133, if_neg (by decide), addP_0, if_neg (by decide)]; exact c1, by rw [h133, if_neg (by decide), addP_0, if_neg (by decide)]; exact c2, by rw [h133, if_neg (by decide), addP_0, if_neg (by decide)]; exact c3, by rw [h133, if_neg (by decide), addP_0, if_neg (by decide)]; exact c4, by rw [h133, if_neg (by decide), addP_0, if_neg (by decide)]; exact c5⟩, row_up (f := hd 103) (g := fun i => (L 1 i : Int)) (N := L 0 0) (by rw [addP_0, if_pos rfl]) r103 (fun i => by (try dsimp only); rw [addP_1]; split <;> rfl) (by omega) t103, row_up (f := hd 106) (g := fun i => (L 2 i : Int) - 1) (N := L 0 0) (by rw [addP_0, if_pos rfl]) r106 (fun i => by (try dsimp only); rw [addP_2]; split <;> rfl) (by omega) t106, row_keep (r := 0) (by rw [addP_0, if_neg (by decide)]) (rk 109 (by unfold isRw; omega) (by decide) (by decide) (by decide) (by decide)) (by rw [addP_r (by decide) (by decide) (by decide) (by decide)]; exact t109), row_keep (r := 0) (by rw [addP_0, if_neg (by decide)]) (rk 112 (by unfold isRw; omega) (by decide) (by decide) (by decide) (by decide)) (by rw [addP_r (by decide) (by decide) (by decide) (by decide)]; exact t112), row_keep (r := 0) (by rw [addP_0, if_neg (by decide)]) (rk 115 (by unfold isRw; omega) (by decide) (by decide) (by decide) (by decide)) (by rw [addP_r (by decide) (by decide) (by decide) (by decide)]; exact t115), row_keep (r := 0) (by rw [addP_0, if_neg (by decide)]) (rk 118 (by unfold isRw; omega) (by decide) (by decide) (by decide) (by decide)) (by rw [addP_r (by decide) (by decide) (by decide) (by decide)]; exact t118), row_keep (r := 0) (by rw [addP_0, if_neg (by decide)]) (rk 121 (by unfold isRw; omega) (by decide) (by decide) (by decide) (by decide)) (by rw [addP_r (by decide) (by decide) (by decide) (by decide)]; exact t121), row_keep (r := 0) (by rw [addP_0, if_neg (by decide)]) (rk 124 (by unfold isRw; omega) (by decide) (by decide) (by decide) (by decide)) (by rw [addP_r (by decide) (by decide) (by decide) (by decide)]; exact t124), row_keep (r := 0) (by rw [addP_0, if_neg (by decide)]) (rk 127 (by unfold isRw; omega) (by decide) (by decide) (by decide) (by decide)) (by rw [addP_r (by decide) (by decide) (by decide) (by decide)]; exact t127), row_keep (r := 0) (by rw [addP_0, if_neg (by decide)]) (rk 130 (by unfold isRw; omega) (by decide) (by decide) (by decide) (by decide)) (by rw [addP_r (by decide) (by decide) (by decide) (by decide)]; exact t130), ⟨row_up (f := hd 134) (g := fun i => (L 12 i : Int)) (N := L 0 0) (by rw [addP_0, if_pos rfl]) r134 (fun i => by (try dsimp only); rw [addP_12]; split <;> rfl) (by omega) m1, fun i hi => by rw [addP_0, if_neg (by decide)] at hi; rw [r134, if_neg (by omega), addP_r (by decide) (by decide) (by decide) (by decide)]; exact m2 i hi⟩, ⟨by rw [h98.1, addP_0, if_neg (by decide)]; exact g1, by rw [h98.2, addP_0, if_neg (by decide)]; exact g2⟩, ok⟩
theorem mP_S (h : mP hd L) (h8 : L 0 1 < 4) (hx1 : 1 ≤ x) (hx : x ≤ 99) (hnm : (∀ w, w < 7 → nm ≠ kwN w) ∧ nm < 1099511627776) (h133 : ∀ j, hd' 133 j = if j = 1 then ((L 0 1 + 1 : Nat) : Int) else hd 133 j) (r109 : ∀ i, hd' 109 i = if i = L 0 1 then (x : Int) else hd 109 i) (r134 : ∀ i, hd' 134 i = if i = 8 + L 0 1 then (nm : Int) else hd 134 i) (rk : ∀ i, isRw i → i ≠ 133 → i ≠ 134 → i ≠ 109 → hd' i = hd i) (h98 : hd' 98 20 = hd 98 20 ∧ hd' 98 21 = hd 98 21) : mP hd' (addS L nm x) := by
  obtain ⟨⟨c0, c1, c2, c3, c4, c5⟩, t103, t106, t109, t112, t115, t118, t121, t124, t127, t130, ⟨m1, m2⟩, ⟨g1, g2⟩, kp⟩ := h
  have k8 := kp.1.1
  have ok := addS_ok kp h8 hx1 hx hnm
  exact ⟨⟨by rw [h133, if_neg (by decide), addS_0, if_neg (by decide)]; exact c0, by rw [h133, if_pos rfl, addS_0, if_pos rfl], by rw [h133, if_neg (by decide), addS_0, if_neg (by decide)]; exact c2, by rw [h133, if_neg (by decide), addS_0, if_neg (by decide)]; exact c3, by rw [h133, if_neg (by decide), addS_0, if_neg (by decide)]; exact c4, by rw [h133, if_neg (by decide), addS_0, if_neg (by decide)]; exact c5⟩, row_keep (r := 0) (by rw [addS_0, if_neg (by decide)]) (rk 103 (by unfold isRw; omega) (by decide) (by decide) (by decide)) (by rw [addS_r (by decide) (by decide) (by decide)]; exact t103), row_keep (r := 0) (by rw [addS_0, if_neg (by decide)]) (rk 106 (by unfold isRw; omega) (by decide) (by decide) (by decide)) (by rw [addS_r (by decide) (by decide) (by decide)]; exact t106), row_up (f := hd 109) (g := fun i => (L 3 i : Int)) (N := L 0 1) (by rw [addS_0, if_pos rfl]) r109 (fun i => by (try dsimp only); rw [addS_3]; split <;> rfl) (by omega) t109, row_keep (r := 0) (by rw [addS_0, if_neg (by decide)]) (rk 112 (by unfold isRw; omega) (by decide) (by decide) (by decide)) (by rw [addS_r (by decide) (by decide) (by decide)]; exact t112), row_keep (r := 0) (by rw [addS_0, if_neg (by decide)]) (rk 115 (by unfold isRw; omega) (by decide) (by decide) (by decide)) (by rw [addS_r (by decide) (by decide) (by decide)]; exact t115), row_keep (r := 0) (by rw [addS_0, if_neg (by decide)]) (rk 118 (by unfold isRw; omega) (by decide) (by decide) (by decide)) (by rw [addS_r (by decide) (by decide) (by decide)]; exact t118), row_keep (r := 0) (by rw [addS_0, if_neg (by decide)]) (rk 121 (by unfold isRw; omega) (by decide) (by decide) (by decide)) (by rw [addS_r (by decide) (by decide) (by decide)]; exact t121), row_keep (r := 0) (by rw [addS_0, if_neg (by decide)]) (rk 124 (by unfold isRw; omega) (by decide) (by decide) (by decide)) (by rw [addS_r (by decide) (by decide) (by decide)]; exact t124), row_keep (r := 0) (by rw [addS_0, if_neg (by decide)]) (rk 127 (by unfold isRw; omega) (by decide) (by decide) (by decide)) (by rw [addS_r (by decide) (by decide) (by decide)]; exact t127), row_keep (r := 0) (by rw [addS_0, if_neg (by decide)]) (rk 130 (by unfold isRw; omega) (by decide) (by decide) (by decide)) (by rw [addS_r (by decide) (by decide) (by decide)]; exact t130), ⟨fun i hi => by rw [addS_0, if_neg (by decide)] at hi; rw [r134, if_neg (by omega), addS_r (by decide) (by decide) (by decide)]; exact m1 i hi, row_up (v := (nm : Int)) (w := (nm : Int)) (f := fun i => hd 134 (8 + i)) (f' := fun i => hd' 134 (8 + i)) (g := fun i => (L 13 i : Int)) (N := L 0 1) (by rw [addS_0, if_pos rfl]) (fun i => by (try dsimp only); rw [r134]; by_cases e : i = L 0 1 <;> simp [e]) (fun i => by (try dsimp only); rw [addS_13]; split <;> rfl) (by omega) m2⟩, ⟨by rw [h98.1, addS_0, if_neg (by decide)]; exact g1, by rw [h98.2, addS_0, if_neg (by decide)]; exact g2⟩, ok⟩
theorem mP_T (h : mP hd L) (h8 : L 0 2 < 12) (hs : s < L 0 1) (hp : p < L 0 0) (h4 : sumN (L 0 2) (fun t => if L 4 t = s then 1 else 0) < 4) (h133 : ∀ j, hd' 133 j = if j = 2 then ((L 0 2 + 1 : Nat) : Int) else hd 133 j) (r112 : ∀ i, hd' 112 i = if i = L 0 2 then (s : Int) else hd 112 i) (r115 : ∀ i, hd' 115 i = if i = L 0 2 then (p : Int) else hd 115 i) (r134 : hd' 134 = hd 134) (rk : ∀ i, isRw i → i ≠ 133 → i ≠ 134 → i ≠ 112 → i ≠ 115 → hd' i = hd i) (h98 : hd' 98 20 = hd 98 20 ∧ hd' 98 21 = hd 98 21) : mP hd' (addT L s p) := by
  obtain ⟨⟨c0, c1, c2, c3, c4, c5⟩, t103, t106, t109, t112, t115, t118, t121, t124, t127, t130, ⟨m1, m2⟩, ⟨g1, g2⟩, kp⟩ := h
  have k8 := kp.1.1
  have ok := addT_ok kp h8 hs hp h4
  exact ⟨⟨by rw [h133, if_neg (by decide), addT_0, if_neg (by decide)]; exact c0, by rw [h133, if_neg (by decide), addT_0, if_neg (by decide)]; exact c1, by rw [h133, if_pos rfl, addT_0, if_pos rfl], by rw [h133, if_neg (by decide), addT_0, if_neg (by decide)]; exact c3, by rw [h133, if_neg (by decide), addT_0, if_neg (by decide)]; exact c4, by rw [h133, if_neg (by decide), addT_0, if_neg (by decide)]; exact c5⟩, row_keep (r := 0) (by rw [addT_0, if_neg (by decide)]) (rk 103 (by unfold isRw; omega) (by decide) (by decide) (by decide) (by decide)) (by rw [addT_r (by decide) (by decide) (by decide)]; exact t103), row_keep (r := 0) (by rw [addT_0, if_neg (by decide)]) (rk 106 (by unfold isRw; omega) (by decide) (by decide) (by decide) (by decide)) (by rw [addT_r (by decide) (by decide) (by decide)]; exact t106), row_keep (r := 0) (by rw [addT_0, if_neg (by decide)]) (rk 109 (by unfold isRw; omega) (by decide) (by decide) (by decide) (by decide)) (by rw [addT_r (by decide) (by decide) (by decide)]; exact t109), row_up (f := hd 112) (g := fun i => (L 4 i : Int)) (N := L 0 2) (by rw [addT_0, if_pos rfl]) r112 (fun i => by (try dsimp only); rw [addT_4]; split <;> rfl) (by omega) t112, row_up (f := hd 115) (g := fun i => (L 5 i : Int)) (N := L 0 2) (by rw [addT_0, if_pos rfl]) r115 (fun i => by (try dsimp only); rw [addT_5]; split <;> rfl) (by omega) t115, row_keep (r := 0) (by rw [addT_0, if_neg (by decide)]) (rk 118 (by unfold isRw; omega) (by decide) (by decide) (by decide) (by decide)) (by rw [addT_r (by decide) (by decide) (by decide)]; exact t118), row_keep (r := 0) (by rw [addT_0, if_neg (by decide)]) (rk 121 (by unfold isRw; omega) (by decide) (by decide) (by decide) (by decide)) (by rw [addT_r (by decide) (by decide) (by decide)]; exact t121), row_keep (r := 0) (by rw [addT_0, if_neg (by decide)]) (rk 124 (by unfold isRw; omega) (by decide) (by decide) (by decide) (by decide)) (by rw [addT_r (by decide) (by decide) (by decide)]; exact t124), row_keep (r := 0) (by rw [addT_0, if_neg (by decide)]) (rk 127 (by unfold isRw; omega) (by decide) (by decide) (by decide) (by decide)) (by rw [addT_r (by decide) (by decide) (by decide)]; exact t127), row_keep (r := 0) (by rw [addT_0, if_neg (by decide)]) (rk 130 (by unfold isRw; omega) (by decide) (by decide) (by decide) (by decide)) (by rw [addT_r (by decide) (by decide) (by decide)]; exact t130), ⟨row_keep (r := 0) (by rw [addT_0, if_neg (by decide)]) r134 (by rw [addT_r (by decide) (by decide) (by decide)]; exact m1), fun i hi => by rw [addT_0, if_neg (by decide)] at hi; rw [r134, addT_r (by decide) (by decide) (by decide)]; exact m2 i hi⟩, ⟨by rw [h98.1, addT_0, if_neg (by decide)]; exact g1, by rw [h98.2, addT_0, if_neg (by decide)]; exact g2⟩, ok⟩
theorem mP_W (h : mP hd L) (h8 : L 0 3 < 12) (hp : p < L 0 0) (hs : s < L 0 1) (h6 : sumN (L 0 3) (fun w => if L 7 w = s then 1 else 0) < 6) (hac : a < c) (hc60 : c ≤ 60) (hx1 : 1 ≤ x) (hx : x ≤ 99) (h133 : ∀ j, hd' 133 j = if j = 3 then ((L 0 3 + 1 : Nat) : Int) else hd 133 j) (r118 : ∀ i, hd' 118 i = if i = L 0 3 then (p : Int) else hd 118 i) (r121 : ∀ i, hd' 121 i = if i = L 0 3 then (s : Int) else hd 121 i) (r124 : ∀ i, hd' 124 i = if i = L 0 3 then (a : Int) else hd 124 i) (r127 : ∀ i, hd' 127 i = if i = L 0 3 then (c : Int) else hd 127 i) (r130 : ∀ i, hd' 130 i = if i = L 0 3 then (x : Int) else hd 130 i) (r134 : hd' 134 = hd 134) (rk : ∀ i, isRw i → i ≠ 133 → i ≠ 134 → i ≠ 118 → i ≠ 121 → i ≠ 124 → i ≠ 127 → i ≠ 130 → hd' i = hd i) (h98 : hd' 98 20 = hd 98 20 ∧ hd' 98 21 = hd 98 21) : mP hd' (addW L p s a c x) := by
  obtain ⟨⟨c0, c1, c2, c3, c4, c5⟩, t103, t106, t109, t112, t115, t118, t121, t124, t127, t130, ⟨m1, m2⟩, ⟨g1, g2⟩, kp⟩ := h
  have k8 := kp.1.1
  have ok := addW_ok kp h8 hp hs h6 hac hc60 hx1 hx
  exact ⟨⟨by rw [h133, if_neg (by decide), addW_0, if_neg (by decide)]; exact c0, by rw [h133, if_neg (by decide), addW_0, if_neg (by decide)]; exact c1, by rw [h133, if_neg (by decide), addW_0, if_neg (by decide)]; exact c2, by rw [h133, if_pos rfl, addW_0, if_pos rfl], by rw [h133, if_neg (by decide), addW_0, if_neg (by decide)]; exact c4, by rw [h133, if_neg (by decide), addW_0, if_neg (by decide)]; exact c5⟩, row_keep (r := 0) (by rw [addW_0, if_neg (by decide)]) (rk 103 (by unfold isRw; omega) (by decide) (by decide) (by decide) (by decide) (by decide) (by decide) (by decide)) (by rw [addW_r (by decide) (by decide)]; exact t103), row_keep (r := 0) (by rw [addW_0, if_neg (by decide)]) (rk 106 (by unfold isRw; omega) (by decide) (by decide) (by decide) (by decide) (by decide) (by decide) (by decide)) (by rw [addW_r (by decide) (by decide)]; exact t106), row_keep (r := 0) (by rw [addW_0, if_neg (by decide)]) (rk 109 (by unfold isRw; omega) (by decide) (by decide) (by decide) (by decide) (by decide) (by decide) (by decide)) (by rw [addW_r (by decide) (by decide)]; exact t109), row_keep (r := 0) (by rw [addW_0, if_neg (by decide)]) (rk 112 (by unfold isRw; omega) (by decide) (by decide) (by decide) (by decide) (by decide) (by decide) (by decide)) (by rw [addW_r (by decide) (by decide)]; exact t112), row_keep (r := 0) (by rw [addW_0, if_neg (by decide)]) (rk 115 (by unfold isRw; omega) (by decide) (by decide) (by decide) (by decide) (by decide) (by decide) (by decide)) (by rw [addW_r (by decide) (by decide)]; exact t115), row_up (f := hd 118) (g := fun i => (L 6 i : Int)) (N := L 0 3) (by rw [addW_0, if_pos rfl]) r118 (fun i => by (try dsimp only); rw [addW_6]; split <;> rfl) (by omega) t118, row_up (f := hd 121) (g := fun i => (L 7 i : Int)) (N := L 0 3) (by rw [addW_0, if_pos rfl]) r121 (fun i => by (try dsimp only); rw [addW_7]; split <;> rfl) (by omega) t121, row_up (f := hd 124) (g := fun i => (L 8 i : Int)) (N := L 0 3) (by rw [addW_0, if_pos rfl]) r124 (fun i => by (try dsimp only); rw [addW_8]; split <;> rfl) (by omega) t124, row_up (f := hd 127) (g := fun i => (L 9 i : Int)) (N := L 0 3) (by rw [addW_0, if_pos rfl]) r127 (fun i => by (try dsimp only); rw [addW_9]; split <;> rfl) (by omega) t127, row_up (f := hd 130) (g := fun i => (L 10 i : Int)) (N := L 0 3) (by rw [addW_0, if_pos rfl]) r130 (fun i => by (try dsimp only); rw [addW_10]; split <;> rfl) (by omega) t130, ⟨row_keep (r := 0) (by rw [addW_0, if_neg (by decide)]) r134 (by rw [addW_r (by decide) (by decide)]; exact m1), fun i hi => by rw [addW_0, if_neg (by decide)] at hi; rw [r134, addW_r (by decide) (by decide)]; exact m2 i hi⟩, ⟨by rw [h98.1, addW_0, if_neg (by decide)]; exact g1, by rw [h98.2, addW_0, if_neg (by decide)]; exact g2⟩, ok⟩
theorem mP_H (h : mP hd L) (h1 : 1 ≤ v) (h9 : v ≤ 9) (h133 : ∀ j, hd' 133 j = if j = 4 then (v : Int) else hd 133 j) (rk : ∀ i, isRw i → i ≠ 133 → hd' i = hd i) (h98 : hd' 98 20 = 1 ∧ hd' 98 21 = hd 98 21) : mP hd' (addH L v) := by
  obtain ⟨⟨c0, c1, c2, c3, c4, c5⟩, t103, t106, t109, t112, t115, t118, t121, t124, t127, t130, ⟨m1, m2⟩, ⟨g1, g2⟩, kp⟩ := h
  have ok := addH_ok kp h1 h9
  have z := fun (r : Nat) (hr : r ≠ 0) => addH_r (L := L) (v := v) hr
  have q : ∀ k, k ≠ 6 → k ≠ 4 → addH L v 0 k = L 0 k := fun k a b => by rw [addH_0, if_neg a, if_neg b]
  have qs : addH L v 0 4 = v := by rw [addH_0, if_neg (by decide), if_pos rfl]
  have qf : addH L v 0 6 = 1 := by rw [addH_0, if_pos rfl]
  have k : ∀ i, isRw i → i ≠ 133 → hd' i = hd i := rk
  refine ⟨⟨?_, ?_, ?_, ?_, ?_, ?_⟩, ?_, ?_, ?_, ?_, ?_, ?_, ?_, ?_, ?_, ?_, ⟨?_, ?_⟩, ⟨?_, ?_⟩, ok⟩
  · rw [h133, if_neg (by decide), q 0 (by decide) (by decide)]; exact c0
  · rw [h133, if_neg (by decide), q 1 (by decide) (by decide)]; exact c1
  · rw [h133, if_neg (by decide), q 2 (by decide) (by decide)]; exact c2
  · rw [h133, if_neg (by decide), q 3 (by decide) (by decide)]; exact c3
  · rw [h133, if_pos rfl, qs]
  · rw [h133, if_neg (by decide), q 5 (by decide) (by decide)]; exact c5
  · rw [q 0 (by decide) (by decide), k 103 (by unfold isRw; omega) (by decide), z 1 (by decide)]; exact t103
  · rw [q 0 (by decide) (by decide), k 106 (by unfold isRw; omega) (by decide), z 2 (by decide)]; exact t106
  · rw [q 1 (by decide) (by decide), k 109 (by unfold isRw; omega) (by decide), z 3 (by decide)]; exact t109
  · rw [q 2 (by decide) (by decide), k 112 (by unfold isRw; omega) (by decide), z 4 (by decide)]; exact t112
  · rw [q 2 (by decide) (by decide), k 115 (by unfold isRw; omega) (by decide), z 5 (by decide)]; exact t115
  · rw [q 3 (by decide) (by decide), k 118 (by unfold isRw; omega) (by decide), z 6 (by decide)]; exact t118
  · rw [q 3 (by decide) (by decide), k 121 (by unfold isRw; omega) (by decide), z 7 (by decide)]; exact t121
  · rw [q 3 (by decide) (by decide), k 124 (by unfold isRw; omega) (by decide), z 8 (by decide)]; exact t124
  · rw [q 3 (by decide) (by decide), k 127 (by unfold isRw; omega) (by decide), z 9 (by decide)]; exact t127
  · rw [q 3 (by decide) (by decide), k 130 (by unfold isRw; omega) (by decide), z 10 (by decide)]; exact t130
  · rw [q 0 (by decide) (by decide), k 134 (by unfold isRw; omega) (by decide), z 12 (by decide)]; exact m1
  · rw [q 1 (by decide) (by decide), k 134 (by unfold isRw; omega) (by decide), z 13 (by decide)]; exact m2
  · rw [h98.1, qf]; rfl
  · rw [h98.2, q 7 (by decide) (by decide)]; exact g2
theorem mP_R (h : mP hd L) (h1 : 1 ≤ v) (h9 : v ≤ 20) (h133 : ∀ j, hd' 133 j = if j = 5 then (v : Int) else hd 133 j) (rk : ∀ i, isRw i → i ≠ 133 → hd' i = hd i) (h98 : hd' 98 21 = 1 ∧ hd' 98 20 = hd 98 20) : mP hd' (addR L v) := by
  obtain ⟨⟨c0, c1, c2, c3, c4, c5⟩, t103, t106, t109, t112, t115, t118, t121, t124, t127, t130, ⟨m1, m2⟩, ⟨g1, g2⟩, kp⟩ := h
  have ok := addR_ok kp h1 h9
  have z := fun (r : Nat) (hr : r ≠ 0) => addR_r (L := L) (v := v) hr
  have q : ∀ k, k ≠ 7 → k ≠ 5 → addR L v 0 k = L 0 k := fun k a b => by rw [addR_0, if_neg a, if_neg b]
  have qs : addR L v 0 5 = v := by rw [addR_0, if_neg (by decide), if_pos rfl]
  have qf : addR L v 0 7 = 1 := by rw [addR_0, if_pos rfl]
  have k : ∀ i, isRw i → i ≠ 133 → hd' i = hd i := rk
  refine ⟨⟨?_, ?_, ?_, ?_, ?_, ?_⟩, ?_, ?_, ?_, ?_, ?_, ?_, ?_, ?_, ?_, ?_, ⟨?_, ?_⟩, ⟨?_, ?_⟩, ok⟩
  · rw [h133, if_neg (by decide), q 0 (by decide) (by decide)]; exact c0
  · rw [h133, if_neg (by decide), q 1 (by decide) (by decide)]; exact c1
  · rw [h133, if_neg (by decide), q 2 (by decide) (by decide)]; exact c2
  · rw [h133, if_neg (by decide), q 3 (by decide) (by decide)]; exact c3
  · rw [h133, if_neg (by decide), q 4 (by decide) (by decide)]; exact c4
  · rw [h133, if_pos rfl, qs]
  · rw [q 0 (by decide) (by decide), k 103 (by unfold isRw; omega) (by decide), z 1 (by decide)]; exact t103
  · rw [q 0 (by decide) (by decide), k 106 (by unfold isRw; omega) (by decide), z 2 (by decide)]; exact t106
  · rw [q 1 (by decide) (by decide), k 109 (by unfold isRw; omega) (by decide), z 3 (by decide)]; exact t109
  · rw [q 2 (by decide) (by decide), k 112 (by unfold isRw; omega) (by decide), z 4 (by decide)]; exact t112
  · rw [q 2 (by decide) (by decide), k 115 (by unfold isRw; omega) (by decide), z 5 (by decide)]; exact t115
  · rw [q 3 (by decide) (by decide), k 118 (by unfold isRw; omega) (by decide), z 6 (by decide)]; exact t118
  · rw [q 3 (by decide) (by decide), k 121 (by unfold isRw; omega) (by decide), z 7 (by decide)]; exact t121
  · rw [q 3 (by decide) (by decide), k 124 (by unfold isRw; omega) (by decide), z 8 (by decide)]; exact t124
  · rw [q 3 (by decide) (by decide), k 127 (by unfold isRw; omega) (by decide), z 9 (by decide)]; exact t127
  · rw [q 3 (by decide) (by decide), k 130 (by unfold isRw; omega) (by decide), z 10 (by decide)]; exact t130
  · rw [q 0 (by decide) (by decide), k 134 (by unfold isRw; omega) (by decide), z 12 (by decide)]; exact m1
  · rw [q 1 (by decide) (by decide), k 134 (by unfold isRw; omega) (by decide), z 13 (by decide)]; exact m2
  · rw [h98.2, q 6 (by decide) (by decide)]; exact g1
  · rw [h98.1, qf]; rfl
theorem mP_E (h : mP hd L) (hp : p < L 0 0) (hq : q < L 0 0) (hne : q ≠ p) (r106 : ∀ i, hd' 106 i = if i = p then (q : Int) else hd 106 i) (rk : ∀ i, isRw i → i ≠ 106 → hd' i = hd i) (h98 : hd' 98 20 = hd 98 20 ∧ hd' 98 21 = hd 98 21) : mP hd' (addE L p q) := by
  obtain ⟨⟨c0, c1, c2, c3, c4, c5⟩, t103, t106, t109, t112, t115, t118, t121, t124, t127, t130, ⟨m1, m2⟩, ⟨g1, g2⟩, kp⟩ := h
  have ok := addE_ok kp hp hq hne
  have z := fun (r : Nat) (hr : r ≠ 2) => addE_r (L := L) (p := p) (q := q) hr
  have k : ∀ i, isRw i → i ≠ 106 → hd' i = hd i := rk
  refine ⟨?_, ?_, ?_, ?_, ?_, ?_, ?_, ?_, ?_, ?_, ?_, ⟨?_, ?_⟩, ?_, ok⟩
  · rw [k 133 (by unfold isRw; omega) (by decide), z 0 (by decide)]; exact ⟨c0, c1, c2, c3, c4, c5⟩
  · rw [k 103 (by unfold isRw; omega) (by decide), z 0 (by decide), z 1 (by decide)]; exact t103
  · rw [z 0 (by decide)]
    intro i hi
    rw [r106, addE_2]
    by_cases e : i = p
    · rw [if_pos e, if_pos e]
      omega
    · rw [if_neg e, if_neg e]
      exact t106 i hi
  · rw [k 109 (by unfold isRw; omega) (by decide), z 0 (by decide), z 3 (by decide)]; exact t109
  · rw [k 112 (by unfold isRw; omega) (by decide), z 0 (by decide), z 4 (by decide)]; exact t112
  · rw [k 115 (by unfold isRw; omega) (by decide), z 0 (by decide), z 5 (by decide)]; exact t115
  · rw [k 118 (by unfold isRw; omega) (by decide), z 0 (by decide), z 6 (by decide)]; exact t118
  · rw [k 121 (by unfold isRw; omega) (by decide), z 0 (by decide), z 7 (by decide)]; exact t121
  · rw [k 124 (by unfold isRw; omega) (by decide), z 0 (by decide), z 8 (by decide)]; exact t124
  · rw [k 127 (by unfold isRw; omega) (by decide), z 0 (by decide), z 9 (by decide)]; exact t127
  · rw [k 130 (by unfold isRw; omega) (by decide), z 0 (by decide), z 10 (by decide)]; exact t130
  · rw [k 134 (by unfold isRw; omega) (by decide), z 0 (by decide), z 12 (by decide)]; exact m1
  · rw [k 134 (by unfold isRw; omega) (by decide), z 0 (by decide), z 13 (by decide)]; exact m2
  · rw [h98.1, h98.2, z 0 (by decide)]; exact ⟨g1, g2⟩
end
