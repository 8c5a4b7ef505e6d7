/-! LATE: pure -/
/-- from which day on a thing is free for its i-th want -/
def frN (L : Lnd) (p l : Nat) (F : Nat → Nat) : Nat → Nat
  | 0 => 0
  | i + 1 => if L 9 (F i) ≤ frN L p l F i then frN L p l F i else L 9 (F i) + (if L 6 (F i) = p then l else 0)
/-- which of the first i wants of a thing are hurt, and what is lost, put to what others lose -/
def hu1 (L : Lnd) (p l : Nat) (F : Nat → Nat) : Nat → Nat × Nat → Nat × Nat
  | 0, X => X
  | i + 1, X => if L 8 (F i) < frN L p l F i then ((hu1 L p l F i X).1 ||| 1 <<< F i, (hu1 L p l F i X).2 + fPart L (F i) (frN L p l F i - L 8 (F i))) else hu1 L p l F i X
noncomputable def huT (L : Lnd) (lost p l : Nat) : Nat → Nat × Nat
  | 0 => (0, 0)
  | t + 1 => hu1 L p l (fM L lost t) (cM L lost t) (huT L lost p l t)
theorem frN_le {L : Lnd} {p l : Nat} {F : Nat → Nat} (hl : l ≤ 60) : ∀ i : Nat, (∀ j, j < i → L 9 (F j) ≤ 60) → frN L p l F i ≤ 120
  | 0, _ => Nat.zero_le _
  | i + 1, h => by
    have h1 := frN_le (p := p) (F := F) hl i (fun j hj => h j (by omega))
    have h2 := h i (by omega)
    unfold frN
    split
    · exact h1
    · split <;> omega
theorem hu1_b {L : Lnd} (hk : Lok L) {p l : Nat} {F : Nat → Nat} {X : Nat × Nat} (h1 : X.1 < 4096) : ∀ i : Nat, (∀ j, j < i → F j < L 0 3) → (hu1 L p l F i X).1 < 4096 ∧ (hu1 L p l F i X).2 ≤ X.2 + 99 * i
  | 0, _ => ⟨h1, Nat.le_refl _⟩
  | i + 1, h => by
    obtain ⟨a1, a2⟩ := hu1_b hk (p := p) (l := l) h1 i (fun j hj => h j (by omega))
    have h3 := h i (by omega)
    have hW := lk_W hk
    unfold hu1
    split
    · have h4 := fPart_le hk (k := frN L p l F i - L 8 (F i)) h3
      exact ⟨Nat.or_lt_two_pow (n := 12) a1 (shl1_lt (by omega)), by (try dsimp only); omega⟩
    · exact ⟨a1, by omega⟩
theorem huT_b {L : Lnd} (hk : Lok L) {lost p l : Nat} : ∀ T : Nat, (huT L lost p l T).1 < 4096 ∧ (huT L lost p l T).2 ≤ 99 * sumN T (cM L lost)
  | 0 => ⟨by
      show (0 : Nat) < 4096
      decide, Nat.le_refl _⟩
  | T + 1 => by
    obtain ⟨a1, a2⟩ := huT_b hk (lost := lost) (p := p) (l := l) T
    obtain ⟨b1, b2⟩ := hu1_b hk (p := p) (l := l) a1 (cM L lost T) (fun j hj => (fM_in hk hj).1)
    exact ⟨b1, by
      show (hu1 L p l (fM L lost T) (cM L lost T) (huT L lost p l T)).2 ≤ _
      rw [sumN_s]
      omega⟩
theorem hu1_0 {L : Lnd} {p l : Nat} {F : Nat → Nat} {X : Nat × Nat} : ∀ i : Nat, (hu1 L p l F i X).1 = 0 ↔ X.1 = 0 ∧ ∀ j, j < i → frN L p l F j ≤ L 8 (F j)
  | 0 => ⟨fun h => ⟨h, fun j hj => absurd hj (Nat.not_lt_zero j)⟩, fun h => h.1⟩
  | i + 1 => by
    have ih := hu1_0 (L := L) (p := p) (l := l) (F := F) (X := X) i
    unfold hu1
    split
    · rename_i c
      constructor
      · intro h
        have h : (hu1 L p l F i X).1 ||| 1 <<< F i = 0 := h
        have h2 : ((hu1 L p l F i X).1 ||| 1 <<< F i).testBit (F i) = true := by
          rw [Nat.testBit_or, Nat.one_shiftLeft, Nat.testBit_two_pow_self]
          exact Bool.or_true _
        rw [h, Nat.zero_testBit] at h2
        cases h2
      · intro h
        have := h.2 i (by omega)
        omega
    · rename_i c
      rw [ih]
      constructor
      · rintro ⟨h1, h2⟩
        refine ⟨h1, fun j hj => ?_⟩
        by_cases e : j = i
        · subst e
          omega
        · exact h2 j (by omega)
      · rintro ⟨h1, h2⟩
        exact ⟨h1, fun j hj => h2 j (by omega)⟩
theorem huT_0 {L : Lnd} {lost p l : Nat} : ∀ T : Nat, (huT L lost p l T).1 = 0 ↔ ∀ t, t < T → ∀ j, j < cM L lost t → frN L p l (fM L lost t) j ≤ L 8 (fM L lost t j)
  | 0 => ⟨fun _ t ht => absurd ht (Nat.not_lt_zero t), fun _ => rfl⟩
  | T + 1 => by
    have ih := huT_0 (L := L) (lost := lost) (p := p) (l := l) T
    show (hu1 L p l (fM L lost T) (cM L lost T) (huT L lost p l T)).1 = 0 ↔ _
    rw [hu1_0, ih]
    constructor
    · rintro ⟨h1, h2⟩ t ht
      by_cases e : t = T
      · subst e
        exact h2
      · exact h1 t (by omega)
    · intro h
      exact ⟨fun t ht => h t (by omega), h T (by omega)⟩
/-- two wants of one thing have no day in common -/
theorem gm_apart {L : Lnd} (hk : Lok L) {lost t w w' : Nat} (h : (gmM L lost t).testBit w = true) (h' : (gmM L lost t).testBit w' = true) (hne : w ≠ w') : ¬ (L 8 w < L 9 w' ∧ L 8 w' < L 9 w) := by
  obtain ⟨a1, a2, a3, a4, a5⟩ := gm_ok hk h
  obtain ⟨b1, b2, b3, b4, b5⟩ := gm_ok hk h'
  have ga := (gmM_test.mp h).2
  have gb := (gmM_test.mp h').2
  have hs := (hk.2.2.2.1 t a3).1
  rw [← a4] at ga a2
  rw [← b4] at gb b2
  have ia := gv_ix hk (hands := L 0 4) hs a2
  have ib := gv_ix hk (hands := L 0 4) hs b2
  obtain ⟨c, ⟨c0, h1, e⟩, h3⟩ := min_of (P := fun c => ∃ a, asg L (tC L (L 4 t) lost (L 0 2)) (bS L lost (L 4 t)) a ∧ c = codA L (L 0 4) (tF L (L 4 t) lost (L 0 2)) (tC L (L 4 t) lost (L 0 2)) (bS L lost (L 4 t)) a) (by
    obtain ⟨a, ha⟩ := gv_ok (lost := lost) (hands := L 0 4) hk hs
    exact ⟨_, a, ha, rfl⟩)
  have g := gv_eq hk (hands := L 0 4) hs h1 (fun c9 hc => by
    have := h3 _ ⟨c9, hc, rfl⟩
    omega)
  unfold gvT at ga gb
  rw [if_pos a2] at ga
  rw [if_pos b2] at gb
  have ta := (tF_of (L 0 2) _ ia).2.2
  have tb := (tF_of (L 0 2) _ ib).2.2
  have ga : tF L (L 4 t) lost (L 0 2) (gvV L lost (L 0 4) (L 4 t) / 4 ^ (11 - w) % 4) = t := by exact_mod_cast ga
  have gb : tF L (L 4 t) lost (L 0 2) (gvV L lost (L 0 4) (L 4 t) / 4 ^ (11 - w') % 4) = t := by exact_mod_cast gb
  rw [ga] at ta
  rw [gb] at tb
  rw [g.2.2 w a2] at ta ia
  rw [g.2.2 w' b2] at tb
  have hW := lk_W hk
  exact h1.2 (c0 w) ia w w' (clsM_test.mpr ⟨by omega, a2, rfl⟩) (clsM_test.mpr ⟨by omega, b2, by omega⟩) hne
theorem fM_apart {L : Lnd} (hk : Lok L) {lost t i : Nat} (hi : i + 1 < cM L lost t) : L 9 (fM L lost t i) ≤ L 8 (fM L lost t (i + 1)) := by
  have r := fM_row hk (lost := lost) (t := t)
  have a := r.1 i (by omega)
  have b := r.1 (i + 1) hi
  have o := r.2.2 i (i + 1) (by omega) hi
  have ha := hk.2.2.2.2.1 _ a.1
  have hb := hk.2.2.2.2.1 _ b.1
  have n := gm_apart hk a.2 b.2 (by
    intro e
    rw [e] at o
    omega)
  omega
theorem no_hurt {L : Lnd} (hk : Lok L) {lost p l t : Nat} : (∀ j, j < cM L lost t → frN L p l (fM L lost t) j ≤ L 8 (fM L lost t j)) ↔ ∀ i, i + 1 < cM L lost t → L 6 (fM L lost t i) = p → L 9 (fM L lost t i) + l ≤ L 8 (fM L lost t (i + 1)) := by
  have st : ∀ i, i + 1 < cM L lost t → frN L p l (fM L lost t) i ≤ L 8 (fM L lost t i) → frN L p l (fM L lost t) (i + 1) = L 9 (fM L lost t i) + (if L 6 (fM L lost t i) = p then l else 0) := by
    intro i hi h
    have hb := hk.2.2.2.2.1 _ (fM_in hk (lost := lost) (t := t) (i := i) (by omega)).1
    show (if L 9 (fM L lost t i) ≤ frN L p l (fM L lost t) i then frN L p l (fM L lost t) i else L 9 (fM L lost t i) + (if L 6 (fM L lost t i) = p then l else 0)) = _
    rw [if_neg (by omega)]
  constructor
  · intro h i hi hp
    have h1 := st i hi (h i (by omega))
    have h2 := h (i + 1) hi
    rw [if_pos hp] at h1
    omega
  · intro h j
    induction j with
    | zero => exact fun _ => Nat.zero_le _
    | succ j ih =>
      intro hj
      have h1 := st j hj (ih (by omega))
      have h2 := fM_apart hk hj
      by_cases hp : L 6 (fM L lost t j) = p
      · have h3 := h j hj hp
        rw [if_pos hp] at h1
        omega
      · rw [if_neg hp] at h1
        omega
/-- the greatest l with which nobody is hurt -/
def brP (L : Lnd) (lost p r : Nat) : Prop := r ≤ 60 ∧ (r = 0 ∨ (huT L lost p r (L 0 2)).1 = 0) ∧ ∀ l, r < l → l ≤ 60 → ¬ (huT L lost p l (L 0 2)).1 = 0
theorem brP_eq {L : Lnd} {lost p r r' : Nat} (h : brP L lost p r) (h' : brP L lost p r') : r = r' := by
  rcases Nat.lt_trichotomy r r' with c | c | c
  · rcases h'.2.1 with e | e
    · omega
    · exact absurd e (h.2.2 r' c h'.1)
  · exact c
  · rcases h.2.1 with e | e
    · omega
    · exact absurd e (h'.2.2 r c h.1)
noncomputable def brN (L : Lnd) (lost p : Nat) : Nat := Classical.epsilon (brP L lost p)
theorem brN_eq {L : Lnd} {lost p r : Nat} (h : brP L lost p r) : brN L lost p = r := brP_eq (Classical.epsilon_spec ⟨r, h⟩) h
theorem brP_gap {L : Lnd} (hk : Lok L) {lost p r : Nat} (h1 : r ≤ 60) (h2 : ∀ t, t < L 0 2 → ∀ i, i + 1 < cM L lost t → L 6 (fM L lost t i) = p → L 9 (fM L lost t i) + r ≤ L 8 (fM L lost t (i + 1))) (h3 : r = 60 ∨ ∃ t i, t < L 0 2 ∧ i + 1 < cM L lost t ∧ L 6 (fM L lost t i) = p ∧ L 9 (fM L lost t i) + r = L 8 (fM L lost t (i + 1))) : brP L lost p r := by
  refine ⟨h1, Or.inr ?_, fun l hl hl2 => ?_⟩
  · rw [huT_0]
    intro t ht
    exact (no_hurt hk).mpr (h2 t ht)
  · intro h4
    rw [huT_0] at h4
    rcases h3 with h3 | ⟨t, i, a, c, e, f⟩
    · omega
    · have := (no_hurt hk).mp (h4 t a) i c e
      omega
noncomputable def aLate (L : Lnd) (lost : Nat) (p l what : Int) : Int := if (0 ≤ p ∧ p < (L 0 0 : Int)) ∧ (1 ≤ l ∧ l ≤ 60) ∧ 0 ≤ what ∧ what ≤ 1 then (if what = 0 then ((huT L lost p.toNat l.toNat (L 0 2)).1 : Int) else ((huT L lost p.toNat l.toNat (L 0 2)).2 : Int)) else -1
noncomputable def aBears (L : Lnd) (lost : Nat) (p : Int) : Int := if 0 ≤ p ∧ p < (L 0 0 : Int) then (brN L lost p.toNat : Int) else -1
