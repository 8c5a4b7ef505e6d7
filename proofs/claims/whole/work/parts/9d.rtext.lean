/-! READING: the text, pure -/
noncomputable def cit {α : Type} (P : Prop) (a b : α) : α := @ite α P (Classical.propDecidable P) a b
theorem cit_p {α : Type} {P : Prop} {a b : α} (h : P) : cit P a b = a := if_pos h
theorem cit_n {α : Type} {P : Prop} {a b : α} (h : ¬ P) : cit P a b = b := if_neg h
def isLt (c : Int) : Bool := decide (97 ≤ c) && decide (c ≤ 122)
def isDg (c : Int) : Bool := decide (48 ≤ c) && decide (c ≤ 57)
def isBk (c : Int) : Bool := decide (c = 32) || decide (c = 10)
theorem isLt_i {c : Int} : isLt c = true ↔ 97 ≤ c ∧ c ≤ 122 := by simp [isLt]
theorem isDg_i {c : Int} : isDg c = true ↔ 48 ≤ c ∧ c ≤ 57 := by simp [isDg]
theorem isBk_i {c : Int} : isBk c = true ↔ c = 32 ∨ c = 10 := by simp [isBk]
def rnN (P : Int → Bool) (T : Nat → Int) : Nat → Nat → Nat
  | 0, p => p
  | k + 1, p => if P (T p) = true then rnN P T k (p + 1) else p
/-- where a run of such bytes ends -/
def rnE (P : Int → Bool) (T : Nat → Int) (m p : Nat) : Nat := rnN P T (m - p) p
section
variable {P : Int → Bool} {T : Nat → Int} {m p s : Nat}
theorem rnE_s (h : p < m) (h2 : P (T p) = true) : rnE P T m p = rnE P T m (p + 1) := by
  unfold rnE
  rw [show m - p = (m - (p + 1)) + 1 by omega]
  exact if_pos h2
theorem rnE_0 (h : ¬ (p < m ∧ P (T p) = true)) : rnE P T m p = p := by
  unfold rnE
  by_cases c : p < m
  · rw [show m - p = (m - (p + 1)) + 1 by omega]
    exact if_neg (fun h2 => h ⟨c, h2⟩)
  · rw [show m - p = 0 by omega]
    rfl
theorem rnN_b : ∀ (k p : Nat), p ≤ rnN P T k p ∧ rnN P T k p ≤ p + k ∧ ∀ q, p ≤ q → q < rnN P T k p → P (T q) = true
  | 0, p => ⟨Nat.le_refl _, Nat.le_refl _, fun q h1 h2 => by
      have h2 : q < p := h2
      omega⟩
  | k + 1, p => by
    unfold rnN
    split
    · rename_i c
      obtain ⟨a1, a2, a3⟩ := rnN_b k (p + 1)
      refine ⟨by omega, by omega, fun q h1 h2 => ?_⟩
      by_cases e : q = p
      · rw [e]
        exact c
      · exact a3 q (by omega) h2
    · exact ⟨Nat.le_refl _, by omega, fun q h1 h2 => by omega⟩
theorem rnE_b : p ≤ rnE P T m p ∧ (p ≤ m → rnE P T m p ≤ m) ∧ ∀ q, p ≤ q → q < rnE P T m p → P (T q) = true := by
  obtain ⟨a1, a2, a3⟩ := rnN_b (P := P) (T := T) (m - p) p
  refine ⟨a1, fun h => ?_, a3⟩
  show rnN P T (m - p) p ≤ m
  omega
/-- where a token that begins at s ends -/
def enT (T : Nat → Int) (m s : Nat) : Nat := if s < m then (if isLt (T s) = true then rnE isLt T m s else if isDg (T s) = true then rnE isDg T m s else s + 1) else s
/-- 0 the end, 1 a word, 2 a number, 3 ;, 4 another sign -/
def kdT (T : Nat → Int) (m s : Nat) : Nat := if s < m then (if isLt (T s) = true then 1 else if isDg (T s) = true then 2 else if T s = 59 then 3 else 4) else 0
def nxT (T : Nat → Int) (m s : Nat) : Nat := rnE isBk T m (enT T m s)
theorem enT_b (h : s ≤ m) : s ≤ enT T m s ∧ enT T m s ≤ m ∧ (s < m → s < enT T m s) := by
  unfold enT
  by_cases c : s < m
  · rw [if_pos c]
    by_cases c2 : isLt (T s) = true
    · rw [if_pos c2]
      have a := rnE_b (P := isLt) (T := T) (m := m) (p := s)
      have b := rnE_b (P := isLt) (T := T) (m := m) (p := s + 1)
      have e := rnE_s c c2
      exact ⟨a.1, a.2.1 h, fun _ => by omega⟩
    · rw [if_neg c2]
      by_cases c3 : isDg (T s) = true
      · rw [if_pos c3]
        have a := rnE_b (P := isDg) (T := T) (m := m) (p := s)
        have b := rnE_b (P := isDg) (T := T) (m := m) (p := s + 1)
        have e := rnE_s c c3
        exact ⟨a.1, a.2.1 h, fun _ => by omega⟩
      · rw [if_neg c3]
        exact ⟨by omega, by omega, fun _ => by omega⟩
  · rw [if_neg c]
    exact ⟨Nat.le_refl _, h, fun h9 => absurd h9 c⟩
theorem nxT_b (h : s ≤ m) : s ≤ nxT T m s ∧ nxT T m s ≤ m ∧ (s < m → s < nxT T m s) := by
  have a := enT_b (T := T) h
  have b := rnE_b (P := isBk) (T := T) (m := m) (p := enT T m s)
  unfold nxT
  exact ⟨by omega, b.2.1 a.2.1, fun h9 => by have := a.2.2 h9; omega⟩
theorem kdT_0 : kdT T m s = 0 ↔ ¬ s < m := by
  unfold kdT
  by_cases c : s < m
  · rw [if_pos c]
    constructor
    · intro h
      split at h
      · omega
      · split at h
        · omega
        · split at h <;> omega
    · intro h
      exact absurd c h
  · rw [if_neg c]
    exact ⟨fun _ => c, fun _ => rfl⟩
theorem kdT_1 : kdT T m s = 1 ↔ s < m ∧ isLt (T s) = true := by
  unfold kdT
  by_cases c : s < m
  · rw [if_pos c]
    by_cases c2 : isLt (T s) = true
    · rw [if_pos c2]
      exact ⟨fun _ => ⟨c, c2⟩, fun _ => rfl⟩
    · rw [if_neg c2]
      constructor
      · intro h
        split at h
        · omega
        · split at h <;> omega
      · intro h
        exact absurd h.2 c2
  · rw [if_neg c]
    exact ⟨fun h => by omega, fun h => absurd h.1 c⟩
theorem kdT_2 : kdT T m s = 2 ↔ s < m ∧ isDg (T s) = true := by
  unfold kdT
  by_cases c : s < m
  · rw [if_pos c]
    by_cases c2 : isLt (T s) = true
    · rw [if_pos c2]
      refine ⟨fun h => by omega, fun h => ?_⟩
      have a := isLt_i.mp c2
      have b := isDg_i.mp h.2
      omega
    · rw [if_neg c2]
      by_cases c3 : isDg (T s) = true
      · rw [if_pos c3]
        exact ⟨fun _ => ⟨c, c3⟩, fun _ => rfl⟩
      · rw [if_neg c3]
        refine ⟨fun h => ?_, fun h => absurd h.2 c3⟩
        split at h <;> omega
  · rw [if_neg c]
    exact ⟨fun h => by omega, fun h => absurd h.1 c⟩
theorem kdT_3 : kdT T m s = 3 ↔ s < m ∧ T s = 59 := by
  unfold kdT
  by_cases c : s < m
  · rw [if_pos c]
    by_cases c2 : isLt (T s) = true
    · rw [if_pos c2]
      refine ⟨fun h => by omega, fun h => ?_⟩
      have a := isLt_i.mp c2
      omega
    · rw [if_neg c2]
      by_cases c3 : isDg (T s) = true
      · rw [if_pos c3]
        refine ⟨fun h => by omega, fun h => ?_⟩
        have a := isDg_i.mp c3
        omega
      · rw [if_neg c3]
        by_cases c4 : T s = 59
        · rw [if_pos c4]
          exact ⟨fun _ => ⟨c, c4⟩, fun _ => rfl⟩
        · rw [if_neg c4]
          exact ⟨fun h => by omega, fun h => absurd h.2 c4⟩
  · rw [if_neg c]
    exact ⟨fun h => by omega, fun h => absurd h.1 c⟩
theorem enT_1 (h : kdT T m s = 1) : enT T m s = rnE isLt T m s := by
  obtain ⟨h1, h2⟩ := kdT_1.mp h
  unfold enT
  rw [if_pos h1, if_pos h2]
theorem enT_2 (h : kdT T m s = 2) : enT T m s = rnE isDg T m s := by
  obtain ⟨h1, h2⟩ := kdT_2.mp h
  unfold enT
  rw [if_pos h1, if_neg (fun h9 => by
    have a := isLt_i.mp h9
    have b := isDg_i.mp h2
    omega), if_pos h2]
/-- the number that the first letters of a word make -/
def nmV (T : Nat → Int) (s : Nat) : Nat → Nat
  | 0 => 0
  | k + 1 => nmV T s k * 32 + (T (s + k) - 96).toNat
def nuV (T : Nat → Int) (s : Nat) : Nat → Nat
  | 0 => 0
  | k + 1 => nuV T s k * 10 + (T (s + k) - 48).toNat
def nmT (T : Nat → Int) (m s : Nat) : Nat := nmV T s (enT T m s - s)
def nuT (T : Nat → Int) (m s : Nat) : Nat := nuV T s (enT T m s - s)
theorem nmV_lt : ∀ k : Nat, (∀ i, i < k → 97 ≤ T (s + i) ∧ T (s + i) ≤ 122) → nmV T s k < 32 ^ k
  | 0, _ => by
    show (0 : Nat) < 1
    decide
  | k + 1, h => by
    have h1 := nmV_lt k (fun i hi => h i (by omega))
    have h2 := h k (by omega)
    show nmV T s k * 32 + (T (s + k) - 96).toNat < 32 ^ (k + 1)
    rw [Nat.pow_succ]
    omega
theorem nmV_inj {T' : Nat → Int} {s' : Nat} : ∀ k k' : Nat, (∀ i, i < k → 97 ≤ T (s + i) ∧ T (s + i) ≤ 122) → (∀ i, i < k' → 97 ≤ T' (s' + i) ∧ T' (s' + i) ≤ 122) → nmV T s k = nmV T' s' k' → k = k' ∧ ∀ i, i < k → T (s + i) = T' (s' + i)
  | 0, 0, _, _, _ => ⟨rfl, fun i hi => absurd hi (Nat.not_lt_zero i)⟩
  | 0, k' + 1, _, h', h => by
    have h2 := h' k' (by omega)
    have h : 0 = nmV T' s' k' * 32 + (T' (s' + k') - 96).toNat := h
    omega
  | k + 1, 0, h1, _, h => by
    have h2 := h1 k (by omega)
    have h : nmV T s k * 32 + (T (s + k) - 96).toNat = 0 := h
    omega
  | k + 1, k' + 1, h1, h1', h => by
    have a := h1 k (by omega)
    have b := h1' k' (by omega)
    have h : nmV T s k * 32 + (T (s + k) - 96).toNat = nmV T' s' k' * 32 + (T' (s' + k') - 96).toNat := h
    obtain ⟨e1, e2⟩ := nmV_inj k k' (fun i hi => h1 i (by omega)) (fun i hi => h1' i (by omega)) (by omega)
    subst e1
    refine ⟨rfl, fun i hi => ?_⟩
    by_cases e : i = k
    · subst e
      omega
    · exact e2 i (by omega)
theorem wd_let (h : kdT T m s = 1) : ∀ i, i < enT T m s - s → 97 ≤ T (s + i) ∧ T (s + i) ≤ 122 := by
  intro i hi
  have e := enT_1 h
  have b := (rnE_b (P := isLt) (T := T) (m := m) (p := s)).2.2 (s + i) (by omega) (by omega)
  exact isLt_i.mp b
theorem nu_dig (h : kdT T m s = 2) : ∀ i, i < enT T m s - s → 48 ≤ T (s + i) ∧ T (s + i) ≤ 57 := by
  intro i hi
  have e := enT_2 h
  have b := (rnE_b (P := isDg) (T := T) (m := m) (p := s)).2.2 (s + i) (by omega) (by omega)
  exact isDg_i.mp b
theorem nmT_lt (h : kdT T m s = 1) (h8 : enT T m s - s ≤ 8) : nmT T m s < 1099511627776 := by
  have a := nmV_lt _ (wd_let h)
  have b : 32 ^ (enT T m s - s) ≤ 32 ^ 8 := Nat.pow_le_pow_right (by decide) h8
  have c : (32 : Nat) ^ 8 = 1099511627776 := by decide
  unfold nmT
  omega
end
/-! the words that are no names -/
def kwL (w : Nat) : Nat := am_slL.getD w 0
def kwC (w i : Nat) : Int := (am_sbI.getD w []).getD i 0
/-- the token at s is the w-th such word -/
def kwB (T : Nat → Int) (m s w : Nat) : Prop := s < m ∧ enT T m s - s = kwL w ∧ ∀ i, i < kwL w → T (s + i) = kwC w i
theorem kw_let : ∀ w, w < 7 → 1 ≤ kwL w ∧ kwL w ≤ 6 ∧ ∀ i, i < kwL w → 97 ≤ kwC w i ∧ kwC w i ≤ 122 := by decide +kernel
theorem kwB_1 {T : Nat → Int} {m s w : Nat} (hw : w < 7) (h : kwB T m s w) : kdT T m s = 1 := by
  obtain ⟨a1, a2, a3⟩ := kw_let w hw
  refine kdT_1.mpr ⟨h.1, isLt_i.mpr ?_⟩
  have h2 := h.2.2 0 (by omega)
  rw [Nat.add_zero] at h2
  rw [h2]
  exact a3 0 (by omega)
def kwN (w : Nat) : Nat := nmV (kwC w) 0 (kwL w)
theorem kwB_n {T : Nat → Int} {m s w : Nat} (h : kwB T m s w) : nmT T m s = kwN w := by
  unfold nmT kwN
  rw [h.2.1]
  have : ∀ k, k ≤ kwL w → nmV T s k = nmV (kwC w) 0 k := by
    intro k
    induction k with
    | zero => exact fun _ => rfl
    | succ k ih =>
      intro hk
      show nmV T s k * 32 + (T (s + k) - 96).toNat = nmV (kwC w) 0 k * 32 + (kwC w (0 + k) - 96).toNat
      rw [ih (by omega), h.2.2 k (by omega), Nat.zero_add]
  exact this _ (Nat.le_refl _)
theorem kwN_B {T : Nat → Int} {m s w : Nat} (hw : w < 7) (h : kdT T m s = 1) (he : nmT T m s = kwN w) : kwB T m s w := by
  obtain ⟨a1, a2, a3⟩ := kw_let w hw
  obtain ⟨e1, e2⟩ := nmV_inj (T' := kwC w) (s' := 0) _ (kwL w) (wd_let h) (fun i hi => by rw [Nat.zero_add]; exact a3 i hi) he
  refine ⟨(kdT_1.mp h).1, e1, fun i hi => ?_⟩
  have := e2 i (by omega)
  rw [Nat.zero_add] at this
  exact this
theorem kwB_one {T : Nat → Int} {m s w w' : Nat} (hw : w < 7) (hw' : w' < 7) (h : kwB T m s w) (h' : kwB T m s w') : w = w' := by
  have e : kwN w = kwN w' := (kwB_n h).symm.trans (kwB_n h')
  have : ∀ w, w < 7 → ∀ w', w' < 7 → kwN w = kwN w' → w = w' := by decide +kernel
  exact this w hw w' hw' e
/-! finding -/
def fdN (f : Nat → Nat) (x : Nat) : Nat → Nat
  | 0 => 0
  | k + 1 => if fdN f x k < k then fdN f x k else if f k = x then k else k + 1
theorem fdN_le (f : Nat → Nat) (x : Nat) : ∀ k : Nat, fdN f x k ≤ k
  | 0 => Nat.le_refl _
  | k + 1 => by
    have := fdN_le f x k
    unfold fdN
    split
    · omega
    · split <;> omega
theorem fdN_lt {f : Nat → Nat} {x : Nat} : ∀ k : Nat, fdN f x k < k → f (fdN f x k) = x ∧ ∀ i, i < fdN f x k → f i ≠ x
  | 0, h => absurd h (Nat.not_lt_zero _)
  | k + 1, h => by
    have hle := fdN_le f x k
    have ih := fdN_lt (f := f) (x := x) k
    have hn : fdN f x k = k → ∀ i, i < k → f i ≠ x := by
      clear h ih hle
      induction k with
      | zero => exact fun _ i hi => absurd hi (Nat.not_lt_zero i)
      | succ k ihk =>
        intro h i hi
        have hle := fdN_le f x k
        have h : (if fdN f x k < k then fdN f x k else if f k = x then k else k + 1) = k + 1 := h
        split at h
        · omega
        · rename_i c
          split at h
          · omega
          · rename_i c2
            by_cases e : i = k
            · rw [e]
              exact c2
            · exact ihk (by omega) i (by omega)
    by_cases c : fdN f x k < k
    · have e : fdN f x (k + 1) = fdN f x k := if_pos c
      rw [e]
      exact ih c
    · by_cases c2 : f k = x
      · have e : fdN f x (k + 1) = k := (if_neg c).trans (if_pos c2)
        rw [e]
        exact ⟨c2, hn (by omega)⟩
      · have e : fdN f x (k + 1) = k + 1 := (if_neg c).trans (if_neg c2)
        omega
theorem fdN_no {f : Nat → Nat} {x : Nat} : ∀ k : Nat, ¬ fdN f x k < k → ∀ i, i < k → f i ≠ x
  | 0, _ => fun i hi => absurd hi (Nat.not_lt_zero i)
  | k + 1, h => by
    intro i hi
    have hle := fdN_le f x k
    unfold fdN at h
    split at h
    · omega
    · rename_i c
      split at h
      · omega
      · rename_i c2
        by_cases e : i = k
        · rw [e]
          exact c2
        · exact fdN_no k c i (by omega)
theorem fdN_at {f : Nat → Nat} {x k i : Nat} (hi : i < k) (h1 : f i = x) (h2 : ∀ j, j < i → f j ≠ x) : fdN f x k = i := by
  by_cases c : fdN f x k < k
  · obtain ⟨a1, a2⟩ := fdN_lt k c
    rcases Nat.lt_trichotomy (fdN f x k) i with e | e | e
    · exact absurd a1 (h2 _ e)
    · exact e
    · exact absurd h1 (a2 _ e)
  · exact absurd h1 (fdN_no k c i hi)
