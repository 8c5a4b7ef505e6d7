/-! PURE: wants that are met -/
theorem sumN_ext {f : Nat → Nat} {k : Nat} (h : ∀ i, k ≤ i → f i = 0) : ∀ l : Nat, k ≤ l → sumN l f = sumN k f := by
  intro l hl
  induction l with
  | zero =>
    have : k = 0 := by omega
    rw [this]
  | succ l ih =>
    by_cases h1 : k = l + 1
    · rw [h1]
    · rw [sumN_s, ih (by omega), h l (by omega), Nat.add_zero]
theorem sumN_ind (a : Nat) : ∀ k : Nat, sumN k (fun w => if w = a then 1 else 0) = if a < k then 1 else 0
  | 0 => rfl
  | k + 1 => by
    rw [sumN_s, sumN_ind a k]
    by_cases h1 : k = a
    · subst h1
      simp
    · by_cases h2 : a < k
      · simp [h1, h2, Nat.lt_succ_of_lt h2]
      · simp [h1, h2, show ¬ a < k + 1 by omega]
theorem last_of {P : Nat → Prop} : ∀ k : Nat, (∃ j, j < k ∧ P j) → ∃ j, j < k ∧ P j ∧ ∀ i, j < i → i < k → ¬ P i
  | 0, h => by
    obtain ⟨j, hj, _⟩ := h
    exact absurd hj (Nat.not_lt_zero j)
  | k + 1, h => by
    by_cases h1 : P k
    · exact ⟨k, by omega, h1, fun i h2 h3 => by omega⟩
    · obtain ⟨j, hj, hp⟩ := h
      have hjk : j < k := by
        by_cases h2 : j = k
        · subst h2; exact absurd hp h1
        · omega
      obtain ⟨j2, h2, h3, h4⟩ := last_of k ⟨j, hjk, hp⟩
      refine ⟨j2, by omega, h3, fun i h5 h6 => ?_⟩
      by_cases h7 : i = k
      · subst h7; exact h1
      · exact h4 i h5 (by omega)
def prM (ws : Nat → Nat) : Nat → Nat
  | 0 => 0
  | j + 1 => prM ws j ||| 1 <<< ws j
theorem prM_test {ws : Nat → Nat} {w : Nat} : ∀ j : Nat, (prM ws j).testBit w = true ↔ ∃ i, i < j ∧ ws i = w
  | 0 => by
    simp [prM]
  | j + 1 => by
    rw [prM, Nat.testBit_or, Bool.or_eq_true, prM_test j, Nat.one_shiftLeft, Nat.testBit_two_pow, decide_eq_true_iff]
    constructor
    · rintro (⟨i, h1, h2⟩ | h)
      · exact ⟨i, by omega, h2⟩
      · exact ⟨j, by omega, h⟩
    · rintro ⟨i, h1, h2⟩
      by_cases h3 : i = j
      · subst h3; exact Or.inr h2
      · exact Or.inl ⟨i, by omega, h2⟩
def wsOk (L : Lnd) (pool : Nat) (ws : Nat → Nat) (sz : Nat) : Prop :=
  (∀ i, i < sz → ws i < L 0 3 ∧ pool.testBit (ws i) = true) ∧ (∀ w, pool.testBit w = true → ∃ i, i < sz ∧ ws i = w) ∧ (∀ i j, i < j → j < sz → L 8 (ws i) ≤ L 8 (ws j) ∧ ws i ≠ ws j)
def cE (L : Lnd) (long : Int) (lby m x : Nat) : Nat := sumN 12 (fun w => if m.testBit w = true ∧ x < eE L long lby w then 1 else 0)
def rmN (many : Nat) (more : Int) (d : Nat) : Nat := many + (if (d : Int) = more then 1 else 0)
def fitC (L : Lnd) (many : Nat) (more long : Int) (lby : Nat) (ws : Nat → Nat) (m j : Nat) : Prop :=
  cE L long lby (m &&& prM ws j) (L 8 (ws j)) < rmN many more (L 8 (ws j)) ∧ (L 8 (ws j) + 1 < eE L long lby (ws j) → cE L long lby (m &&& prM ws j) (L 8 (ws j) + 1) < rmN many more (L 8 (ws j) + 1))
theorem sub_lt {m pool : Nat} {w : Nat} (h : m &&& pool = m) (hw : m.testBit w = true) : pool.testBit w = true := sub_iff.mp h w hw
theorem cD_12 {L : Lnd} {long : Int} {lby m d pool : Nat} (hW : L 0 3 ≤ 12) (hm : m &&& pool = m) (hp : ∀ w, pool.testBit w = true → w < L 0 3) : cD L long lby m d = sumN 12 (fun w => if m.testBit w = true ∧ L 8 w ≤ d ∧ d < eE L long lby w then 1 else 0) := by
  unfold cD
  rw [sumN_ext (k := L 0 3) (fun i hi => by
    rw [if_neg]
    intro h
    have := hp i (sub_lt hm h.1)
    omega) 12 hW]
section
variable {L : Lnd} {long more : Int} {lby many pool sz m : Nat} {ws : Nat → Nat}
theorem fit_of_fitC (hk : Lok L) (hw : wsOk L pool ws sz) (hp : ∀ w, pool.testBit w = true → w < L 0 3) (hm : m &&& pool = m) (h : ∀ j, j < sz → m.testBit (ws j) = true → fitC L many more long lby ws m j) : fitP L many more long lby m := by
  intro d hd
  rw [cD_12 (lk_W hk) hm hp]
  by_cases h0 : ∃ j, j < sz ∧ (m.testBit (ws j) = true ∧ L 8 (ws j) ≤ d ∧ d < eE L long lby (ws j))
  · obtain ⟨j, hj, hP, hl⟩ := last_of sz h0
    have hf := h j hj hP.1
    -- all that are on the day are ahead of j, or j
    have hc : ∀ x, x ≤ d → sumN 12 (fun w => if m.testBit w = true ∧ L 8 w ≤ d ∧ d < eE L long lby w then 1 else 0) ≤ cE L long lby (m &&& prM ws j) x + 1 := by
      intro x hx
      have h1 : sumN 12 (fun w => if m.testBit w = true ∧ L 8 w ≤ d ∧ d < eE L long lby w then 1 else 0) ≤ sumN 12 (fun w => (if (m &&& prM ws j).testBit w = true ∧ x < eE L long lby w then 1 else 0) + (if w = ws j then 1 else 0)) := by
        refine sumN_mono 12 (fun w _ => ?_)
        (try dsimp only)
        by_cases h2 : m.testBit w = true ∧ L 8 w ≤ d ∧ d < eE L long lby w
        · rw [if_pos h2]
          obtain ⟨i, hi, hiw⟩ := hw.2.1 w (sub_lt hm h2.1)
          by_cases h3 : i = j
          · subst h3
            rw [if_pos (c := w = ws i) hiw.symm]
            omega
          · have h4 : i < j := by
              by_cases h5 : j < i
              · exact absurd (by rw [hiw]; exact h2) (hl i h5 hi)
              · omega
            rw [if_pos (c := (m &&& prM ws j).testBit w = true ∧ x < eE L long lby w)]
            · omega
            · refine ⟨?_, by omega⟩
              rw [Nat.testBit_and, Bool.and_eq_true]
              exact ⟨h2.1, (prM_test j).mpr ⟨i, h4, hiw⟩⟩
        · rw [if_neg h2]
          omega
      rw [sumN_add, sumN_ind] at h1
      have : (if ws j < 12 then 1 else 0) ≤ 1 := by split <;> omega
      unfold cE
      omega
    by_cases h1 : (L 8 (ws j) : Int) = more ∧ L 8 (ws j) < d
    · have h2 := hf.2 (by omega)
      have h3 := hc (L 8 (ws j) + 1) (by omega)
      unfold rmN at h2
      rw [if_neg (by omega)] at h2
      omega
    · have h2 := hf.1
      have h3 := hc (L 8 (ws j)) (by omega)
      unfold rmN at h2
      by_cases h4 : (L 8 (ws j) : Int) = more
      · have : L 8 (ws j) = d := by omega
        rw [this] at h2 h3
        omega
      · rw [if_neg h4] at h2
        omega
  · have h1 : sumN 12 (fun w => if m.testBit w = true ∧ L 8 w ≤ d ∧ d < eE L long lby w then 1 else 0) = sumN 12 (fun _ => 0) := by
      refine sumN_congr 12 (fun w _ => ?_)
      rw [if_neg]
      intro h2
      obtain ⟨i, hi, hiw⟩ := hw.2.1 w (sub_lt hm h2.1)
      exact h0 ⟨i, hi, by rw [hiw]; exact h2⟩
    rw [h1, sumN_zero]
    omega
theorem fitC_of_fit (hk : Lok L) (hw : wsOk L pool ws sz) (hp : ∀ w, pool.testBit w = true → w < L 0 3) (hm : m &&& pool = m) (h60 : ∀ w, w < L 0 3 → eE L long lby w ≤ 60) (h : fitP L many more long lby m) : ∀ j, j < sz → m.testBit (ws j) = true → fitC L many more long lby ws m j := by
  intro j hj hmj
  have hwj := (hw.1 j hj).1
  have hk1 := hk.2.2.2.2.1 (ws j) hwj
  have hW := lk_W hk
  have hE : L 9 (ws j) ≤ eE L long lby (ws j) := by unfold eE; omega
  have hc : ∀ x, L 8 (ws j) ≤ x → x < eE L long lby (ws j) → cE L long lby (m &&& prM ws j) x < rmN many more x := by
    intro x hx1 hx2
    have h1 := h x (by have := h60 (ws j) hwj; omega)
    rw [cD_12 hW hm hp] at h1
    have h2 : sumN 12 (fun w => (if (m &&& prM ws j).testBit w = true ∧ x < eE L long lby w then 1 else 0) + (if w = ws j then 1 else 0)) ≤ sumN 12 (fun w => if m.testBit w = true ∧ L 8 w ≤ x ∧ x < eE L long lby w then 1 else 0) := by
      refine sumN_mono 12 (fun w _ => ?_)
      (try dsimp only)
      by_cases h3 : (m &&& prM ws j).testBit w = true ∧ x < eE L long lby w
      · rw [Nat.testBit_and, Bool.and_eq_true] at h3
        obtain ⟨i, hi, hiw⟩ := (prM_test j).mp h3.1.2
        have h4 := hw.2.2 i j hi hj
        rw [if_neg (c := w = ws j) (by rw [← hiw]; exact h4.2), if_pos (c := m.testBit w = true ∧ L 8 w ≤ x ∧ x < eE L long lby w) ⟨h3.1.1, by rw [← hiw]; omega, h3.2⟩]
        split <;> omega
      · rw [if_neg h3]
        by_cases h4 : w = ws j
        · subst h4
          rw [if_pos rfl, if_pos ⟨hmj, hx1, hx2⟩]
          omega
        · rw [if_neg h4]
          omega
    rw [sumN_add, sumN_ind, if_pos (by omega)] at h2
    unfold cE rmN
    omega
  exact ⟨hc _ (Nat.le_refl _) (by omega), fun h1 => hc _ (by omega) h1⟩
/-- what one want counts -/
def vW (L : Lnd) (w : Nat) : Int := 65536 * (L 10 w : Int) - 4096 - ((1 <<< w : Nat) : Int)
theorem vW_pos (hk : Lok L) {w : Nat} (hw : w < L 0 3) : 0 < vW L w ∧ vW L w ≤ 6488064 := by
  have h1 := hk.2.2.2.2.1 w hw
  have h2 := shl_12 (q := w) (by have := lk_W hk; omega)
  unfold vW
  generalize 1 <<< w = s at h2 ⊢
  omega
/-- what the wants from i on could bring at most -/
def rsN (L : Lnd) (ws : Nat → Nat) (sz i : Nat) : Int := sumZ (sz - i) (fun k => vW L (ws (sz - 1 - k)))
theorem rsN_s {i : Nat} (h : i < sz) : rsN L ws sz i = rsN L ws sz (i + 1) + vW L (ws i) := by
  unfold rsN
  rw [show sz - i = (sz - (i + 1)) + 1 by omega, sumZ_s, show sz - 1 - (sz - (i + 1)) = i by omega]
theorem rsN_end : rsN L ws sz sz = 0 := by
  unfold rsN
  rw [Nat.sub_self]
  rfl
/-- m completes what is chosen of the first i -/
def compl (L : Lnd) (many : Nat) (more long : Int) (lby : Nat) (must : Int) (pool : Nat) (ws : Nat → Nat) (sz i bits m : Nat) : Prop :=
  m &&& pool = m ∧ m &&& prM ws i = bits ∧ (∀ j, i ≤ j → j < sz → m.testBit (ws j) = true → fitC L many more long lby ws m j) ∧ (∀ j, i ≤ j → j < sz → (ws j : Int) = must → m.testBit (ws j) = true)
variable {must : Int}
theorem compl_y {i bits : Nat} (h : compl L many more long lby must pool ws sz i bits m) (hi : i < sz) (hb : m.testBit (ws i) = true) : compl L many more long lby must pool ws sz (i + 1) (bits ||| 1 <<< ws i) m := by
  refine ⟨h.1, ?_, fun j hj => h.2.2.1 j (by omega), fun j hj => h.2.2.2 j (by omega)⟩
  rw [prM, Nat.and_or_distrib_left, h.2.1]
  congr 1
  apply Nat.eq_of_testBit_eq
  intro k
  rw [Nat.testBit_and, Nat.one_shiftLeft, Nat.testBit_two_pow]
  by_cases hk : ws i = k
  · subst hk
    simp [hb]
  · simp [hk]
theorem compl_n {i bits : Nat} (h : compl L many more long lby must pool ws sz i bits m) (hi : i < sz) (hb : ¬ m.testBit (ws i) = true) : compl L many more long lby must pool ws sz (i + 1) bits m := by
  refine ⟨h.1, ?_, fun j hj => h.2.2.1 j (by omega), fun j hj => h.2.2.2 j (by omega)⟩
  rw [prM, Nat.and_or_distrib_left, h.2.1]
  have : m &&& 1 <<< ws i = 0 := by
    apply Nat.eq_of_testBit_eq
    intro k
    rw [Nat.testBit_and, Nat.one_shiftLeft, Nat.testBit_two_pow, Nat.zero_testBit]
    by_cases hk : ws i = k
    · subst hk
      simpa using hb
    · simp [hk]
  rw [this, Nat.or_zero]
theorem compl_back {i bits b1 : Nat} (h : compl L many more long lby must pool ws sz (i + 1) b1 m) (hb : b1 &&& prM ws i = bits) (h1 : m.testBit (ws i) = true → fitC L many more long lby ws m i) (h2 : (ws i : Int) = must → m.testBit (ws i) = true) : compl L many more long lby must pool ws sz i bits m := by
  refine ⟨h.1, ?_, fun j hj hj2 hj3 => ?_, fun j hj hj2 hj3 => ?_⟩
  · rw [← hb, ← h.2.1, Nat.and_assoc]
    congr 1
    apply Nat.eq_of_testBit_eq
    intro k
    rw [Nat.testBit_and, prM, Nat.testBit_or]
    cases (prM ws i).testBit k <;> simp
  · by_cases h3 : j = i
    · subst h3; exact h1 hj3
    · exact h.2.2.1 j (by omega) hj2 hj3
  · by_cases h3 : j = i
    · subst h3; exact h2 hj3
    · exact h.2.2.2 j (by omega) hj2 hj3
theorem bits_free (hw : wsOk L pool ws sz) {i bits : Nat} (hi : i < sz) (hb : bits &&& prM ws i = bits) : bits.testBit (ws i) = false := by
  by_cases h : bits.testBit (ws i) = true
  · obtain ⟨k, hk, h2⟩ := (prM_test i).mp (sub_lt hb h)
    exact absurd h2 (hw.2.2 k i hk hi).2
  · simpa using h
theorem bits_y {i bits : Nat} (hb : bits &&& prM ws i = bits) : (bits ||| 1 <<< ws i) &&& prM ws (i + 1) = bits ||| 1 <<< ws i := by
  apply sub_iff.mpr
  intro k hk
  rw [prM, Nat.testBit_or, Bool.or_eq_true]
  rw [Nat.testBit_or, Bool.or_eq_true] at hk
  rcases hk with h | h
  · exact Or.inl (sub_lt hb h)
  · exact Or.inr h
theorem bits_n {i bits : Nat} (hb : bits &&& prM ws i = bits) : bits &&& prM ws (i + 1) = bits := by
  apply sub_iff.mpr
  intro k hk
  rw [prM, Nat.testBit_or, Bool.or_eq_true]
  exact Or.inl (sub_lt hb hk)
theorem bits_yb (hw : wsOk L pool ws sz) {i bits : Nat} (hi : i < sz) (hb : bits &&& prM ws i = bits) : (bits ||| 1 <<< ws i) &&& prM ws i = bits := by
  apply Nat.eq_of_testBit_eq
  intro k
  rw [Nat.testBit_and, Nat.testBit_or, Nat.one_shiftLeft, Nat.testBit_two_pow]
  by_cases h : (prM ws i).testBit k = true
  · obtain ⟨q, hq, h2⟩ := (prM_test i).mp h
    have : ¬ ws i = k := fun h3 => (hw.2.2 q i hq hi).2 (by omega)
    simp [h, this]
  · have : ¬ bits.testBit k = true := fun h3 => h (sub_lt hb h3)
    simp at h this
    simp [h, this]
/-- no completion counts more than all that is left would bring -/
theorem compl_le (hk : Lok L) (hw : wsOk L pool ws sz) : ∀ (r i bits : Nat), sz - i = r → i ≤ sz → bits &&& prM ws i = bits → compl L many more long lby must pool ws sz i bits m → vN L m ≤ vN L bits + rsN L ws sz i
  | 0, i, bits, hr, hi, hb, h => by
    have e : i = sz := by omega
    subst e
    have : m = bits := by
      rw [← h.2.1]
      apply (sub_iff.mpr _).symm
      intro w hm
      obtain ⟨q, hq, h2⟩ := hw.2.1 w (sub_lt h.1 hm)
      exact (prM_test i).mpr ⟨q, hq, h2⟩
    rw [this, rsN_end]
    omega
  | r + 1, i, bits, hr, hi, hb, h => by
    have hlt : i < sz := by omega
    have hwi := (hw.1 i hlt).1
    have hp := vW_pos hk hwi
    rw [rsN_s hlt]
    by_cases h1 : m.testBit (ws i) = true
    · have ih := compl_le hk hw r (i + 1) _ (by omega) (by omega) (bits_y hb) (compl_y h hlt h1)
      rw [vN_or hwi (lk_W hk) (bits_free hw hlt hb)] at ih
      unfold vW
      omega
    · have ih := compl_le hk hw r (i + 1) bits (by omega) (by omega) (bits_n hb) (compl_n h hlt h1)
      omega
theorem compl_end (hw : wsOk L pool ws sz) {bits : Nat} (hb : bits &&& prM ws sz = bits) (h : compl L many more long lby must pool ws sz sz bits m) : m = bits := by
  rw [← h.2.1]
  apply (sub_iff.mpr _).symm
  intro w hm
  obtain ⟨q, hq, h2⟩ := hw.2.1 w (sub_lt h.1 hm)
  exact (prM_test sz).mpr ⟨q, hq, h2⟩
/-- a want fits behind what is chosen -/
def fitB (L : Lnd) (many : Nat) (more long : Int) (lby : Nat) (ws : Nat → Nat) (bits j : Nat) : Prop :=
  cE L long lby bits (L 8 (ws j)) < rmN many more (L 8 (ws j)) ∧ (L 8 (ws j) + 1 < eE L long lby (ws j) → cE L long lby bits (L 8 (ws j) + 1) < rmN many more (L 8 (ws j) + 1))
theorem compl_fitB {i bits : Nat} (h : compl L many more long lby must pool ws sz i bits m) (hi : i < sz) (hb : m.testBit (ws i) = true) : fitB L many more long lby ws bits i := by
  have := h.2.2.1 i (Nat.le_refl i) hi hb
  unfold fitC at this
  rw [h.2.1] at this
  exact this
theorem fitC_y {i bits : Nat} (hw : wsOk L pool ws sz) (hi : i < sz) (hb : bits &&& prM ws i = bits) (h : compl L many more long lby must pool ws sz (i + 1) (bits ||| 1 <<< ws i) m) (hf : fitB L many more long lby ws bits i) : fitC L many more long lby ws m i := by
  have e : m &&& prM ws i = bits := by
    rw [← bits_yb hw hi hb, ← h.2.1, Nat.and_assoc]
    congr 1
    apply Nat.eq_of_testBit_eq
    intro k
    rw [Nat.testBit_and, prM, Nat.testBit_or]
    cases (prM ws i).testBit k <;> simp
  unfold fitC
  rw [e]
  exact hf
/-- what is found at last is the best heap -/
theorem best_of (hk : Lok L) (hw : wsOk L pool ws sz) (hp : ∀ w, pool.testBit w = true → w < L 0 3) (h60 : ∀ w, w < L 0 3 → eE L long lby w ≤ 60) (hmust : ∀ w : Nat, (w : Int) = must → pool.testBit w = true) : (compl L many more long lby must pool ws sz 0 0 m ↔ m &&& pool = m ∧ mustP must m ∧ fitP L many more long lby m) := by
  constructor
  · intro h
    refine ⟨h.1, fun w hwm => ?_, fit_of_fitC hk hw hp h.1 (fun j hj hj2 => h.2.2.1 j (Nat.zero_le j) hj hj2)⟩
    obtain ⟨i, hi, h2⟩ := hw.2.1 w (hmust w hwm)
    rw [← h2]
    exact h.2.2.2 i (Nat.zero_le i) hi (by rw [h2]; exact hwm)
  · intro h
    refine ⟨h.1, by rw [prM, Nat.and_zero], fun j _ hj hj2 => fitC_of_fit hk hw hp h.1 h60 h.2.2 j hj hj2, fun j _ hj hj2 => h.2.1 _ hj2⟩
end
def bcE (a0 : Int) : Int := (fun a1 => (fun a2 => (fun a3 => (fun a4 => (fun a5 => am_and a5 63) (w32 (a4 + am_ushr a4 16))) (w32 (a3 + am_ushr a3 8))) (am_and (w32 (a2 + am_ushr a2 4)) 252645135)) (w32 (am_and a1 858993459 + am_and (am_ushr a1 2) 858993459))) (w32 (a0 - am_and (am_ushr a0 1) 1431655765))
set_option maxRecDepth 100000 in
theorem bc_ok0 : (List.range 1366).all (fun m => decide (bcE (m : Int) = (popN m : Int))) = true := by decide +kernel
set_option maxRecDepth 100000 in
theorem bc_ok1 : (List.range 1366).all (fun m => decide (bcE ((m + 1366 : Nat) : Int) = (popN (m + 1366) : Int))) = true := by decide +kernel
set_option maxRecDepth 100000 in
theorem bc_ok2 : (List.range 1364).all (fun m => decide (bcE ((m + 2732 : Nat) : Int) = (popN (m + 2732) : Int))) = true := by decide +kernel
theorem bc_ok {m : Nat} (hm : m < 4096) : bcE (m : Int) = (popN m : Int) := by
  by_cases h1 : m < 1366
  · have := List.all_eq_true.mp bc_ok0 m (List.mem_range.mpr h1)
    exact of_decide_eq_true this
  · by_cases h2 : m < 2732
    · have := List.all_eq_true.mp bc_ok1 (m - 1366) (List.mem_range.mpr (by omega))
      have := of_decide_eq_true this
      rw [show m - 1366 + 1366 = m by omega] at this
      exact this
    · have := List.all_eq_true.mp bc_ok2 (m - 2732) (List.mem_range.mpr (by omega))
      have := of_decide_eq_true this
      rw [show m - 2732 + 2732 = m by omega] at this
      exact this
