/-! FROM THE LAW'S ENTRY: what holds at the start, and the claim out of a pure statement on the small machine -/
def am_tmR (i : Nat) : Term := Term.string "OnlyLent$Reader" ([56, 65, 70, 78, 86, 95, 103].getD i 0)
def am_tmM (i : Nat) : Term := Term.string "OnlyLentModel" ([58, 60, 62, 64, 66, 68, 70].getD i 0)
def am_slL : List Nat := [6, 4, 5, 4, 5, 4, 4]
def am_sbI : List (List Int) := [[112, 101, 114, 115, 111, 110], [115, 111, 114, 116], [116, 104, 105, 110, 103], [119, 97, 110, 116], [104, 97, 110, 100, 115], [114, 111, 97, 100], [104, 101, 105, 114]]
def am_sbL : List (List Int32) := [[112, 101, 114, 115, 111, 110], [115, 111, 114, 116], [116, 104, 105, 110, 103], [119, 97, 110, 116], [104, 97, 110, 100, 115], [114, 111, 97, 100], [104, 101, 105, 114]]
def am_flat : List Cond := flatC (Jvm.Cond.and given_1 narrow_1)
theorem am_q1 : ∀ i, i < 7 → Cond.exactly (am_tmR i) "java/lang/String" ∈ am_flat := by decide +kernel
theorem am_q2 : ∀ i, i < 7 → Cond.eq (.field (am_tmR i) "java/lang/String" "coder" "B") (.int 0) ∈ am_flat := by decide +kernel
theorem am_q3 : ∀ i, i < 7 → Cond.arrayOf (.field (am_tmR i) "java/lang/String" "value" "[B") .byte ∈ am_flat := by decide +kernel
theorem am_q4 : ∀ i, i < 7 → Cond.eq (.length (.field (am_tmR i) "java/lang/String" "value" "[B")) (.int (Int32.ofNat (am_slL.getD i 0))) ∈ am_flat := by decide +kernel
theorem am_q5 : ∀ i, i < 7 → ∀ j, j < am_slL.getD i 0 → Cond.eq (.elem (.field (am_tmR i) "java/lang/String" "value" "[B") (.int (Int32.ofNat j))) (.int ((am_sbL.getD i []).getD j 0)) ∈ am_flat := by decide +kernel
theorem am_q6 : ∀ i, i < 7 → ∀ j, j < 7 → i ≠ j → (Cond.not (Cond.eq (am_tmR i) (am_tmR j)) ∈ am_flat ∨ Cond.not (Cond.eq (am_tmR j) (am_tmR i)) ∈ am_flat) := by decide +kernel
theorem am_q7 : ∀ i, i < 7 → Cond.eq (am_tmR i) (am_tmM i) ∈ am_flat := by decide +kernel
theorem am_q8 : Cond.eq (.static "java/lang/String" "COMPACT_STRINGS" "Z") (.int 1) ∈ am_flat ∧ Cond.isRef (.static "jdk/internal/util/Preconditions" "SIOOBE_FORMATTER" "Ljava/util/function/BiFunction;") ∈ am_flat := by decide +kernel
theorem am_q9 : Cond.laysStatic "java/lang/String" "COMPACT_STRINGS" "Z" ∈ lw_tbl ∧ Cond.laysStatic "jdk/internal/util/Preconditions" "SIOOBE_FORMATTER" "Ljava/util/function/BiFunction;" ∈ lw_tbl ∧ Cond.initialized "java/lang/String" ∈ lw_tbl ∧ Cond.initialized "jdk/internal/util/Preconditions" ∈ lw_tbl := by decide +kernel
theorem am_q10 : ∀ i, i < 7 → ∀ j, j < am_slL.getD i 0 → (am_sbL.getD i []).getD j 0 = Int32.ofInt ((am_sbI.getD i []).getD j 0) := by decide +kernel
theorem am_q11 : ∀ i, i < 7 → am_slen (i + 8) = am_slL.getD i 0 ∧ am_slL.getD i 0 < 100 := by decide +kernel
theorem am_q12 : am_sbI.all (fun l => l.all (fun x => decide (0 ≤ x) && decide (x < 128))) = true := by decide +kernel
theorem am_q13 : am_sT.all (fun e => (e.1 == 7 || e.1 == 12) && (decide (1 ≤ e.2.2) && decide (e.2.2 ≤ 7)) && (e.1 != 7 || decide (am_tmR (e.2.2 - 1) = Term.string (am_ON e.1) e.2.1)) && (e.1 != 12 || decide (am_tmM (e.2.2 - 1) = Term.string (am_ON e.1) e.2.1))) = true := by decide +kernel
def am_hr0 (f0 : Nat) : amR := fun i j => if 1 ≤ i ∧ i ≤ 7 then (if j = 0 then i + 7 else 0) else if i = 0 then f0 else 0
def am_hd0 (L : Nat) (xs : Nat → Int32) : amD := fun i j => if i = 0 then (if j = 0 then (L : Int) else 0) else if i = 15 then (xs j).toInt else if 8 ≤ i ∧ i ≤ 14 then (am_sbI.getD (i - 8) []).getD j 0 else 0
theorem am_eqR {args : Array Value} {s : State} {t u : Term} {a : Nat} (h : (Cond.eq t u).before args s = true) (ht : t.eval args s none [] s = some (.ref a)) : u.eval args s none [] s = some (.ref a) := by
  cases hu : u.eval args s none [] s with
  | none => simp [Cond.before, Cond.holds, Cond.value, ht, hu] at h
  | some w =>
    simp only [Cond.before, Cond.holds, Cond.value, ht, hu] at h
    cases w <;> simp_all
theorem am_isRef {args : Array Value} {s : State} {t : Term} (h : (Cond.isRef t).before args s = true) : t.eval args s none [] s = some .null ∨ ∃ a, t.eval args s none [] s = some (.ref a) := by
  cases hu : t.eval args s none [] s with
  | none => simp [Cond.before, Cond.holds, Cond.value, hu] at h
  | some w =>
    simp only [Cond.before, Cond.holds, Cond.value, hu] at h
    cases w <;> simp_all
/-- the classes and the array classes, by number -/
theorem am_DAC {s : State} {args : Array Value} (hts : ∀ w ∈ lw_tbl, w.before args s = true) : ∃ (D : va_G) (AC : Nat → ClassId), va_K D vwCl [] s ∧ ∀ k, (k = 1 ∨ k = 2 ∨ k = 3 ∨ k = 4 ∨ k = 7 ∨ k = 8 ∨ k = 9) → ArrOfT s (AC k) (am_aty k) ∧ va_RA s (AC k) (am_aty k) := by
  have hts' : ∀ w ∈ am_Tg, w.before args s = true := fun w hw => hts w (List.mem_filter.mp hw).1
  have hD : ∀ c : Nat, ∃ q : ClassId × (Nat → Nat), ∀ r : vw_C, vwCl[c]? = some r → u_Kn s r.1 r.2.1 r.2.2 q.1 q.2 := by
    intro c
    cases hc : vwCl[c]? with
    | none => exact ⟨(0, fun _ => 0), fun r hr => by cases hr⟩
    | some r =>
      obtain ⟨C, T, N⟩ := r
      obtain ⟨ty0, g1, g2, g3, g4⟩ := am_cls hc
      have hlt : c < 13 := (List.getElem?_eq_some_iff.mp hc).1
      have hin : c ∈ am_C13 := by
        have : ∀ c, c < 13 → c ∈ am_C13 := by decide
        exact this c hlt
      have hw := hts _ (am_iW_in c hin)
      rw [hc, ← g3] at hw
      obtain ⟨cC, iS, hK⟩ := u_known hts' (am_uin hc) hw
      exact ⟨(cC, iS), fun r hr => by cases hr; exact hK⟩
  obtain ⟨q, hq⟩ := Classical.axiomOfChoice hD
  have hA : ∀ k : Nat, ∃ cA : ClassId, (k = 1 ∨ k = 2 ∨ k = 3 ∨ k = 4 ∨ k = 7 ∨ k = 8 ∨ k = 9) → ArrOfT s cA (am_aty k) ∧ va_RA s cA (am_aty k) := by
    intro k
    have hO : ∀ w ∈ am_oT, w.before args s = true := fun w hw => hts w (am_oT_in w hw)
    have hp : ∀ ty : FieldType, Cond.arrayClass ty ∈ am_oT → (∀ (cA : ClassId), s.vm.findClass ("[" ++ ty.toString) = some cA → va_RA s cA ty) → ∃ cA, ArrOfT s cA ty ∧ va_RA s cA ty := by
      intro ty hin hra
      obtain ⟨cA, kA, comp, h1, h2, h3⟩ := Cond.arrayClass_spec (hO _ hin)
      exact ⟨cA, fun n z => ⟨fun k h => (by cases h), kA, h2, comp, h3⟩, hra cA h1⟩
    have ho : ∀ C : String, Cond.arrayOver (.object C) ∈ am_oT → ∃ cA, ArrOfT s cA (.object C) ∧ va_RA s cA (.object C) := by
      intro C hin
      obtain ⟨comp, c, k, h1, h2, h3, h4, h5⟩ := Cond.arrayOver_spec (hO _ hin)
      exact ⟨c, fun n z => ⟨fun k h => (by cases h), k, h3, comp, h4⟩, k, comp, h3, h4, h1, h5⟩
    by_cases h1 : k = 1
    · subst h1
      obtain ⟨cA, a, b⟩ := hp .int (by simp [am_oT]) (fun cA h => h)
      exact ⟨cA, fun _ => ⟨a, b⟩⟩
    by_cases h2 : k = 2
    · subst h2
      obtain ⟨cA, a, b⟩ := hp .long (by simp [am_oT]) (fun cA h => h)
      exact ⟨cA, fun _ => ⟨a, b⟩⟩
    by_cases h3 : k = 3
    · subst h3
      obtain ⟨cA, a, b⟩ := hp .byte (by simp [am_oT]) (fun cA h => h)
      exact ⟨cA, fun _ => ⟨a, b⟩⟩
    by_cases h4 : k = 4
    · subst h4
      obtain ⟨cA, a, b⟩ := hp .boolean (by simp [am_oT]) (fun cA h => h)
      exact ⟨cA, fun _ => ⟨a, b⟩⟩
    by_cases h7 : k = 7
    · subst h7
      obtain ⟨cA, a, b⟩ := ho "OnlyLent$Holdings" (by simp [am_oT])
      exact ⟨cA, fun _ => ⟨a, b⟩⟩
    by_cases h8 : k = 8
    · subst h8
      obtain ⟨cA, a, b⟩ := ho "java/lang/String" (by simp [am_oT])
      exact ⟨cA, fun _ => ⟨a, b⟩⟩
    by_cases h9 : k = 9
    · subst h9
      obtain ⟨comp, c, k, g1, g2, g3, g4⟩ := Cond.arrayOver_specA (hO (Cond.arrayOver (.array .int)) (by simp [am_oT]))
      exact ⟨c, fun _ => ⟨fun n z => ⟨fun k h => (by cases h), k, g2, comp, g3⟩, g4⟩⟩
    exact ⟨0, fun h => by omega⟩
  obtain ⟨AC, hAC⟩ := Classical.axiomOfChoice hA
  exact ⟨(fun c => (q c).1, fun c => (q c).2), AC, ⟨fun c r hr => hq c r hr, fun k x hx => by simp at hx⟩, hAC⟩

def am_FL : amQu := fun v _ _ _ u us => v = some (vI 1) ∧ u ≤ 600000 ∧ us ≤ 7302250
/-- THE PURE STATEMENT: the law comes to its end with 1 on the small machine -/
def am_Goal : Prop := ∀ (f0 L : Nat) (xs : Nat → Int32), (f0 = 0 ∨ f0 = 16) → L ≤ 3072 → ∃ d, d ≤ 1311 ∧ wp am_shp am_slen (wpM d) 600000 7302250 0 (am_tree 313) am_F0 am_F1 am_FL [vR 15, vU, vU, vU] [] (am_hr0 f0) (am_hd0 L xs) 17 0 0
