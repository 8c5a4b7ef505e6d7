/-! SOUNDNESS of the small machine, 3: the store -/
def am_kdOf (ty : FieldType) : Nat := match ty with
  | .int => 0
  | .long => 1
  | .boolean => 3
  | .byte => 4
  | .object _ => 2
  | .array _ => 2
  | _ => 9
section SG
variable (shp slen : Nat → Nat) (fk : Nat → Nat → Nat) (cl : List vw_C) (D : va_G) (AC : Nat → ClassId) (ρ : Nat → Nat) (B0 : Nat) (H00 : Heap) (hr0 : amR) (hd0 : amD)
/-- what the tables say, at any state of the run -/
def am_pre (s : State) : Prop :=
  (∀ i, 1 ≤ i → i ≤ 7 → ∃ cell : Cell, H00[ρ i]? = some cell ∧ cell.vm.isStatics = false ∧ s.vm.findClass "java/lang/String" = some cell.cls) ∧
  (∀ i, 1 ≤ i → i ≤ 7 → va_OF "java/lang/String" "value" "[B" (am_sval ρ 2 (hr0 i 0) 0) (ρ i) (fun q => B0 ≤ q) s H00 ∧ va_OF "java/lang/String" "coder" "B" (.int 0) (ρ i) (fun q => B0 ≤ q) s H00 ∧ hd0 i 1 = 0) ∧
  (∀ i, 8 ≤ i → i ≤ 14 → va_T .byte (ρ i) (slen i) (fun j => .int (Int32.ofInt (hd0 i j))) (fun q => B0 ≤ q) s H00 ∧ ∀ j, in8 (hd0 i j)) ∧
  (∃ L : Nat, L < 10000 ∧ hd0 0 0 = (L : Int) ∧ va_X (ρ 15) L (fun j => Int32.ofInt (hd0 15 j)) s H00 ∧ ρ 15 < B0 ∧ ∀ j, in32 (hd0 15 j)) ∧
  va_Z "java/lang/String" "COMPACT_STRINGS" "Z" (.int 1) (fun q => B0 ≤ q) s H00 ∧
  va_Z "jdk/internal/util/Preconditions" "SIOOBE_FORMATTER" "Ljava/util/function/BiFunction;" (am_enc ρ (vR (hr0 0 0))) (fun q => B0 ≤ q) s H00
def am_GW (s : State) : Prop := va_K D cl [] s ∧ (∀ k, (k = 1 ∨ k = 2 ∨ k = 3 ∨ k = 4 ∨ k = 7 ∨ k = 8 ∨ k = 9) → ArrOfT s (AC k) (am_aty k) ∧ va_RA s (AC k) (am_aty k)) ∧ am_pre slen ρ B0 H00 hr0 hd0 s
/-- what is fixed: shapes, fields, places -/
def am_fix (Ts : List Cond) : Prop :=
  (∀ i, shp i = 5 → i = 15) ∧ (∀ i, shp i = 6 → 8 ≤ i ∧ i ≤ 14) ∧ (∀ i, shp i = 113 → 1 ≤ i ∧ i ≤ 7) ∧ (∀ i, i < 17 → shp i = 0 ∨ shp i = 5 ∨ shp i = 6 ∨ shp i = 113) ∧ (∀ i, shp i < 114) ∧ cl.length = 13 ∧
  (∀ i, 17 ≤ i → ρ i = B0 + (i - 17)) ∧ (∀ i, 1 ≤ i → i < 16 → ρ i < B0) ∧
  (∀ (ci : Nat) (C : String) (T : u_T) (N : Nat), cl[ci]? = some (C, T, N) → (∀ w ∈ u_ws C T N, w ∈ Ts) ∧ ∃ ty0 : Nat → FieldType, (∀ k, k < N → parseFieldDescriptor (T k).2.2.1 = some (ty0 k) ∧ fk ci k = am_kdOf (ty0 k) ∧ fk ci k < 4) ∧ ∀ a, a < N → ∀ b, b < N → a ≠ b → (T a).2.1 ≠ (T b).2.1)
end SG
section SH
variable {shp slen : Nat → Nat} {fk : Nat → Nat → Nat} {cl : List vw_C} {D : va_G} {AC : Nat → ClassId} {ρ : Nat → Nat} {B0 : Nat} {H00 : Heap} {hr0 : amR} {hd0 : amD}
theorem am_pre.moved {u U : State} (hvm : u.vm.Alike U.vm) (h : am_pre slen ρ B0 H00 hr0 hd0 u) : am_pre slen ρ B0 H00 hr0 hd0 U := by
  obtain ⟨h1, h2, h3, ⟨L, h4, h5, h6, h7⟩, h8, h9⟩ := h
  refine ⟨fun i a b => ?_, fun i a b => ⟨(h2 i a b).1.moved hvm, (h2 i a b).2.1.moved hvm, (h2 i a b).2.2⟩, fun i a b => ⟨(h3 i a b).1.moved hvm, (h3 i a b).2⟩, ⟨L, h4, h5, h6.moved hvm, h7⟩, h8.moved hvm, h9.moved hvm⟩
  obtain ⟨cell, g1, g2, g3⟩ := h1 i a b
  exact ⟨cell, g1, g2, by rw [hvm.findClass]; exact g3⟩
theorem am_GW.moved {u U : State} (hvm : u.vm.Alike U.vm) (h : am_GW slen cl D AC ρ B0 H00 hr0 hd0 u) : am_GW slen cl D AC ρ B0 H00 hr0 hd0 U :=
  ⟨h.1.moved hvm, fun k hk => ⟨arrOfT_moved hvm (h.2.1 k hk).1, (h.2.1 k hk).2.moved hvm⟩, h.2.2.moved hvm⟩
theorem am_sval_kd {kd r : Nat} {x : Int} (ρ : Nat → Nat) (hr : amR) (hd : amD) (i k : Nat) (hk : kd < 5) : am_sval ρ kd (hr i k) (hd i k) = am_enc ρ (am_rd kd hr hd i k) := by
  match kd, hk with
  | 0, _ => rfl
  | 1, _ => rfl
  | 2, _ => rfl
  | 3, _ => rfl
  | 4, _ => rfl
theorem am_sok_32 {kd : Nat} {x : Int} (h : am_sok kd x) (h1 : kd ≠ 1) (h2 : kd ≠ 2) : in32 x := by
  match kd, h with
  | 0, h => exact h
  | 1, _ => exact absurd rfl h1
  | 2, _ => exact absurd rfl h2
  | 3, h => rcases h with rfl | rfl <;> exact ⟨by decide, by decide⟩
  | 4, h => exact ⟨by have := h.1; omega, by have := h.2; omega⟩
  | k + 5, h => exact h
theorem am_rd_can {kd : Nat} (hr : amR) (hd : amD) (i k : Nat) (h : am_sok kd (hd i k)) : am_can (am_rd kd hr hd i k) := by
  match kd, h with
  | 0, h => exact am_sok_32 (kd := 0) h (by decide) (by decide)
  | 1, h => exact h
  | 2, _ => exact trivial
  | 3, h => exact am_sok_32 (kd := 3) h (by decide) (by decide)
  | 4, h => exact am_sok_32 (kd := 4) h (by decide) (by decide)
  | k + 5, h => exact h
theorem am_cell.kept {i : Nat} {f : Nat → Nat} {g : Nat → Int} {H H1 : Heap} (h : am_cell shp slen fk cl D AC ρ i f g H) (hq : H1[ρ i]? = H[ρ i]?) : am_cell shp slen fk cl D AC ρ i f g H1 := by
  obtain ⟨h1, h2⟩ := h
  refine ⟨h1, ?_⟩
  rcases h2 with ⟨h3, r, h4, h5⟩ | ⟨h3, h4⟩
  · exact Or.inl ⟨h3, r, h4, h5.kept hq⟩
  · exact Or.inr ⟨h3, hq.trans h4⟩
theorem am_row_self {α : Type} (f : Nat → Nat → α) (i : Nat) (g : Nat → α) : am_row f i g i = g := if_pos rfl
theorem am_row_ne {α : Type} (f : Nat → Nat → α) {i j : Nat} (g : Nat → α) (h : j ≠ i) : am_row f i g j = f j := if_neg h
theorem am_up_row {α : Type} (f : Nat → Nat → α) (i k : Nat) (v : α) : am_up f i k v = am_row f i (fun b => if b = k then v else f i b) := by
  funext a b
  unfold am_up am_row
  by_cases h : a = i
  · subst h; simp
  · simp [h]
theorem am_row_rf {α : Type} (f : Nat → Nat → α) (i : Nat) : am_row f i (f i) = f := by
  funext a
  by_cases h : a = i
  · subst h; exact am_row_self _ _ _
  · exact am_row_ne _ _ h
theorem am_H.put {hr : amR} {hd : amD} {n i : Nat} {H H' : Heap} {f' : Nat → Nat} {g' : Nat → Int} (hρ : ∀ i, 17 ≤ i → ρ i = B0 + (i - 17)) (h : am_H shp slen fk cl D AC ρ B0 H00 hr0 hd0 hr hd n H) (h1 : 17 ≤ i) (h2 : i < n) (hz : H'.size = H.size) (ho : ∀ q, q ≠ ρ i → H'[q]? = H[q]?)
    (hc : am_cell shp slen fk cl D AC ρ i f' g' H') : am_H shp slen fk cl D AC ρ B0 H00 hr0 hd0 (am_row hr i f') (am_row hd i g') n H' := by
  obtain ⟨a1, a2, a3, a4, a5⟩ := h
  have hi := hρ i h1
  refine ⟨a1, hz.trans a2, fun q hq => ?_, fun j j1 j2 => ?_, fun j hj => ?_⟩
  · rw [ho q (by omega)]; exact a3 q hq
  · by_cases hji : j = i
    · subst hji
      rw [am_row_self, am_row_self]
      exact hc
    · rw [am_row_ne _ _ hji, am_row_ne _ _ hji]
      refine (a4 j j1 j2).kept (ho _ ?_)
      rw [hρ j j1, hi]
      omega
  · rw [am_row_ne _ _ (by omega), am_row_ne _ _ (by omega)]
    exact a5 j hj
/-- one cell more -/
theorem am_H.push {hr : amR} {hd : amD} {n : Nat} {H H' : Heap} {f' : Nat → Nat} {g' : Nat → Int} (hρ : ∀ i, 17 ≤ i → ρ i = B0 + (i - 17)) (h : am_H shp slen fk cl D AC ρ B0 H00 hr0 hd0 hr hd n H) (hz : H'.size = H.size + 1) (ho : ∀ q, q < H.size → H'[q]? = H[q]?)
    (hc : am_cell shp slen fk cl D AC ρ n f' g' H') : am_H shp slen fk cl D AC ρ B0 H00 hr0 hd0 (am_row hr n f') (am_row hd n g') (n + 1) H' := by
  obtain ⟨a1, a2, a3, a4, a5⟩ := h
  refine ⟨by omega, by omega, fun q hq => ?_, fun j j1 j2 => ?_, fun j hj => ?_⟩
  · rw [ho q (by omega)]; exact a3 q hq
  · by_cases hji : j = n
    · subst hji
      rw [am_row_self, am_row_self]
      exact hc
    · rw [am_row_ne _ _ hji, am_row_ne _ _ hji]
      refine (a4 j j1 (by omega)).kept (ho _ ?_)
      rw [hρ j j1]
      omega
  · rw [am_row_ne _ _ (by omega), am_row_ne _ _ (by omega)]
    exact a5 j hj
theorem am_vpV {N k : Nat} (V : Nat → Value) (h : k < N) : vp_V ((List.range N).map V) k = V k := by
  simp [vp_V, h]
theorem am_fit {kd r : Nat} {x : Int} {ty : FieldType} (hk : kd = am_kdOf ty) (hk4 : kd < 4) (h : am_sok kd x) : narrow ty (am_sval ρ kd r x) = am_sval ρ kd r x ∧ fits ty (am_sval ρ kd r x) = true := by
  subst hk
  cases ty <;> simp only [am_kdOf] at h hk4 ⊢ <;> first | omega | skip
  · exact ⟨rfl, rfl⟩
  · exact ⟨rfl, rfl⟩
  · rcases h with rfl | rfl <;> exact ⟨rfl, rfl⟩
  · simp only [am_sval]; split <;> exact ⟨rfl, rfl⟩
  · simp only [am_sval]; split <;> exact ⟨rfl, rfl⟩
end SH
