/-! SOUNDNESS of the small machine, 1: values and plain instructions -/
def in32 (x : Int) : Prop := -2147483648 ≤ x ∧ x < 2147483648
def in64 (x : Int) : Prop := -9223372036854775808 ≤ x ∧ x < 9223372036854775808
def in8 (x : Int) : Prop := -128 ≤ x ∧ x < 128
theorem w32_in (x : Int) : in32 (w32 x) := by
  unfold in32 w32 Int.bmod
  simp only []
  split <;> omega
theorem w64_in (x : Int) : in64 (w64 x) := by
  unfold in64 w64 Int.bmod
  simp only []
  split <;> omega
theorem w8_in (x : Int) : in8 (w8 x) := by
  unfold in8 w8 Int.bmod
  simp only []
  split <;> omega
theorem w32_id {x : Int} (h : in32 x) : w32 x = x := by
  obtain ⟨h1, h2⟩ := h
  unfold w32 Int.bmod
  simp only []
  split <;> omega
theorem w64_id {x : Int} (h : in64 x) : w64 x = x := by
  obtain ⟨h1, h2⟩ := h
  unfold w64 Int.bmod
  simp only []
  split <;> omega
theorem ti32 (x : Int) : (Int32.ofInt x).toInt = w32 x := by
  rw [Int32.toInt_ofInt]
  rfl
theorem ti64 (x : Int) : (Int64.ofInt x).toInt = w64 x := by
  rw [Int64.toInt_ofInt]
  rfl
theorem oi32 (x : Int) : Int32.ofInt (w32 x) = Int32.ofInt x := by
  apply Int32.toInt_inj.mp
  rw [ti32, ti32, w32_id (w32_in x)]
theorem oi64 (x : Int) : Int64.ofInt (w64 x) = Int64.ofInt x := by
  apply Int64.toInt_inj.mp
  rw [ti64, ti64, w64_id (w64_in x)]
theorem in32_ti (x : Int32) : in32 x.toInt := ⟨by have := x.le_toInt; omega, by have := x.toInt_lt; omega⟩
theorem in64_ti (x : Int64) : in64 x.toInt := ⟨by have := x.le_toInt; omega, by have := x.toInt_lt; omega⟩
theorem am_i2_in (f : Int32 → Int32 → Int32) (a b : Int) : in32 (am_i2 f a b) := in32_ti _
theorem am_i2_oi (f : Int32 → Int32 → Int32) (a b : Int) : Int32.ofInt (am_i2 f a b) = f (Int32.ofInt a) (Int32.ofInt b) := Int32.ofInt_toInt _
theorem w32_add (a b : Int) : Int32.ofInt (w32 (a + b)) = Int32.ofInt a + Int32.ofInt b := by rw [oi32, Int32.ofInt_add]
theorem w32_sub (a b : Int) : Int32.ofInt (w32 (a - b)) = Int32.ofInt a - Int32.ofInt b := by rw [oi32, Int32.ofInt_sub]
theorem w32_mul (a b : Int) : Int32.ofInt (w32 (a * b)) = Int32.ofInt a * Int32.ofInt b := by rw [oi32, Int32.ofInt_mul]
theorem w64_add (a b : Int) : Int64.ofInt (w64 (a + b)) = Int64.ofInt a + Int64.ofInt b := by rw [oi64, Int64.ofInt_add]
theorem w64_sub (a b : Int) : Int64.ofInt (w64 (a - b)) = Int64.ofInt a - Int64.ofInt b := by rw [oi64, Int64.ofInt_sub]
theorem w64_mul (a b : Int) : Int64.ofInt (w64 (a * b)) = Int64.ofInt a * Int64.ofInt b := by rw [oi64, Int64.ofInt_mul]
theorem w32_div {a b : Int} (ha : in32 a) (hb : in32 b) : Int32.ofInt (w32 (Int.tdiv a b)) = Int32.ofInt a / Int32.ofInt b := by
  apply Int32.toInt_inj.mp
  rw [Int32.toInt_div, ti32, ti32, ti32, w32_id ha, w32_id hb, w32_id (w32_in _)]
  rfl
theorem w64_div {a b : Int} (ha : in64 a) (hb : in64 b) : Int64.ofInt (w64 (Int.tdiv a b)) = Int64.ofInt a / Int64.ofInt b := by
  apply Int64.toInt_inj.mp
  rw [Int64.toInt_div, ti64, ti64, ti64, w64_id ha, w64_id hb, w64_id (w64_in _)]
  rfl
theorem w64_rem {a b : Int} (ha : in64 a) (hb : in64 b) : Int64.ofInt (w64 (Int.tmod a b)) = Int64.ofInt a - Int64.ofInt a / Int64.ofInt b * Int64.ofInt b := by
  rw [← w64_div ha hb, ← w64_mul, ← w64_sub, oi64, oi64, Int64.ofInt_sub, oi64, Int64.ofInt_mul, oi64, ← Int64.ofInt_mul, ← Int64.ofInt_sub]
  congr 1
  have := Int.tmod_add_mul_tdiv a b
  rw [Int.mul_comm b] at this
  omega
theorem ofInt_eq0 {x : Int} (h : in32 x) : Int32.ofInt x = 0 ↔ x = 0 := by
  rw [← Int32.toInt_inj, ti32, w32_id h]
  rfl
theorem ofInt64_eq0 {x : Int} (h : in64 x) : Int64.ofInt x = 0 ↔ x = 0 := by
  rw [← Int64.toInt_inj, ti64, w64_id h]
  rfl
theorem ofInt_eq {x y : Int} (h : in32 x) (h' : in32 y) : Int32.ofInt x = Int32.ofInt y ↔ x = y := by
  rw [← Int32.toInt_inj, ti32, ti32, w32_id h, w32_id h']
theorem ofInt_lt {x y : Int} (h : in32 x) (h' : in32 y) : Int32.ofInt x < Int32.ofInt y ↔ x < y := by
  rw [Int32.lt_iff_toInt_lt, ti32, ti32, w32_id h, w32_id h']
theorem ofInt_le {x y : Int} (h : in32 x) (h' : in32 y) : Int32.ofInt x ≤ Int32.ofInt y ↔ x ≤ y := by
  rw [Int32.le_iff_toInt_le, ti32, ti32, w32_id h, w32_id h']
theorem ofInt64_lt {x y : Int} (h : in64 x) (h' : in64 y) : Int64.ofInt x < Int64.ofInt y ↔ x < y := by
  rw [Int64.lt_iff_toInt_lt, ti64, ti64, w64_id h, w64_id h']
theorem in32_0 : in32 0 := ⟨by omega, by omega⟩
theorem ofInt_lt0 {x : Int} (h : in32 x) : Int32.ofInt x < 0 ↔ x < 0 := ofInt_lt h in32_0
theorem ofInt_le0 {x : Int} (h : in32 x) : Int32.ofInt x ≤ 0 ↔ x ≤ 0 := ofInt_le h in32_0
theorem ofInt_ge0 {x : Int} (h : in32 x) : 0 ≤ Int32.ofInt x ↔ 0 ≤ x := ofInt_le in32_0 h
theorem ofInt_gt0 {x : Int} (h : in32 x) : 0 < Int32.ofInt x ↔ 0 < x := ofInt_lt in32_0 h
theorem clamp_ofInt {x : Int} (h : in32 x) : (Int32.ofInt x).toNatClampNeg = x.toNat := by
  show (Int32.ofInt x).toInt.toNat = _
  rw [ti32, w32_id h]
def am_ak (k : Nat) : Nat := match k with
  | 1 => 0
  | 2 => 1
  | 3 => 4
  | 4 => 3
  | _ => 2
def am_kd (shp : Nat → Nat) (fk : Nat → Nat → Nat) (i k : Nat) : Nat := if 100 ≤ shp i then fk (shp i - 100) k else am_ak (shp i)
def am_rho (pre : Nat → Nat) (B0 i : Nat) : Nat := if i < 17 then pre i else B0 + (i - 17)
def am_sval (ρ : Nat → Nat) (kd r : Nat) (x : Int) : Value := match kd with
  | 1 => .long (Int64.ofInt x)
  | 2 => if r = 0 then .null else .ref (ρ r)
  | _ => .int (Int32.ofInt x)
def am_sok (kd : Nat) (x : Int) : Prop := match kd with
  | 1 => in64 x
  | 2 => True
  | 3 => am_b x
  | 4 => in8 x
  | _ => in32 x
def am_enc (ρ : Nat → Nat) : amV → Value
  | .inl x => .int (Int32.ofInt x)
  | .inr (.inl x) => .long (Int64.ofInt x)
  | .inr (.inr (.inl r)) => if r = 0 then .null else .ref (ρ r)
  | .inr (.inr (.inr _)) => .null
def am_can : amV → Prop
  | .inl x => in32 x
  | .inr (.inl x) => in64 x
  | .inr (.inr (.inl _)) => True
  | .inr (.inr (.inr _)) => False
def am_Lo (ρ : Nat → Nat) (nL : Nat) (lsR : Array Slot) (ls : List amV) : Prop := lsR.size = nL ∧ ls.length = nL ∧ lv_wf lsR ∧ ∀ j, am_get ls j ≠ vU → lsR[j]? = some (.val (am_enc ρ (am_get ls j))) ∧ am_can (am_get ls j)
def am_aty (k : Nat) : FieldType := match k with
  | 1 => .int
  | 2 => .long
  | 3 => .byte
  | 4 => .boolean
  | 7 => .object "OnlyLent$Holdings"
  | 8 => .object "java/lang/String"
  | _ => .array .int
section SND
variable (shp slen : Nat → Nat) (fk : Nat → Nat → Nat) (cl : List vw_C) (D : va_G) (AC : Nat → ClassId) (ρ : Nat → Nat) (B0 : Nat) (H00 : Heap) (hr0 : amR) (hd0 : amD)
def am_cell (i : Nat) (f : Nat → Nat) (g : Nat → Int) (H : Heap) : Prop := (∀ k, am_sok (am_kd shp fk i k) (g k)) ∧
  ((100 ≤ shp i ∧ ∃ r : vw_C, cl[shp i - 100]? = some r ∧ t_OB (ρ i) (D.1 (shp i - 100)) r.2.2 (D.2 (shp i - 100)) H (fun k => am_sval ρ (am_kd shp fk i k) (f k) (g k))) ∨
   (shp i < 100 ∧ H[ρ i]? = some (arrV (AC (shp i)) (slen i) (fun k => am_sval ρ (am_kd shp fk i k) (f k) (g k)))))
def am_H (hr : amR) (hd : amD) (n : Nat) (H : Heap) : Prop := 17 ≤ n ∧ H.size = B0 + (n - 17) ∧ (∀ q, q < B0 → H[q]? = H00[q]?) ∧ (∀ i, 17 ≤ i → i < n → am_cell shp slen fk cl D AC ρ i (hr i) (hd i) H) ∧ ∀ i, i < 17 → hr i = hr0 i ∧ hd i = hd0 i
variable (p : Program) (l : Launch) (e : Env) (R : Room) (s : State) (m : MethodId) (args : Array Value) (below : List Frame) (meth : Method) (c : Code) (Qf : State → Prop) (nL : Nat)
def am_WS (pc : Nat) (Q : amP) : Prop := ∀ ls st hr hd n u us, Q ls st hr hd n u us → ∀ (lsR : Array Slot) (H : Heap) (locs : List Loc), am_Lo ρ nL lsR ls → (∀ v ∈ st, am_can v) → am_H shp slen fk cl D AC ρ B0 H00 hr0 hd0 hr hd n H → (∀ q ∈ locs, B0 ≤ q.base) →
  W p l e R s m args below meth c H locs u us Qf (F0 m pc lsR (st.map (am_enc ρ)))
end SND
section SI
variable {shp slen : Nat → Nat} {fk : Nat → Nat → Nat} {cl : List vw_C} {D : va_G} {AC : Nat → ClassId} {ρ : Nat → Nat} {B0 : Nat} {H00 : Heap} {hr0 : amR} {hd0 : amD}
variable {p : Program} {l : Launch} {e : Env} {R : Room} {s : State} {m : MethodId} {args : Array Value} {below : List Frame} {meth : Method} {c : Code} {Qf : State → Prop} {nL : Nat} {cc : ByteArray} {pc : Nat}
/-- a step that leaves locals and store -/
theorem ws_st {pc' : Nat} {Q Q' : amP} (h : am_WS shp slen fk cl D AC ρ B0 H00 hr0 hd0 p l e R s m args below meth c Qf nL pc' Q)
    (hq : ∀ ls st hr hd n u us, Q' ls st hr hd n u us → ∃ st', Q ls st' hr hd n u us ∧ ((∀ v ∈ st, am_can v) → (∀ v ∈ st', am_can v) ∧ ∀ (lsR : Array Slot) (H : Heap) (locs : List Loc), am_Lo ρ nL lsR ls → am_H shp slen fk cl D AC ρ B0 H00 hr0 hd0 hr hd n H →
      W p l e R s m args below meth c H locs u us Qf (F0 m pc' lsR (st'.map (am_enc ρ))) → W p l e R s m args below meth c H locs u us Qf (F0 m pc lsR (st.map (am_enc ρ))))) :
    am_WS shp slen fk cl D AC ρ B0 H00 hr0 hd0 p l e R s m args below meth c Qf nL pc Q' := by
  intro ls st hr hd n u us hQ lsR H locs hL hC hH hl
  obtain ⟨st', h1, h2⟩ := hq ls st hr hd n u us hQ
  obtain ⟨h3, h4⟩ := h2 hC
  exact h4 lsR H locs hL hH (h ls st' hr hd n u us h1 lsR H locs hL h3 hH hl)
theorem ws_bin {pc' : Nat} {Q : amP} {f : Int → Int → Int} {g : Int32 → Int32 → Int32} (hf : ∀ a b, in32 a → in32 b → Int32.ofInt (f a b) = g (Int32.ofInt a) (Int32.ofInt b) ∧ in32 (f a b))
    (hrow : ∀ (x y : Int32) (lsR : Array Slot) (H : Heap) (locs : List Loc) (u us : Nat) (rest : List Value), W p l e R s m args below meth c H locs u us Qf (F0 m pc' lsR (.int (g x y) :: rest)) → W p l e R s m args below meth c H locs u us Qf (F0 m pc lsR (.int y :: .int x :: rest)))
    (h : am_WS shp slen fk cl D AC ρ B0 H00 hr0 hd0 p l e R s m args below meth c Qf nL pc' Q) : am_WS shp slen fk cl D AC ρ B0 H00 hr0 hd0 p l e R s m args below meth c Qf nL pc (am_bin f Q) := by
  refine ws_st h ?_
  intro ls st hr hd n u us hQ
  match st, hQ with
  | .inl b :: .inl a :: t, hQ =>
    refine ⟨_, hQ, fun hC => ?_⟩
    have hb : in32 b := hC (vI b) (by simp)
    have ha : in32 a := hC (vI a) (by simp)
    refine ⟨?_, fun lsR H locs _ _ hw => ?_⟩
    · intro v hv
      rcases List.mem_cons.mp hv with rfl | hv
      · exact (hf a b ha hb).2
      · exact hC v (by simp [hv])
    · refine hrow _ _ _ _ _ _ _ _ ?_
      rw [← (hf a b ha hb).1]
      exact hw
theorem ws_div {pc' : Nat} {Q : amP} {f : Int → Int → Int} {g : Int32 → Int32 → Int32} (hf : ∀ a b, in32 a → in32 b → Int32.ofInt (f a b) = g (Int32.ofInt a) (Int32.ofInt b) ∧ in32 (f a b))
    (hrow : ∀ (x y : Int32) (lsR : Array Slot) (H : Heap) (locs : List Loc) (u us : Nat) (rest : List Value), ¬ y = 0 → W p l e R s m args below meth c H locs u us Qf (F0 m pc' lsR (.int (g x y) :: rest)) → W p l e R s m args below meth c H locs u us Qf (F0 m pc lsR (.int y :: .int x :: rest)))
    (h : am_WS shp slen fk cl D AC ρ B0 H00 hr0 hd0 p l e R s m args below meth c Qf nL pc' Q) : am_WS shp slen fk cl D AC ρ B0 H00 hr0 hd0 p l e R s m args below meth c Qf nL pc (am_div f Q) := by
  refine ws_st h ?_
  intro ls st hr hd n u us hQ
  match st, hQ with
  | .inl b :: .inl a :: t, hQ =>
    refine ⟨_, hQ.2, fun hC => ?_⟩
    have hb : in32 b := hC (vI b) (by simp)
    have ha : in32 a := hC (vI a) (by simp)
    refine ⟨?_, fun lsR H locs _ _ hw => ?_⟩
    · intro v hv
      rcases List.mem_cons.mp hv with rfl | hv
      · exact (hf a b ha hb).2
      · exact hC v (by simp [hv])
    · refine hrow _ _ _ _ _ _ _ _ (fun h => hQ.1 ((ofInt_eq0 hb).mp h)) ?_
      rw [← (hf a b ha hb).1]
      exact hw
theorem ws_lbin {pc' : Nat} {Q : amP} {f : Int → Int → Int} {g : Int64 → Int64 → Int64} (hf : ∀ a b, in64 a → in64 b → Int64.ofInt (f a b) = g (Int64.ofInt a) (Int64.ofInt b) ∧ in64 (f a b))
    (hrow : ∀ (x y : Int64) (lsR : Array Slot) (H : Heap) (locs : List Loc) (u us : Nat) (rest : List Value), W p l e R s m args below meth c H locs u us Qf (F0 m pc' lsR (.long (g x y) :: rest)) → W p l e R s m args below meth c H locs u us Qf (F0 m pc lsR (.long y :: .long x :: rest)))
    (h : am_WS shp slen fk cl D AC ρ B0 H00 hr0 hd0 p l e R s m args below meth c Qf nL pc' Q) : am_WS shp slen fk cl D AC ρ B0 H00 hr0 hd0 p l e R s m args below meth c Qf nL pc (am_lbin f Q) := by
  refine ws_st h ?_
  intro ls st hr hd n u us hQ
  match st, hQ with
  | .inr (.inl b) :: .inr (.inl a) :: t, hQ =>
    refine ⟨_, hQ, fun hC => ?_⟩
    have hb : in64 b := hC (vL b) (by simp)
    have ha : in64 a := hC (vL a) (by simp)
    refine ⟨?_, fun lsR H locs _ _ hw => ?_⟩
    · intro v hv
      rcases List.mem_cons.mp hv with rfl | hv
      · exact (hf a b ha hb).2
      · exact hC v (by simp [hv])
    · refine hrow _ _ _ _ _ _ _ _ ?_
      rw [← (hf a b ha hb).1]
      exact hw
theorem ws_ldiv {pc' : Nat} {Q : amP} {f : Int → Int → Int} {g : Int64 → Int64 → Int64} (hf : ∀ a b, in64 a → in64 b → Int64.ofInt (f a b) = g (Int64.ofInt a) (Int64.ofInt b) ∧ in64 (f a b))
    (hrow : ∀ (x y : Int64) (lsR : Array Slot) (H : Heap) (locs : List Loc) (u us : Nat) (rest : List Value), ¬ y = 0 → W p l e R s m args below meth c H locs u us Qf (F0 m pc' lsR (.long (g x y) :: rest)) → W p l e R s m args below meth c H locs u us Qf (F0 m pc lsR (.long y :: .long x :: rest)))
    (h : am_WS shp slen fk cl D AC ρ B0 H00 hr0 hd0 p l e R s m args below meth c Qf nL pc' Q) : am_WS shp slen fk cl D AC ρ B0 H00 hr0 hd0 p l e R s m args below meth c Qf nL pc (am_ldiv f Q) := by
  refine ws_st h ?_
  intro ls st hr hd n u us hQ
  match st, hQ with
  | .inr (.inl b) :: .inr (.inl a) :: t, hQ =>
    refine ⟨_, hQ.2, fun hC => ?_⟩
    have hb : in64 b := hC (vL b) (by simp)
    have ha : in64 a := hC (vL a) (by simp)
    refine ⟨?_, fun lsR H locs _ _ hw => ?_⟩
    · intro v hv
      rcases List.mem_cons.mp hv with rfl | hv
      · exact (hf a b ha hb).2
      · exact hC v (by simp [hv])
    · refine hrow _ _ _ _ _ _ _ _ (fun h => hQ.1 ((ofInt64_eq0 hb).mp h)) ?_
      rw [← (hf a b ha hb).1]
      exact hw
theorem ws_lsh {pc' : Nat} {Q : amP} {f : Int → Int → Int} {g : Int64 → Int32 → Int64} (hf : ∀ a b, in64 a → in32 b → Int64.ofInt (f a b) = g (Int64.ofInt a) (Int32.ofInt b) ∧ in64 (f a b))
    (hrow : ∀ (x : Int64) (y : Int32) (lsR : Array Slot) (H : Heap) (locs : List Loc) (u us : Nat) (rest : List Value), W p l e R s m args below meth c H locs u us Qf (F0 m pc' lsR (.long (g x y) :: rest)) → W p l e R s m args below meth c H locs u us Qf (F0 m pc lsR (.int y :: .long x :: rest)))
    (h : am_WS shp slen fk cl D AC ρ B0 H00 hr0 hd0 p l e R s m args below meth c Qf nL pc' Q) : am_WS shp slen fk cl D AC ρ B0 H00 hr0 hd0 p l e R s m args below meth c Qf nL pc (am_lsh f Q) := by
  refine ws_st h ?_
  intro ls st hr hd n u us hQ
  match st, hQ with
  | .inl b :: .inr (.inl a) :: t, hQ =>
    refine ⟨_, hQ, fun hC => ?_⟩
    have hb : in32 b := hC (vI b) (by simp)
    have ha : in64 a := hC (vL a) (by simp)
    refine ⟨?_, fun lsR H locs _ _ hw => ?_⟩
    · intro v hv
      rcases List.mem_cons.mp hv with rfl | hv
      · exact (hf a b ha hb).2
      · exact hC v (by simp [hv])
    · refine hrow _ _ _ _ _ _ _ _ ?_
      rw [← (hf a b ha hb).1]
      exact hw
theorem ws_un {pc' : Nat} {Q : amP} {f : Int → Int} {g : Int32 → Int32} (hf : ∀ a, in32 a → Int32.ofInt (f a) = g (Int32.ofInt a) ∧ in32 (f a))
    (hrow : ∀ (x : Int32) (lsR : Array Slot) (H : Heap) (locs : List Loc) (u us : Nat) (rest : List Value), W p l e R s m args below meth c H locs u us Qf (F0 m pc' lsR (.int (g x) :: rest)) → W p l e R s m args below meth c H locs u us Qf (F0 m pc lsR (.int x :: rest)))
    (h : am_WS shp slen fk cl D AC ρ B0 H00 hr0 hd0 p l e R s m args below meth c Qf nL pc' Q) : am_WS shp slen fk cl D AC ρ B0 H00 hr0 hd0 p l e R s m args below meth c Qf nL pc (am_un f Q) := by
  refine ws_st h ?_
  intro ls st hr hd n u us hQ
  match st, hQ with
  | .inl a :: t, hQ =>
    refine ⟨_, hQ, fun hC => ?_⟩
    have ha : in32 a := hC (vI a) (by simp)
    refine ⟨?_, fun lsR H locs _ _ hw => ?_⟩
    · intro v hv
      rcases List.mem_cons.mp hv with rfl | hv
      · exact (hf a ha).2
      · exact hC v (by simp [hv])
    · refine hrow _ _ _ _ _ _ _ ?_
      rw [← (hf a ha).1]
      exact hw
/-- a push of one value -/
theorem ws_psh {pc' : Nat} {Q : amP} {v : amV} (hv : am_can v)
    (hrow : ∀ (lsR : Array Slot) (H : Heap) (locs : List Loc) (u us : Nat) (rest : List Value), W p l e R s m args below meth c H locs u us Qf (F0 m pc' lsR (am_enc ρ v :: rest)) → W p l e R s m args below meth c H locs u us Qf (F0 m pc lsR rest))
    (h : am_WS shp slen fk cl D AC ρ B0 H00 hr0 hd0 p l e R s m args below meth c Qf nL pc' Q) : am_WS shp slen fk cl D AC ρ B0 H00 hr0 hd0 p l e R s m args below meth c Qf nL pc (fun ls st => Q ls (v :: st)) := by
  refine ws_st h ?_
  intro ls st hr hd n u us hQ
  refine ⟨_, hQ, fun hC => ⟨?_, fun lsR H locs _ _ hw => hrow _ _ _ _ _ _ hw⟩⟩
  intro w hw
  rcases List.mem_cons.mp hw with rfl | hw
  · exact hv
  · exact hC w hw
theorem am_enc_cat {v : amV} (h : am_can v) : (am_enc ρ v).category = am_cat v := by
  match v, h with
  | .inl x, _ => rfl
  | .inr (.inl x), _ => rfl
  | .inr (.inr (.inl r)), _ => simp only [am_enc, am_cat]; split <;> rfl
/-- a load of a local -/
theorem ws_ld {pc' j : Nat} {Q Q' : amP} (hq : ∀ ls st hr hd n u us, Q' ls st hr hd n u us → am_get ls j ≠ vU ∧ Q ls (am_get ls j :: st) hr hd n u us)
    (hrow : ∀ (ls : List amV) (lsR : Array Slot) (H : Heap) (locs : List Loc) (u us : Nat) (rest : List Value), am_Lo ρ nL lsR ls → (∃ st hr hd n u us, Q' ls st hr hd n u us) → am_get ls j ≠ vU → W p l e R s m args below meth c H locs u us Qf (F0 m pc' lsR (am_enc ρ (am_get ls j) :: rest)) → W p l e R s m args below meth c H locs u us Qf (F0 m pc lsR rest))
    (h : am_WS shp slen fk cl D AC ρ B0 H00 hr0 hd0 p l e R s m args below meth c Qf nL pc' Q) : am_WS shp slen fk cl D AC ρ B0 H00 hr0 hd0 p l e R s m args below meth c Qf nL pc Q' := by
  intro ls st hr hd n u us hQ lsR H locs hL hC hH hl
  obtain ⟨h1, h2⟩ := hq ls st hr hd n u us hQ
  refine hrow ls lsR H locs u us _ hL ⟨_, _, _, _, _, _, hQ⟩ h1 (h ls _ hr hd n u us h2 lsR H locs hL ?_ hH hl)
  intro w hw
  rcases List.mem_cons.mp hw with rfl | hw
  · exact (hL.2.2.2 j h1).2
  · exact hC w hw
theorem isI_of {v : amV} (h : am_isI v) : ∃ x, v = vI x := by
  match v, h with
  | .inl x, _ => exact ⟨x, rfl⟩
theorem isL_of {v : amV} (h : am_isL v) : ∃ x, v = vL x := by
  match v, h with
  | .inr (.inl x), _ => exact ⟨x, rfl⟩
theorem isR_of {v : amV} (h : am_isR v) : ∃ x, v = vR x := by
  match v, h with
  | .inr (.inr (.inl x)), _ => exact ⟨x, rfl⟩
theorem ws_ild {pc' j : Nat} {Q : amP} (hrow : ∀ (x : Int32) (lsR : Array Slot) (H : Heap) (locs : List Loc) (u us : Nat) (rest : List Value), lsR[j]? = some (.val (.int x)) → W p l e R s m args below meth c H locs u us Qf (F0 m pc' lsR (.int x :: rest)) → W p l e R s m args below meth c H locs u us Qf (F0 m pc lsR rest))
    (h : am_WS shp slen fk cl D AC ρ B0 H00 hr0 hd0 p l e R s m args below meth c Qf nL pc' Q) : am_WS shp slen fk cl D AC ρ B0 H00 hr0 hd0 p l e R s m args below meth c Qf nL pc (am_ild j Q) := by
  refine ws_ld (j := j) (fun ls st hr hd n u us hQ => ⟨fun z => by have := hQ.1; rw [z] at this; exact this, hQ.2⟩) (fun ls lsR H locs u us rest hL hE hne hw => ?_) h
  obtain ⟨_, _, _, _, _, _, hQ⟩ := hE
  obtain ⟨x, hx⟩ := isI_of hQ.1
  have h2 := (hL.2.2.2 j hne).1
  rw [hx] at hw h2
  exact hrow _ _ _ _ _ _ _ h2 hw
theorem ws_lld {pc' j : Nat} {Q : amP} (hrow : ∀ (x : Int64) (lsR : Array Slot) (H : Heap) (locs : List Loc) (u us : Nat) (rest : List Value), lsR[j]? = some (.val (.long x)) → W p l e R s m args below meth c H locs u us Qf (F0 m pc' lsR (.long x :: rest)) → W p l e R s m args below meth c H locs u us Qf (F0 m pc lsR rest))
    (h : am_WS shp slen fk cl D AC ρ B0 H00 hr0 hd0 p l e R s m args below meth c Qf nL pc' Q) : am_WS shp slen fk cl D AC ρ B0 H00 hr0 hd0 p l e R s m args below meth c Qf nL pc (am_lld j Q) := by
  refine ws_ld (j := j) (fun ls st hr hd n u us hQ => ⟨fun z => by have := hQ.1; rw [z] at this; exact this, hQ.2⟩) (fun ls lsR H locs u us rest hL hE hne hw => ?_) h
  obtain ⟨_, _, _, _, _, _, hQ⟩ := hE
  obtain ⟨x, hx⟩ := isL_of hQ.1
  have h2 := (hL.2.2.2 j hne).1
  rw [hx] at hw h2
  exact hrow _ _ _ _ _ _ _ h2 hw
theorem ws_ald {pc' j : Nat} {Q : amP} (hrow : ∀ (x : Nat) (lsR : Array Slot) (H : Heap) (locs : List Loc) (u us : Nat) (rest : List Value), lsR[j]? = some (.val (.ref x)) → W p l e R s m args below meth c H locs u us Qf (F0 m pc' lsR (.ref x :: rest)) → W p l e R s m args below meth c H locs u us Qf (F0 m pc lsR rest))
    (hrowN : ∀ (lsR : Array Slot) (H : Heap) (locs : List Loc) (u us : Nat) (rest : List Value), lsR[j]? = some (.val .null) → W p l e R s m args below meth c H locs u us Qf (F0 m pc' lsR (.null :: rest)) → W p l e R s m args below meth c H locs u us Qf (F0 m pc lsR rest))
    (h : am_WS shp slen fk cl D AC ρ B0 H00 hr0 hd0 p l e R s m args below meth c Qf nL pc' Q) : am_WS shp slen fk cl D AC ρ B0 H00 hr0 hd0 p l e R s m args below meth c Qf nL pc (am_ald j Q) := by
  refine ws_ld (j := j) (fun ls st hr hd n u us hQ => ⟨fun z => by have := hQ.1; rw [z] at this; exact this, hQ.2⟩) (fun ls lsR H locs u us rest hL hE hne hw => ?_) h
  obtain ⟨_, _, _, _, _, _, hQ⟩ := hE
  obtain ⟨x, hx⟩ := isR_of hQ.1
  have h2 := (hL.2.2.2 j hne).1
  rw [hx] at hw h2
  simp only [am_enc] at hw h2
  by_cases h0 : x = 0
  · rw [if_pos h0] at hw h2
    exact hrowN _ _ _ _ _ _ h2 hw
  · rw [if_neg h0] at hw h2
    exact hrow _ _ _ _ _ _ _ h2 hw
end SI
