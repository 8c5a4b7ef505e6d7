/-! SOUNDNESS of the small machine, 2: locals, the stack, jumps -/
theorem am_get_st1 : ∀ (ls : List amV) (i : Nat) (v : amV), i < ls.length → ∀ j, am_get (am_st1 ls i v) j = if j = i then v else if j + 1 = i then am_kill (am_get ls j) else am_get ls j
  | [], i, v, h, j => absurd h (by simp)
  | a :: l, 0, v, _, 0 => by simp [am_st1, am_get]
  | a :: l, 0, v, _, j + 1 => by simp [am_st1, am_get]
  | a :: l, 1, v, h, 0 => by simp [am_st1, am_get]
  | a :: l, 1, v, h, j + 1 => by
    have := am_get_st1 l 0 v (by simp at h; omega) j
    simp only [am_st1, am_get, this]
    by_cases h1 : j = 0 <;> simp [h1]
  | a :: l, i + 2, v, h, 0 => by
    simp [am_st1, am_get]
  | a :: l, i + 2, v, h, j + 1 => by
    have := am_get_st1 l (i + 1) v (by simp at h; omega) j
    simp only [am_st1, am_get, this]
    by_cases h1 : j = i + 1
    · simp [h1]
    · by_cases h2 : j + 1 = i + 1
      · simp [h2]; omega
      · simp [h1, h2]
theorem am_st1_len : ∀ (ls : List amV) (i : Nat) (v : amV), (am_st1 ls i v).length = ls.length
  | [], _, _ => rfl
  | _ :: _, 0, _ => rfl
  | _ :: l, 1, v => by simp [am_st1, am_st1_len l 0 v]
  | _ :: l, n + 2, v => by simp [am_st1, am_st1_len l (n + 1) v]
theorem am_st2_len : ∀ (ls : List amV) (i : Nat) (v : amV), (am_st2 ls i v).length = ls.length
  | [], _, _ => by simp [am_st2]
  | [_], _, _ => by simp [am_st2]
  | _ :: _ :: _, 0, _ => by simp [am_st2]
  | _ :: b :: l, 1, v => by simp [am_st2, am_st2_len (b :: l) 0 v]
  | _ :: b :: l, n + 2, v => by simp [am_st2, am_st2_len (b :: l) (n + 1) v]
theorem am_get_st2 : ∀ (ls : List amV) (i : Nat) (v : amV), i + 1 < ls.length → ∀ j, am_get (am_st2 ls i v) j = if j = i then v else if j = i + 1 then vU else if j + 1 = i then am_kill (am_get ls j) else am_get ls j
  | [], i, v, h, j => absurd h (by simp)
  | [a], i, v, h, j => absurd h (by simp)
  | a :: b :: l, 0, v, _, 0 => by simp [am_st2, am_get]
  | a :: b :: l, 0, v, _, 1 => by simp [am_st2, am_get]
  | a :: b :: l, 0, v, _, j + 2 => by simp [am_st2, am_get]
  | a :: b :: l, 1, v, h, 0 => by simp [am_st2, am_get]
  | a :: b :: l, 1, v, h, j + 1 => by
    have := am_get_st2 (b :: l) 0 v (by simp at h ⊢; omega) j
    simp only [am_st2, am_get, this]
    by_cases h1 : j = 0
    · simp [h1]
    · by_cases h2 : j = 1 <;> simp [h1, h2]
  | a :: b :: l, i + 2, v, h, 0 => by
    simp [am_st2, am_get]
  | a :: b :: l, i + 2, v, h, j + 1 => by
    have := am_get_st2 (b :: l) (i + 1) v (by simp at h ⊢; omega) j
    simp only [am_st2, am_get, this]
    by_cases h1 : j = i + 1
    · simp [h1]
    · by_cases h2 : j = i + 1 + 1
      · simp [h2]
      · by_cases h3 : j = i
        · subst h3
          simp; omega
        · simp [h1, h2, h3]
theorem am_get_out : ∀ (ls : List amV) (j : Nat), ls.length ≤ j → am_get ls j = vU
  | [], _, _ => rfl
  | _ :: _, 0, h => absurd h (by simp)
  | _ :: l, j + 1, h => am_get_out l j (by simp at h; omega)
def am_lv (ρ : Nat → Nat) (ls : List amV) : List (Nat × Value) := (List.range ls.length).filterMap (fun j => if am_get ls j = vU then none else some (j, am_enc ρ (am_get ls j)))
theorem am_lv_mem {ρ : Nat → Nat} {ls : List amV} {j : Nat} {w : Value} : (j, w) ∈ am_lv ρ ls ↔ am_get ls j ≠ vU ∧ w = am_enc ρ (am_get ls j) := by
  unfold am_lv
  rw [List.mem_filterMap]
  constructor
  · rintro ⟨k, hk, h⟩
    by_cases hu : am_get ls k = vU
    · rw [if_pos hu] at h; cases h
    · rw [if_neg hu] at h
      cases h
      exact ⟨hu, rfl⟩
  · rintro ⟨h1, rfl⟩
    refine ⟨j, List.mem_range.mpr ?_, by rw [if_neg h1]⟩
    rcases Nat.lt_or_ge j ls.length with h | h
    · exact h
    · exact absurd (am_get_out ls j h) h1
theorem am_Lo.has {ρ : Nat → Nat} {nL : Nat} {lsR : Array Slot} {ls : List amV} (h : am_Lo ρ nL lsR ls) : lv_has lsR nL (am_lv ρ ls) := by
  refine ⟨h.1, h.2.2.1, fun q hq => ?_⟩
  obtain ⟨j, w⟩ := q
  obtain ⟨h1, rfl⟩ := am_lv_mem.mp hq
  exact (h.2.2.2 j h1).1
theorem am_kill_ne {v : amV} (h : am_kill v ≠ vU) : am_kill v = v ∧ am_cat v = 1 := by
  match v, h with
  | .inl x, _ => exact ⟨rfl, rfl⟩
  | .inr (.inl x), h => exact absurd rfl h
  | .inr (.inr (.inl r)), _ => exact ⟨rfl, rfl⟩
  | .inr (.inr (.inr ())), _ => exact ⟨rfl, rfl⟩
theorem am_Lo.st1 {ρ : Nat → Nat} {nL : Nat} {lsR lsR' : Array Slot} {ls : List amV} {i : Nat} {v : amV} {w : Value} (h : am_Lo ρ nL lsR ls) (hi : i < nL) (hv : am_can v) (hw : am_enc ρ v = w)
    (h' : lv_has lsR' nL ((i, w) :: (am_lv ρ ls).filter (fun q => !(q.1 == i) && !(q.1 + 1 == i && q.2.category == 2)))) : am_Lo ρ nL lsR' (am_st1 ls i v) := by
  have hlen := h.2.1
  refine ⟨h'.1, by rw [am_st1_len, hlen], h'.2.1, fun j hj => ?_⟩
  rw [am_get_st1 ls i v (by omega)] at hj ⊢
  by_cases h1 : j = i
  · subst h1
    simp only [if_pos] at hj ⊢
    exact ⟨by rw [hw]; exact h'.2.2 (j, w) List.mem_cons_self, hv⟩
  · rw [if_neg h1] at hj ⊢
    have key : am_get ls j ≠ vU → (j + 1 = i → am_cat (am_get ls j) = 1) → lsR'[j]? = some (.val (am_enc ρ (am_get ls j))) ∧ am_can (am_get ls j) := by
      intro hu hc
      refine ⟨h'.2.2 (j, am_enc ρ (am_get ls j)) (List.mem_cons_of_mem _ (List.mem_filter.mpr ⟨am_lv_mem.mpr ⟨hu, rfl⟩, ?_⟩)), (h.2.2.2 j hu).2⟩
      have hcat := am_enc_cat (ρ := ρ) (h.2.2.2 j hu).2
      by_cases h2 : j + 1 = i
      · simp [h1, hcat, hc h2]
      · simp [h1, h2]
    by_cases h2 : j + 1 = i
    · rw [if_pos h2] at hj ⊢
      obtain ⟨k1, k2⟩ := am_kill_ne hj
      rw [k1] at hj ⊢
      exact key hj (fun _ => k2)
    · rw [if_neg h2] at hj ⊢
      exact key hj (fun q => absurd q h2)
theorem am_Lo.st2 {ρ : Nat → Nat} {nL : Nat} {lsR lsR' : Array Slot} {ls : List amV} {i : Nat} {v : amV} {w : Value} (h : am_Lo ρ nL lsR ls) (hi : i + 1 < nL) (hv : am_can v) (hw : am_enc ρ v = w)
    (h' : lv_has lsR' nL ((i, w) :: (am_lv ρ ls).filter (fun q => !(q.1 == i) && (!(q.1 == i + 1) && !(q.1 + 1 == i && q.2.category == 2))))) : am_Lo ρ nL lsR' (am_st2 ls i v) := by
  have hlen := h.2.1
  refine ⟨h'.1, by rw [am_st2_len, hlen], h'.2.1, fun j hj => ?_⟩
  rw [am_get_st2 ls i v (by omega)] at hj ⊢
  by_cases h1 : j = i
  · subst h1
    simp only [if_pos] at hj ⊢
    exact ⟨by rw [hw]; exact h'.2.2 (j, w) List.mem_cons_self, hv⟩
  · rw [if_neg h1] at hj ⊢
    by_cases h0 : j = i + 1
    · rw [if_pos h0] at hj
      exact absurd rfl hj
    · rw [if_neg h0] at hj ⊢
      have key : am_get ls j ≠ vU → (j + 1 = i → am_cat (am_get ls j) = 1) → lsR'[j]? = some (.val (am_enc ρ (am_get ls j))) ∧ am_can (am_get ls j) := by
        intro hu hc
        refine ⟨h'.2.2 (j, am_enc ρ (am_get ls j)) (List.mem_cons_of_mem _ (List.mem_filter.mpr ⟨am_lv_mem.mpr ⟨hu, rfl⟩, ?_⟩)), (h.2.2.2 j hu).2⟩
        have hcat := am_enc_cat (ρ := ρ) (h.2.2.2 j hu).2
        by_cases h2 : j + 1 = i
        · simp [h1, h0, hcat, hc h2]
        · simp [h1, h0, h2]
      by_cases h2 : j + 1 = i
      · rw [if_pos h2] at hj ⊢
        obtain ⟨k1, k2⟩ := am_kill_ne hj
        rw [k1] at hj ⊢
        exact key hj (fun _ => k2)
      · rw [if_neg h2] at hj ⊢
        exact key hj (fun q => absurd q h2)
section SJ
variable {shp slen : Nat → Nat} {fk : Nat → Nat → Nat} {cl : List vw_C} {D : va_G} {AC : Nat → ClassId} {ρ : Nat → Nat} {B0 : Nat} {H00 : Heap} {hr0 : amR} {hd0 : amD}
variable {p : Program} {l : Launch} {e : Env} {R : Room} {s : State} {m : MethodId} {args : Array Value} {below : List Frame} {meth : Method} {c : Code} {Qf : State → Prop} {nL : Nat} {cc : ByteArray} {pc : Nat}
theorem ws_ist {pc' i : Nat} {Q : amP} (hrow : ∀ (x : Int32) (lv : List (Nat × Value)) (lsR : Array Slot) (H : Heap) (locs : List Loc) (u us : Nat) (rest : List Value), lv_has lsR nL lv → i < nL → (∀ lsR' : Array Slot, lv_has lsR' nL ((i, Value.int x) :: lv.filter (fun q => !(q.1 == i) && !(q.1 + 1 == i && q.2.category == 2))) → W p l e R s m args below meth c H locs u us Qf (F0 m pc' lsR' rest)) → W p l e R s m args below meth c H locs u us Qf (F0 m pc lsR (.int x :: rest)))
    (h : am_WS shp slen fk cl D AC ρ B0 H00 hr0 hd0 p l e R s m args below meth c Qf nL pc' Q) : am_WS shp slen fk cl D AC ρ B0 H00 hr0 hd0 p l e R s m args below meth c Qf nL pc (am_ist i Q) := by
  intro ls st hr hd n u us hQ lsR H locs hL hC hH hl
  match st, hQ with
  | .inl x :: t, hQ =>
    have hlen := hL.2.1
    have hx : am_can (vI x) := hC _ (by simp)
    refine hrow _ _ _ _ _ _ _ _ hL.has (by have := hQ.1; omega) fun lsR' h' => ?_
    exact h _ _ _ _ _ _ _ hQ.2 lsR' H locs (hL.st1 (by have := hQ.1; omega) hx rfl h') (fun v hv => hC v (by simp [hv])) hH hl
theorem ws_ast {pc' i : Nat} {Q : amP} (hrow : ∀ (x : Nat) (lv : List (Nat × Value)) (lsR : Array Slot) (H : Heap) (locs : List Loc) (u us : Nat) (rest : List Value), lv_has lsR nL lv → i < nL → (∀ lsR' : Array Slot, lv_has lsR' nL ((i, Value.ref x) :: lv.filter (fun q => !(q.1 == i) && !(q.1 + 1 == i && q.2.category == 2))) → W p l e R s m args below meth c H locs u us Qf (F0 m pc' lsR' rest)) → W p l e R s m args below meth c H locs u us Qf (F0 m pc lsR (.ref x :: rest)))
    (hrowN : ∀ (lv : List (Nat × Value)) (lsR : Array Slot) (H : Heap) (locs : List Loc) (u us : Nat) (rest : List Value), lv_has lsR nL lv → i < nL → (∀ lsR' : Array Slot, lv_has lsR' nL ((i, Value.null) :: lv.filter (fun q => !(q.1 == i) && !(q.1 + 1 == i && q.2.category == 2))) → W p l e R s m args below meth c H locs u us Qf (F0 m pc' lsR' rest)) → W p l e R s m args below meth c H locs u us Qf (F0 m pc lsR (.null :: rest)))
    (h : am_WS shp slen fk cl D AC ρ B0 H00 hr0 hd0 p l e R s m args below meth c Qf nL pc' Q) : am_WS shp slen fk cl D AC ρ B0 H00 hr0 hd0 p l e R s m args below meth c Qf nL pc (am_ast i Q) := by
  intro ls st hr hd n u us hQ lsR H locs hL hC hH hl
  match st, hQ with
  | .inr (.inr (.inl x)) :: t, hQ =>
    have hlen := hL.2.1
    have hx : am_can (vR x) := hC _ (by simp)
    have hi : i < nL := by have := hQ.1; omega
    show W p l e R s m args below meth c H locs u us Qf (F0 m pc lsR ((if x = 0 then .null else .ref (ρ x)) :: t.map (am_enc ρ)))
    by_cases h0 : x = 0
    · rw [if_pos h0]
      refine hrowN _ _ _ _ _ _ _ hL.has hi fun lsR' h' => ?_
      exact h _ _ _ _ _ _ _ hQ.2 lsR' H locs (hL.st1 hi hx (by simp only [am_enc]; rw [if_pos h0]) h') (fun v hv => hC v (by simp [hv])) hH hl
    · rw [if_neg h0]
      refine hrow _ _ _ _ _ _ _ _ hL.has hi fun lsR' h' => ?_
      exact h _ _ _ _ _ _ _ hQ.2 lsR' H locs (hL.st1 hi hx (by simp only [am_enc]; rw [if_neg h0]) h') (fun v hv => hC v (by simp [hv])) hH hl
theorem ws_lst {pc' i : Nat} {Q : amP} (hrow : ∀ (x : Int64) (lv : List (Nat × Value)) (lsR : Array Slot) (H : Heap) (locs : List Loc) (u us : Nat) (rest : List Value), lv_has lsR nL lv → i + 1 < nL → (∀ lsR' : Array Slot, lv_has lsR' nL ((i, Value.long x) :: lv.filter (fun q => !(q.1 == i) && (!(q.1 == i + 1) && !(q.1 + 1 == i && q.2.category == 2)))) → W p l e R s m args below meth c H locs u us Qf (F0 m pc' lsR' rest)) → W p l e R s m args below meth c H locs u us Qf (F0 m pc lsR (.long x :: rest)))
    (h : am_WS shp slen fk cl D AC ρ B0 H00 hr0 hd0 p l e R s m args below meth c Qf nL pc' Q) : am_WS shp slen fk cl D AC ρ B0 H00 hr0 hd0 p l e R s m args below meth c Qf nL pc (am_lst i Q) := by
  intro ls st hr hd n u us hQ lsR H locs hL hC hH hl
  match st, hQ with
  | .inr (.inl x) :: t, hQ =>
    have hlen := hL.2.1
    have hx : am_can (vL x) := hC _ (by simp)
    refine hrow _ _ _ _ _ _ _ _ hL.has (by have := hQ.1; omega) fun lsR' h' => ?_
    exact h _ _ _ _ _ _ _ hQ.2 lsR' H locs (hL.st2 (by have := hQ.1; omega) hx rfl h') (fun v hv => hC v (by simp [hv])) hH hl
theorem ws_iinc {pc' i : Nat} {k : Int} {Q : amP} (hrow : ∀ (x : Int32) (lv : List (Nat × Value)) (lsR : Array Slot) (H : Heap) (locs : List Loc) (u us : Nat) (rest : List Value), lv_has lsR nL lv → (∃ z : Nat, lv[z]? = some (i, .int x)) → i < nL → (∀ lsR' : Array Slot, lv_has lsR' nL ((i, Value.int (x + Int32.ofInt k)) :: lv.filter (fun q => !(q.1 == i) && !(q.1 + 1 == i && q.2.category == 2))) → W p l e R s m args below meth c H locs u us Qf (F0 m pc' lsR' rest)) → W p l e R s m args below meth c H locs u us Qf (F0 m pc lsR rest))
    (h : am_WS shp slen fk cl D AC ρ B0 H00 hr0 hd0 p l e R s m args below meth c Qf nL pc' Q) : am_WS shp slen fk cl D AC ρ B0 H00 hr0 hd0 p l e R s m args below meth c Qf nL pc (am_iinc i k Q) := by
  intro ls st hr hd n u us hQ lsR H locs hL hC hH hl
  have hlen := hL.2.1
  unfold am_iinc at hQ
  generalize hg : am_get ls i = v at hQ
  match v, hQ with
  | .inl x, hQ =>
    have hne : am_get ls i ≠ vU := by rw [hg]; exact fun z => by cases z
    obtain ⟨z, hz⟩ := List.getElem?_of_mem (am_lv_mem (ρ := ρ).mpr ⟨hne, rfl⟩)
    rw [hg] at hz
    refine hrow (Int32.ofInt x) _ _ _ _ _ _ _ hL.has ⟨z, hz⟩ (by have := hQ.1; omega) fun lsR' h' => ?_
    exact h _ _ _ _ _ _ _ hQ.2 lsR' H locs (hL.st1 (by have := hQ.1; omega) (show am_can (vI _) from w32_in _) (by show Value.int _ = _; rw [w32_add, oi32]) h') hC hH hl
theorem ws_dup {pc' : Nat} {Q : amP} (hrow : ∀ (v : Value) (lsR : Array Slot) (H : Heap) (locs : List Loc) (u us : Nat) (rest : List Value), v.category = 1 → W p l e R s m args below meth c H locs u us Qf (F0 m pc' lsR (v :: v :: rest)) → W p l e R s m args below meth c H locs u us Qf (F0 m pc lsR (v :: rest)))
    (h : am_WS shp slen fk cl D AC ρ B0 H00 hr0 hd0 p l e R s m args below meth c Qf nL pc' Q) : am_WS shp slen fk cl D AC ρ B0 H00 hr0 hd0 p l e R s m args below meth c Qf nL pc (am_dup Q) := by
  refine ws_st h ?_
  intro ls st hr hd n u us hQ
  match st, hQ with
  | a :: t, hQ =>
    refine ⟨_, hQ.2, fun hC => ?_⟩
    have ha : am_can a := hC a (by simp)
    refine ⟨fun v hv => ?_, fun lsR H locs _ _ hw => hrow _ _ _ _ _ _ _ (by rw [am_enc_cat ha]; exact hQ.1) hw⟩
    rcases List.mem_cons.mp hv with rfl | hv
    · exact ha
    · exact hC v hv
theorem ws_dup2 {pc' : Nat} {Q : amP} (hrow : ∀ (v w : Value) (lsR : Array Slot) (H : Heap) (locs : List Loc) (u us : Nat) (rest : List Value), v.category = 1 → w.category = 1 → W p l e R s m args below meth c H locs u us Qf (F0 m pc' lsR (v :: w :: v :: w :: rest)) → W p l e R s m args below meth c H locs u us Qf (F0 m pc lsR (v :: w :: rest)))
    (h : am_WS shp slen fk cl D AC ρ B0 H00 hr0 hd0 p l e R s m args below meth c Qf nL pc' Q) : am_WS shp slen fk cl D AC ρ B0 H00 hr0 hd0 p l e R s m args below meth c Qf nL pc (am_dup2 Q) := by
  refine ws_st h ?_
  intro ls st hr hd n u us hQ
  match st, hQ with
  | a :: b :: t, hQ =>
    refine ⟨_, hQ.2, fun hC => ?_⟩
    have ha : am_can a := hC a (by simp)
    have hb : am_can b := hC b (by simp)
    refine ⟨fun v hv => ?_, fun lsR H locs _ _ hw => hrow _ _ _ _ _ _ _ _ (by rw [am_enc_cat ha]; exact hQ.1.1) (by rw [am_enc_cat hb]; exact hQ.1.2) hw⟩
    rcases List.mem_cons.mp hv with rfl | hv
    · exact ha
    rcases List.mem_cons.mp hv with rfl | hv
    · exact hb
    · exact hC v hv
theorem ws_pop {pc' : Nat} {Q : amP} (hrow : ∀ (v : Value) (lsR : Array Slot) (H : Heap) (locs : List Loc) (u us : Nat) (rest : List Value), v.category = 1 → W p l e R s m args below meth c H locs u us Qf (F0 m pc' lsR rest) → W p l e R s m args below meth c H locs u us Qf (F0 m pc lsR (v :: rest)))
    (h : am_WS shp slen fk cl D AC ρ B0 H00 hr0 hd0 p l e R s m args below meth c Qf nL pc' Q) : am_WS shp slen fk cl D AC ρ B0 H00 hr0 hd0 p l e R s m args below meth c Qf nL pc (am_pop Q) := by
  refine ws_st h ?_
  intro ls st hr hd n u us hQ
  match st, hQ with
  | a :: t, hQ =>
    refine ⟨_, hQ.2, fun hC => ?_⟩
    have ha : am_can a := hC a (by simp)
    exact ⟨fun v hv => hC v (by simp [hv]), fun lsR H locs _ _ hw => hrow _ _ _ _ _ _ _ (by rw [am_enc_cat ha]; exact hQ.1) hw⟩
theorem i2l_ok {a : Int} (h : in32 a) : (Int32.ofInt a).toInt64 = Int64.ofInt a ∧ in64 a := by
  have h6 : in64 a := ⟨by have := h.1; omega, by have := h.2; omega⟩
  refine ⟨Int64.toInt_inj.mp ?_, h6⟩
  rw [Int32.toInt_toInt64, ti32, w32_id h, ti64, w64_id h6]
theorem l2i_ok {a : Int} (h : in64 a) : (Int64.ofInt a).toInt32 = Int32.ofInt (w32 a) := by
  apply Int32.toInt_inj.mp
  rw [Int64.toInt_toInt32, ti64, w64_id h, ti32, w32_id (w32_in _)]
  rfl
theorem ws_i2l {pc' : Nat} {Q : amP} (hrow : ∀ (x : Int32) (lsR : Array Slot) (H : Heap) (locs : List Loc) (u us : Nat) (rest : List Value), W p l e R s m args below meth c H locs u us Qf (F0 m pc' lsR (.long x.toInt64 :: rest)) → W p l e R s m args below meth c H locs u us Qf (F0 m pc lsR (.int x :: rest)))
    (h : am_WS shp slen fk cl D AC ρ B0 H00 hr0 hd0 p l e R s m args below meth c Qf nL pc' Q) : am_WS shp slen fk cl D AC ρ B0 H00 hr0 hd0 p l e R s m args below meth c Qf nL pc (am_i2l Q) := by
  refine ws_st h ?_
  intro ls st hr hd n u us hQ
  match st, hQ with
  | .inl a :: t, hQ =>
    refine ⟨_, hQ, fun hC => ?_⟩
    have ha : in32 a := hC (vI a) (by simp)
    refine ⟨fun v hv => ?_, fun lsR H locs _ _ hw => hrow _ _ _ _ _ _ _ ?_⟩
    · rcases List.mem_cons.mp hv with rfl | hv
      · exact (i2l_ok ha).2
      · exact hC v (by simp [hv])
    · rw [(i2l_ok ha).1]
      exact hw
theorem ws_l2i {pc' : Nat} {Q : amP} (hrow : ∀ (x : Int64) (lsR : Array Slot) (H : Heap) (locs : List Loc) (u us : Nat) (rest : List Value), W p l e R s m args below meth c H locs u us Qf (F0 m pc' lsR (.int x.toInt32 :: rest)) → W p l e R s m args below meth c H locs u us Qf (F0 m pc lsR (.long x :: rest)))
    (h : am_WS shp slen fk cl D AC ρ B0 H00 hr0 hd0 p l e R s m args below meth c Qf nL pc' Q) : am_WS shp slen fk cl D AC ρ B0 H00 hr0 hd0 p l e R s m args below meth c Qf nL pc (am_l2i Q) := by
  refine ws_st h ?_
  intro ls st hr hd n u us hQ
  match st, hQ with
  | .inr (.inl a) :: t, hQ =>
    refine ⟨_, hQ, fun hC => ?_⟩
    have ha : in64 a := hC (vL a) (by simp)
    refine ⟨fun v hv => ?_, fun lsR H locs _ _ hw => hrow _ _ _ _ _ _ _ ?_⟩
    · rcases List.mem_cons.mp hv with rfl | hv
      · exact w32_in _
      · exact hC v (by simp [hv])
    · rw [l2i_ok ha]
      exact hw
theorem lcmp_ok {a b : Int} (ha : in64 a) (hb : in64 b) : lg_cmp (Int64.ofInt a) (Int64.ofInt b) = Int32.ofInt (am_lcmp a b) ∧ in32 (am_lcmp a b) := by
  unfold am_lcmp
  by_cases h1 : b < a
  · have h2 : Int64.ofInt b < Int64.ofInt a := (ofInt64_lt hb ha).mpr h1
    rw [if_pos h1]
    exact ⟨by simp [lg_cmp, h2], by decide, by decide⟩
  · have h2 : ¬ Int64.ofInt b < Int64.ofInt a := fun q => h1 ((ofInt64_lt hb ha).mp q)
    rw [if_neg h1]
    by_cases h3 : a = b
    · subst h3
      rw [if_pos rfl]
      exact ⟨by simp [lg_cmp, h2], by decide, by decide⟩
    · have h4 : Int64.ofInt a < Int64.ofInt b := (ofInt64_lt ha hb).mpr (by omega)
      have h5 : ¬ Int64.ofInt a = Int64.ofInt b := fun q => by rw [q] at h4; exact absurd ((ofInt64_lt hb hb).mp h4) (by omega)
      rw [if_neg h3]
      exact ⟨by simp [lg_cmp, h2, h4, h5], by decide, by decide⟩
theorem ws_lcmp {pc' : Nat} {Q : amP} (hrow : ∀ (x y : Int64) (lsR : Array Slot) (H : Heap) (locs : List Loc) (u us : Nat) (rest : List Value), W p l e R s m args below meth c H locs u us Qf (F0 m pc' lsR (.int (lg_cmp x y) :: rest)) → W p l e R s m args below meth c H locs u us Qf (F0 m pc lsR (.long y :: .long x :: rest)))
    (h : am_WS shp slen fk cl D AC ρ B0 H00 hr0 hd0 p l e R s m args below meth c Qf nL pc' Q) : am_WS shp slen fk cl D AC ρ B0 H00 hr0 hd0 p l e R s m args below meth c Qf nL pc (am_lcmpQ Q) := by
  refine ws_st h ?_
  intro ls st hr hd n u us hQ
  match st, hQ with
  | .inr (.inl b) :: .inr (.inl a) :: t, hQ =>
    refine ⟨_, hQ, fun hC => ?_⟩
    have hb : in64 b := hC (vL b) (by simp)
    have ha : in64 a := hC (vL a) (by simp)
    refine ⟨fun v hv => ?_, fun lsR H locs _ _ hw => hrow _ _ _ _ _ _ _ _ ?_⟩
    · rcases List.mem_cons.mp hv with rfl | hv
      · exact (lcmp_ok ha hb).2
      · exact hC v (by simp [hv])
    · rw [(lcmp_ok ha hb).1]
      exact hw
/-- a compare with 0 -/
theorem ws_c1 {pt pf : Nat} {Qt Qn : amP} {P : Int → Prop} {P' : Int32 → Prop} (hP : ∀ x, in32 x → (P' (Int32.ofInt x) ↔ P x))
    (hrow : ∀ (x : Int32) (lsR : Array Slot) (H : Heap) (locs : List Loc) (u us : Nat) (rest : List Value), (P' x → W p l e R s m args below meth c H locs u us Qf (F0 m pt lsR rest)) → (¬ P' x → W p l e R s m args below meth c H locs u us Qf (F0 m pf lsR rest)) → W p l e R s m args below meth c H locs u us Qf (F0 m pc lsR (.int x :: rest)))
    (ht : am_WS shp slen fk cl D AC ρ B0 H00 hr0 hd0 p l e R s m args below meth c Qf nL pt Qt) (hf : am_WS shp slen fk cl D AC ρ B0 H00 hr0 hd0 p l e R s m args below meth c Qf nL pf Qn) :
    am_WS shp slen fk cl D AC ρ B0 H00 hr0 hd0 p l e R s m args below meth c Qf nL pc (am_c1 P Qt Qn) := by
  intro ls st hr hd n u us hQ lsR H locs hL hC hH hl
  match st, hQ with
  | .inl x :: t, hQ =>
    have hx : in32 x := hC (vI x) (by simp)
    have hC' : ∀ v ∈ t, am_can v := fun v hv => hC v (by simp [hv])
    exact hrow _ _ _ _ _ _ _ (fun q => ht _ _ _ _ _ _ _ (hQ.1 ((hP x hx).mp q)) lsR H locs hL hC' hH hl) (fun q => hf _ _ _ _ _ _ _ (hQ.2 (fun z => q ((hP x hx).mpr z))) lsR H locs hL hC' hH hl)
theorem ws_c2 {pt pf : Nat} {Qt Qn : amP} {P : Int → Int → Prop} {P' : Int32 → Int32 → Prop} (hP : ∀ x y, in32 x → in32 y → (P' (Int32.ofInt x) (Int32.ofInt y) ↔ P x y))
    (hrow : ∀ (x y : Int32) (lsR : Array Slot) (H : Heap) (locs : List Loc) (u us : Nat) (rest : List Value), (P' x y → W p l e R s m args below meth c H locs u us Qf (F0 m pt lsR rest)) → (¬ P' x y → W p l e R s m args below meth c H locs u us Qf (F0 m pf lsR rest)) → W p l e R s m args below meth c H locs u us Qf (F0 m pc lsR (.int y :: .int x :: rest)))
    (ht : am_WS shp slen fk cl D AC ρ B0 H00 hr0 hd0 p l e R s m args below meth c Qf nL pt Qt) (hf : am_WS shp slen fk cl D AC ρ B0 H00 hr0 hd0 p l e R s m args below meth c Qf nL pf Qn) :
    am_WS shp slen fk cl D AC ρ B0 H00 hr0 hd0 p l e R s m args below meth c Qf nL pc (am_c2 P Qt Qn) := by
  intro ls st hr hd n u us hQ lsR H locs hL hC hH hl
  match st, hQ with
  | .inl y :: .inl x :: t, hQ =>
    have hx : in32 x := hC (vI x) (by simp)
    have hy : in32 y := hC (vI y) (by simp)
    have hC' : ∀ v ∈ t, am_can v := fun v hv => hC v (by simp [hv])
    exact hrow _ _ _ _ _ _ _ _ (fun q => ht _ _ _ _ _ _ _ (hQ.1 ((hP x y hx hy).mp q)) lsR H locs hL hC' hH hl) (fun q => hf _ _ _ _ _ _ _ (hQ.2 (fun z => q ((hP x y hx hy).mpr z))) lsR H locs hL hC' hH hl)
theorem ws_cn {pt pf : Nat} {Qt Qn : amP}
    (hrow : ∀ (x : Nat) (lsR : Array Slot) (H : Heap) (locs : List Loc) (u us : Nat) (rest : List Value), W p l e R s m args below meth c H locs u us Qf (F0 m pf lsR rest) → W p l e R s m args below meth c H locs u us Qf (F0 m pc lsR (.ref x :: rest)))
    (hrowN : ∀ (lsR : Array Slot) (H : Heap) (locs : List Loc) (u us : Nat) (rest : List Value), W p l e R s m args below meth c H locs u us Qf (F0 m pt lsR rest) → W p l e R s m args below meth c H locs u us Qf (F0 m pc lsR (.null :: rest)))
    (ht : am_WS shp slen fk cl D AC ρ B0 H00 hr0 hd0 p l e R s m args below meth c Qf nL pt Qt) (hf : am_WS shp slen fk cl D AC ρ B0 H00 hr0 hd0 p l e R s m args below meth c Qf nL pf Qn) :
    am_WS shp slen fk cl D AC ρ B0 H00 hr0 hd0 p l e R s m args below meth c Qf nL pc (am_cn Qt Qn) := by
  intro ls st hr hd n u us hQ lsR H locs hL hC hH hl
  match st, hQ with
  | .inr (.inr (.inl x)) :: t, hQ =>
    have hC' : ∀ v ∈ t, am_can v := fun v hv => hC v (by simp [hv])
    show W p l e R s m args below meth c H locs u us Qf (F0 m pc lsR ((if x = 0 then .null else .ref (ρ x)) :: t.map (am_enc ρ)))
    by_cases h0 : x = 0
    · rw [if_pos h0]
      exact hrowN _ _ _ _ _ _ (ht _ _ _ _ _ _ _ (hQ.1 h0) lsR H locs hL hC' hH hl)
    · rw [if_neg h0]
      exact hrow _ _ _ _ _ _ _ (hf _ _ _ _ _ _ _ (hQ.2 h0) lsR H locs hL hC' hH hl)
end SJ
