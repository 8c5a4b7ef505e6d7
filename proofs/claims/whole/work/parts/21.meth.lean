/-! SOUNDNESS of the small machine, 10: the methods, by depth -/
def am_rty (r : Option FieldType) (v : Option amV) : Prop := match r, v with
  | none, none => True
  | some .int, some (.inl _) => True
  | some .boolean, some (.inl x) => am_b x
  | some .byte, some (.inl x) => -128 ≤ x ∧ x < 128
  | some .char, some (.inl x) => 0 ≤ x ∧ x < 65536
  | some .long, some (.inr (.inl _)) => True
  | some (.object _), some (.inr (.inr (.inl _))) => True
  | some (.array _), some (.inr (.inr (.inl _))) => True
  | _, _ => False
def am_Fin (m : Nat) (Q : amQ) : amQu := fun v hr hd n u us => am_rty (am_mR m) v ∧ (u ≤ am_mK m ∧ us ≤ am_mS m) ∧ Q v hr hd n
def am_F0 : amP := fun _ _ _ _ _ _ _ => False
def am_F1 : Nat → amP := fun _ => am_F0
def wpM : Nat → amO
  | 0 => fun _ _ _ _ _ _ => False
  | d + 1 => fun m as Q hr hd n => (am_lay as).length ≤ am_mL m ∧ wp am_shp am_slen (wpM d) (am_mK m) (am_mS m) 0 (am_tree m) am_F0 am_F1 (am_Fin m Q) (am_pad (am_lay as) (am_mL m)) [] hr hd n 0 0
set_option maxRecDepth 100000 in
theorem am_ok_all : (am_ML.zip am_TL).all am_okM = true := by
  unfold am_ML am_TL
  rw [List.zip_append (by rfl), List.zip_append (by rfl), List.zip_append (by rfl), List.zip_append (by rfl), List.zip_append (by rfl), List.zip_append (by rfl), List.zip_append (by rfl)]
  simp only [List.all_append, am_ok0, am_ok1, am_ok2, am_ok3, am_ok4, am_ok5, am_ok6, am_ok7, Bool.and_self]
set_option maxRecDepth 100000 in
theorem am_ML_len : am_ML.length = 314 := by rfl
set_option maxRecDepth 100000 in
theorem am_TL_len : am_TL.length = 314 := by rfl
theorem am_zipat {α β : Type} (f : α × β → Bool) (t0 : β) : ∀ (L : List α) (T : List β) (N m : Nat), L.length = N → T.length = N → (L.zip T).all f = true → m < N → ∃ q, L[m]? = some q ∧ f (q, T.getD m t0) = true
  | [], _, N, m, h1, _, _, h4 => by
    have : N = 0 := h1.symm
    omega
  | _ :: _, [], N, m, h1, h2, _, h4 => by
    have : N = 0 := h2.symm
    omega
  | a :: L, b :: T, N, 0, h1, h2, h3, h4 => by
    simp only [List.zip_cons_cons, List.all_cons, Bool.and_eq_true] at h3
    exact ⟨a, rfl, h3.1⟩
  | a :: L, b :: T, N, m + 1, h1, h2, h3, h4 => by
    simp only [List.zip_cons_cons, List.all_cons, Bool.and_eq_true] at h3
    simp only [List.length_cons] at h1 h2
    obtain ⟨q, q1, q2⟩ := am_zipat f t0 L T L.length m rfl (by omega) h3.2 (by omega)
    exact ⟨q, q1, q2⟩
theorem am_okat {m : Nat} (h : m < 314) : ∃ q, am_ML[m]? = some q ∧ am_okM (q, am_tree m) = true := am_zipat am_okM (tL []) am_ML am_TL 314 m am_ML_len am_TL_len am_ok_all h
theorem am_chk_at {m : Nat} (h : m < 314) : ∃ r, am_chk (am_mO m) (am_mF m == 2) (am_mB m) (am_tree m) [] 0 (am_mB m).data.toList = some r := by
  obtain ⟨q, h1, h2⟩ := am_okat h
  obtain ⟨-, e2, -, -, e5, -, -, e8, -⟩ := am_find h1
  rw [e2, e5, e8]
  exact Option.isSome_iff_exists.mp h2
theorem am_pad_get : ∀ (l : List amV) (n j : Nat), am_get (am_pad l n) j = am_get l j
  | [], 0, j => rfl
  | _ :: _, 0, j => rfl
  | [], n + 1, 0 => rfl
  | [], n + 1, j + 1 => by
    show am_get (am_pad [] n) j = _
    rw [am_pad_get [] n j]
    rfl
  | a :: l, n + 1, 0 => rfl
  | a :: l, n + 1, j + 1 => am_pad_get l n j
theorem am_pad_len : ∀ (l : List amV) (n : Nat), l.length ≤ n → (am_pad l n).length = n
  | [], 0, _ => rfl
  | _ :: _, 0, h => by simp at h
  | [], n + 1, _ => by simp [am_pad, am_pad_len [] n (by simp)]
  | a :: l, n + 1, h => by simp [am_pad, am_pad_len l n (by simpa using h)]
theorem am_lay_sl (ρ : Nat → Nat) : ∀ (as : List amV), (∀ a ∈ as, am_can a) → (lg_sl (as.map (am_enc ρ))).length = (am_lay as).length ∧ ∀ j, am_get (am_lay as) j ≠ vU → (lg_sl (as.map (am_enc ρ)))[j]? = some (.val (am_enc ρ (am_get (am_lay as) j))) ∧ am_can (am_get (am_lay as) j)
  | [], _ => ⟨rfl, fun j h => absurd rfl h⟩
  | .inl x :: l, hc => by
    obtain ⟨h1, h2⟩ := am_lay_sl ρ l (fun a ha => hc a (List.mem_cons_of_mem _ ha))
    refine ⟨congrArg (· + 1) h1, fun j hj => ?_⟩
    match j, hj with
    | 0, _ => exact ⟨rfl, hc _ List.mem_cons_self⟩
    | j + 1, hj => exact h2 j hj
  | .inr (.inr (.inl x)) :: l, hc => by
    obtain ⟨h1, h2⟩ := am_lay_sl ρ l (fun a ha => hc a (List.mem_cons_of_mem _ ha))
    have hcat : (am_enc ρ (vR x)).category = 1 := by simp only [am_enc]; split <;> rfl
    have e : lg_sl (((.inr (.inr (.inl x)) : amV) :: l).map (am_enc ρ)) = .val (am_enc ρ (vR x)) :: lg_sl (l.map (am_enc ρ)) := by
      unfold lg_sl
      rw [List.map_cons, List.flatMap_cons, hcat]
      rfl
    rw [e]
    refine ⟨congrArg (· + 1) h1, fun j hj => ?_⟩
    match j, hj with
    | 0, _ => exact ⟨rfl, hc _ List.mem_cons_self⟩
    | j + 1, hj => exact h2 j hj
  | .inr (.inl x) :: l, hc => by
    obtain ⟨h1, h2⟩ := am_lay_sl ρ l (fun a ha => hc a (List.mem_cons_of_mem _ ha))
    refine ⟨congrArg (· + 2) h1, fun j hj => ?_⟩
    match j, hj with
    | 0, _ => exact ⟨rfl, hc _ List.mem_cons_self⟩
    | 1, hj => exact absurd rfl hj
    | j + 2, hj => exact h2 j hj
  | .inr (.inr (.inr _)) :: l, hc => (hc _ List.mem_cons_self).elim
theorem am_entry (ρ : Nat → Nat) {as : List amV} {nL : Nat} (hc : ∀ a ∈ as, am_can a) (h : (am_lay as).length ≤ nL) :
    am_Lo ρ nL ((lg_sl (as.map (am_enc ρ)) ++ List.replicate (nL - (lg_sl (as.map (am_enc ρ))).length) Slot.unset).toArray) (am_pad (am_lay as) nL) := by
  obtain ⟨h1, h2⟩ := am_lay_sl ρ as hc
  have h3 := lv_entry (as.map (am_enc ρ)) (n := nL) (by rw [h1]; exact h)
  refine ⟨h3.1, am_pad_len _ _ h, h3.2.1, fun j hj => ?_⟩
  rw [am_pad_get] at hj ⊢
  obtain ⟨a1, a2⟩ := h2 j hj
  refine ⟨?_, a2⟩
  have hlt : j < (lg_sl (as.map (am_enc ρ))).length := (List.getElem?_eq_some_iff.mp a1).1
  rw [List.getElem?_toArray, List.getElem?_append_left hlt]
  exact a1
theorem am_narrow_c {x : Int} (h : 0 ≤ x ∧ x < 65536) : narrow .char (.int (Int32.ofInt x)) = .int (Int32.ofInt x) := by
  have h32 : in32 x := ⟨by omega, by omega⟩
  show Value.int (Int32.ofInt x).toUInt32.toUInt16.toUInt32.toInt32 = _
  congr 1
  have hx : (Int32.ofInt x).toUInt32 = UInt32.ofNat x.toNat := by
    apply UInt32.toNat_inj.mp
    have e1 : (Int32.ofInt x).toUInt32.toNat = ((Int32.ofInt x).toBitVec).toNat := rfl
    have e2 : (Int32.ofInt x).toBitVec = BitVec.ofInt 32 x := rfl
    rw [e1, e2, BitVec.toNat_ofInt, UInt32.toNat_ofNat']
    omega
  have h2 : (UInt32.ofNat x.toNat).toUInt16.toUInt32 = UInt32.ofNat x.toNat := by
    apply UInt32.toNat_inj.mp
    rw [UInt16.toNat_toUInt32, UInt32.toNat_toUInt16, UInt32.toNat_ofNat']
    omega
  rw [hx, h2, ← hx]
  rfl
theorem am_narrow_b8 {x : Int} (h : -128 ≤ x ∧ x < 128) : narrow .byte (.int (Int32.ofInt x)) = .int (Int32.ofInt x) := by
  show Value.int (Int32.ofInt x).toInt8.toInt32 = _
  rw [i2b_ok]
  congr 2
  unfold w8 Int.bmod
  simp only []
  split <;> omega
theorem am_rty_int {r : Option FieldType} {x : Int} (h : am_rty r (some (vI x))) : ∃ ty, r = some ty ∧ narrow ty (.int (Int32.ofInt x)) = .int (Int32.ofInt x) := by
  match r, h with
  | some .int, _ => exact ⟨_, rfl, rfl⟩
  | some .boolean, h =>
    refine ⟨_, rfl, ?_⟩
    rcases (show x = 0 ∨ x = 1 from h) with rfl | rfl <;> rfl
  | some .byte, h => exact ⟨_, rfl, am_narrow_b8 h⟩
  | some .char, h => exact ⟨_, rfl, am_narrow_c h⟩
  | some .long, h => exact h.elim
  | some .short, h => exact h.elim
  | some .float, h => exact h.elim
  | some .double, h => exact h.elim
  | some (.object _), h => exact h.elim
  | some (.array _), h => exact h.elim
  | none, h => exact h.elim
theorem am_rty_ref {r : Option FieldType} {x : Nat} (h : am_rty r (some (vR x))) : ∃ ty, r = some ty ∧ ((∃ n, ty = .object n) ∨ ∃ t, ty = .array t) := by
  match r, h with
  | some .int, h => exact h.elim
  | some .boolean, h => exact h.elim
  | some .byte, h => exact h.elim
  | some .char, h => exact h.elim
  | some .long, h => exact h.elim
  | some .short, h => exact h.elim
  | some .float, h => exact h.elim
  | some .double, h => exact h.elim
  | some (.object n), h => exact ⟨_, rfl, Or.inl ⟨n, rfl⟩⟩
  | some (.array n), h => exact ⟨_, rfl, Or.inr ⟨n, rfl⟩⟩
  | none, h => exact h.elim
theorem am_rty_long {r : Option FieldType} {x : Int} (h : am_rty r (some (vL x))) : r = some .long := by
  match r, h with
  | some .int, h => exact h.elim
  | some .boolean, h => exact h.elim
  | some .byte, h => exact h.elim
  | some .char, h => exact h.elim
  | some .long, h => rfl
  | some .short, h => exact h.elim
  | some .float, h => exact h.elim
  | some .double, h => exact h.elim
  | some (.object n), h => exact h.elim
  | some (.array n), h => exact h.elim
  | none, h => exact h.elim
theorem am_rty_none {r : Option FieldType} (h : am_rty r none) : r = none := by
  match r, h with
  | some .int, h => exact h.elim
  | some .boolean, h => exact h.elim
  | some .byte, h => exact h.elim
  | some .char, h => exact h.elim
  | some .long, h => exact h.elim
  | some .short, h => exact h.elim
  | some .float, h => exact h.elim
  | some .double, h => exact h.elim
  | some (.object n), h => exact h.elim
  | some (.array n), h => exact h.elim
  | none, h => rfl
/-- every method, at every depth, keeps what wpM says -/
theorem wpM_or {D : va_G} {AC : Nat → ClassId} {ρ : Nat → Nat} {B0 : Nat} {H00 : Heap} {hr0 : amR} {hd0 : amD} {l : Launch} (hF : am_fix am_shp am_fk vwCl ρ B0 am_Tg) : ∀ d, am_Or D AC ρ B0 H00 hr0 hd0 l d (wpM d)
  | 0 => fun _ _ _ _ _ _ _ h => h.elim
  | d + 1 => by
    intro mm as Q hr hd n hmm hO
    obtain ⟨hlay, hwp⟩ := hO
    obtain ⟨f1, f2, f3, f4, f5, f6⟩ := am_mfacts hmm
    refine Met.ofW (cc := am_mB mm) (maxL := am_mL mm) (ret := am_mR mm) (ws' := am_Tg) f2 rfl ?_
    intro p e s m args below meth c s₁ B hml hP
    obtain ⟨rfl, hcan, hH, hG, hX⟩ := hP
    have hts0 := atoms_spec (ws := am_wsM mm) B.pre
    have hts : ∀ w ∈ am_Tg, w.before ((as.map (am_enc ρ)).toArray) s = true := fun w hw => hts0 w (List.mem_cons_of_mem _ hw)
    have hown : s.vm.findClass (am_ON (am_mO mm)) = some m.cls := f1 ▸ findClass_of_methodNamed B.named
    have hnm := (name_of_methodNamed B.named B.method).1
    obtain ⟨r, hr9⟩ := am_chk_at (m := mm) (by omega)
    have hlk : meth.locks = false := B.notSynchronized
    have hrt : meth.sig.returnType = am_mR mm := B.returns
    have hTree := ws_tree (o := am_mO mm) (d := d) (rk := 0) (ini := (am_mF mm == 2)) (O := wpM d) (Qr := am_Fin mm Q) (R := (headSpec (am_wsM mm) (am_rm (d + 1) mm)).room) (l := l) (e := e) (below := below) (meth := meth) (nL := am_mL mm)
      (Qf := MQ below (am_Qc D AC ρ B0 H00 hr0 hd0 Q) ((as.map (am_enc ρ)).toArray) s (am_mK mm) (am_mS mm) (fun q => B0 ≤ q))
      B.exec B.bytes hml hown hts hF hG hX ⟨Nat.le_refl _, Nat.le_refl _⟩ (wpM_or hF d) (fun h => hnm.trans (f6.mp (by simpa using h))) ?_ (am_tree mm) [] 0 (am_mB mm).data.toList r (by unfold fd_at; simp) hr9
    · rw [lg_entry_eq]
      exact hTree.2 am_F0 am_F1 (fun ls st hr hd n u us h => h.elim) (fun k lbl hk => by simp at hk) _ _ hr hd n 0 0 hwp _ s.heap [] (am_entry ρ hcan hlay) (fun v hv => by cases hv) hH (fun q hq => by cases hq)
    · intro pc i hdg ls st hr hd n u us hQ lsR H locs hL hC hH hl
      unfold wpRet at hQ
      split at hQ
      · rename_i x
        obtain ⟨-, q1, ⟨q2, q3⟩, q4⟩ := hQ
        obtain ⟨ty, t1, t2⟩ := am_rty_int q1
        have hx := hC (vI x) (by simp)
        refine W.widen q2 q3 (W.zret B.exec B.bytes (hrt.trans t1) t2 (fun t ht hW => ?_) hl hdg hlk)
        exact ⟨some (vI x), hr, hd, n, rfl, fun w hw => by cases hw; exact hx, by rw [ht]; exact hH, q4⟩
      · rename_i x
        obtain ⟨q1, ⟨q2, q3⟩, q4⟩ := hQ
        have hx := hC (vL x) (by simp)
        refine W.widen q2 q3 (W.lret B.exec B.bytes (hrt.trans (am_rty_long q1)) (fun t ht hW => ?_) hl hdg hlk)
        exact ⟨some (vL x), hr, hd, n, rfl, fun w hw => by cases hw; exact hx, by rw [ht]; exact hH, q4⟩
      · rename_i x
        obtain ⟨q1, ⟨q2, q3⟩, q4⟩ := hQ
        obtain ⟨ty, t1, t2⟩ := am_rty_ref q1
        have hv : am_enc ρ (vR x) = .null ∨ ∃ a, am_enc ρ (vR x) = .ref a := by
          simp only [am_enc]
          split
          · exact Or.inl rfl
          · exact Or.inr ⟨_, rfl⟩
        refine W.widen q2 q3 (W.aret B.exec B.bytes (hrt.trans t1) t2 hv (fun t ht hW => ?_) hl hdg hlk)
        exact ⟨some (vR x), hr, hd, n, rfl, fun w hw => by cases hw; exact trivial, by rw [ht]; exact hH, q4⟩
      · obtain ⟨q1, ⟨q2, q3⟩, q4⟩ := hQ
        refine W.widen q2 q3 (W.vret B.exec B.bytes (hrt.trans (am_rty_none q1)) (fun t ht hW => ?_) hl hdg hlk)
        exact ⟨none, hr, hd, n, rfl, fun w hw => (by cases hw), by rw [ht]; exact hH, q4⟩
      · exact hQ.elim
