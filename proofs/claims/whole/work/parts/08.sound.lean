/-! SOUNDNESS of the small machine, 7: the primitives -/
section SP
variable {shp slen : Nat → Nat} {fk : Nat → Nat → Nat} {cl : List vw_C} {D : va_G} {AC : Nat → ClassId} {ρ : Nat → Nat} {B0 : Nat} {H00 : Heap} {hr0 : amR} {hd0 : amD}
variable {p : Program} {l : Launch} {e : Env} {R : Room} {s : State} {m : MethodId} {args : Array Value} {below : List Frame} {meth : Method} {c : Code} {Qf : State → Prop} {nL : Nat} {cc : ByteArray} {pc : Nat} {Ts : List Cond} {own : String} {index : Nat}
theorem am_cats_enc : ∀ (t : List amV), (∀ v ∈ t, am_can v) → ((t.map (am_enc ρ)).map fun v => v.category).sum = am_cats t
  | [], _ => rfl
  | a :: t, h => by
    rw [List.map_cons, List.map_cons, List.sum_cons, am_cats_enc t (fun v hv => h v (by simp [hv])), am_enc_cat (h a (by simp))]
    rfl
theorem ws_acopy (hx : p.tables.exec = Jvm.exec) (hb : c.code = cc) (hml : c.maxLocals = nL) (hown : s.vm.findClass own = some m.cls) (hF : am_fix shp fk cl ρ B0 Ts) (hG : am_GW slen cl D AC ρ B0 H00 hr0 hd0 s) (hRf : 1 ≤ R.frames) (hRl : 64 ≤ R.locals)
    (hlink : (Cond.methodLink own index arraycopyName).before args s = true) (hnat : (Cond.native arraycopyName).before args s = true) (hstat : (Cond.static arraycopyName).before args s = true) (hini : (Cond.initialized "java/lang/System").before args s = true) (hdg : decode cc pc = .ok (.invokestatic index, 3)) {Q : amP}
    (h : am_WS shp slen fk cl D AC ρ B0 H00 hr0 hd0 p l e R s m args below meth c Qf nL (pc + 3) Q) : am_WS shp slen fk cl D AC ρ B0 H00 hr0 hd0 p l e R s m args below meth c Qf nL pc (am_acopy shp slen Q) := by
  intro ls st hr hd n u us hQ lsR H locs hL hC hH hl
  match st, hQ with
  | .inl k :: .inl dp :: .inr (.inr (.inl b)) :: .inl sp :: .inr (.inr (.inl a)) :: t, hQ =>
    obtain ⟨⟨q1, q2, q3, q4, q5⟩, ⟨q6, q7, q8, q9, q10⟩, hQ⟩ := hQ
    have hk : in32 k := hC (vI k) (by simp)
    have hdp : in32 dp := hC (vI dp) (by simp)
    have hsp : in32 sp := hC (vI sp) (by simp)
    have hCt : ∀ v ∈ t, am_can v := fun v hv => hC v (by simp [hv])
    have ha : 17 ≤ a := am_ge17 hF q3 (by omega)
    have hbb : 17 ≤ b := am_ge17 hF q4 (by omega)
    have hρb := hF.2.2.2.2.2.2.1 b hbb
    obtain ⟨c1, c2⟩ := am_arr (kd := 0) hF hH q1 ha (by omega) (fun k => (am_kdA k (by omega)).trans (congrArg am_ak q3))
    obtain ⟨d1, d2⟩ := am_arr (kd := 0) hF hH q2 hbb (by omega) (fun k => (am_kdA k (by omega)).trans (congrArg am_ak q4))
    have hAr := (hG.2.1 1 (by omega)).1
    rw [q3] at c1
    rw [q4] at d1
    have tk : ∀ {x : Int}, in32 x → (Int32.ofInt x).toInt = x := fun h => by rw [ti32, w32_id h]
    show W p l e R s m args below meth c H locs u us Qf (F0 m pc lsR (.int (Int32.ofInt k) :: .int (Int32.ofInt dp) :: am_enc ρ (vR b) :: .int (Int32.ofInt sp) :: am_enc ρ (vR a) :: t.map (am_enc ρ)))
    rw [am_refN (i := b) (by omega), am_refN (i := a) (by omega)]
    intro T hT X
    obtain ⟨-, k0, hk0, cm0, hkk0⟩ := hAr (slen a) (fun z => am_sval ρ 0 (hr a z) (hd a z))
    obtain ⟨-, k1, hk1, cm1, hkk1⟩ := hAr (slen b) (fun z => am_sval ρ 0 (hr b z) (hd b z))
    have hnf : nativeFrameWords "java/lang/System" "arraycopy" 5 + 11 + 8 ≤ 64 := by decide
    obtain ⟨vm', X', step⟩ := X.arraycopy hx hown hlink hnat hstat hini (src := ρ a) (dst := ρ b) (cs := arrV (AC 1) (slen a) (fun z => am_sval ρ 0 (hr a z) (hd a z))) (cd := arrV (AC 1) (slen b) (fun z => am_sval ρ 0 (hr b z) (hd b z))) (srcPos := Int32.ofInt sp) (destPos := Int32.ofInt dp) (n := Int32.ofInt k) (by rw [hT]; exact c1) (by rw [hT]; exact d1)
      (fun _ h => by cases h) (fun _ h => by cases h) (fun h => by cases h) (fun h => by cases h) hk0 hk1 hkk0 hkk1 (by simp [am_aty, refKind]) (by rw [ofInt_lt0 hsp]; omega) (by rw [ofInt_lt0 hdp]; omega) (by rw [ofInt_lt0 hk]; omega)
      (by rw [tk hsp, tk hk, arrV_size]; omega)
      (by rw [tk hdp, tk hk, arrV_size]; omega)
      (fun vm₁ _ i hi => by
        rw [clamp_ofInt hk] at hi
        have e : (arrV (AC 1) (slen a) (fun z => am_sval ρ 0 (hr a z) (hd a z))).slots.getD ((Int32.ofInt sp).toNatClampNeg + i) .null = .int (Int32.ofInt (hd a (sp.toNat + i))) := by
          rw [clamp_ofInt hsp, Array.getD_eq_getD_getElem?, arrV_read _ _ (by omega)]
          rfl
        refine ⟨?_, ?_⟩
        · rw [e]; rfl
        · rw [e]; exact trivial)
      (g := F0 m pc lsR (.int (Int32.ofInt k) :: .int (Int32.ofInt dp) :: .ref (ρ b) :: .int (Int32.ofInt sp) :: .ref (ρ a) :: t.map (am_enc ρ))) rfl (by rw [hml]; exact hL.1) (rest := t.map (am_enc ρ)) rfl (by rw [hb]; exact hdg) hRf (by show 2 * 0 + _ + _ ≤ _; rw [am_cats_enc t hCt]; omega)
    have e1 : copied (arrV (AC 1) (slen a) (fun z => am_sval ρ 0 (hr a z) (hd a z))) (arrV (AC 1) (slen b) (fun z => am_sval ρ 0 (hr b z) (hd b z))) (Int32.ofInt sp) (Int32.ofInt dp) (Int32.ofInt k) = arrV (AC 1) (slen b) (fun z => am_sval ρ 0 (hr b z) (am_cpy (hd a) (hd b) sp.toNat dp.toNat k.toNat z)) := by
      have := va_copied (fun z : Int => Value.int (Int32.ofInt z)) (AC 1) (AC 1) (n0 := slen a) (n1 := slen b) (sp := (Int32.ofInt sp).toNatClampNeg) (dp := (Int32.ofInt dp).toNatClampNeg) (n := (Int32.ofInt k).toNatClampNeg) (hd a) (hd b) (by rw [clamp_ofInt hsp, clamp_ofInt hk]; omega)
      rw [clamp_ofInt hsp, clamp_ofInt hdp, clamp_ofInt hk] at this
      exact (show copied _ _ _ _ _ = _ by unfold copied; rw [clamp_ofInt hsp, clamp_ofInt hdp, clamp_ofInt hk]; exact this)
    rw [e1] at X' step
    have hlt : ρ b < H.size := (Array.getElem?_eq_some_iff.mp d1).1
    generalize hcellE : arrV (AC 1) (slen b) (fun z => am_sval ρ 0 (hr b z) (am_cpy (hd a) (hd b) sp.toNat dp.toNat k.toNat z)) = cellE at X' step
    have hheap : ((T.setVm vm').setCell (ρ b) cellE).heap = H.setIfInBounds (ρ b) cellE := by rw [← hT]; rfl
    have oq : ∀ q : Nat, q ≠ ρ b → (H.setIfInBounds (ρ b) cellE)[q]? = H[q]? := fun q hq => by simp [Array.getElem?_setIfInBounds, Ne.symm hq]
    have hH' := hH.put (f' := hr b) (g' := am_cpy (hd a) (hd b) sp.toNat dp.toNat k.toNat) (H' := H.setIfInBounds (ρ b) cellE) hF.2.2.2.2.2.2.1 hbb q2 (by simp) oq ⟨fun z => by
        rw [am_kdA z (by omega), q4]
        show in32 _
        unfold am_cpy
        split
        · exact c2 _
        · exact d2 _, Or.inr ⟨by omega, by
        rw [q4]
        have : ∀ z, am_kd shp fk b z = 0 := fun z => by rw [am_kdA z (by omega), q4]; rfl
        simp only [this]
        rw [hcellE]
        simp [Array.getElem?_setIfInBounds, hlt]⟩⟩
    rw [am_row_rf] at hH'
    obtain ⟨t', a1, b1⟩ := h ls t hr _ n u us hQ lsR _ _ hL hCt hH' (fun q hq => by
      rcases List.mem_append.mp hq with h | h
      · exact hl q h
      · obtain ⟨z, -, hz⟩ := List.mem_map.mp h
        rw [← hz]
        show B0 ≤ ρ b
        omega) _ hheap X'
    exact ⟨t', step t' a1, b1⟩
theorem ws_mabs (hx : p.tables.exec = Jvm.exec) (hb : c.code = cc) (hml : c.maxLocals = nL) (hown : s.vm.findClass own = some m.cls) (hRf : 1 ≤ R.frames) (hRl : 64 ≤ R.locals)
    (hlink : (Cond.methodLink own index Lib.Math.abs.name).before args s = true) (hstat : (Cond.static Lib.Math.abs.name).before args s = true) (hini : (Cond.initialized "java/lang/Math").before args s = true) (hcode : (Cond.code Lib.Math.abs.name Lib.Math.abs.code 1 (some .int)).before args s = true) (hdg : decode cc pc = .ok (.invokestatic index, 3)) {Q : amP}
    (h : am_WS shp slen fk cl D AC ρ B0 H00 hr0 hd0 p l e R s m args below meth c Qf nL (pc + 3) Q) : am_WS shp slen fk cl D AC ρ B0 H00 hr0 hd0 p l e R s m args below meth c Qf nL pc (am_prim shp slen R.cells R.slots 1 Q) := by
  intro ls st hr hd n u us hQ lsR H locs hL hC hH hl
  match st, hQ with
  | .inl x :: t, hQ =>
    obtain ⟨⟨q1, q2, q3⟩, hQ⟩ := hQ
    have hxx : in32 x := hC (vI x) (by simp)
    have hCt : ∀ v ∈ t, am_can v := fun v hv => hC v (by simp [hv])
    refine va_mabs hx hb (by rw [hml]; exact hL.1.symm) hown hlink hstat hini hcode hRf (by rw [am_cats_enc t hCt]; omega) q2 q3 hdg ?_
    have e : (if 0 ≤ Int32.ofInt x then Int32.ofInt x else 0 - Int32.ofInt x) = Int32.ofInt (if 0 ≤ x then x else w32 (0 - x)) := by
      by_cases h0 : 0 ≤ x
      · rw [if_pos ((ofInt_ge0 hxx).mpr h0), if_pos h0]
      · rw [if_neg (fun z => h0 ((ofInt_ge0 hxx).mp z)), if_neg h0, w32_sub]
        rfl
    rw [e]
    refine h ls (vI _ :: t) hr hd n u us hQ lsR H locs hL (am_can_cons ?_ hCt) hH hl
    show in32 _
    split
    · exact hxx
    · exact w32_in _
theorem ws_mmax (hx : p.tables.exec = Jvm.exec) (hb : c.code = cc) (hml : c.maxLocals = nL) (hown : s.vm.findClass own = some m.cls) (hRf : 1 ≤ R.frames) (hRl : 64 ≤ R.locals)
    (hlink : (Cond.methodLink own index Lib.Math.max.name).before args s = true) (hstat : (Cond.static Lib.Math.max.name).before args s = true) (hini : (Cond.initialized "java/lang/Math").before args s = true) (hcode : (Cond.code Lib.Math.max.name Lib.Math.max.code 2 (some .int)).before args s = true) (hdg : decode cc pc = .ok (.invokestatic index, 3)) {Q : amP}
    (h : am_WS shp slen fk cl D AC ρ B0 H00 hr0 hd0 p l e R s m args below meth c Qf nL (pc + 3) Q) : am_WS shp slen fk cl D AC ρ B0 H00 hr0 hd0 p l e R s m args below meth c Qf nL pc (am_prim shp slen R.cells R.slots 2 Q) := by
  intro ls st hr hd n u us hQ lsR H locs hL hC hH hl
  match st, hQ with
  | .inl y :: .inl x :: t, hQ =>
    obtain ⟨⟨q1, q2, q3⟩, hQ⟩ := hQ
    have hxx : in32 x := hC (vI x) (by simp)
    have hyy : in32 y := hC (vI y) (by simp)
    have hCt : ∀ v ∈ t, am_can v := fun v hv => hC v (by simp [hv])
    refine va_mmax hx hb (by rw [hml]; exact hL.1.symm) hown hlink hstat hini hcode hRf (by rw [am_cats_enc t hCt]; omega) q2 q3 hdg ?_
    have e : (if Int32.ofInt x < Int32.ofInt y then Int32.ofInt y else Int32.ofInt x) = Int32.ofInt (if x < y then y else x) := by
      by_cases h0 : x < y
      · rw [if_pos ((ofInt_lt hxx hyy).mpr h0), if_pos h0]
      · rw [if_neg (fun z => h0 ((ofInt_lt hxx hyy).mp z)), if_neg h0]
    rw [e]
    refine h ls (vI _ :: t) hr hd n u us hQ lsR H locs hL (am_can_cons ?_ hCt) hH hl
    show in32 _
    split
    · exact hyy
    · exact hxx
theorem ws_mmin (hx : p.tables.exec = Jvm.exec) (hb : c.code = cc) (hml : c.maxLocals = nL) (hown : s.vm.findClass own = some m.cls) (hRf : 1 ≤ R.frames) (hRl : 64 ≤ R.locals)
    (hlink : (Cond.methodLink own index Lib.Math.min.name).before args s = true) (hstat : (Cond.static Lib.Math.min.name).before args s = true) (hini : (Cond.initialized "java/lang/Math").before args s = true) (hcode : (Cond.code Lib.Math.min.name Lib.Math.min.code 2 (some .int)).before args s = true) (hdg : decode cc pc = .ok (.invokestatic index, 3)) {Q : amP}
    (h : am_WS shp slen fk cl D AC ρ B0 H00 hr0 hd0 p l e R s m args below meth c Qf nL (pc + 3) Q) : am_WS shp slen fk cl D AC ρ B0 H00 hr0 hd0 p l e R s m args below meth c Qf nL pc (am_prim shp slen R.cells R.slots 3 Q) := by
  intro ls st hr hd n u us hQ lsR H locs hL hC hH hl
  match st, hQ with
  | .inl y :: .inl x :: t, hQ =>
    obtain ⟨⟨q1, q2, q3⟩, hQ⟩ := hQ
    have hxx : in32 x := hC (vI x) (by simp)
    have hyy : in32 y := hC (vI y) (by simp)
    have hCt : ∀ v ∈ t, am_can v := fun v hv => hC v (by simp [hv])
    refine va_mmin hx hb (by rw [hml]; exact hL.1.symm) hown hlink hstat hini hcode hRf (by rw [am_cats_enc t hCt]; omega) q2 q3 hdg ?_
    have e : (if Int32.ofInt y < Int32.ofInt x then Int32.ofInt y else Int32.ofInt x) = Int32.ofInt (if y < x then y else x) := by
      by_cases h0 : y < x
      · rw [if_pos ((ofInt_lt hyy hxx).mpr h0), if_pos h0]
      · rw [if_neg (fun z => h0 ((ofInt_lt hyy hxx).mp z)), if_neg h0]
    rw [e]
    refine h ls (vI _ :: t) hr hd n u us hQ lsR H locs hL (am_can_cons ?_ hCt) hH hl
    show in32 _
    split
    · exact hyy
    · exact hxx
theorem ws_mminL (hx : p.tables.exec = Jvm.exec) (hb : c.code = cc) (hml : c.maxLocals = nL) (hown : s.vm.findClass own = some m.cls) (hRf : 1 ≤ R.frames) (hRl : 64 ≤ R.locals)
    (hlink : (Cond.methodLink own index Lib.MathLoose.min_long.x).before args s = true) (hstat : (Cond.static Lib.MathLoose.min_long.x).before args s = true) (hini : (Cond.initialized "java/lang/Math").before args s = true) (hcode : (Cond.code Lib.MathLoose.min_long.x Lib.MathLoose.min_long.code 4 (some .long)).before args s = true) (hdg : decode cc pc = .ok (.invokestatic index, 3)) {Q : amP}
    (h : am_WS shp slen fk cl D AC ρ B0 H00 hr0 hd0 p l e R s m args below meth c Qf nL (pc + 3) Q) : am_WS shp slen fk cl D AC ρ B0 H00 hr0 hd0 p l e R s m args below meth c Qf nL pc (am_prim shp slen R.cells R.slots 4 Q) := by
  intro ls st hr hd n u us hQ lsR H locs hL hC hH hl
  match st, hQ with
  | .inr (.inl y) :: .inr (.inl x) :: t, hQ =>
    obtain ⟨⟨q1, q2, q3⟩, hQ⟩ := hQ
    have hxx : in64 x := hC (vL x) (by simp)
    have hyy : in64 y := hC (vL y) (by simp)
    have hCt : ∀ v ∈ t, am_can v := fun v hv => hC v (by simp [hv])
    refine va_mmin_long hx hb (by rw [hml]; exact hL.1.symm) hown hlink hstat hini hcode hRf (by rw [am_cats_enc t hCt]; omega) q2 q3 hdg ?_
    have e : (if Int64.ofInt y < Int64.ofInt x then Int64.ofInt y else Int64.ofInt x) = Int64.ofInt (if y < x then y else x) := by
      by_cases h0 : y < x
      · rw [if_pos ((ofInt64_lt hyy hxx).mpr h0), if_pos h0]
      · rw [if_neg (fun z => h0 ((ofInt64_lt hyy hxx).mp z)), if_neg h0]
    rw [e]
    refine h ls (vL _ :: t) hr hd n u us hQ lsR H locs hL (am_can_cons ?_ hCt) hH hl
    show in64 _
    split
    · exact hyy
    · exact hxx
end SP
