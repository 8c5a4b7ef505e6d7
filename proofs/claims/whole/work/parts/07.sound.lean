/-! SOUNDNESS of the small machine, 6: new cells, the primitives -/
section SN
variable {shp slen : Nat → Nat} {fk : Nat → Nat → Nat} {cl : List vw_C} {D : va_G} {AC : Nat → ClassId} {ρ : Nat → Nat} {B0 : Nat} {H00 : Heap} {hr0 : amR} {hd0 : amD}
variable {p : Program} {l : Launch} {e : Env} {R : Room} {s : State} {m : MethodId} {args : Array Value} {below : List Frame} {meth : Method} {c : Code} {Qf : State → Prop} {nL : Nat} {cc : ByteArray} {pc : Nat} {Ts : List Cond} {own : String} {index : Nat}
theorem am_sok0 (kd : Nat) : am_sok kd 0 := by
  match kd with
  | 0 => exact ⟨by decide, by decide⟩
  | 1 => exact ⟨by decide, by decide⟩
  | 2 => exact trivial
  | 3 => exact Or.inl rfl
  | 4 => exact ⟨by decide, by decide⟩
  | k + 5 => exact ⟨by decide, by decide⟩
theorem am_dflt {kd : Nat} {ty : FieldType} (hk : kd = am_kdOf ty) (hk5 : kd < 5) : defaultValue ty = am_sval ρ kd 0 0 := by
  subst hk
  cases ty <;> simp only [am_kdOf] at hk5 ⊢ <;> first | omega | rfl
theorem am_nsz {hr : amR} {hd : amD} {n : Nat} {H : Heap} (hF : am_fix shp fk cl ρ B0 Ts) (hH : am_H shp slen fk cl D AC ρ B0 H00 hr0 hd0 hr hd n H) : ρ n = H.size := by
  rw [hF.2.2.2.2.2.2.1 n hH.1, hH.2.1]
theorem am_can_cons {v : amV} {t : List amV} (h : am_can v) (ht : ∀ w ∈ t, am_can w) : ∀ w ∈ v :: t, am_can w := by
  intro w hw
  rcases List.mem_cons.mp hw with rfl | hw
  · exact h
  · exact ht w hw
theorem ws_new (hx : p.tables.exec = Jvm.exec) (hb : c.code = cc) (hown : s.vm.findClass own = some m.cls) (hts : ∀ w ∈ Ts, w.before args s = true) (hF : am_fix shp fk cl ρ B0 Ts) (hG : am_GW slen cl D AC ρ B0 H00 hr0 hd0 s)
    {ci N : Nat} {C : String} {T : u_T} (hc : cl[ci]? = some (C, T, N)) (hclink : (Cond.classLink own index C).before args s = true) (hins : (Cond.instantiable C N).before args s = true) (hinit : (Cond.initialized C).before args s = true) (hdg : decode cc pc = .ok (.new index, 3)) {Q : amP}
    (h : am_WS shp slen fk cl D AC ρ B0 H00 hr0 hd0 p l e R s m args below meth c Qf nL (pc + 3) Q) : am_WS shp slen fk cl D AC ρ B0 H00 hr0 hd0 p l e R s m args below meth c Qf nL pc (am_new shp R.cells R.slots ci N Q) := by
  intro ls st hr hd n u us hQ lsR H locs hL hC hH hl
  obtain ⟨⟨q1, q2, q3⟩, hQ⟩ := hQ
  have hKn := hG.1.1 ci _ hc
  obtain ⟨hin, ty0, hty, hnm⟩ := hF.2.2.2.2.2.2.2.2 ci C T N hc
  have hsz := am_nsz hF hH
  have hn0 : n ≠ 0 := by have := hH.1; omega
  have e1 : shp n - 100 = ci := by omega
  refine W.newcK hx hb hown hclink hins hinit rfl hdg q2 q3 hKn.2.1 rfl fun H' kC hkC g1 g2 g3 => ?_
  have hw := h ls (vR n :: st) _ _ (n + 1) (u + 1) (us + N) hQ lsR H' locs hL (am_can_cons trivial hC) ?_ hl
  · rw [← hsz, ← am_refN (ρ := ρ) hn0]
    exact hw
  · refine hH.push hF.2.2.2.2.2.2.1 g2 g3 ⟨fun k => am_sok0 _, Or.inl ⟨by omega, _, by rw [e1]; exact hc, ?_⟩⟩
    rw [e1, hsz]
    refine (u_born ty0 hts hin hKn hkC g1 (fun k hk => (hty k hk).1)).to (fun k hk => ?_)
    have hkk : am_kd shp fk n k = fk ci k := by unfold am_kd; rw [if_pos (by omega), e1]
    rw [hkk]
    exact am_dflt (hty k hk).2.1 (by have := (hty k hk).2.2; omega)
theorem am_aty_prim {kd : Nat} (h : kd = 1 ∨ kd = 2 ∨ kd = 3 ∨ kd = 4) : am_kdOf (am_aty kd) = am_ak kd ∧ am_ak kd < 5 ∧ componentBytes (am_aty kd) ≤ 8 ∧ ∀ (U : State) (cA : ClassId), va_RA U cA (am_aty kd) ↔ U.vm.findClass ("[" ++ (am_aty kd).toString) = some cA := by
  rcases h with rfl | rfl | rfl | rfl <;> exact ⟨rfl, by decide, by decide, fun U cA => Iff.rfl⟩
theorem ws_newa (hx : p.tables.exec = Jvm.exec) (hb : c.code = cc) (hF : am_fix shp fk cl ρ B0 Ts) (hG : am_GW slen cl D AC ρ B0 H00 hr0 hd0 s)
    {kd : Nat} {atype : ArrayType} (hkd : kd = 1 ∨ kd = 2 ∨ kd = 3 ∨ kd = 4) (hty : newarray.typeOf atype = am_aty kd) (harr : (Cond.arrayClass (newarray.typeOf atype)).before args s = true) (hdg : decode cc pc = .ok (.newarray atype, 2)) {Q : amP}
    (h : am_WS shp slen fk cl D AC ρ B0 H00 hr0 hd0 p l e R s m args below meth c Qf nL (pc + 2) Q) : am_WS shp slen fk cl D AC ρ B0 H00 hr0 hd0 p l e R s m args below meth c Qf nL pc (am_newa shp slen R.cells R.slots kd Q) := by
  intro ls st hr hd n u us hQ lsR H locs hL hC hH hl
  match st, hQ with
  | .inl x :: t, hQ =>
    obtain ⟨⟨q1, q2, q3, q4, q5⟩, hQ⟩ := hQ
    have hxx : in32 x := hC (vI x) (by simp)
    have hsz := am_nsz hF hH
    have hn0 : n ≠ 0 := by have := hH.1; omega
    obtain ⟨p1, p2, p3, p4⟩ := am_aty_prim hkd
    refine va_newaK (N := slen n) hx hb harr rfl hdg rfl (by rw [ofInt_lt0 hxx]; omega) (by rw [clamp_ofInt hxx]; omega) (by rw [hty]; exact Nat.le_trans (Nat.mul_le_mul_left _ p3) (by omega)) q4 q5 rfl fun H' cA g1 g2 g3 g4 g5 => ?_
    have hcA : cA = AC kd := by
      have := (p4 s (AC kd)).mp (hG.2.1 kd (by omega)).2
      rw [hty] at g5
      exact Option.some.inj (g5.symm.trans this)
    subst hcA
    have hw := h ls (vR n :: t) _ _ (n + 1) (u + 1) (us + slen n) hQ lsR H' locs hL (am_can_cons trivial (fun v hv => hC v (by simp [hv]))) ?_ hl
    · rw [← hsz, ← am_refN (ρ := ρ) hn0]
      exact hw
    · refine hH.push hF.2.2.2.2.2.2.1 g2 g3 ⟨fun k => am_sok0 _, Or.inr ⟨by omega, ?_⟩⟩
      rw [hsz, g1, q1, hty]
      congr 2
      funext k
      rw [am_kdA k (by omega), q1]
      exact am_dflt p1.symm p2
theorem ws_newq (hx : p.tables.exec = Jvm.exec) (hb : c.code = cc) (hown : s.vm.findClass own = some m.cls) (hF : am_fix shp fk cl ρ B0 Ts) (hG : am_GW slen cl D AC ρ B0 H00 hr0 hd0 s)
    {kd : Nat} {C : String} (hkd : kd = 7 ∨ kd = 8) (hty : am_aty kd = .object C) (hclink : (Cond.classLink own index C).before args s = true) (hover : (Cond.arrayOver (.object C)).before args s = true) (hdg : decode cc pc = .ok (.anewarray index, 3)) {Q : amP}
    (h : am_WS shp slen fk cl D AC ρ B0 H00 hr0 hd0 p l e R s m args below meth c Qf nL (pc + 3) Q) : am_WS shp slen fk cl D AC ρ B0 H00 hr0 hd0 p l e R s m args below meth c Qf nL pc (am_newa shp slen R.cells R.slots kd Q) := by
  intro ls st hr hd n u us hQ lsR H locs hL hC hH hl
  match st, hQ with
  | .inl x :: t, hQ =>
    obtain ⟨⟨q1, q2, q3, q4, q5⟩, hQ⟩ := hQ
    have hxx : in32 x := hC (vI x) (by simp)
    have hsz := am_nsz hF hH
    have hn0 : n ≠ 0 := by have := hH.1; omega
    have hcl : (Int32.ofInt x).toNatClampNeg = slen n := by rw [clamp_ofInt hxx]; omega
    refine W.anew hx hb hown hclink hover rfl hdg rfl (by rw [ofInt_lt0 hxx]; omega) (by rw [hcl]; omega) q4 (by rw [hcl]; exact q5) fun cA kA comp f1 f2 f3 f4 => ?_
    rw [hcl]
    generalize hH1 : H.push ({ cls := cA, slots := Array.replicate (slen n) .null, vm := .none } : Cell) = H1
    have z1 : H1.size = H.size + 1 := by rw [← hH1, Array.size_push]
    have e1 : H1[H.size]? = some (arrV cA (slen n) (fun _ => .null)) := by rw [← hH1, Array.getElem?_push_size, ← arrV_new]
    have o1 : ∀ q : Nat, q < H.size → H1[q]? = H[q]? := fun q hq => by rw [← hH1, Array.getElem?_push, if_neg (Nat.ne_of_lt hq)]
    have hcA : cA = AC kd := by
      have := (hG.2.1 kd (by omega)).2
      rw [hty] at this
      obtain ⟨_, _, _, _, _, k4⟩ := this
      exact Option.some.inj (f1.symm.trans k4)
    subst hcA
    have hw := h ls (vR n :: t) _ _ (n + 1) (u + 1) (us + slen n) hQ lsR H1 locs hL (am_can_cons trivial (fun v hv => hC v (by simp [hv]))) ?_ hl
    · show W p l e R s m args below meth c H1 locs (u + 1) (us + slen n) Qf (F0 m (pc + 3) lsR (.ref H.size :: t.map (am_enc ρ)))
      rw [← hsz, ← am_refN (ρ := ρ) hn0]
      exact hw
    · refine hH.push hF.2.2.2.2.2.2.1 z1 o1 ⟨fun k => am_sok0 _, Or.inr ⟨by omega, ?_⟩⟩
      rw [hsz, e1, q1]
      congr 2
      funext k
      rw [am_kdA k (by omega), q1]
      rcases hkd with rfl | rfl <;> rfl
theorem ws_newm (hx : p.tables.exec = Jvm.exec) (hb : c.code = cc) (hown : s.vm.findClass own = some m.cls) (hF : am_fix shp fk cl ρ B0 Ts) (hG : am_GW slen cl D AC ρ B0 H00 hr0 hd0 s)
    (hclink : (Cond.classLink own index ("[" ++ (FieldType.array .int).toString)).before args s = true) (hover : (Cond.arrayOver (.array .int)).before args s = true) (harr : (Cond.arrayClass .int).before args s = true) (hdg : decode cc pc = .ok (.multianewarray index 2, 4)) {Q : amP}
    (h : am_WS shp slen fk cl D AC ρ B0 H00 hr0 hd0 p l e R s m args below meth c Qf nL (pc + 4) Q) : am_WS shp slen fk cl D AC ρ B0 H00 hr0 hd0 p l e R s m args below meth c Qf nL pc (am_newm shp slen R.cells R.slots Q) := by
  intro ls st hr hd n u us hQ lsR H locs hL hC hH hl
  match st, hQ with
  | .inl y :: .inl x :: t, hQ =>
    obtain ⟨⟨q1, q2, q3, q4, q5, q6, q7, q8⟩, hQ⟩ := hQ
    have hxx : in32 x := hC (vI x) (by simp)
    have hyy : in32 y := hC (vI y) (by simp)
    have hsz := am_nsz hF hH
    have hn17 := hH.1
    have hn0 : n ≠ 0 := by omega
    have hcx : (Int32.ofInt x).toNatClampNeg = slen n := by rw [clamp_ofInt hxx]; omega
    have hcy : (Int32.ofInt y).toNatClampNeg = slen (n + 1) := by rw [clamp_ofInt hyy]; omega
    intro T hT Xs
    obtain ⟨vm₁, cA, comp, -, fA, fC, hO, -, X', step⟩ := Jvm.Stand.multianewarray2F Xs hx hown hclink hover harr (g := F0 m pc lsR (.int (Int32.ofInt y) :: .int (Int32.ofInt x) :: t.map (am_enc ρ))) rfl (by rw [hb]; exact hdg) rfl (by rw [ofInt_lt0 hxx]; omega) (by rw [ofInt_lt0 hyy]; omega) (by rw [hcx]; omega) (by rw [hcy]; show _ * 4 ≤ _; omega) (by rw [hcy]; omega) rfl rfl (by rw [hcx]; omega) (by rw [hcx, hcy]; omega)
    rw [hcx, hcy] at X' step
    have h9 := (hG.2.1 9 (by omega)).2
    have h1 := (hG.2.1 1 (by omega)).2
    have e9 : cA = AC 9 := Option.some.inj (fA.symm.trans (show s.vm.findClass ("[" ++ (FieldType.array .int).toString) = some (AC 9) from h9))
    have e1 : comp = AC 1 := Option.some.inj (fC.symm.trans (show s.vm.findClass (FieldType.array .int).toString = some (AC 1) from h1))
    subst e9
    subst e1
    generalize hFl : Jvm.Free.Multi.fill (T.setVm vm₁) (AC 9) (AC 1) (slen n) (slen (n + 1)) (defaultValue .int) (slen n) = F at X' step
    have hTh : (T.setVm vm₁).heap = H := hT
    obtain ⟨f1, f2, -, -⟩ := Jvm.Free.Multi.fill_facts (T.setVm vm₁) (AC 9) (AC 1) (slen n) (slen (n + 1)) (defaultValue .int) (slen n)
    rw [hFl, hTh] at f1 f2
    have hold : ∀ x : Nat, x < H.size → F.heap[x]? = H[x]? := fun x hx => by
      have := Jvm.Free.Multi.fill_old (T.setVm vm₁) (AC 9) (AC 1) (slen n) (slen (n + 1)) (defaultValue .int) (a := x) (by rw [hTh]; exact hx) (slen n)
      rw [hFl, hTh] at this
      exact this
    have hrow : ∀ j : Nat, j < slen n → F.heap[H.size + 1 + j]? = some (Jvm.Free.Multi.innerC (AC 1) (slen (n + 1)) (defaultValue .int)) := fun j hj => by
      have := Jvm.Free.Multi.fill_inner (T.setVm vm₁) (AC 9) (AC 1) (slen n) (slen (n + 1)) (defaultValue .int) (slen n) j hj
      rw [hFl, hTh] at this
      exact this
    have hinn : Jvm.Free.Multi.innerC (AC 1) (slen (n + 1)) (defaultValue .int) = arrV (AC 1) (slen (n + 1)) (fun _ => .int 0) := by
      rw [← arrV_new]
      rfl
    have hout : Jvm.Free.Multi.outerC (AC 9) (slen n) H.size (slen n) = arrV (AC 9) (slen n) (fun j => am_sval ρ 2 (if j < slen n then n + 1 + j else 0) 0) := by
      have key : ∀ i : Nat, Jvm.Free.Multi.outerC (AC 9) (slen n) H.size i = arrV (AC 9) (slen n) (fun j => if j < i then .ref (H.size + 1 + j) else .null) := by
        intro i
        induction i with
        | zero =>
          show ({ cls := AC 9, slots := Array.replicate (slen n) .null, vm := .none } : Cell) = _
          rw [arrV_new]
          refine congrArg (arrV (AC 9) (slen n)) (funext fun j => ?_)
          simp
        | succ i ih =>
          show (Jvm.Free.Multi.outerC (AC 9) (slen n) H.size i).setSlot i (.ref (H.size + 1 + i)) = _
          rw [ih, arrV_store]
          refine congrArg (arrV (AC 9) (slen n)) (funext fun j => ?_)
          by_cases e : j = i
          · subst e
            simp [updV]
          · by_cases h : j < i
            · simp [updV, e, h, Nat.lt_succ_of_lt h]
            · simp [updV, e, h, show ¬ j < i + 1 by omega]
      rw [key]
      refine congrArg (arrV (AC 9) (slen n)) (funext fun j => ?_)
      by_cases h : j < slen n
      · simp only [if_pos h, am_sval, if_neg (show n + 1 + j ≠ 0 by omega)]
        have e4 : H.size + 1 + j = ρ (n + 1 + j) := by
          rw [hF.2.2.2.2.2.2.1 (n + 1 + j) (by omega)]
          have := hH.2.1
          omega
        rw [e4]
      · simp [h, am_sval]
    rw [hout] at f2
    have hw := h ls (vR n :: t) _ _ (n + 1 + slen n) (u + 1 + slen n) (us + slen n + slen n * slen (n + 1)) hQ lsR F.heap locs hL (am_can_cons trivial (fun v hv => hC v (by simp [hv]))) ?_ hl
    · obtain ⟨t', a1, b1⟩ := hw F rfl X'
      refine ⟨t', step t' ?_, b1⟩
      have e : T.heap.size = H.size := by rw [hT]
      rw [e, ← hsz, ← am_refN (ρ := ρ) hn0]
      exact a1
    · obtain ⟨a1, a2, a3, a4, a5⟩ := hH
      refine ⟨by omega, by rw [f1, a2]; omega, fun q hq => ?_, fun j j1 j2 => ?_, fun j hj => ?_⟩
      · rw [hold q (by omega)]; exact a3 q hq
      · by_cases hjn : j < n
        · rw [am_row_ne _ _ (by omega)]
          have c1 : am_clr hr n (slen n) 0 j = hr j := if_neg (by omega)
          have c2 : am_clr hd n (slen n) 0 j = hd j := if_neg (by omega)
          rw [c1, c2]
          refine (a4 j j1 hjn).kept (hold _ ?_)
          rw [hF.2.2.2.2.2.2.1 j j1]
          omega
        · have c2 : am_clr hd n (slen n) 0 j = fun _ => 0 := if_pos (by omega)
          rw [c2]
          by_cases hje : j = n
          · subst hje
            rw [am_row_self]
            refine ⟨fun k => am_sok0 _, Or.inr ⟨by omega, ?_⟩⟩
            rw [hsz, f2, q1]
            congr 2
            funext k
            rw [am_kdA k (by omega), q1]
            rfl
          · rw [am_row_ne _ _ hje]
            have c1 : am_clr hr n (slen n) 0 j = fun _ => 0 := if_pos (by omega)
            rw [c1]
            obtain ⟨z, rfl⟩ : ∃ z, j = n + 1 + z := ⟨j - (n + 1), by omega⟩
            obtain ⟨w1, w2⟩ := q6 z (by omega)
            refine ⟨fun k => am_sok0 _, Or.inr ⟨by omega, ?_⟩⟩
            rw [hF.2.2.2.2.2.2.1 (n + 1 + z) (by omega)]
            have e3 : B0 + (n + 1 + z - 17) = H.size + 1 + z := by omega
            rw [e3, hrow z (by omega), hinn, w1, w2]
            congr 2
            funext k
            rw [am_kdA k (by omega), w1]
            rfl
      · rw [am_row_ne _ _ (by omega)]
        have c1 : am_clr hr n (slen n) 0 j = hr j := if_neg (by omega)
        have c2 : am_clr hd n (slen n) 0 j = hd j := if_neg (by omega)
        rw [c1, c2]
        exact a5 j hj
end SN
