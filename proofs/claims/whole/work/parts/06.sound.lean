/-! SOUNDNESS of the small machine, 5: stores into arrays, new cells, the primitives -/
section SM
variable {shp slen : Nat → Nat} {fk : Nat → Nat → Nat} {cl : List vw_C} {D : va_G} {AC : Nat → ClassId} {ρ : Nat → Nat} {B0 : Nat} {H00 : Heap} {hr0 : amR} {hd0 : amD}
variable {p : Program} {l : Launch} {e : Env} {R : Room} {s : State} {m : MethodId} {args : Array Value} {below : List Frame} {meth : Method} {c : Code} {Qf : State → Prop} {nL : Nat} {cc : ByteArray} {pc : Nat} {Ts : List Cond} {own : String} {index : Nat}
/-- behind a store into an array -/
theorem am_H.arr (hF : am_fix shp fk cl ρ B0 Ts) {hr : amR} {hd : amD} {n i j kd r : Nat} {x : Int} {H H' : Heap} (hH : am_H shp slen fk cl D AC ρ B0 H00 hr0 hd0 hr hd n H) (q1 : i < n) (hi : 17 ≤ i) (h : shp i < 100) (hk : am_ak (shp i) = kd) (hj : j < slen i) (hok : am_sok kd x)
    (e : H'[ρ i]? = some ((arrV (AC (shp i)) (slen i) (fun k => am_sval ρ kd (hr i k) (hd i k))).setSlot j (am_sval ρ kd r x))) (hz : H'.size = H.size) (ho : ∀ q, q ≠ ρ i → H'[q]? = H[q]?) :
    am_H shp slen fk cl D AC ρ B0 H00 hr0 hd0 (am_row hr i (fun b => if b = j then r else hr i b)) (am_row hd i (fun b => if b = j then x else hd i b)) n H' := by
  have hkk : ∀ k, am_kd shp fk i k = kd := fun k => (am_kdA k h).trans hk
  obtain ⟨-, c2⟩ := am_arr hF hH q1 hi h hkk
  refine hH.put hF.2.2.2.2.2.2.1 hi q1 hz ho ⟨fun z => ?_, Or.inr ⟨h, ?_⟩⟩
  · rw [hkk]
    by_cases hz : z = j
    · simp only [if_pos hz]; exact hok
    · simp only [if_neg hz]; exact c2 z
  · rw [e, arrV_store]
    congr 2
    funext z
    simp only [hkk]
    unfold updV
    by_cases hz : z = j
    · simp [hz]
    · simp [hz]
theorem am_locs {locs : List Loc} {a i : Nat} (hl : ∀ q ∈ locs, B0 ≤ q.base) (ha : B0 ≤ a) : ∀ q ∈ locs ++ [(⟨a, i⟩ : Loc)], B0 ≤ q.base := by
  intro q hq
  rcases List.mem_append.mp hq with hq | hq
  · exact hl q hq
  · rw [List.mem_singleton.mp hq]
    exact ha
theorem ws_iast (hx : p.tables.exec = Jvm.exec) (hb : c.code = cc) (hF : am_fix shp fk cl ρ B0 Ts) (hG : am_GW slen cl D AC ρ B0 H00 hr0 hd0 s) (hdg : decode cc pc = .ok (.iastore, 1)) {Q : amP}
    (h : am_WS shp slen fk cl D AC ρ B0 H00 hr0 hd0 p l e R s m args below meth c Qf nL (pc + 1) Q) : am_WS shp slen fk cl D AC ρ B0 H00 hr0 hd0 p l e R s m args below meth c Qf nL pc (am_iast shp slen Q) := by
  intro ls st hr hd n u us hQ lsR H locs hL hC hH hl
  match st, hQ with
  | .inl x :: .inl j :: .inr (.inr (.inl i)) :: t, hQ =>
    obtain ⟨⟨q1, q2⟩, ⟨q3, q4⟩, hQ⟩ := hQ
    have hxx : in32 x := hC (vI x) (by simp)
    have hj : in32 j := hC (vI j) (by simp)
    have hi : 17 ≤ i := am_ge17 hF q2 (by omega)
    have hρi := hF.2.2.2.2.2.2.1 i hi
    obtain ⟨c1, c2⟩ := am_arr (kd := 0) hF hH q1 hi (by omega) (fun k => (am_kdA k (by omega)).trans (congrArg am_ak q2))
    show W p l e R s m args below meth c H locs u us Qf (F0 m pc lsR (.int (Int32.ofInt x) :: .int (Int32.ofInt j) :: am_enc ρ (vR i) :: t.map (am_enc ρ)))
    rw [am_refN (by omega)]
    refine W.iast hx hb c1 (by rw [q2]; exact (hG.2.1 1 (by omega)).1 _ _) (fun q => by cases q) (by rw [arrV_size]; exact am_inOf hj q3 q4) rfl rfl hdg fun H' g1 g2 g3 => ?_
    rw [clamp_ofInt hj] at g1
    refine h ls t hr _ n u us hQ lsR H' _ hL (fun v hv => hC v (by simp [hv])) ?_ (am_locs hl (by omega))
    have e2 : (fun b => if b = j.toNat then hr i j.toNat else hr i b) = hr i := by funext b; by_cases z : b = j.toNat <;> simp [z]
    have := hH.arr hF (r := hr i j.toNat) q1 hi (by omega) (congrArg am_ak q2) (j := j.toNat) (by omega) (x := x) hxx g1 g2 g3
    rw [e2, am_row_rf, ← am_up_row] at this
    exact this
theorem ws_last (hx : p.tables.exec = Jvm.exec) (hb : c.code = cc) (hF : am_fix shp fk cl ρ B0 Ts) (hG : am_GW slen cl D AC ρ B0 H00 hr0 hd0 s) (hdg : decode cc pc = .ok (.lastore, 1)) {Q : amP}
    (h : am_WS shp slen fk cl D AC ρ B0 H00 hr0 hd0 p l e R s m args below meth c Qf nL (pc + 1) Q) : am_WS shp slen fk cl D AC ρ B0 H00 hr0 hd0 p l e R s m args below meth c Qf nL pc (am_last shp slen Q) := by
  intro ls st hr hd n u us hQ lsR H locs hL hC hH hl
  match st, hQ with
  | .inr (.inl x) :: .inl j :: .inr (.inr (.inl i)) :: t, hQ =>
    obtain ⟨⟨q1, q2⟩, ⟨q3, q4⟩, hQ⟩ := hQ
    have hxx : in64 x := hC (vL x) (by simp)
    have hj : in32 j := hC (vI j) (by simp)
    have hi : 17 ≤ i := am_ge17 hF q2 (by omega)
    have hρi := hF.2.2.2.2.2.2.1 i hi
    obtain ⟨c1, c2⟩ := am_arr (kd := 1) hF hH q1 hi (by omega) (fun k => (am_kdA k (by omega)).trans (congrArg am_ak q2))
    show W p l e R s m args below meth c H locs u us Qf (F0 m pc lsR (.long (Int64.ofInt x) :: .int (Int32.ofInt j) :: am_enc ρ (vR i) :: t.map (am_enc ρ)))
    rw [am_refN (by omega)]
    refine W.last hx hb c1 (by rw [q2]; exact (hG.2.1 2 (by omega)).1 _ _) (fun q => by cases q) (by rw [arrV_size]; exact am_inOf hj q3 q4) rfl rfl hdg fun H' g1 g2 g3 => ?_
    rw [clamp_ofInt hj] at g1
    refine h ls t hr _ n u us hQ lsR H' _ hL (fun v hv => hC v (by simp [hv])) ?_ (am_locs hl (by omega))
    have e2 : (fun b => if b = j.toNat then hr i j.toNat else hr i b) = hr i := by funext b; by_cases z : b = j.toNat <;> simp [z]
    have := hH.arr hF (r := hr i j.toNat) q1 hi (by omega) (congrArg am_ak q2) (j := j.toNat) (by omega) (x := x) hxx g1 g2 g3
    rw [e2, am_row_rf, ← am_up_row] at this
    exact this
theorem i2b_ok (x : Int) : (Int32.ofInt x).toInt8.toInt32 = Int32.ofInt (w8 x) := by
  apply Int32.toInt_inj.mp
  have h8 := w8_in x
  rw [Int8.toInt_toInt32, Int32.toInt_toInt8, ti32, ti32, w32_id (x := w8 x) ⟨by have := h8.1; omega, by have := h8.2; omega⟩]
  show Int.bmod (Int.bmod x 4294967296) 256 = Int.bmod x 256
  exact Int.bmod_bmod_of_dvd (by decide)
theorem ws_bast (hx : p.tables.exec = Jvm.exec) (hb : c.code = cc) (hF : am_fix shp fk cl ρ B0 Ts) (hG : am_GW slen cl D AC ρ B0 H00 hr0 hd0 s) (hdg : decode cc pc = .ok (.bastore, 1)) {Q : amP}
    (h : am_WS shp slen fk cl D AC ρ B0 H00 hr0 hd0 p l e R s m args below meth c Qf nL (pc + 1) Q) : am_WS shp slen fk cl D AC ρ B0 H00 hr0 hd0 p l e R s m args below meth c Qf nL pc (am_bast shp slen Q) := by
  intro ls st hr hd n u us hQ lsR H locs hL hC hH hl
  match st, hQ with
  | .inl x :: .inl j :: .inr (.inr (.inl i)) :: t, hQ =>
    obtain ⟨⟨q1, q2⟩, ⟨q3, q4⟩, qb, hQ⟩ := hQ
    have hxx : in32 x := hC (vI x) (by simp)
    have hj : in32 j := hC (vI j) (by simp)
    have e2 : (fun b => if b = j.toNat then hr i j.toNat else hr i b) = hr i := by funext b; by_cases z : b = j.toNat <;> simp [z]
    show W p l e R s m args below meth c H locs u us Qf (F0 m pc lsR (.int (Int32.ofInt x) :: .int (Int32.ofInt j) :: am_enc ρ (vR i) :: t.map (am_enc ρ)))
    rcases q2 with q2 | q2
    · have hi : 17 ≤ i := am_ge17 hF q2 (by omega)
      have hρi := hF.2.2.2.2.2.2.1 i hi
      obtain ⟨c1, c2⟩ := am_arr (kd := 4) hF hH q1 hi (by omega) (fun k => (am_kdA k (by omega)).trans (congrArg am_ak q2))
      rw [am_refN (by omega)]
      refine W.bast hx hb c1 (by rw [q2]; exact (hG.2.1 3 (by omega)).1 _ _) (fun q => by cases q) (by rw [arrV_size]; exact am_inOf hj q3 q4) rfl rfl hdg fun H' g1 g2 g3 => ?_
      rw [clamp_ofInt hj] at g1
      refine h ls t hr _ n u us hQ lsR H' _ hL (fun v hv => hC v (by simp [hv])) ?_ (am_locs hl (by omega))
      have e3 : narrow .byte (.int (Int32.ofInt x)) = am_sval ρ 4 (hr i j.toNat) (w8 x) := by
        show Value.int ((Int32.ofInt x).toInt8.toInt32) = Value.int _
        rw [i2b_ok]
      rw [e3] at g1
      have := hH.arr hF (r := hr i j.toNat) q1 hi (by omega) (congrArg am_ak q2) (j := j.toNat) (by omega) (x := w8 x) (w8_in x) g1 g2 g3
      rw [e2, am_row_rf, ← am_up_row] at this
      rw [if_neg (by omega)]
      exact this
    · have hi : 17 ≤ i := am_ge17 hF q2 (by omega)
      have hρi := hF.2.2.2.2.2.2.1 i hi
      obtain ⟨c1, c2⟩ := am_arr (kd := 3) hF hH q1 hi (by omega) (fun k => (am_kdA k (by omega)).trans (congrArg am_ak q2))
      rw [am_refN (by omega)]
      refine W.zast hx hb c1 (by rw [q2]; exact (hG.2.1 4 (by omega)).1 _ _) (fun q => by cases q) (by rw [arrV_size]; exact am_inOf hj q3 q4) rfl rfl hdg fun H' g1 g2 g3 => ?_
      rw [clamp_ofInt hj] at g1
      refine h ls t hr _ n u us hQ lsR H' _ hL (fun v hv => hC v (by simp [hv])) ?_ (am_locs hl (by omega))
      have e3 : narrow .boolean (.int (Int32.ofInt x)) = am_sval ρ 3 (hr i j.toNat) x := by
        rcases qb q2 with rfl | rfl <;> rfl
      rw [e3] at g1
      have := hH.arr hF (r := hr i j.toNat) q1 hi (by omega) (congrArg am_ak q2) (j := j.toNat) (by omega) (x := x) (qb q2) g1 g2 g3
      rw [e2, am_row_rf, ← am_up_row] at this
      rw [if_pos q2]
      exact this
theorem ws_aast (hx : p.tables.exec = Jvm.exec) (hb : c.code = cc) (hF : am_fix shp fk cl ρ B0 Ts) (hG : am_GW slen cl D AC ρ B0 H00 hr0 hd0 s) (hcH : ∃ T N, cl[3]? = some ("OnlyLent$Holdings", T, N)) (hdg : decode cc pc = .ok (.aastore, 1)) {Q : amP}
    (h : am_WS shp slen fk cl D AC ρ B0 H00 hr0 hd0 p l e R s m args below meth c Qf nL (pc + 1) Q) : am_WS shp slen fk cl D AC ρ B0 H00 hr0 hd0 p l e R s m args below meth c Qf nL pc (am_aast shp slen Q) := by
  intro ls st hr hd n u us hQ lsR H locs hL hC hH hl
  match st, hQ with
  | .inr (.inr (.inl v)) :: .inl j :: .inr (.inr (.inl i)) :: t, hQ =>
    obtain ⟨⟨q1, q2⟩, ⟨q3, q4⟩, hQ⟩ := hQ
    have hj : in32 j := hC (vI j) (by simp)
    have hi : 17 ≤ i := by
      rcases q2 with q2 | q2
      · exact am_ge17 hF q2.1 (by omega)
      · exact am_ge17 hF q2.1 (by omega)
    have hρi := hF.2.2.2.2.2.2.1 i hi
    have hs78 : shp i = 7 ∨ shp i = 8 := by omega
    have hak : am_ak (shp i) = 2 := by rcases hs78 with q | q <;> rw [q] <;> rfl
    obtain ⟨c1, c2⟩ := am_arr (kd := 2) hF hH q1 hi (by omega) (fun k => (am_kdA k (by omega)).trans hak)
    have hv0 : v ≠ 0 := by
      rcases q2 with q2 | q2
      · have := am_ge17 hF q2.2.1 (by omega)
        omega
      · omega
    obtain ⟨C, hC1, cv, g1, g2, g3⟩ : ∃ C : String, am_aty (shp i) = .object C ∧ ∃ cv : Cell, H[ρ v]? = some cv ∧ (∀ q, cv.vm ≠ .statics q) ∧ s.vm.findClass C = some cv.cls := by
      rcases q2 with ⟨q2, q5, q6⟩ | ⟨q2, q5, q6⟩
      · refine ⟨"OnlyLent$Holdings", by rw [q2]; rfl, ?_⟩
        obtain ⟨T, N, hcl⟩ := hcH
        obtain ⟨d1, d2⟩ := hH.2.2.2.1 v (am_ge17 hF q5 (by omega)) q6
        rcases d2 with ⟨d3, r, d4, cell, f1, f2, f3, f4⟩ | ⟨d3, d4⟩
        · have e1 : shp v - 100 = 3 := by omega
          rw [e1] at d4 f2
          exact ⟨cell, f1, (fun q z => by rw [f3] at z; cases z), by rw [f2]; exact (hG.1.1 3 _ hcl).2.1⟩
        · omega
      · refine ⟨"java/lang/String", by rw [q2]; rfl, ?_⟩
        obtain ⟨cell, f1, f2, f3⟩ := hG.2.2.1 v q5 q6
        have hb0 := hF.2.2.2.2.2.2.2.1 v (by omega) (by omega)
        exact ⟨cell, by rw [hH.2.2.1 _ hb0]; exact f1, (fun q z => by rw [z] at f2; cases f2), f3⟩
    obtain ⟨kv, hkv, -⟩ := Vm.findClass_spec g3
    obtain ⟨hAr, hRA⟩ := hG.2.1 (shp i) (by omega)
    rw [hC1] at hAr hRA
    obtain ⟨kA, comp, k1, k2, k3, k4⟩ := hRA
    have hcomp : comp = cv.cls := Option.some.inj (k3.symm.trans g3)
    subst hcomp
    show W p l e R s m args below meth c H locs u us Qf (F0 m pc lsR (am_enc ρ (vR v) :: .int (Int32.ofInt j) :: am_enc ρ (vR i) :: t.map (am_enc ρ)))
    rw [am_refN hv0, am_refN (i := i) (by omega)]
    have hin := am_inOf hj q3 q4
    have hasg : s.vm.assignable cv.cls cv.cls = true := va_asg _ _
    refine W.aast hx hb c1 (fun q h => by cases h) (fun h => by cases h) k1 k2 rfl hkv ⟨fun q => hin (Or.inl q), by rw [arrV_size]; exact Nat.not_le.mp (fun q => hin (Or.inr q))⟩ g1 g2 hkv hasg rfl rfl hdg fun H' e1 e2 e3 => ?_
    rw [clamp_ofInt hj] at e1
    refine h ls t _ hd n u us hQ lsR H' _ hL (fun v hv => hC v (by simp [hv])) ?_ (am_locs hl (by omega))
    have e9 : (fun b => if b = j.toNat then hd i j.toNat else hd i b) = hd i := by funext b; by_cases z : b = j.toNat <;> simp [z]
    have := hH.arr hF (r := v) q1 hi (by omega) hak (j := j.toNat) (by omega) (x := hd i j.toNat) trivial (by rw [e1]; show some _ = some _; congr 2; exact (if_neg hv0).symm) e2 e3
    rw [e9, am_row_rf, ← am_up_row] at this
    exact this
end SM
