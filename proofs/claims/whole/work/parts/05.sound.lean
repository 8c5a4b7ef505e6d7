/-! SOUNDNESS of the small machine, 4: fields and arrays -/
section SK
variable {shp slen : Nat → Nat} {fk : Nat → Nat → Nat} {cl : List vw_C} {D : va_G} {AC : Nat → ClassId} {ρ : Nat → Nat} {B0 : Nat} {H00 : Heap} {hr0 : amR} {hd0 : amD}
variable {p : Program} {l : Launch} {e : Env} {R : Room} {s : State} {m : MethodId} {args : Array Value} {below : List Frame} {meth : Method} {c : Code} {Qf : State → Prop} {nL : Nat} {cc : ByteArray} {pc : Nat} {Ts : List Cond} {own : String} {index : Nat}
theorem am_ge17 (hF : am_fix shp fk cl ρ B0 Ts) {i k : Nat} (h : shp i = k) (hk : k ≠ 0 ∧ k ≠ 5 ∧ k ≠ 6 ∧ k ≠ 113) : 17 ≤ i := by
  rcases Nat.lt_or_ge i 17 with q | q
  · have := hF.2.2.2.1 i q
    omega
  · exact q
theorem am_tuck {α : Type} {q : Nat × α} {k : Nat} {x : Nat × α} (h : [x][k]? = some q) : q = x := by
  cases k with
  | zero => simp at h; exact h.symm
  | succ n => simp at h
/-- getfield of one of our classes -/
theorem ws_getf (hx : p.tables.exec = Jvm.exec) (hb : c.code = cc) (hown : s.vm.findClass own = some m.cls) (hts : ∀ w ∈ Ts, w.before args s = true) (hF : am_fix shp fk cl ρ B0 Ts) (hG : am_GW slen cl D AC ρ B0 H00 hr0 hd0 s)
    {ci k kd N : Nat} {C : String} {T : u_T} (hc : cl[ci]? = some (C, T, N)) (hk : k < N) (hkd : kd = fk ci k) (hlink : (Cond.fieldLink own index (T k).1 (T k).2.1 (T k).2.2.1).before args s = true) (hdg : decode cc pc = .ok (.getfield index, 3)) {Q : amP}
    (h : am_WS shp slen fk cl D AC ρ B0 H00 hr0 hd0 p l e R s m args below meth c Qf nL (pc + 3) Q) : am_WS shp slen fk cl D AC ρ B0 H00 hr0 hd0 p l e R s m args below meth c Qf nL pc (am_getf shp ci k kd Q) := by
  intro ls st hr hd n u us hQ lsR H locs hL hC hH hl
  match st, hQ with
  | .inr (.inr (.inl i)) :: t, hQ =>
    obtain ⟨⟨q1, q2⟩, hQ⟩ := hQ
    have hlt : ci < 13 := by rw [← hF.2.2.2.2.2.1]; exact (List.getElem?_eq_some_iff.mp hc).1
    have hi : 17 ≤ i := am_ge17 hF q2 (by omega)
    obtain ⟨c1, c2⟩ := hH.2.2.2.1 i hi q1
    have hkk : am_kd shp fk i k = kd := by unfold am_kd; rw [if_pos (by omega), q2, hkd]; simp
    rcases c2 with ⟨c3, r, c4, c5⟩ | ⟨c3, c4⟩
    · have e1 : shp i - 100 = ci := by omega
      rw [e1] at c4 c5
      cases hc.symm.trans c4
      obtain ⟨hin, ty0, hty, -⟩ := hF.2.2.2.2.2.2.2.2 ci C T N hc
      have hi0 : i ≠ 0 := by omega
      show W p l e R s m args below meth c H locs u us Qf (F0 m pc lsR ((if i = 0 then .null else .ref (ρ i)) :: t.map (am_enc ρ)))
      rw [if_neg hi0]
      have hP : va_P D cl [(ρ i, .inr (ci, (List.range N).map (fun k => am_sval ρ (am_kd shp fk i k) (hr i k) (hd i k))))] H := by
        intro z q hz
        rw [am_tuck hz]
        exact ⟨_, hc, c5.to (fun j hj => (am_vpV (N := N) (fun k => am_sval ρ (am_kd shp fk i k) (hr i k) (hd i k)) hj).symm)⟩
      refine va_get (C := C) (T := T) (N := N) hx hb hts hin hown hG.1 hP 0 rfl hc k hk hlink (fun x hx => hx) (v := am_enc ρ (am_rd kd hr hd i k)) ?_ hdg ?_
      · rw [List.getElem?_map, List.getElem?_range hk]
        show some (am_sval ρ (am_kd shp fk i k) (hr i k) (hd i k)) = some _
        rw [← am_sval_kd (r := 0) (x := 0) ρ hr hd i k (by rw [hkd]; have := (hty k hk).2.2; omega), hkk]
      · refine h ls (am_rd kd hr hd i k :: t) hr hd n u us hQ lsR H locs hL ?_ hH hl
        intro v hv
        rcases List.mem_cons.mp hv with rfl | hv
        · refine am_rd_can hr hd i k ?_
          have := c1 k
          rw [hkk] at this
          exact this
        · exact hC v (by simp [hv])
    · omega
/-- putfield: what must be of the value -/
theorem ws_putf0 (hx : p.tables.exec = Jvm.exec) (hb : c.code = cc) (hown : s.vm.findClass own = some m.cls) (hts : ∀ w ∈ Ts, w.before args s = true) (hF : am_fix shp fk cl ρ B0 Ts) (hG : am_GW slen cl D AC ρ B0 H00 hr0 hd0 s)
    {ci k N : Nat} {C : String} {T : u_T} (hc : cl[ci]? = some (C, T, N)) (hk : k < N) (hlink : (Cond.fieldLink own index (T k).1 (T k).2.1 (T k).2.2.1).before args s = true) (hfin : (T k).2.2.2 = true → meth.name = "<init>" ∧ (T k).1 = own) (hdg : decode cc pc = .ok (.putfield index, 3))
    {lsR : Array Slot} {H : Heap} {locs : List Loc} {u us : Nat} {rest : List Value} {hr : amR} {hd : amD} {n i r : Nat} {x : Int} (hH : am_H shp slen fk cl D AC ρ B0 H00 hr0 hd0 hr hd n H) (hl : ∀ q ∈ locs, B0 ≤ q.base) (q1 : i < n) (q2 : shp i = 100 + ci) (hok : am_sok (fk ci k) x)
    (h : ∀ (H' : Heap) (locs' : List Loc), am_H shp slen fk cl D AC ρ B0 H00 hr0 hd0 (am_row hr i (fun b => if b = k then r else hr i b)) (am_row hd i (fun b => if b = k then x else hd i b)) n H' → (∀ q ∈ locs', B0 ≤ q.base) → W p l e R s m args below meth c H' locs' u us Qf (F0 m (pc + 3) lsR rest)) :
    W p l e R s m args below meth c H locs u us Qf (F0 m pc lsR (am_sval ρ (fk ci k) r x :: .ref (ρ i) :: rest)) := by
  have hlt : ci < 13 := by rw [← hF.2.2.2.2.2.1]; exact (List.getElem?_eq_some_iff.mp hc).1
  have hi : 17 ≤ i := am_ge17 hF q2 (by omega)
  have hρi := hF.2.2.2.2.2.2.1 i hi
  obtain ⟨c1, c2⟩ := hH.2.2.2.1 i hi q1
  have hkk : ∀ k, am_kd shp fk i k = fk ci k := by intro k; unfold am_kd; rw [if_pos (by omega), q2]; simp
  rcases c2 with ⟨c3, r0, c4, cell, d1, d2, d3, d4⟩ | ⟨c3, c4⟩
  · have e1 : shp i - 100 = ci := by omega
    rw [e1] at c4 d2 d4
    cases hc.symm.trans c4
    obtain ⟨hin, ty0, hty, hnm⟩ := hF.2.2.2.2.2.2.2.2 ci C T N hc
    obtain ⟨hpd, hfk, hf4⟩ := hty k hk
    obtain ⟨hn, hfit⟩ := am_fit (ρ := ρ) (r := r) (x := x) hfk hf4 hok
    have hap := va_apart (own := own) hts hin ty0 (fun k hk => (hty k hk).1) hnm hG.1 hc
    obtain ⟨hS, hfc, kC, hkC, hkind⟩ := hG.1.1 ci _ hc
    obtain ⟨cf, kf, fi, f, hif, hsl⟩ := hS k hk
    have hlay := hts _ (hin _ (u_in_lay hk))
    unfold u_lay at hlay
    have hst := (u_facts hfc hkC (u_lays hts hin hk) hif).1
    have fin : ∀ (H' : Heap), H'[ρ i]? = some (cell.setSlot f.slot (am_sval ρ (fk ci k) r x)) → H'.size = H.size → (∀ q, q ≠ ρ i → H'[q]? = H[q]?) → W p l e R s m args below meth c H' (locs ++ [⟨ρ i, f.slot⟩]) u us Qf (F0 m (pc + 3) lsR rest) := by
      intro H' g1 g2 g3
      refine h H' _ (hH.put hF.2.2.2.2.2.2.1 hi q1 g2 g3 ?_) ?_
      · refine ⟨fun z => ?_, Or.inl ⟨c3, _, by rw [e1]; exact c4, ?_⟩⟩
        · by_cases hz : z = k
          · subst hz
            rw [hkk]
            simp only [if_pos]
            exact hok
          · simp only [if_neg hz]
            exact c1 z
        · rw [e1]
          refine t_OB.to (V := updV (fun k => am_sval ρ (am_kd shp fk i k) (hr i k) (hd i k)) k (am_sval ρ (fk ci k) r x)) ⟨_, g1, d2, d3, ?_⟩ (fun z _ => ?_)
          · rw [hsl]
            exact t_set d4 hap hk _
          · unfold updV
            by_cases hz : z = k
            · subst hz
              simp [hkk]
            · simp [hz]
      · intro q hq
        rcases List.mem_append.mp hq with hq | hq
        · exact hl q hq
        · rw [List.mem_singleton.mp hq]
          show B0 ≤ ρ i
          omega
    by_cases hfn : (T k).2.2.2 = true
    · rw [if_pos hfn] at hlay
      obtain ⟨hinit, hdecl⟩ := hfin hfn
      have hcf : m.cls = cf := by
        obtain ⟨_, _, c', _, _, _, -, -, hf', -, -, -, hown2, -⟩ := Cond.laysFinal_spec hlay
        have e1 : c' = cf := by have := hif.symm.trans hf'; simp at this; exact this.1.symm
        rw [hdecl] at hown2
        rw [← e1]; exact Option.some.inj (hown.symm.trans hown2)
      have h6 := u_fits hfc hkC hkind (Or.inr hlay) hif hpd hn hfit
      exact W.putFinK hx hb hown hlink hif hst hcf hinit (by rw [d2]; exact h6) d1 d3 (by rw [hsl]; exact k2_hasslot (d4 k hk)) rfl rfl hdg fin
    · rw [if_neg hfn] at hlay
      have h6 := u_store hfc hkC hkind hlay hif hpd hn hfit
      exact W.putK hx hb (f := f) ⟨hown, hlink, ⟨_, _, _, hif⟩, hst⟩ (by rw [d2]; exact h6) d1 d3 (by rw [hsl]; exact k2_hasslot (d4 k hk)) rfl rfl hdg fin
  · omega
theorem ws_putf (hx : p.tables.exec = Jvm.exec) (hb : c.code = cc) (hown : s.vm.findClass own = some m.cls) (hts : ∀ w ∈ Ts, w.before args s = true) (hF : am_fix shp fk cl ρ B0 Ts) (hG : am_GW slen cl D AC ρ B0 H00 hr0 hd0 s)
    {ci k kd N : Nat} {C : String} {T : u_T} (hc : cl[ci]? = some (C, T, N)) (hk : k < N) (hkd : kd = fk ci k) (hlink : (Cond.fieldLink own index (T k).1 (T k).2.1 (T k).2.2.1).before args s = true) (hfin : (T k).2.2.2 = true → meth.name = "<init>" ∧ (T k).1 = own) (hdg : decode cc pc = .ok (.putfield index, 3)) {Q : amP}
    (h : am_WS shp slen fk cl D AC ρ B0 H00 hr0 hd0 p l e R s m args below meth c Qf nL (pc + 3) Q) : am_WS shp slen fk cl D AC ρ B0 H00 hr0 hd0 p l e R s m args below meth c Qf nL pc (am_putf shp ci k kd Q) := by
  intro ls st hr hd n u us hQ lsR H locs hL hC hH hl
  have hlt : ci < 13 := by rw [← hF.2.2.2.2.2.1]; exact (List.getElem?_eq_some_iff.mp hc).1
  have out : ∀ (i r : Nat) (x : Int) (t : List amV), i < n → shp i = 100 + ci → am_sok kd x → (∀ v ∈ t, am_can v) → Q ls t (am_row hr i (fun b => if b = k then r else hr i b)) (am_row hd i (fun b => if b = k then x else hd i b)) n u us →
      W p l e R s m args below meth c H locs u us Qf (F0 m pc lsR (am_sval ρ kd r x :: am_enc ρ (vR i) :: t.map (am_enc ρ))) := by
    intro i r x t q1 q2 hok hCt hQ2
    have hi : 17 ≤ i := am_ge17 hF q2 (by omega)
    show W p l e R s m args below meth c H locs u us Qf (F0 m pc lsR (am_sval ρ kd r x :: (if i = 0 then .null else .ref (ρ i)) :: t.map (am_enc ρ)))
    rw [if_neg (by omega)]
    subst hkd
    exact ws_putf0 hx hb hown hts hF hG hc hk hlink hfin hdg hH hl q1 q2 hok (fun H' locs' g1 g2 => h _ _ _ _ _ _ _ hQ2 lsR H' locs' hL hCt g1 g2)
  match kd, st, hQ with
  | 0, .inl x :: .inr (.inr (.inl i)) :: t, hQ =>
    refine out i (hr i k) x t hQ.1.1 hQ.1.2 (hC (vI x) (by simp)) (fun v hv => hC v (by simp [hv])) ?_
    have e2 : (fun b => if b = k then hr i k else hr i b) = hr i := by funext b; by_cases z : b = k <;> simp [z]
    rw [e2, am_row_rf, ← am_up_row]
    exact hQ.2
  | 1, .inr (.inl x) :: .inr (.inr (.inl i)) :: t, hQ =>
    refine out i (hr i k) x t hQ.1.1 hQ.1.2 (hC (vL x) (by simp)) (fun v hv => hC v (by simp [hv])) ?_
    have e2 : (fun b => if b = k then hr i k else hr i b) = hr i := by funext b; by_cases z : b = k <;> simp [z]
    rw [e2, am_row_rf, ← am_up_row]
    exact hQ.2
  | 2, .inr (.inr (.inl v)) :: .inr (.inr (.inl i)) :: t, hQ =>
    refine out i v (hd i k) t hQ.1.1 hQ.1.2 trivial (fun v hv => hC v (by simp [hv])) ?_
    have e2 : (fun b => if b = k then hd i k else hd i b) = hd i := by funext b; by_cases z : b = k <;> simp [z]
    rw [e2, am_row_rf, ← am_up_row]
    exact hQ.2
  | 3, .inl x :: .inr (.inr (.inl i)) :: t, hQ =>
    refine out i (hr i k) x t hQ.1.1 hQ.1.2 hQ.2.1 (fun v hv => hC v (by simp [hv])) ?_
    have e2 : (fun b => if b = k then hr i k else hr i b) = hr i := by funext b; by_cases z : b = k <;> simp [z]
    rw [e2, am_row_rf, ← am_up_row]
    exact hQ.2.2
theorem am_kdA {i : Nat} (k : Nat) (h : shp i < 100) : am_kd shp fk i k = am_ak (shp i) := by
  unfold am_kd
  rw [if_neg (by omega)]
/-- the cell of an array of ours -/
theorem am_arr (hF : am_fix shp fk cl ρ B0 Ts) {hr : amR} {hd : amD} {n i kd : Nat} {H : Heap} (hH : am_H shp slen fk cl D AC ρ B0 H00 hr0 hd0 hr hd n H) (q1 : i < n) (hi : 17 ≤ i) (h : shp i < 100) (hk : ∀ k, am_kd shp fk i k = kd) :
    H[ρ i]? = some (arrV (AC (shp i)) (slen i) (fun k => am_sval ρ kd (hr i k) (hd i k))) ∧ ∀ k, am_sok kd (hd i k) := by
  obtain ⟨c1, c2⟩ := hH.2.2.2.1 i hi q1
  rcases c2 with ⟨c3, r, c4, c5⟩ | ⟨c3, c4⟩
  · omega
  · simp only [hk] at c1 c4
    exact ⟨c4, c1⟩
theorem am_inOf {j : Int} {N : Nat} (hj : in32 j) (h1 : 0 ≤ j) (h2 : j < (N : Int)) : ¬ (Int32.ofInt j < 0 ∨ N ≤ (Int32.ofInt j).toNatClampNeg) := by
  rw [clamp_ofInt hj, ofInt_lt0 hj]
  omega
theorem am_refN {i : Nat} (h : i ≠ 0) : am_enc ρ (vR i) = .ref (ρ i) := if_neg h
theorem ws_iald (hx : p.tables.exec = Jvm.exec) (hb : c.code = cc) (hF : am_fix shp fk cl ρ B0 Ts) (hG : am_GW slen cl D AC ρ B0 H00 hr0 hd0 s) (hdg : decode cc pc = .ok (.iaload, 1)) {Q : amP}
    (h : am_WS shp slen fk cl D AC ρ B0 H00 hr0 hd0 p l e R s m args below meth c Qf nL (pc + 1) Q) : am_WS shp slen fk cl D AC ρ B0 H00 hr0 hd0 p l e R s m args below meth c Qf nL pc (am_iald shp slen Q) := by
  intro ls st hr hd n u us hQ lsR H locs hL hC hH hl
  match st, hQ with
  | .inl j :: .inr (.inr (.inl i)) :: t, hQ =>
    obtain ⟨⟨q1, q2⟩, ⟨q3, q4⟩, hQ⟩ := hQ
    have hj : in32 j := hC (vI j) (by simp)
    have hCt : ∀ v ∈ t, am_can v := fun v hv => hC v (by simp [hv])
    have go : in32 (hd i j.toNat) → ∀ v ∈ (vI (hd i j.toNat) :: t), am_can v := by
      intro h0 v hv
      rcases List.mem_cons.mp hv with rfl | hv
      · exact h0
      · exact hCt v hv
    rcases q2 with q2 | q2
    · have hi : 17 ≤ i := am_ge17 hF q2 (by omega)
      have hn5 : ¬ shp i = 5 := by omega
      unfold am_len at q4
      rw [if_neg hn5] at q4
      obtain ⟨c1, c2⟩ := am_arr (kd := 0) hF hH q1 hi (by omega) (fun k => (am_kdA k (by omega)).trans (congrArg am_ak q2))
      show W p l e R s m args below meth c H locs u us Qf (F0 m pc lsR (.int (Int32.ofInt j) :: am_enc ρ (vR i) :: t.map (am_enc ρ)))
      rw [am_refN (by omega)]
      refine W.iald (v := .int (Int32.ofInt (hd i j.toNat))) hx hb c1 (by rw [q2]; exact (hG.2.1 1 (by omega)).1 _ _) (fun q => by cases q) (by rw [arrV_size]; exact am_inOf hj q3 q4) (by rw [clamp_ofInt hj, arrV_read _ _ (by omega)]; rfl) rfl rfl hdg ?_
      exact h ls _ hr hd n u us hQ lsR H locs hL (go (c2 _)) hH hl
    · have e := hF.1 i q2
      subst e
      unfold am_len at q4
      rw [if_pos q2] at q4
      obtain ⟨L, g1, g2, g3, g4, g5⟩ := hG.2.2.2.2.2.1
      obtain ⟨scr, f1, f2, f3, f4, f5⟩ := g3
      have h0 := hH.2.2.2.2 0 (by omega)
      have h15 := hH.2.2.2.2 15 (by omega)
      rw [h0.2, g2] at q4
      show W p l e R s m args below meth c H locs u us Qf (F0 m pc lsR (.int (Int32.ofInt j) :: am_enc ρ (vR 15) :: t.map (am_enc ρ)))
      rw [am_refN (by omega)]
      refine W.iald (v := .int (Int32.ofInt (hd 15 j.toNat))) hx hb (by rw [hH.2.2.1 _ g4]; exact f1) f2 f3 (by rw [f4]; exact am_inOf hj q3 q4) (by rw [clamp_ofInt hj, f5 _ (by omega), h15.2]) rfl rfl hdg ?_
      exact h ls _ hr hd n u us hQ lsR H locs hL (go (by rw [h15.2]; exact g5 _)) hH hl
theorem ws_bald (hx : p.tables.exec = Jvm.exec) (hb : c.code = cc) (hF : am_fix shp fk cl ρ B0 Ts) (hG : am_GW slen cl D AC ρ B0 H00 hr0 hd0 s) (hdg : decode cc pc = .ok (.baload, 1)) {Q : amP}
    (h : am_WS shp slen fk cl D AC ρ B0 H00 hr0 hd0 p l e R s m args below meth c Qf nL (pc + 1) Q) : am_WS shp slen fk cl D AC ρ B0 H00 hr0 hd0 p l e R s m args below meth c Qf nL pc (am_bald shp slen Q) := by
  intro ls st hr hd n u us hQ lsR H locs hL hC hH hl
  match st, hQ with
  | .inl j :: .inr (.inr (.inl i)) :: t, hQ =>
    obtain ⟨⟨q1, q2⟩, ⟨q3, q4⟩, hQ⟩ := hQ
    have hj : in32 j := hC (vI j) (by simp)
    have hCt : ∀ v ∈ t, am_can v := fun v hv => hC v (by simp [hv])
    have go : in32 (hd i j.toNat) → ∀ v ∈ (vI (hd i j.toNat) :: t), am_can v := by
      intro h0 v hv
      rcases List.mem_cons.mp hv with rfl | hv
      · exact h0
      · exact hCt v hv
    rcases q2 with q2 | q2 | q2
    · have hi : 17 ≤ i := am_ge17 hF q2 (by omega)
      obtain ⟨c1, c2⟩ := am_arr (kd := 4) hF hH q1 hi (by omega) (fun k => (am_kdA k (by omega)).trans (congrArg am_ak q2))
      show W p l e R s m args below meth c H locs u us Qf (F0 m pc lsR (.int (Int32.ofInt j) :: am_enc ρ (vR i) :: t.map (am_enc ρ)))
      rw [am_refN (by omega)]
      refine W.bald (v := .int (Int32.ofInt (hd i j.toNat))) hx hb c1 (by rw [q2]; exact (hG.2.1 3 (by omega)).1 _ _) (fun q => by cases q) (by rw [arrV_size]; exact am_inOf hj q3 q4) (by rw [clamp_ofInt hj, arrV_read _ _ (by omega)]; rfl) rfl rfl hdg ?_
      exact h ls _ hr hd n u us hQ lsR H locs hL (go (am_sok_32 (kd := 4) (c2 _) (by decide) (by decide))) hH hl
    · have hi : 17 ≤ i := am_ge17 hF q2 (by omega)
      obtain ⟨c1, c2⟩ := am_arr (kd := 3) hF hH q1 hi (by omega) (fun k => (am_kdA k (by omega)).trans (congrArg am_ak q2))
      show W p l e R s m args below meth c H locs u us Qf (F0 m pc lsR (.int (Int32.ofInt j) :: am_enc ρ (vR i) :: t.map (am_enc ρ)))
      rw [am_refN (by omega)]
      refine W.zald (v := .int (Int32.ofInt (hd i j.toNat))) hx hb c1 (by rw [q2]; exact (hG.2.1 4 (by omega)).1 _ _) (fun q => by cases q) (by rw [arrV_size]; exact am_inOf hj q3 q4) (by rw [clamp_ofInt hj, arrV_read _ _ (by omega)]; rfl) rfl rfl hdg ?_
      exact h ls _ hr hd n u us hQ lsR H locs hL (go (am_sok_32 (kd := 3) (c2 _) (by decide) (by decide))) hH hl
    · obtain ⟨e1, e2⟩ := hF.2.1 i q2
      obtain ⟨⟨scr, f1, f2, f3, f4, f6, f5, f7⟩, g5⟩ := hG.2.2.2.2.1 i e1 e2
      have hi := hH.2.2.2.2 i (by omega)
      have g4 : ρ i < B0 := by omega
      have f8 : scr.slots.size = slen i ∨ slen i ≤ scr.slots.size := Or.inr f4
      show W p l e R s m args below meth c H locs u us Qf (F0 m pc lsR (.int (Int32.ofInt j) :: am_enc ρ (vR i) :: t.map (am_enc ρ)))
      rw [am_refN (by omega)]
      refine W.bald (v := .int (Int32.ofInt (hd i j.toNat))) hx hb (by rw [hH.2.2.1 _ g4]; exact f1) f2 f3 (am_inOf hj q3 (by omega)) (by rw [clamp_ofInt hj, f5 _ (by omega), hi.2]) rfl rfl hdg ?_
      exact h ls _ hr hd n u us hQ lsR H locs hL (go (by rw [hi.2]; exact am_sok_32 (kd := 4) (g5 _) (by decide) (by decide))) hH hl
theorem ws_lald (hx : p.tables.exec = Jvm.exec) (hb : c.code = cc) (hF : am_fix shp fk cl ρ B0 Ts) (hG : am_GW slen cl D AC ρ B0 H00 hr0 hd0 s) (hdg : decode cc pc = .ok (.laload, 1)) {Q : amP}
    (h : am_WS shp slen fk cl D AC ρ B0 H00 hr0 hd0 p l e R s m args below meth c Qf nL (pc + 1) Q) : am_WS shp slen fk cl D AC ρ B0 H00 hr0 hd0 p l e R s m args below meth c Qf nL pc (am_lald shp slen Q) := by
  intro ls st hr hd n u us hQ lsR H locs hL hC hH hl
  match st, hQ with
  | .inl j :: .inr (.inr (.inl i)) :: t, hQ =>
    obtain ⟨⟨q1, q2⟩, ⟨q3, q4⟩, hQ⟩ := hQ
    have hj : in32 j := hC (vI j) (by simp)
    have hi : 17 ≤ i := am_ge17 hF q2 (by omega)
    obtain ⟨c1, c2⟩ := am_arr (kd := 1) hF hH q1 hi (by omega) (fun k => (am_kdA k (by omega)).trans (congrArg am_ak q2))
    show W p l e R s m args below meth c H locs u us Qf (F0 m pc lsR (.int (Int32.ofInt j) :: am_enc ρ (vR i) :: t.map (am_enc ρ)))
    rw [am_refN (by omega)]
    refine W.lald (v := .long (Int64.ofInt (hd i j.toNat))) hx hb c1 (by rw [q2]; exact (hG.2.1 2 (by omega)).1 _ _) (fun q => by cases q) (by rw [arrV_size]; exact am_inOf hj q3 q4) (by rw [clamp_ofInt hj, arrV_read _ _ (by omega)]; rfl) rfl rfl hdg ?_
    refine h ls _ hr hd n u us hQ lsR H locs hL (fun v hv => ?_) hH hl
    rcases List.mem_cons.mp hv with rfl | hv
    · exact c2 _
    · exact hC v (by simp [hv])
theorem ws_aald (hx : p.tables.exec = Jvm.exec) (hb : c.code = cc) (hF : am_fix shp fk cl ρ B0 Ts) (hG : am_GW slen cl D AC ρ B0 H00 hr0 hd0 s) (hdg : decode cc pc = .ok (.aaload, 1)) {Q : amP}
    (h : am_WS shp slen fk cl D AC ρ B0 H00 hr0 hd0 p l e R s m args below meth c Qf nL (pc + 1) Q) : am_WS shp slen fk cl D AC ρ B0 H00 hr0 hd0 p l e R s m args below meth c Qf nL pc (am_aald shp slen Q) := by
  intro ls st hr hd n u us hQ lsR H locs hL hC hH hl
  match st, hQ with
  | .inl j :: .inr (.inr (.inl i)) :: t, hQ =>
    obtain ⟨⟨q1, q2⟩, ⟨q3, q4⟩, hQ⟩ := hQ
    have hj : in32 j := hC (vI j) (by simp)
    have hi : 17 ≤ i := by
      rcases q2 with q2 | q2 | q2
      · exact am_ge17 hF q2 (by omega)
      · exact am_ge17 hF q2 (by omega)
      · exact am_ge17 hF q2 (by omega)
    obtain ⟨c1, c2⟩ := am_arr (kd := 2) hF hH q1 hi (by omega) (fun k => by rw [am_kdA k (by omega)]; rcases q2 with q2 | q2 | q2 <;> (rw [q2]; rfl))
    show W p l e R s m args below meth c H locs u us Qf (F0 m pc lsR (.int (Int32.ofInt j) :: am_enc ρ (vR i) :: t.map (am_enc ρ)))
    rw [am_refN (by omega)]
    refine W.aald (v := am_enc ρ (vR (hr i j.toNat))) (ty := am_aty (shp i)) hx hb c1 ((hG.2.1 (shp i) (by omega)).1 _ _) (by rcases q2 with q2 | q2 | q2 <;> rw [q2] <;> rfl) (fun q => by cases q) (by rw [arrV_size]; exact am_inOf hj q3 q4) (by rw [clamp_ofInt hj, arrV_read _ _ (by omega)]; rfl) rfl rfl hdg ?_
    refine h ls _ hr hd n u us hQ lsR H locs hL (fun v hv => ?_) hH hl
    rcases List.mem_cons.mp hv with rfl | hv
    · exact trivial
    · exact hC v (by simp [hv])
theorem ws_alen (hx : p.tables.exec = Jvm.exec) (hb : c.code = cc) (hF : am_fix shp fk cl ρ B0 Ts) (hS : ∀ i, slen i < 1000000) (hG : am_GW slen cl D AC ρ B0 H00 hr0 hd0 s) (hsh : ∀ i, 0 < shp i → shp i < 100 → shp i < 5 ∨ shp i = 5 ∨ shp i = 6 ∨ shp i = 7 ∨ shp i = 8 ∨ shp i = 9) (hdg : decode cc pc = .ok (.arraylength, 1)) {Q : amP}
    (h : am_WS shp slen fk cl D AC ρ B0 H00 hr0 hd0 p l e R s m args below meth c Qf nL (pc + 1) Q) : am_WS shp slen fk cl D AC ρ B0 H00 hr0 hd0 p l e R s m args below meth c Qf nL pc (am_alen shp slen Q) := by
  intro ls st hr hd n u us hQ lsR H locs hL hC hH hl
  match st, hQ with
  | .inr (.inr (.inl i)) :: t, hQ =>
    obtain ⟨⟨q1, q2, q3⟩, hQ⟩ := hQ
    have hCt : ∀ v ∈ t, am_can v := fun v hv => hC v (by simp [hv])
    have hi0 : i ≠ 0 := by
      intro e
      subst e
      have := hF.2.2.2.1 0 (by omega)
      have := hF.1 0
      have := hF.2.1 0
      omega
    show W p l e R s m args below meth c H locs u us Qf (F0 m pc lsR (am_enc ρ (vR i) :: t.map (am_enc ρ)))
    rw [am_refN hi0]
    have hlen : in32 (am_len shp slen hd i) := by
      unfold am_len
      split
      · obtain ⟨L, g1, g2, g3⟩ := hG.2.2.2.2.2.1
        rw [(hH.2.2.2.2 0 (by omega)).2, g2]
        exact ⟨by omega, by omega⟩
      · have := hS i
        exact ⟨by omega, by omega⟩
    have go : ∀ v ∈ (vI (am_len shp slen hd i) :: t), am_can v := by
      intro v hv
      rcases List.mem_cons.mp hv with rfl | hv
      · exact hlen
      · exact hCt v hv
    have hw := h ls _ hr hd n u us hQ lsR H locs hL go hH hl
    by_cases h5 : shp i = 5
    · have e := hF.1 i h5
      subst e
      obtain ⟨L, g1, g2, g3, g4, g5⟩ := hG.2.2.2.2.2.1
      obtain ⟨scr, f1, f2, f3, f4, f5⟩ := g3
      refine W.alen (n := Int32.ofInt (am_len shp slen hd 15)) hx hb (by rw [hH.2.2.1 _ g4]; exact f1) f2 ?_ rfl rfl hdg hw
      rw [f4]
      unfold am_len
      rw [if_pos h5, (hH.2.2.2.2 0 (by omega)).2, g2]
      exact (Int32.ofInt_eq_ofNat).symm
    · have hle : am_len shp slen hd i = (slen i : Int) := if_neg h5
      by_cases h6 : shp i = 6
      · obtain ⟨e1, e2⟩ := hF.2.1 i h6
        obtain ⟨⟨scr, f1, f2, f3, f4, f6, f5, f7⟩, g5⟩ := hG.2.2.2.2.1 i e1 e2
        refine W.alen (n := Int32.ofInt (am_len shp slen hd i)) hx hb (by rw [hH.2.2.1 _ (by omega)]; exact f1) f2 ?_ rfl rfl hdg hw
        rw [f6, hle]
        exact (Int32.ofInt_eq_ofNat).symm
      · have hs := hsh i q2 q3
        have hi : 17 ≤ i := am_ge17 hF (k := shp i) rfl (by omega)
        obtain ⟨c1, c2⟩ := hH.2.2.2.1 i hi q1
        rcases c2 with ⟨c3, r, c4, c5⟩ | ⟨c3, c4⟩
        · omega
        · refine W.alen (n := Int32.ofInt (am_len shp slen hd i)) (ty := am_aty (shp i)) hx hb c4 ((hG.2.1 (shp i) (by omega)).1 _ _) ?_ rfl rfl hdg hw
          rw [arrV_size, hle]
          exact (Int32.ofInt_eq_ofNat).symm
end SK
