/-! SOUNDNESS of the small machine, 8: each checked step -/
def am_Tg : List Cond := lw_tbl.filter goodWord
theorem am_Tg_in {w : Cond} (h : w ∈ lw_tbl) (hb : goodWord w = true) : w ∈ am_Tg := List.mem_filter.mpr ⟨h, hb⟩
theorem am_Tg_good {w : Cond} (h : w ∈ am_Tg) : (w.onTables && w.keeps) = true ∨ ∃ ty, w = .arrayClass ty := good_of_word (List.mem_filter.mp h).2
def am_wsM (m : Nat) : List Cond := Cond.code (am_mN m) (am_mB m) (am_mL m) (am_mR m) :: am_Tg
def am_rm (d m : Nat) : Room := { frames := d, cells := am_mK m, slots := am_mS m, locals := 64 * d }
theorem am_Ms_in {m : Nat} (h : m < 313) : m ∈ am_Ms := by
  rw [am_Ms_eq]
  exact List.mem_range.mpr h
theorem am_code_in {m : Nat} (h : m < 313) : Cond.code (am_mN m) (am_mB m) (am_mL m) (am_mR m) ∈ am_Tg := am_Tg_in (am_w0_in m (am_Ms_in h)) rfl
theorem am_goodIn {m : Nat} (h : m < 313) : GoodIn am_Tg (am_wsM m) := by
  intro w hw
  have : w ∈ am_Tg := by
    rcases List.mem_cons.mp hw with rfl | hw
    · exact am_code_in h
    · exact hw
  exact ⟨this, am_Tg_good this⟩
theorem am_mfacts {m : Nat} (h : m < 313) : (am_mN m).cls = am_ON (am_mO m) ∧ plainName (am_mN m).cls = true ∧ ((am_mN m).cls ≠ "java/lang/invoke/MethodHandle" ∧ (am_mN m).cls ≠ "java/lang/invoke/VarHandle") ∧ ((parseMethodDescriptor (am_mN m).desc).map (fun d => d.parameters.length) = some (am_mP m)) ∧ am_mL m ≤ 40 ∧ ((am_mF m = 2) ↔ (am_mN m).name = "<init>") := by
  have := List.all_eq_true.mp am_mok_all m (am_Ms_in h)
  unfold am_mok at this
  simp only [Bool.and_eq_true, bne_iff_ne, ne_eq, beq_iff_eq, decide_eq_true_eq] at this
  obtain ⟨⟨⟨⟨⟨h1, h2⟩, h3⟩, h4⟩, h5⟩, h6⟩ := this
  refine ⟨h1, h2, h3, h4, h5, ?_⟩
  constructor
  · intro q
    rw [q] at h6
    simpa using h6.symm
  · intro q
    rw [q] at h6
    simpa using h6
/-- what isn't among the good words -/
def am_GX (ρ : Nat → Nat) (s : State) : Prop :=
  (∀ e ∈ am_mT, e.2.2.2 ≠ 0 → va_Nw (.methodLinkNest (am_ON e.1) e.2.1 (am_mN e.2.2.1) "OnlyLent") s) ∧
  (∀ e ∈ am_sT, vk_R (am_ON e.1) e.2.1 (am_strL.getD e.2.2 "") (ρ e.2.2) s) ∧
  va_Nw (.arrayOver (.object "OnlyLent$Holdings")) s ∧ va_Nw (.arrayOver (.object "java/lang/String")) s ∧ va_Nw (.arrayOver (.array .int)) s
theorem am_AO.warm {ty : FieldType} {s U : State} (hW : s.WarmedH U.vm) (h : va_Nw (.arrayOver ty) s) : va_Nw (.arrayOver ty) U :=
  (show (Cond.arrayOver ty).before #[] (s.setVm U.vm) = true from (Cond.arrayOver_setVmC (args := #[]) hW.alike ty).trans h)
theorem am_AO.same {ty : FieldType} {s U : State} (hW : U.vm = s.vm) (h : va_Nw (.arrayOver ty) s) : va_Nw (.arrayOver ty) U := by
  show (Cond.arrayOver ty).before #[] (s.setVm U.vm) = true
  rw [hW]
  exact h
theorem am_GX.warm {ρ : Nat → Nat} {s U : State} (hW : s.WarmedH U.vm) (h : am_GX ρ s) : am_GX ρ U :=
  ⟨fun e he h0 => (h.1 e he h0).warmM hW, fun e he => (h.2.1 e he).warm hW, am_AO.warm hW h.2.2.1, am_AO.warm hW h.2.2.2.1, am_AO.warm hW h.2.2.2.2⟩
theorem am_GX.same {ρ : Nat → Nat} {s U : State} (hW : U.vm = s.vm) (h : am_GX ρ s) : am_GX ρ U :=
  ⟨fun e he h0 => (h.1 e he h0).same rfl hW.symm, fun e he => (h.2.1 e he).same hW, am_AO.same hW h.2.2.1, am_AO.same hW h.2.2.2.1, am_AO.same hW h.2.2.2.2⟩
theorem am_h3_mem {l : List (Nat × Nat × Nat)} {a b c : Nat} (h : am_h3 l a b c = true) : (a, b, c) ∈ l := by
  unfold am_h3 at h
  obtain ⟨⟨x, y, z⟩, h1, h2⟩ := List.any_eq_true.mp h
  simp only [Bool.and_eq_true, beq_iff_eq] at h2
  obtain ⟨rfl, rfl, rfl⟩ := h2
  exact h1
theorem am_hi_mem {l : List (Nat × Nat × Int)} {a b : Nat} {c : Int} (h : am_hi l a b c = true) : (a, b, c) ∈ l := by
  unfold am_hi at h
  obtain ⟨⟨x, y, z⟩, h1, h2⟩ := List.any_eq_true.mp h
  simp only [Bool.and_eq_true, beq_iff_eq] at h2
  obtain ⟨rfl, rfl, rfl⟩ := h2
  exact h1
theorem am_h4_mem {l : List (Nat × Nat × Nat × Nat)} {a b c d : Nat} (h : am_h4 l a b c d = true) : (a, b, c, d) ∈ l := by
  unfold am_h4 at h
  obtain ⟨⟨x, y, z, w⟩, h1, h2⟩ := List.any_eq_true.mp h
  simp only [Bool.and_eq_true, beq_iff_eq] at h2
  obtain ⟨⟨rfl, rfl⟩, rfl, rfl⟩ := h2
  exact h1
/-- the oracle of calls, at depth d -/
def am_Pc (D : va_G) (AC : Nat → ClassId) (ρ : Nat → Nat) (B0 : Nat) (H00 : Heap) (hr0 : amR) (hd0 : amD) (as : List amV) (hr : amR) (hd : amD) (n : Nat) : Array Value → State → Prop := fun v U =>
  v = (as.map (am_enc ρ)).toArray ∧ (∀ a ∈ as, am_can a) ∧ am_H am_shp am_slen am_fk vwCl D AC ρ B0 H00 hr0 hd0 hr hd n U.heap ∧ am_GW am_slen vwCl D AC ρ B0 H00 hr0 hd0 U ∧ am_GX ρ U
def am_Qc (D : va_G) (AC : Nat → ClassId) (ρ : Nat → Nat) (B0 : Nat) (H00 : Heap) (hr0 : amR) (hd0 : amD) (Q : amQ) : Array Value → State → Outcome → State → Prop := fun _ _ oc t =>
  ∃ (v : Option amV) (hr : amR) (hd : amD) (n : Nat), oc = .returned (v.map (am_enc ρ)) ∧ (∀ w, v = some w → am_can w) ∧ am_H am_shp am_slen am_fk vwCl D AC ρ B0 H00 hr0 hd0 hr hd n t.heap ∧ Q v hr hd n
def am_Or (D : va_G) (AC : Nat → ClassId) (ρ : Nat → Nat) (B0 : Nat) (H00 : Heap) (hr0 : amR) (hd0 : amD) (l : Launch) (d : Nat) (O : amO) : Prop := ∀ m as Q hr hd n, m < 313 → O m as Q hr hd n →
  Met l (am_mN m) (am_wsM m) (am_rm d m) (am_Pc D AC ρ B0 H00 hr0 hd0 as hr hd n) (am_Qc D AC ρ B0 H00 hr0 hd0 Q) (am_mK m) (am_mS m) (fun q => B0 ≤ q)
section SO
variable {D : va_G} {AC : Nat → ClassId} {ρ : Nat → Nat} {B0 : Nat} {H00 : Heap} {hr0 : amR} {hd0 : amD}
variable {p : Program} {l : Launch} {e : Env} {R : Room} {s : State} {m : MethodId} {args : Array Value} {below : List Frame} {meth : Method} {c : Code} {Qf : State → Prop} {nL : Nat} {cc : ByteArray} {pc pc' : Nat}
theorem am_recv_of : ∀ (st : List amV) (na : Nat) (v : amV), 1 ≤ na → na ≤ st.length → am_get st (na - 1) = v → (st.take na).reverse = v :: (st.take (na - 1)).reverse
  | [], na, v, h1, h2, _ => by simp at h2; omega
  | a :: t, 1, v, _, _, h => by simp [am_get] at h; simp [h]
  | a :: t, na + 2, v, _, h2, h => by
    have := am_recv_of t (na + 1) v (by omega) (by simp at h2; omega) h
    simp only [List.take_succ_cons, List.reverse_cons] at this ⊢
    rw [show na + 2 - 1 = na + 1 from rfl, List.take_succ_cons, List.reverse_cons, this]
    simp
theorem am_recv_spec {shp : Nat → Nat} {n : Nat} {st : List amV} {na rc : Nat} (h : am_recv shp n st na (rc + 1)) : ∃ i, am_get st (na - 1) = vR i ∧ i < n ∧ shp i = 100 + rc := by
  have h : (match am_get st (na - 1) with
    | .inr (.inr (.inl i)) => i < n ∧ shp i = 100 + rc
    | _ => False) := h
  generalize am_get st (na - 1) = v at h ⊢
  match v, h with
  | .inr (.inr (.inl i)), h => exact ⟨i, rfl, h⟩
theorem am_nth (st : List amV) (na : Nat) : st.map (am_enc ρ) = ((((st.take na).reverse).map (am_enc ρ)).reverse) ++ (st.drop na).map (am_enc ρ) := by
  rw [← List.map_reverse, List.reverse_reverse, ← List.map_append, List.take_append_drop]
theorem am_Pc_blind {as : List amV} {hr : amR} {hd : amD} {n : Nat} : FrameBlind (am_Pc D AC ρ B0 H00 hr0 hd0 as hr hd n) := by
  intro a U g mk h
  obtain ⟨h1, h2, h3, h4, h5⟩ := h
  exact ⟨h1, h2, h3, am_GW.moved (u := U) (U := U.calling g mk a) (Vm.Alike.refl U.vm) h4, am_GX.same (s := U) (U := U.calling g mk a) rfl h5⟩
/-- behind a call -/
theorem am_back {na km sm : Nat} {Q : amP} {ls st : List amV} {u us : Nat} {lsR : Array Slot} {H : Heap} {locs : List Loc} {a : Array Value}
    (h : am_WS am_shp am_slen am_fk vwCl D AC ρ B0 H00 hr0 hd0 p l e R s m args below meth c Qf nL (pc + 3) Q) (hL : am_Lo ρ nL lsR ls) (hC : ∀ v ∈ st, am_can v) (hl : ∀ q ∈ locs, B0 ≤ q.base)
    (hr9 : va_Run p l e R s m args below meth c H locs u us km sm (F0 m pc lsR (st.map (am_enc ρ))) ((st.drop na).map (am_enc ρ)) (am_Qc D AC ρ B0 H00 hr0 hd0 (fun v hr hd n => Q ls (am_push v (st.drop na)) hr hd n (u + km) (us + sm)) a) (fun q => B0 ≤ q)) :
    W p l e R s m args below meth c H locs u us Qf (F0 m pc lsR (st.map (am_enc ρ))) := by
  intro T hT X
  obtain ⟨v, st₀, t, T', L, h0, X', hLL, e1, e2, ⟨w, hr', hd', n', g1, g2, g3, g4⟩, stp⟩ := hr9 T hT X
  cases g1
  have hw := h ls (am_push w (st.drop na)) hr' hd' n' _ _ g4 lsR T'.heap (locs ++ L) hL (fun x hx => by
    cases w with
    | none => exact hC x (List.mem_of_mem_drop hx)
    | some w =>
      rcases List.mem_cons.mp hx with rfl | hx
      · exact g2 _ rfl
      · exact hC x (List.mem_of_mem_drop hx)) (by rw [e1]; exact g3) (fun q hq => by
    rcases List.mem_append.mp hq with hq | hq
    · exact hl q hq
    · exact hLL q hq)
  obtain ⟨t2, a1, b1⟩ := hw T' rfl X'
  refine ⟨t2, stp t2 ?_, b1⟩
  cases w with
  | none => exact a1
  | some w => exact a1
theorem am_find {mm : Nat} {q : amM} (h : am_ML[mm]? = some q) : am_mN mm = q.1 ∧ am_mB mm = q.2.1 ∧ am_mL mm = q.2.2.1 ∧ am_mR mm = q.2.2.2.1 ∧ am_mO mm = q.2.2.2.2.1 ∧ am_mK mm = q.2.2.2.2.2.1 ∧ am_mS mm = q.2.2.2.2.2.2.1 ∧ am_mF mm = q.2.2.2.2.2.2.2.1 ∧ am_mP mm = q.2.2.2.2.2.2.2.2 := by
  unfold am_mN am_mB am_mL am_mR am_mO am_mK am_mS am_mF am_mP
  rw [h]
  exact ⟨rfl, rfl, rfl, rfl, rfl, rfl, rfl, rfl, rfl⟩
theorem ws_call {o mm na rc idx d k9 : Nat} {O : amO} (hx : p.tables.exec = Jvm.exec) (hb : c.code = cc) (hml : c.maxLocals = nL) (hown : s.vm.findClass (am_ON o) = some m.cls) (hts : ∀ w ∈ am_Tg, w.before args s = true) (hF : am_fix am_shp am_fk vwCl ρ B0 am_Tg) (hG : am_GW am_slen vwCl D AC ρ B0 H00 hr0 hd0 s) (hX : am_GX ρ s)
    (hRd : d + 1 ≤ R.frames ∧ 64 * (d + 1) ≤ R.locals) (hO : am_Or D AC ρ B0 H00 hr0 hd0 l d O) (hmm : mm < 313) (hlk : (o, idx, mm, k9) ∈ am_mT)
    (hkind : (am_mF mm = 0 ∧ na = am_mP mm + 1 ∧ rc = am_mO mm + 1 ∧ decode cc pc = .ok (.invokevirtual idx, 3)) ∨ (am_mF mm = 1 ∧ na = am_mP mm ∧ rc = 0 ∧ decode cc pc = .ok (.invokestatic idx, 3)) ∨ (am_mF mm = 2 ∧ na = am_mP mm + 1 ∧ rc = am_mO mm + 1 ∧ am_mR mm = none ∧ decode cc pc = .ok (.invokespecial idx, 3))) {Q : amP}
    (hcl : am_mF mm ≠ 1 → ∀ i, am_shp i = 100 + am_mO mm → ∀ hr hd n H, am_H am_shp am_slen am_fk vwCl D AC ρ B0 H00 hr0 hd0 hr hd n H → i < n → i ≠ 0 ∧ ∃ cell : Cell, H[ρ i]? = some cell ∧ cell.vm.isStatics = false ∧ s.vm.findClass (am_ON (am_mO mm)) = some cell.cls)
    (h : am_WS am_shp am_slen am_fk vwCl D AC ρ B0 H00 hr0 hd0 p l e R s m args below meth c Qf nL (pc + 3) Q) :
    am_WS am_shp am_slen am_fk vwCl D AC ρ B0 H00 hr0 hd0 p l e R s m args below meth c Qf nL pc (am_call am_shp O R.cells R.slots mm na rc (am_mK mm) (am_mS mm) Q) := by
  intro ls st hr hd n u us hQ lsR H locs hL hC hH hl
  obtain ⟨⟨q1, q2⟩, q3, q4, hQ⟩ := hQ
  have hM := hO mm _ _ hr hd n hmm hQ
  obtain ⟨f1, f2, f3, f4, f5, f6⟩ := am_mfacts hmm
  have hcodeI := am_code_in hmm
  have hcode := hts _ hcodeI
  have hini : (Cond.initialized (am_mN mm).cls).before args s = true := hts _ (am_Tg_in (am_w1_in mm (am_Ms_in hmm)) rfl)
  have hw2 := am_w2_in mm (am_Ms_in hmm)
  have hfr : (am_rm d mm).frames + 1 ≤ R.frames ∧ 8 + (am_mL mm + 11) + (am_rm d mm).locals ≤ R.locals := ⟨hRd.1, by show 8 + (am_mL mm + 11) + 64 * d ≤ _; omega⟩
  have hws : ∀ w ∈ am_wsM mm, ∀ (a' : Array Value) (U : State), s.WarmedH U.vm → w.before a' U = true := pay_in hts (am_goodIn hmm)
  have hcw : Cond.code (am_mN mm) (am_mB mm) (am_mL mm) (am_mR mm) ∈ am_wsM mm := List.mem_cons_self
  have hlen : ∀ sig, parseMethodDescriptor (am_mN mm).desc = some sig → am_mP mm = sig.parameters.length := by
    intro sig hs
    rw [hs] at f4
    exact (Option.some.inj f4).symm
  have hFix : CallFix p m c cc nL s args am_Tg (am_ON o) := ⟨hx, hb, hml, hown, hts⟩
  have hPS : ∀ U : State, U.heap = H → s.WarmedH U.vm → am_Pc D AC ρ B0 H00 hr0 hd0 ((st.take na).reverse) hr hd n ((((st.take na).reverse).map (am_enc ρ)).toArray) U := by
    intro U hU hW
    refine ⟨rfl, fun a ha => ?_, by rw [hU]; exact hH, hG.moved hW.alike, hX.warm hW⟩
    exact hC a (List.mem_of_mem_take (List.mem_reverse.mp ha))
  have hcat : 2 * (F0 m pc lsR (st.map (am_enc ρ))).monitorRoom + (((st.drop na).map (am_enc ρ)).map fun v => v.category).sum ≤ 8 := lv_room (by rw [am_cats_enc _ (fun v hv => hC v (List.mem_of_mem_drop hv))]; exact q2)
  refine am_back (na := na) (km := am_mK mm) (sm := am_mS mm) (a := (((st.take na).reverse).map (am_enc ρ)).toArray) h hL hC hl ?_
  have hlink0 : k9 = 0 → (Cond.methodLink (am_ON o) idx (am_mN mm)).before args s = true := by
    intro h0
    subst h0
    exact hts _ (am_Tg_in (am_mT_in _ hlk) rfl)
  have hlink1 : k9 ≠ 0 → (Cond.methodLinkNest (am_ON o) idx (am_mN mm) "OnlyLent").before args s = true := fun h0 => va_Nw.use rfl (hX.1 _ hlk h0)
  rcases hkind with ⟨g1, g2, g3, g4⟩ | ⟨g1, g2, g3, g4⟩ | ⟨g1, g2, g3, g5, g4⟩
  · have hinst : (Cond.instanceMethod (am_mN mm)).before args s = true := by
      rw [if_neg (by omega)] at hw2
      exact hts _ (am_Tg_in hw2 rfl)
    have hsel : (Cond.selects (am_mN mm).cls (am_mN mm) (am_mN mm)).before args s = true := hts _ (am_Tg_in (am_w3_in mm (am_Ms_in hmm) g1) rfl)
    rw [g3] at q4
    obtain ⟨i, hgv, q4⟩ := am_recv_spec q4
    · skip
      obtain ⟨hi0, cell, r1, r2, r3⟩ := hcl (by omega) i q4.2 hr hd n H hH q4.1
      have hsp := am_recv_of st na (vR i) (by omega) q1 hgv
      have hst : st.map (am_enc ρ) = ((((st.take (na - 1)).reverse).map (am_enc ρ)).reverse) ++ .ref (ρ i) :: (st.drop na).map (am_enc ρ) := by
        rw [am_nth (ρ := ρ) st na, hsp, List.map_cons, List.reverse_cons, am_refN hi0]
        simp
      have hAs : (((st.take na).reverse).map (am_enc ρ)).toArray = (Value.ref (ρ i) :: (((st.take (na - 1)).reverse).map (am_enc ρ))).toArray := by
        rw [hsp, List.map_cons, am_refN hi0]
      have hna : (((st.take (na - 1)).reverse).map (am_enc ρ)).length = am_mP mm := by
        simp
        omega
      rw [hAs] at hPS ⊢
      by_cases h9 : k9 = 0
      · exact va_runV (C := (am_mN mm).cls) hFix hM ⟨⟨rfl, rfl, hfr.1, hfr.2, hws, hcw, hcode, hini, f3, hlen, hlink0 h9⟩, hinst, hsel⟩ ⟨am_Pc_blind, ⟨cell, r1, r2, by rw [f1]; exact r3⟩, hPS⟩ rfl hna hL.1 hst hcat g4 q3
      · exact va_runVN (C := (am_mN mm).cls) (host := "OnlyLent") hFix hM ⟨⟨⟨rfl, rfl, hfr.1, hfr.2, hws, hcw⟩, hcode, hini, f3, hlen, hlink1 h9⟩, hinst, hsel⟩ ⟨am_Pc_blind, ⟨cell, r1, r2, by rw [f1]; exact r3⟩, hPS⟩ rfl hna hL.1 hst hcat g4 q3
  · have hstat : (Cond.static (am_mN mm)).before args s = true := by
      rw [if_pos g1] at hw2
      exact hts _ (am_Tg_in hw2 rfl)
    have hna : (((st.take na).reverse).map (am_enc ρ)).length = am_mP mm := by
      simp
      omega
    by_cases h9 : k9 = 0
    · exact va_runS hFix hM ⟨⟨rfl, rfl, hfr.1, hfr.2, hws, hcw, hcode, hini, f3, hlen, hlink0 h9⟩, hstat⟩ ⟨am_Pc_blind, hPS⟩ rfl hna hL.1 (am_nth st na) hcat g4 q3
    · exact va_runSN (host := "OnlyLent") hFix hM ⟨⟨⟨rfl, rfl, hfr.1, hfr.2, hws, hcw⟩, hcode, hini, f3, hlen, hlink1 h9⟩, hstat, trivial⟩ ⟨am_Pc_blind, hPS⟩ rfl hna hL.1 (am_nth st na) hcat g4 q3
  · have hinst : (Cond.instanceMethod (am_mN mm)).before args s = true := by
      rw [if_neg (by omega)] at hw2
      exact hts _ (am_Tg_in hw2 rfl)
    have hy1 : (am_mN mm).name = "<init>" := f6.mp g1
    rw [g3] at q4
    obtain ⟨i, hgv, q4⟩ := am_recv_spec q4
    · skip
      obtain ⟨hi0, cell, r1, r2, r3⟩ := hcl (by omega) i q4.2 hr hd n H hH q4.1
      have hsp := am_recv_of st na (vR i) (by omega) q1 hgv
      have hst : st.map (am_enc ρ) = ((((st.take (na - 1)).reverse).map (am_enc ρ)).reverse) ++ .ref (ρ i) :: (st.drop na).map (am_enc ρ) := by
        rw [am_nth (ρ := ρ) st na, hsp, List.map_cons, List.reverse_cons, am_refN hi0]
        simp
      have hAs : (((st.take na).reverse).map (am_enc ρ)).toArray = (Value.ref (ρ i) :: (((st.take (na - 1)).reverse).map (am_enc ρ))).toArray := by
        rw [hsp, List.map_cons, am_refN hi0]
      have hna : (((st.take (na - 1)).reverse).map (am_enc ρ)).length = am_mP mm := by
        simp
        omega
      rw [hAs] at hPS ⊢
      rw [g5] at hcode hcw
      by_cases h9 : k9 = 0
      · exact va_runI hFix hM ⟨⟨rfl, rfl, hfr.1, hfr.2, hws, hcw, hcode, hini, f3, hlen, hlink0 h9⟩, hy1, hinst⟩ ⟨am_Pc_blind, hPS⟩ rfl hna hL.1 hst hcat g4 q3
      · exact va_runIN (host := "OnlyLent") hFix hM ⟨⟨⟨rfl, rfl, hfr.1, hfr.2, hws, hcw⟩, hcode, hini, f3, hlen, hlink1 h9⟩, hy1, hinst⟩ ⟨am_Pc_blind, hPS⟩ rfl hna hL.1 hst hcat g4 q3
end SO
