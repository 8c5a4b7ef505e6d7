/-! SOUNDNESS of the small machine, 9: a checked tree -/
section TR
variable {D : va_G} {AC : Nat → ClassId} {ρ : Nat → Nat} {B0 : Nat} {H00 : Heap} {hr0 : amR} {hd0 : amD}
variable {p : Program} {l : Launch} {e : Env} {R : Room} {s : State} {m : MethodId} {args : Array Value} {below : List Frame} {meth : Method} {c : Code} {Qf : State → Prop} {nL : Nat} {cc : ByteArray} {pc pc' : Nat}
theorem wt_c1 {tgt pf : Nat} {P : Int → Prop} {P' : Int32 → Prop} {Qt Qe : amP} (hp : ∀ a, in32 a → (P' (Int32.ofInt a) ↔ P a))
    (hrow : ∀ (x : Int32) (lsR : Array Slot) (H : Heap) (locs : List Loc) (u us : Nat) (rest : List Value), (P' x → W p l e R s m args below meth c H locs u us Qf (F0 m tgt lsR rest)) → (¬ P' x → W p l e R s m args below meth c H locs u us Qf (F0 m pf lsR rest)) → W p l e R s m args below meth c H locs u us Qf (F0 m pc lsR (.int x :: rest)))
    (ht : am_WS am_shp am_slen am_fk vwCl D AC ρ B0 H00 hr0 hd0 p l e R s m args below meth c Qf nL tgt Qt) (hf : am_WS am_shp am_slen am_fk vwCl D AC ρ B0 H00 hr0 hd0 p l e R s m args below meth c Qf nL pf Qe) : am_WS am_shp am_slen am_fk vwCl D AC ρ B0 H00 hr0 hd0 p l e R s m args below meth c Qf nL pc (am_c1 P Qt Qe) := by
  intro ls st hr hd n u us hQ lsR H locs hL hC hH hl
  match st, hQ, hC with
  | .inl x :: t, hQ, hC =>
    have hx : in32 x := hC (vI x) (by simp)
    have hC' : ∀ v ∈ t, am_can v := fun v hv => hC v (by simp [hv])
    refine hrow _ _ _ _ _ _ _ (fun h => ?_) (fun h => ?_)
    · exact ht ls t hr hd n u us (hQ.1 ((hp x hx).mp h)) lsR H locs hL hC' hH hl
    · exact hf ls t hr hd n u us (hQ.2 (fun q => h ((hp x hx).mpr q))) lsR H locs hL hC' hH hl
theorem wt_c2 {tgt pf : Nat} {P : Int → Int → Prop} {P' : Int32 → Int32 → Prop} {Qt Qe : amP} (hp : ∀ a b, in32 a → in32 b → (P' (Int32.ofInt a) (Int32.ofInt b) ↔ P a b))
    (hrow : ∀ (x y : Int32) (lsR : Array Slot) (H : Heap) (locs : List Loc) (u us : Nat) (rest : List Value), (P' x y → W p l e R s m args below meth c H locs u us Qf (F0 m tgt lsR rest)) → (¬ P' x y → W p l e R s m args below meth c H locs u us Qf (F0 m pf lsR rest)) → W p l e R s m args below meth c H locs u us Qf (F0 m pc lsR (.int y :: .int x :: rest)))
    (ht : am_WS am_shp am_slen am_fk vwCl D AC ρ B0 H00 hr0 hd0 p l e R s m args below meth c Qf nL tgt Qt) (hf : am_WS am_shp am_slen am_fk vwCl D AC ρ B0 H00 hr0 hd0 p l e R s m args below meth c Qf nL pf Qe) : am_WS am_shp am_slen am_fk vwCl D AC ρ B0 H00 hr0 hd0 p l e R s m args below meth c Qf nL pc (am_c2 P Qt Qe) := by
  intro ls st hr hd n u us hQ lsR H locs hL hC hH hl
  match st, hQ, hC with
  | .inl y :: .inl x :: t, hQ, hC =>
    have hy : in32 y := hC (vI y) (by simp)
    have hx : in32 x := hC (vI x) (by simp)
    have hC' : ∀ v ∈ t, am_can v := fun v hv => hC v (by simp [hv])
    refine hrow _ _ _ _ _ _ _ _ (fun h => ?_) (fun h => ?_)
    · exact ht ls t hr hd n u us (hQ.1 ((hp x y hx hy).mp h)) lsR H locs hL hC' hH hl
    · exact hf ls t hr hd n u us (hQ.2 (fun q => h ((hp x y hx hy).mpr q))) lsR H locs hL hC' hH hl
theorem wt_cn {tn tf : Nat} {Qn Qe : amP}
    (hrowN : ∀ (lsR : Array Slot) (H : Heap) (locs : List Loc) (u us : Nat) (rest : List Value), W p l e R s m args below meth c H locs u us Qf (F0 m tn lsR rest) → W p l e R s m args below meth c H locs u us Qf (F0 m pc lsR (.null :: rest)))
    (hrow : ∀ (x : Nat) (lsR : Array Slot) (H : Heap) (locs : List Loc) (u us : Nat) (rest : List Value), W p l e R s m args below meth c H locs u us Qf (F0 m tf lsR rest) → W p l e R s m args below meth c H locs u us Qf (F0 m pc lsR (.ref x :: rest)))
    (hn : am_WS am_shp am_slen am_fk vwCl D AC ρ B0 H00 hr0 hd0 p l e R s m args below meth c Qf nL tn Qn) (hf : am_WS am_shp am_slen am_fk vwCl D AC ρ B0 H00 hr0 hd0 p l e R s m args below meth c Qf nL tf Qe) : am_WS am_shp am_slen am_fk vwCl D AC ρ B0 H00 hr0 hd0 p l e R s m args below meth c Qf nL pc (am_cn Qn Qe) := by
  intro ls st hr hd n u us hQ lsR H locs hL hC hH hl
  match st, hQ, hC with
  | .inr (.inr (.inl i)) :: t, hQ, hC =>
    have hC' : ∀ v ∈ t, am_can v := fun v hv => hC v (by simp [hv])
    by_cases h0 : i = 0
    · subst h0
      exact hrowN _ _ _ _ _ _ (hn ls t hr hd n u us (hQ.1 rfl) lsR H locs hL hC' hH hl)
    · rw [List.map_cons, am_refN h0]
      exact hrow _ _ _ _ _ _ _ (hf ls t hr hd n u us (hQ.2 h0) lsR H locs hL hC' hH hl)
theorem am_tgt_spec {labels : List Nat} {k : Nat} {d : Int} (h : am_tgt labels pc d k = true) : ∃ t, labels[k]? = some t ∧ (pc : Int) + d = (t : Int) := by
  unfold am_tgt at h
  split at h
  · rename_i t ht
    exact ⟨t, ht, by simpa using h⟩
  · cases h
theorem ws_jump {i : Instr} {d : Int} {tgt : Nat} {Qt Qe : amP} (hx : p.tables.exec = Jvm.exec) (hb : c.code = cc) (hdg : decode cc pc = .ok (i, 3)) (ho : am_off i = some d) (htg : (pc : Int) + d = (tgt : Int))
    (ht : am_WS am_shp am_slen am_fk vwCl D AC ρ B0 H00 hr0 hd0 p l e R s m args below meth c Qf nL tgt Qt) (hf : am_WS am_shp am_slen am_fk vwCl D AC ρ B0 H00 hr0 hd0 p l e R s m args below meth c Qf nL (pc + 3) Qe) : am_WS am_shp am_slen am_fk vwCl D AC ρ B0 H00 hr0 hd0 p l e R s m args below meth c Qf nL pc (wpJ i Qt Qe) := by
  unfold am_off at ho
  split at ho
  · cases ho
    intro ls st hr hd n u us hQ lsR H locs hL hC hH hl
    exact lv_goto hx hb hdg htg (ht ls st hr hd n u us hQ lsR H locs hL hC hH hl)
  · rename_i cnd d'
    cases ho
    cases cnd
    · exact wt_c1 (P' := fun x => x = 0) (fun a h => ofInt_eq0 h) (fun x lsR H locs u us rest k1 k2 => lv_if_eq hx hb hdg htg k1 k2) ht hf
    · exact wt_c1 (P' := fun x => ¬ x = 0) (fun a h => not_congr (ofInt_eq0 h)) (fun x lsR H locs u us rest k1 k2 => lv_if_ne hx hb hdg htg k1 (fun q => k2 (fun z => z q))) ht hf
    · exact wt_c1 (P' := fun x => x < 0) (fun a h => ofInt_lt0 h) (fun x lsR H locs u us rest k1 k2 => lv_if_lt hx hb hdg htg k1 k2) ht hf
    · exact wt_c1 (P' := fun x => 0 ≤ x) (fun a h => ofInt_ge0 h) (fun x lsR H locs u us rest k1 k2 => lv_if_ge hx hb hdg htg k1 k2) ht hf
    · exact wt_c1 (P' := fun x => 0 < x) (fun a h => ofInt_gt0 h) (fun x lsR H locs u us rest k1 k2 => lv_if_gt hx hb hdg htg k1 k2) ht hf
    · exact wt_c1 (P' := fun x => x ≤ 0) (fun a h => ofInt_le0 h) (fun x lsR H locs u us rest k1 k2 => lv_if_le hx hb hdg htg k1 k2) ht hf
  · rename_i cnd d'
    cases ho
    cases cnd
    · exact wt_c2 (P' := fun x y => x = y) (fun a b h h' => ofInt_eq h h') (fun x y lsR H locs u us rest k1 k2 => lv_icmp_eq hx hb hdg htg k1 k2) ht hf
    · exact wt_c2 (P' := fun x y => ¬ x = y) (fun a b h h' => not_congr (ofInt_eq h h')) (fun x y lsR H locs u us rest k1 k2 => lv_icmp_ne hx hb hdg htg k1 (fun q => k2 (fun z => z q))) ht hf
    · exact wt_c2 (P' := fun x y => x < y) (fun a b h h' => ofInt_lt h h') (fun x y lsR H locs u us rest k1 k2 => lv_icmp_lt hx hb hdg htg k1 k2) ht hf
    · exact wt_c2 (P' := fun x y => y ≤ x) (fun a b h h' => ofInt_le h' h) (fun x y lsR H locs u us rest k1 k2 => lv_icmp_ge hx hb hdg htg k1 k2) ht hf
    · exact wt_c2 (P' := fun x y => y < x) (fun a b h h' => ofInt_lt h' h) (fun x y lsR H locs u us rest k1 k2 => lv_icmp_gt hx hb hdg htg k1 k2) ht hf
    · exact wt_c2 (P' := fun x y => x ≤ y) (fun a b h h' => ofInt_le h h') (fun x y lsR H locs u us rest k1 k2 => lv_icmp_le hx hb hdg htg k1 k2) ht hf
  · cases ho
    exact wt_cn (fun lsR H locs u us rest k1 => lv_ifnullN hx hb hdg htg k1) (fun x lsR H locs u us rest k1 => lv_ifnull hx hb hdg k1) ht hf
  · cases ho
    exact wt_cn (fun lsR H locs u us rest k1 => lv_ifnonnullN hx hb hdg k1) (fun x lsR H locs u us rest k1 => lv_ifnonnull hx hb hdg htg k1) hf ht
  · cases ho
theorem am_swT_spec {labels : List Nat} {Qb : Nat → amP} {dd : Nat} {x : Int} {ls st : List amV} {hr : amR} {hd : amD} {n u us : Nat} : ∀ (ds : List Int) (v : Int) (cs : List (Int × Nat)), am_swT labels pc ds v cs = true → am_sw Qb dd cs x ls st hr hd n u us →
    ds.length = cs.length ∧ ((∃ (j : Nat) (off : Int) (tgt k : Nat), j < ds.length ∧ x = v + (j : Int) ∧ ds[j]? = some off ∧ labels[k]? = some tgt ∧ (pc : Int) + off = (tgt : Int) ∧ Qb k ls st hr hd n u us) ∨ ((x < v ∨ v + (ds.length : Int) ≤ x) ∧ Qb dd ls st hr hd n u us))
  | [], v, [], _, h => ⟨rfl, Or.inr ⟨by simp; omega, h⟩⟩
  | [], v, _ :: _, h, _ => by cases h
  | _ :: _, v, [], h, _ => by cases h
  | d :: ds, v, (w, k) :: cs, h, hs => by
    simp only [am_swT, Bool.and_eq_true, beq_iff_eq] at h
    obtain ⟨⟨rfl, h2⟩, h3⟩ := h
    have hs : (x = v → Qb k ls st hr hd n u us) ∧ (¬ x = v → am_sw Qb dd cs x ls st hr hd n u us) := hs
    by_cases hxv : x = v
    · obtain ⟨tgt, t1, t2⟩ := am_tgt_spec h2
      refine ⟨?_, Or.inl ⟨0, d, tgt, k, by simp, by simp [hxv], rfl, t1, t2, hs.1 hxv⟩⟩
      have : ∀ (ds : List Int) (v : Int) (cs : List (Int × Nat)), am_swT labels pc ds v cs = true → ds.length = cs.length := by
        intro ds
        induction ds with
        | nil => intro v cs h; cases cs with
          | nil => rfl
          | cons _ _ => cases h
        | cons a ds ih => intro v cs h; cases cs with
          | nil => cases h
          | cons b cs =>
            obtain ⟨w, k⟩ := b
            simp only [am_swT, Bool.and_eq_true] at h
            simp [ih _ _ h.2]
      simp [this _ _ _ h3]
    · obtain ⟨l1, l2⟩ := am_swT_spec ds (v + 1) cs h3 (hs.2 hxv)
      refine ⟨by simp [l1], ?_⟩
      rcases l2 with ⟨j, off, tgt, k', j1, j2, j3, j4, j5, j6⟩ | ⟨j1, j2⟩
      · exact Or.inl ⟨j + 1, off, tgt, k', by simp; omega, by push_cast; omega, by simpa using j3, j4, j5, j6⟩
      · refine Or.inr ⟨?_, j2⟩
        simp only [List.length_cons]
        push_cast
        omega
theorem am_swP_spec {labels : List Nat} {Qb : Nat → amP} {dd : Nat} {df x : Int} {ls st : List amV} {hr : amR} {hd : amD} {n u us : Nat} (hd0 : am_tgt labels pc df dd = true) : ∀ (ds : List (Int × Int)) (cs : List (Int × Nat)), am_swP labels pc ds cs = true → am_sw Qb dd cs x ls st hr hd n u us →
    ∃ (tgt k : Nat), labels[k]? = some tgt ∧ (pc : Int) + Op.lookupswitch.offset ds df x = (tgt : Int) ∧ Qb k ls st hr hd n u us
  | [], [], _, h => by
    obtain ⟨tgt, t1, t2⟩ := am_tgt_spec hd0
    exact ⟨tgt, dd, t1, by rw [Op.lookupswitch.offset_nil]; exact t2, h⟩
  | [], _ :: _, h, _ => by cases h
  | _ :: _, [], h, _ => by cases h
  | (v, d) :: ds, (w, k) :: cs, h, hs => by
    simp only [am_swP, Bool.and_eq_true, beq_iff_eq] at h
    obtain ⟨⟨rfl, h2⟩, h3⟩ := h
    have hs : (x = v → Qb k ls st hr hd n u us) ∧ (¬ x = v → am_sw Qb dd cs x ls st hr hd n u us) := hs
    by_cases hxv : x = v
    · obtain ⟨tgt, t1, t2⟩ := am_tgt_spec h2
      exact ⟨tgt, k, t1, by rw [Op.lookupswitch.offset_cons, if_pos hxv.symm]; exact t2, hs.1 hxv⟩
    · obtain ⟨tgt, k', t1, t2, t3⟩ := am_swP_spec hd0 ds cs h3 (hs.2 hxv)
      exact ⟨tgt, k', t1, by rw [Op.lookupswitch.offset_cons, if_neg (fun z => hxv z.symm)]; exact t2, t3⟩
theorem ws_ops {o d : Nat} {ini : Bool} {O : amO} (hx : p.tables.exec = Jvm.exec) (hb : c.code = cc) (hml : c.maxLocals = nL) (hown : s.vm.findClass (am_ON o) = some m.cls) (hts : ∀ w ∈ am_Tg, w.before args s = true) (hF : am_fix am_shp am_fk vwCl ρ B0 am_Tg) (hG : am_GW am_slen vwCl D AC ρ B0 H00 hr0 hd0 s) (hX : am_GX ρ s)
    (hRd : d + 1 ≤ R.frames ∧ 64 * (d + 1) ≤ R.locals) (hO : am_Or D AC ρ B0 H00 hr0 hd0 l d O) (hini : ini = true → meth.name = "<init>") : ∀ (ops : List amOp) (pc : Nat) (l9 : List UInt8) (r : Nat × List UInt8), fd_at cc pc l9 → am_chkL o ini ops pc l9 = some r → fd_at cc r.1 r.2 ∧ ∀ Q : amP, am_WS am_shp am_slen am_fk vwCl D AC ρ B0 H00 hr0 hd0 p l e R s m args below meth c Qf nL r.1 Q → am_WS am_shp am_slen am_fk vwCl D AC ρ B0 H00 hr0 hd0 p l e R s m args below meth c Qf nL pc (wpL am_shp am_slen O R.cells R.slots ops Q)
  | [], pc, l9, r, hfd, hk => by
    cases hk
    exact ⟨hfd, fun Q h => h⟩
  | op :: ops, pc, l9, r, hfd, hk => by
    unfold am_chkL at hk
    cases hq : am_chkO o ini (fdec l9) op with
    | none => rw [hq] at hk; cases hk
    | some n9 =>
      rw [hq] at hk
      obtain ⟨h1, h2⟩ := ws_ops hx hb hml hown hts hF hG hX hRd hO hini ops (pc + n9) (l9.drop n9) r hfd.drop hk
      exact ⟨h1, fun Q h => ws_op hx hb hml hown hts hF hG hX hRd hO hini (fun j n hj => fdec_ok hfd hj) hq (h2 Q h)⟩
theorem ws_tree {o d rk : Nat} {ini : Bool} {O : amO} (hx : p.tables.exec = Jvm.exec) (hb : c.code = cc) (hml : c.maxLocals = nL) (hown : s.vm.findClass (am_ON o) = some m.cls) (hts : ∀ w ∈ am_Tg, w.before args s = true) (hF : am_fix am_shp am_fk vwCl ρ B0 am_Tg) (hG : am_GW am_slen vwCl D AC ρ B0 H00 hr0 hd0 s) (hX : am_GX ρ s)
    (hRd : d + 1 ≤ R.frames ∧ 64 * (d + 1) ≤ R.locals) (hO : am_Or D AC ρ B0 H00 hr0 hd0 l d O) (hini : ini = true → meth.name = "<init>") {Qr : amQu}
    (hret : ∀ (pc : Nat) (i : Instr), decode cc pc = .ok (i, 1) → am_WS am_shp am_slen am_fk vwCl D AC ρ B0 H00 hr0 hd0 p l e R s m args below meth c Qf nL pc (wpRet rk i Qr)) : ∀ (t : amTree) (labels : List Nat) (pc : Nat) (l9 : List UInt8) (r : Nat × List UInt8), fd_at cc pc l9 → am_chk o ini cc t labels pc l9 = some r →
    fd_at cc r.1 r.2 ∧ ∀ (Qe : amP) (Qb : Nat → amP), am_WS am_shp am_slen am_fk vwCl D AC ρ B0 H00 hr0 hd0 p l e R s m args below meth c Qf nL r.1 Qe → (∀ (k lbl : Nat), labels[k]? = some lbl → am_WS am_shp am_slen am_fk vwCl D AC ρ B0 H00 hr0 hd0 p l e R s m args below meth c Qf nL lbl (Qb k)) → am_WS am_shp am_slen am_fk vwCl D AC ρ B0 H00 hr0 hd0 p l e R s m args below meth c Qf nL pc (wp am_shp am_slen O R.cells R.slots rk t Qe Qb Qr)
  | .leaf (.inl ops), labels, pc, l9, r, hfd, hk => by
    obtain ⟨h1, h2⟩ := ws_ops hx hb hml hown hts hF hG hX hRd hO hini ops pc l9 r hfd hk
    exact ⟨h1, fun Qe Qb h _ => h2 Qe h⟩
  | .leaf (.inr (.inl (i, k))), labels, pc, l9, r, hfd, hk => by
    unfold am_chk at hk
    cases hf : fdec l9 with
    | none => rw [hf] at hk; cases hk
    | some q =>
      obtain ⟨j, n9⟩ := q
      cases ho : am_off i with
      | none => rw [hf, ho] at hk; cases hk
      | some d9 =>
        rw [hf, ho] at hk
        simp only [] at hk
        by_cases hc : j = i ∧ n9 = 3 ∧ am_tgt labels pc d9 k = true
        · rw [if_pos hc] at hk
          cases hk
          obtain ⟨rfl, rfl, h3⟩ := hc
          obtain ⟨tgt, t1, t2⟩ := am_tgt_spec h3
          exact ⟨hfd.drop, fun Qe Qb h hl => ws_jump hx hb (fdec_ok hfd hf) ho t2 (hl k tgt t1) h⟩
        · rw [if_neg hc] at hk; cases hk
  | .leaf (.inr (.inr (.inl i))), labels, pc, l9, r, hfd, hk => by
    unfold am_chk at hk
    cases hf : fdec l9 with
    | none => rw [hf] at hk; cases hk
    | some q =>
      obtain ⟨j, n9⟩ := q
      rw [hf] at hk
      simp only [] at hk
      by_cases hc : j = i ∧ n9 = 1
      · rw [if_pos hc] at hk
        cases hk
        obtain ⟨rfl, rfl⟩ := hc
        exact ⟨hfd.drop, fun Qe Qb h hl => hret pc j (fdec_ok hfd hf)⟩
      · rw [if_neg hc] at hk; cases hk
  | .leaf (.inr (.inr (.inr (i, cs, dd)))), labels, pc, l9, r, hfd, hk => by
    unfold am_chk at hk
    cases hf : decode cc pc with
    | error er => rw [hf] at hk; cases hk
    | ok q =>
      obtain ⟨j, n9⟩ := q
      rw [hf] at hk
      simp only [] at hk
      by_cases hj : j = i
      · rw [if_pos hj] at hk
        subst hj
        split at hk
        · rename_i df lo hi offs
          by_cases hc : am_tgt labels pc df dd = true ∧ am_swT labels pc offs.toList lo cs = true ∧ hi = lo + (cs.length : Int) - 1 ∧ 0 < cs.length
          · rw [if_pos hc] at hk
            cases hk
            obtain ⟨c1, c2, c3, c4⟩ := hc
            refine ⟨hfd.drop, fun Qe Qb h hl => ?_⟩
            intro ls st hr hd n u us hQ lsR H locs hL hC hH hl'
            match st, hQ, hC with
            | .inl x :: t, hQ, hC =>
              have hx32 : in32 x := hC (vI x) (by simp)
              have hC' : ∀ v ∈ t, am_can v := fun v hv => hC v (by simp [hv])
              have hxx : (Int32.ofInt x).toInt = x := by rw [ti32, w32_id hx32]
              obtain ⟨e1, e2⟩ := am_swT_spec offs.toList lo cs c2 hQ
              rcases e2 with ⟨j, off, tgt, k, j1, j2, j3, j4, j5, j6⟩ | ⟨j1, j2⟩
              · have hoff : offs[((Int32.ofInt x).toInt - lo).toNat]? = some off := by
                  rw [hxx, j2, show (lo + (j : Int) - lo).toNat = j by omega, ← Array.getElem?_toList]
                  exact j3
                exact lv_tableIn hx hb hf (by rw [hxx]; omega) (by rw [hxx]; omega) hoff j5 (hl k tgt j4 ls t hr hd n u us j6 lsR H locs hL hC' hH hl')
              · obtain ⟨tgt, t1, t2⟩ := am_tgt_spec c1
                exact lv_tableOut hx hb hf (by rw [hxx]; omega) t2 (hl dd tgt t1 ls t hr hd n u us j2 lsR H locs hL hC' hH hl')
          · rw [if_neg hc] at hk; cases hk
        · rename_i df ps
          by_cases hc : am_tgt labels pc df dd = true ∧ am_swP labels pc ps.toList cs = true ∧ (ps.toList.zip (ps.toList.drop 1)).all (fun (a, next) => a.1 < next.1) = true
          · rw [if_pos hc] at hk
            cases hk
            obtain ⟨c1, c2, c3⟩ := hc
            refine ⟨hfd.drop, fun Qe Qb h hl => ?_⟩
            intro ls st hr hd n u us hQ lsR H locs hL hC hH hl'
            match st, hQ, hC with
            | .inl x :: t, hQ, hC =>
              have hx32 : in32 x := hC (vI x) (by simp)
              have hC' : ∀ v ∈ t, am_can v := fun v hv => hC v (by simp [hv])
              have hxx : (Int32.ofInt x).toInt = x := by rw [ti32, w32_id hx32]
              obtain ⟨tgt, k, t1, t2, t3⟩ := am_swP_spec c1 ps.toList cs c2 hQ
              exact lv_lookup hx hb hf c3 (by rw [hxx]) t2 (hl k tgt t1 ls t hr hd n u us t3 lsR H locs hL hC' hH hl')
          · rw [if_neg hc] at hk; cases hk
        · cases hk
      · rw [if_neg hj] at hk; cases hk
  | .branch 0 a b, labels, pc, l9, r, hfd, hk => by
    unfold am_chk at hk
    cases hq : am_chk o ini cc a labels pc l9 with
    | none => rw [hq] at hk; cases hk
    | some q =>
      obtain ⟨pc1, l1⟩ := q
      rw [hq] at hk
      obtain ⟨h1, h2⟩ := ws_tree hx hb hml hown hts hF hG hX hRd hO hini hret a labels pc l9 (pc1, l1) hfd hq
      obtain ⟨h3, h4⟩ := ws_tree hx hb hml hown hts hF hG hX hRd hO hini hret b labels pc1 l1 r h1 hk
      exact ⟨h3, fun Qe Qb h hl => h2 _ Qb (h4 Qe Qb h hl) hl⟩
  | .branch 1 a b, labels, pc, l9, r, hfd, hk => by
    unfold am_chk at hk
    obtain ⟨h1, h2⟩ := ws_tree hx hb hml hown hts hF hG hX hRd hO hini hret a (pc :: labels) pc l9 r hfd hk
    refine ⟨h1, fun Qe Qb h hl => ?_⟩
    intro ls st hr hd n u us hQ
    refine hQ (fun ls st hr hd n u us => ∀ (lsR : Array Slot) (H : Heap) (locs : List Loc), am_Lo ρ nL lsR ls → (∀ v ∈ st, am_can v) → am_H am_shp am_slen am_fk vwCl D AC ρ B0 H00 hr0 hd0 hr hd n H → (∀ q ∈ locs, B0 ≤ q.base) → W p l e R s m args below meth c H locs u us Qf (F0 m pc lsR (st.map (am_enc ρ)))) ?_
    intro ls st hr hd n u us hP
    refine h2 Qe _ h ?_ ls st hr hd n u us hP
    intro k lbl hk9
    match k, hk9 with
    | 0, hk9 =>
      cases hk9
      exact fun ls st hr hd n u us hP => hP
    | k + 1, hk9 => exact hl k lbl hk9
  | .branch (e9 + 2) a b, labels, pc, l9, r, hfd, hk => by
    unfold am_chk at hk
    cases hq : am_chk o ini cc a (e9 :: labels) pc l9 with
    | none => rw [hq] at hk; cases hk
    | some q =>
      obtain ⟨pc1, l1⟩ := q
      rw [hq] at hk
      simp only [] at hk
      by_cases he : pc1 = e9
      · rw [if_pos he] at hk
        cases hk
        subst he
        obtain ⟨h1, h2⟩ := ws_tree hx hb hml hown hts hF hG hX hRd hO hini hret a (pc1 :: labels) pc l9 (pc1, l1) hfd hq
        refine ⟨h1, fun Qe Qb h hl => h2 Qe _ h ?_⟩
        intro k lbl hk9
        match k, hk9 with
        | 0, hk9 =>
          cases hk9
          exact h
        | k + 1, hk9 => exact hl k lbl hk9
      · rw [if_neg he] at hk; cases hk
end TR
