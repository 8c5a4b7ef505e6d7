/-! SOUNDNESS of the small machine, 10: every checked operation -/
theorem am_fT_ok : am_fT.all (fun e => (e.2.2.1 == 13 && decide (e.2.2.2 < 2)) || (match vwCl[e.2.2.1]? with | some (_, _, N) => decide (e.2.2.2 < N) | none => false)) = true := by decide +kernel
theorem am_mR_init : am_Ms.all (fun m => am_mF m != 2 || (am_mR m).isNone) = true := by decide +kernel
theorem am_cT_ok : am_cT.all (fun e => decide (-2147483648 ≤ e.2.2) && decide (e.2.2 < 2147483648)) = true := by decide +kernel
theorem am_lT_ok : am_lT.all (fun e => decide (-9223372036854775808 ≤ e.2.2) && decide (e.2.2 < 9223372036854775808)) = true := by decide +kernel
theorem am_sT_ok : am_sT.all (fun e => decide (1 ≤ e.2.2) && decide (e.2.2 ≤ 7)) = true := by decide +kernel
theorem am_aT_ok : am_aT.all (fun e => e.2.2 == 7 || (e.2.2 == 8 || e.2.2 == 9)) = true := by decide +kernel
section SR
variable {D : va_G} {AC : Nat → ClassId} {ρ : Nat → Nat} {B0 : Nat} {H00 : Heap} {hr0 : amR} {hd0 : amD}
variable {p : Program} {l : Launch} {e : Env} {R : Room} {s : State} {m : MethodId} {args : Array Value} {below : List Frame} {meth : Method} {c : Code} {Qf : State → Prop} {nL : Nat} {cc : ByteArray} {pc pc' : Nat}
theorem ws_getfS {o idx k kd : Nat} (hx : p.tables.exec = Jvm.exec) (hb : c.code = cc) (hown : s.vm.findClass (am_ON o) = some m.cls) (hts : ∀ w ∈ am_Tg, w.before args s = true) (hF : am_fix am_shp am_fk vwCl ρ B0 am_Tg) (hG : am_GW am_slen vwCl D AC ρ B0 H00 hr0 hd0 s)
    (hk : (k = 0 ∧ kd = 2) ∨ (k = 1 ∧ kd = 0)) (hlk : (o, idx, 13, k) ∈ am_fT) (hdg : decode cc pc = .ok (.getfield idx, 3)) {Q : amP}
    (h : am_WS am_shp am_slen am_fk vwCl D AC ρ B0 H00 hr0 hd0 p l e R s m args below meth c Qf nL (pc + 3) Q) : am_WS am_shp am_slen am_fk vwCl D AC ρ B0 H00 hr0 hd0 p l e R s m args below meth c Qf nL pc (am_getf am_shp 13 k kd Q) := by
  intro ls st hr hd n u us hQ lsR H locs hL hC hH hl
  match st, hQ with
  | .inr (.inr (.inl i)) :: t, hQ =>
    obtain ⟨⟨q1, q2⟩, hQ⟩ := hQ
    obtain ⟨e1, e2⟩ := hF.2.2.1 i q2
    obtain ⟨⟨cf, k1, fi, f, cell, f1, f2, f3, f4, f5, f6⟩, ⟨cf', k1', fi', f', cell', f1', f2', f3', f4', f5', f6'⟩, f7⟩ := hG.2.2.2.1 i e1 e2
    have hi := hH.2.2.2.2 i (by omega)
    have hlt := hF.2.2.2.2.2.2.2.1 i (by omega) (by omega)
    have hw := am_fT_in _ hlk
    have hCt : ∀ v ∈ t, am_can v := fun v hv => hC v (by simp [hv])
    show W p l e R s m args below meth c H locs u us Qf (F0 m pc lsR (am_enc ρ (vR i) :: t.map (am_enc ρ)))
    rw [am_refN (by omega)]
    rcases hk with ⟨rfl, rfl⟩ | ⟨rfl, rfl⟩
    · refine W.getf (v := am_enc ρ (vR (hr i 0))) hx hb hown (hts _ (am_Tg_in hw rfl)) f1 f2 (by rw [hH.2.2.1 _ hlt]; exact f3) f4 (by rw [f5, hi.1]; rfl) rfl rfl hdg ?_
      exact h ls (vR (hr i 0) :: t) hr hd n u us hQ lsR H locs hL (am_can_cons trivial hCt) hH hl
    · have e0 : hd i 1 = 0 := by rw [hi.2]; exact f7
      refine W.getf (v := am_enc ρ (vI (hd i 1))) hx hb hown (hts _ (am_Tg_in hw rfl)) f1' f2' (by rw [hH.2.2.1 _ hlt]; exact f3') f4' (by rw [f5', e0]; rfl) rfl rfl hdg ?_
      exact h ls (vI (hd i 1) :: t) hr hd n u us hQ lsR H locs hL (am_can_cons (by rw [e0]; exact in32_0) hCt) hH hl
theorem ws_gets {o idx : Nat} {C nm ds : String} {v : amV} (hx : p.tables.exec = Jvm.exec) (hb : c.code = cc) (hown : s.vm.findClass (am_ON o) = some m.cls) (hZ : va_Z C nm ds (am_enc ρ v) (fun q => B0 ≤ q) s H00) (hv : am_can v)
    (hlink : (Cond.fieldLink (am_ON o) idx C nm ds).before args s = true) (hdg : decode cc pc = .ok (.getstatic idx, 3)) {Q : amP}
    (h : am_WS am_shp am_slen am_fk vwCl D AC ρ B0 H00 hr0 hd0 p l e R s m args below meth c Qf nL (pc + 3) Q) : am_WS am_shp am_slen am_fk vwCl D AC ρ B0 H00 hr0 hd0 p l e R s m args below meth c Qf nL pc (fun ls st => Q ls (v :: st)) := by
  intro ls st hr hd n u us hQ lsR H locs hL hC hH hl
  obtain ⟨cf, kf, fi, f, a, cell, h1, h2, h3, h4, h5, h6, h7, h8⟩ := hZ
  exact W.gets hx hb hown hlink h1 h2 h3 h4 (by rw [hH.2.2.1 _ (by omega)]; exact h5) (fun e => by rw [e] at h6; cases h6) h7 rfl hdg (h ls (v :: st) hr hd n u us hQ lsR H locs hL (am_can_cons hv hC) hH hl)
theorem ws_objInit {o idx : Nat} (hx : p.tables.exec = Jvm.exec) (hb : c.code = cc) (hml : c.maxLocals = nL) (hown : s.vm.findClass (am_ON o) = some m.cls) (hF : am_fix am_shp am_fk vwCl ρ B0 am_Tg) (hRf : 1 ≤ R.frames) (hRl : 64 ≤ R.locals)
    (hlink : (Cond.methodLink (am_ON o) idx Lib.objectInit).before args s = true) (hinst : (Cond.instanceMethod Lib.objectInit).before args s = true) (hcode : (Cond.code Lib.objectInit ⟨#[0xb1]⟩ 1 none).before args s = true) (hdg : decode cc pc = .ok (.invokespecial idx, 3)) {Q : amP}
    (h : am_WS am_shp am_slen am_fk vwCl D AC ρ B0 H00 hr0 hd0 p l e R s m args below meth c Qf nL (pc + 3) Q) : am_WS am_shp am_slen am_fk vwCl D AC ρ B0 H00 hr0 hd0 p l e R s m args below meth c Qf nL pc (am_prim am_shp am_slen R.cells R.slots 5 Q) := by
  intro ls st hr hd n u us hQ lsR H locs hL hC hH hl
  match st, hQ with
  | .inr (.inr (.inl i)) :: t, hQ =>
    obtain ⟨⟨q1, q2, q3⟩, hQ⟩ := hQ
    have hCt : ∀ v ∈ t, am_can v := fun v hv => hC v (by simp [hv])
    have hi0 : i ≠ 0 := by
      intro e
      subst e
      have := hF.2.2.2.1 0 (by omega)
      have := hF.2.2.1 0
      omega
    show W p l e R s m args below meth c H locs u us Qf (F0 m pc lsR (am_enc ρ (vR i) :: t.map (am_enc ρ)))
    rw [am_refN hi0]
    refine W.objInit hx hb hown hlink hinst hcode rfl (by rw [hml]; exact hL.1) rfl hdg hRf (by show 2 * 0 + _ + 12 ≤ _; rw [am_cats_enc t hCt]; omega) ?_
    exact h ls t hr hd n u us hQ lsR H locs hL hCt hH hl
theorem am_oin {w : Cond} (h : w ∈ am_oT) (hb : goodWord w = true) : w ∈ am_Tg := am_Tg_in (am_oT_in w h) hb
theorem am_recvOK (hF : am_fix am_shp am_fk vwCl ρ B0 am_Tg) (hG : am_GW am_slen vwCl D AC ρ B0 H00 hr0 hd0 s) {ow : Nat} : ∀ i, am_shp i = 100 + ow → ∀ hr hd n H, am_H am_shp am_slen am_fk vwCl D AC ρ B0 H00 hr0 hd0 hr hd n H → i < n → i ≠ 0 ∧ ∃ cell : Cell, H[ρ i]? = some cell ∧ cell.vm.isStatics = false ∧ s.vm.findClass (am_ON ow) = some cell.cls := by
  intro i hi hr hd n H hH hn
  have h114 := hF.2.2.2.2.1 i
  by_cases h13 : ow = 13
  · subst h13
    obtain ⟨e1, e2⟩ := hF.2.2.1 i hi
    obtain ⟨cell, f1, f2, f3⟩ := hG.2.2.1 i e1 e2
    have hlt := hF.2.2.2.2.2.2.2.1 i (by omega) (by omega)
    exact ⟨by omega, cell, by rw [hH.2.2.1 _ hlt]; exact f1, f2, f3⟩
  · have h17 : 17 ≤ i := am_ge17 hF hi (by omega)
    obtain ⟨-, c2⟩ := hH.2.2.2.1 i h17 hn
    rcases c2 with ⟨c3, r, c4, cell, d1, d2, d3, d4⟩ | ⟨c3, c4⟩
    · have e1 : am_shp i - 100 = ow := by omega
      rw [e1] at c4 d2
      obtain ⟨C, T, N⟩ := r
      obtain ⟨-, -, -, hCn, -⟩ := am_cls c4
      refine ⟨by omega, cell, d1, by rw [d3]; rfl, ?_⟩
      rw [d2, ← hCn]
      exact (hG.1.1 ow _ c4).2.1
    · omega
set_option maxHeartbeats 4000000 in
theorem ws_op {o d : Nat} {ini : Bool} {O : amO} (hx : p.tables.exec = Jvm.exec) (hb : c.code = cc) (hml : c.maxLocals = nL) (hown : s.vm.findClass (am_ON o) = some m.cls) (hts : ∀ w ∈ am_Tg, w.before args s = true) (hF : am_fix am_shp am_fk vwCl ρ B0 am_Tg) (hG : am_GW am_slen vwCl D AC ρ B0 H00 hr0 hd0 s) (hX : am_GX ρ s)
    (hRd : d + 1 ≤ R.frames ∧ 64 * (d + 1) ≤ R.locals) (hO : am_Or D AC ρ B0 H00 hr0 hd0 l d O) (hini : ini = true → meth.name = "<init>") {op : amOp} {dj : Option (Instr × Nat)} {n9 : Nat} (hdj : ∀ j n, dj = some (j, n) → decode cc pc = .ok (j, n)) (hk : am_chkO o ini dj op = some n9) {Q : amP}
    (h : am_WS am_shp am_slen am_fk vwCl D AC ρ B0 H00 hr0 hd0 p l e R s m args below meth c Qf nL (pc + n9) Q) :
    am_WS am_shp am_slen am_fk vwCl D AC ρ B0 H00 hr0 hd0 p l e R s m args below meth c Qf nL pc (wpO am_shp am_slen O R.cells R.slots op Q) := by
  have hRf : 1 ≤ R.frames := by omega
  have hRl : 64 ≤ R.locals := by omega
  unfold am_chkO at hk
  cases hde : dj with
  | none => rw [hde] at hk; cases hk
  | some q =>
    obtain ⟨j, n⟩ := q
    rw [hde] at hk
    have hdec := hdj j n hde
    match op, hk with
    | .inl i, hk =>
      simp only [] at hk
      split at hk
      case isTrue hc =>
        cases hk
        obtain ⟨rfl, h2⟩ := hc
        exact ws_instr hx hb hF hG h2 hdec h
      case isFalse => cases hk
    | .inr (.inl (c9, k, kd)), hk =>
      simp only [] at hk
      split at hk
      case h_2 => cases hk
      case h_1 idx hk9 =>
      by_cases hc : n = 3 ∧ am_h4 am_fT o idx c9 k = true ∧ (if c9 = 13 then kd = (if k = 0 then 2 else 0) else kd = am_fk c9 k)
      case neg => rw [if_neg hc] at hk; cases hk
      case pos =>
        rw [if_pos hc] at hk
        cases hk
        obtain ⟨rfl, h2, h3⟩ := hc
        have hm := am_h4_mem h2
        have hok := List.all_eq_true.mp am_fT_ok _ hm
        simp only [Bool.or_eq_true, Bool.and_eq_true, beq_iff_eq, decide_eq_true_eq] at hok
        by_cases h13 : c9 = 13
        · subst h13
          rw [if_pos rfl] at h3
          have hk2 : k < 2 := by
            rcases hok with hok | hok
            · exact hok.2
            · simp [vwCl] at hok
          refine ws_getfS hx hb hown hts hF hG ?_ hm hdec h
          rcases (show k = 0 ∨ k = 1 by omega) with rfl | rfl
          · exact Or.inl ⟨rfl, h3⟩
          · exact Or.inr ⟨rfl, h3⟩
        · rw [if_neg h13] at h3
          have hok2 := hok.resolve_left (fun z => h13 z.1)
          cases hcl : vwCl[c9]? with
          | none => rw [hcl] at hok2; cases hok2
          | some q =>
            obtain ⟨C, T, N⟩ := q
            rw [hcl] at hok2
            have hw := am_fT_in _ hm
            unfold am_fword at hw
            simp only [if_neg h13, hcl] at hw
            exact ws_getf hx hb hown hts hF hG hcl (of_decide_eq_true hok2) h3 (hts _ (am_Tg_in hw rfl)) hdec h
    | .inr (.inr (.inl (c9, k, kd))), hk =>
      simp only [] at hk
      split at hk
      case h_2 => cases hk
      case h_1 idx =>
      split at hk
      case isFalse => cases hk
      case isTrue hc =>
        cases hk
        obtain ⟨rfl, h2, ⟨h13, h3⟩, h4⟩ := hc
        have hm := am_h4_mem h2
        have hok := List.all_eq_true.mp am_fT_ok _ hm
        simp only [Bool.or_eq_true, Bool.and_eq_true, beq_iff_eq, decide_eq_true_eq] at hok
        have hok2 := hok.resolve_left (fun z => by omega)
        cases hcl : vwCl[c9]? with
        | none => rw [hcl] at hok2; cases hok2
        | some q =>
          obtain ⟨C, T, N⟩ := q
          rw [hcl] at hok2
          have hk9 := of_decide_eq_true hok2
          have hw := am_fT_in _ hm
          unfold am_fword at hw
          simp only [if_neg (show ¬ c9 = 13 by omega), hcl] at hw
          refine ws_putf hx hb hown hts hF hG hcl hk9 h3 (hts _ (am_Tg_in hw rfl)) (fun hf => ?_) hdec h
          unfold am_fin at h4
          rw [hcl] at h4
          obtain ⟨g1, g2⟩ := h4 hf
          obtain ⟨-, -, -, -, g3⟩ := am_cls hcl
          exact ⟨hini g1, by rw [g2]; exact g3 k hk9⟩
    | .inr (.inr (.inr (.inl (mm, na, rc, km, sm)))), hk =>
      simp only [] at hk
      split at hk
      case h_2 => cases hk
      case h_1 nm9 b9 l9 r9 ow K S fl np hfind =>
      obtain ⟨g1, g2, g3, g4, g5, g6, g7, g8, g9⟩ := am_find hfind
      simp only [] at g5 g6 g7 g8 g9
      have hN : am_NM = 314 := rfl
      split at hk
      case h_4 => cases hk
      case h_1 idx =>
        split at hk
        case isFalse => cases hk
        case isTrue hc =>
          cases hk
          obtain ⟨rfl, rfl, h3, ⟨h4, h5, rfl, rfl⟩, h6⟩ := hc
          show am_WS am_shp am_slen am_fk vwCl D AC ρ B0 H00 hr0 hd0 p l e R s m args below meth c Qf nL pc (am_call am_shp O R.cells R.slots mm na rc _ _ Q)
          rw [← g6, ← g7]
          rcases h6 with h6 | h6
          · exact ws_call hx hb hml hown hts hF hG hX hRd hO (by omega) (am_h4_mem h6) (Or.inl ⟨g8, by omega, by omega, hdec⟩) (fun _ => am_recvOK hF hG) h
          · exact ws_call hx hb hml hown hts hF hG hX hRd hO (by omega) (am_h4_mem h6) (Or.inl ⟨g8, by omega, by omega, hdec⟩) (fun _ => am_recvOK hF hG) h
      case h_2 idx =>
        split at hk
        case isFalse => cases hk
        case isTrue hc =>
          cases hk
          obtain ⟨rfl, rfl, h3, ⟨h4, h5, rfl, rfl⟩, h6⟩ := hc
          show am_WS am_shp am_slen am_fk vwCl D AC ρ B0 H00 hr0 hd0 p l e R s m args below meth c Qf nL pc (am_call am_shp O R.cells R.slots mm na rc _ _ Q)
          rw [← g6, ← g7]
          rcases h6 with h6 | h6
          · exact ws_call hx hb hml hown hts hF hG hX hRd hO (by omega) (am_h4_mem h6) (Or.inr (Or.inl ⟨g8, by omega, by omega, hdec⟩)) (fun _ => am_recvOK hF hG) h
          · exact ws_call hx hb hml hown hts hF hG hX hRd hO (by omega) (am_h4_mem h6) (Or.inr (Or.inl ⟨g8, by omega, by omega, hdec⟩)) (fun _ => am_recvOK hF hG) h
      case h_3 idx =>
        split at hk
        case isFalse => cases hk
        case isTrue hc =>
          cases hk
          obtain ⟨rfl, rfl, h3, ⟨h4, h5, rfl, rfl⟩, h6⟩ := hc
          have hret : am_mR mm = none := by
            have := List.all_eq_true.mp am_mR_init mm (am_Ms_in (by omega))
            rw [g8] at this
            simpa using this
          show am_WS am_shp am_slen am_fk vwCl D AC ρ B0 H00 hr0 hd0 p l e R s m args below meth c Qf nL pc (am_call am_shp O R.cells R.slots mm na rc _ _ Q)
          rw [← g6, ← g7]
          rcases h6 with h6 | h6
          · exact ws_call hx hb hml hown hts hF hG hX hRd hO (by omega) (am_h4_mem h6) (Or.inr (Or.inr ⟨g8, by omega, by omega, hret, hdec⟩)) (fun _ => am_recvOK hF hG) h
          · exact ws_call hx hb hml hown hts hF hG hX hRd hO (by omega) (am_h4_mem h6) (Or.inr (Or.inr ⟨g8, by omega, by omega, hret, hdec⟩)) (fun _ => am_recvOK hF hG) h
    | .inr (.inr (.inr (.inr (.inl (c9, nf))))), hk =>
      simp only [] at hk
      split at hk
      case h_2 => cases hk
      case h_1 idx =>
      split at hk
      case isFalse => cases hk
      case isTrue hc =>
        cases hk
        obtain ⟨rfl, h2, h3⟩ := hc
        cases hcl : vwCl[c9]? with
        | none => rw [hcl] at h3; cases h3
        | some q =>
          obtain ⟨C, T, N⟩ := q
          rw [hcl] at h3
          cases h3
          obtain ⟨-, -, -, hCn, -⟩ := am_cls hcl
          have h13 : c9 ∈ am_C13 := by
            have := (List.getElem?_eq_some_iff.mp hcl).1
            have h13 : c9 < 13 := this
            rw [show am_C13 = List.range 13 by decide]
            exact List.mem_range.mpr h13
          have hw := am_nT_in _ (am_h3_mem h2)
          have hi := am_iW_in c9 h13
          have hj := am_jW_in c9 h13
          simp only [hcl] at hi
          rw [← hCn] at hw hi hj
          exact ws_new hx hb hown hts hF hG hcl (hts _ (am_Tg_in hw rfl)) (hts _ (am_Tg_in hi rfl)) (hts _ (am_Tg_in hj rfl)) hdec h
    | .inr (.inr (.inr (.inr (.inr (.inl kd))))), hk =>
      simp only [] at hk
      split at hk
      case h_3 => cases hk
      case h_1 t =>
        split at hk
        case isFalse => cases hk
        case isTrue hc =>
          cases hk
          obtain ⟨rfl, h2, h3⟩ := hc
          refine ws_newa hx hb hF hG h3 h2 ?_ hdec h
          rw [h2]
          rcases h3 with rfl | rfl | rfl | rfl
          · exact hts _ (am_oin (w := .arrayClass .int) (by simp [am_oT]) rfl)
          · exact hts _ (am_oin (w := .arrayClass .long) (by simp [am_oT]) rfl)
          · exact hts _ (am_oin (w := .arrayClass .byte) (by simp [am_oT]) rfl)
          · exact hts _ (am_oin (w := .arrayClass .boolean) (by simp [am_oT]) rfl)
      case h_2 idx =>
        split at hk
        case isFalse => cases hk
        case isTrue hc =>
          cases hk
          obtain ⟨rfl, h2, h3⟩ := hc
          have hw := am_aT_in _ (am_h3_mem h2)
          rcases h3 with rfl | rfl
          · exact ws_newq hx hb hown hF hG (Or.inl rfl) rfl (hts _ (am_Tg_in hw rfl)) hX.2.2.1 hdec h
          · exact ws_newq hx hb hown hF hG (Or.inr rfl) rfl (hts _ (am_Tg_in hw rfl)) hX.2.2.2.1 hdec h
    | .inr (.inr (.inr (.inr (.inr (.inr (.inl _)))))), hk =>
      simp only [] at hk
      split at hk
      case h_2 => cases hk
      case h_1 idx dm =>
      split at hk
      case isFalse => cases hk
      case isTrue hc =>
        cases hk
        obtain ⟨rfl, rfl, h2⟩ := hc
        have hw := am_aT_in _ (am_h3_mem h2)
        exact ws_newm hx hb hown hF hG (hts _ (am_Tg_in hw rfl)) hX.2.2.2.2 (hts _ (am_oin (w := .arrayClass .int) (by simp [am_oT]) rfl)) hdec h
    | .inr (.inr (.inr (.inr (.inr (.inr (.inr (.inl v))))))), hk =>
      simp only [] at hk
      split at hk
      case h_3 => cases hk
      case h_1 idx =>
        split at hk
        case isFalse => cases hk
        case isTrue hc =>
          cases hk
          obtain ⟨rfl, h2⟩ := hc
          have hm := am_hi_mem h2
          have hw := am_cT_in _ hm
          have hok := List.all_eq_true.mp am_cT_ok _ hm
          simp only [Bool.and_eq_true, decide_eq_true_eq] at hok
          exact ws_psh (v := vI v) (show in32 v from hok) (fun lsR H locs u us rest hw9 => lv_ldc hx hb hown (hts _ (am_Tg_in hw rfl)) hdec hw9) h
      case h_2 idx =>
        split at hk
        case isFalse => cases hk
        case isTrue hc =>
          cases hk
          obtain ⟨rfl, h2⟩ := hc
          have hm := am_hi_mem h2
          have hw := am_cT_in _ hm
          have hok := List.all_eq_true.mp am_cT_ok _ hm
          simp only [Bool.and_eq_true, decide_eq_true_eq] at hok
          exact ws_psh (v := vI v) (show in32 v from hok) (fun lsR H locs u us rest hw9 => lv_ldcw hx hb hown (hts _ (am_Tg_in hw rfl)) hdec hw9) h
    | .inr (.inr (.inr (.inr (.inr (.inr (.inr (.inr (.inl v)))))))), hk =>
      simp only [] at hk
      split at hk
      case h_2 => cases hk
      case h_1 idx =>
      split at hk
      case isFalse => cases hk
      case isTrue hc =>
        cases hk
        obtain ⟨rfl, h2⟩ := hc
        have hm := am_hi_mem h2
        have hw := am_lT_in _ hm
        have hok := List.all_eq_true.mp am_lT_ok _ hm
        simp only [Bool.and_eq_true, decide_eq_true_eq] at hok
        exact ws_psh (v := vL v) (show in64 v from hok) (fun lsR H locs u us rest hw9 => lv_ldc2 hx hb hown (hts _ (am_Tg_in hw rfl)) hdec hw9) h
    | .inr (.inr (.inr (.inr (.inr (.inr (.inr (.inr (.inr (.inl i))))))))), hk =>
      simp only [] at hk
      split at hk
      case h_2 => cases hk
      case h_1 idx =>
      split at hk
      case isFalse => cases hk
      case isTrue hc =>
        cases hk
        obtain ⟨rfl, h2⟩ := hc
        have hm := am_h3_mem h2
        have hok := List.all_eq_true.mp am_sT_ok _ hm
        simp only [Bool.and_eq_true, decide_eq_true_eq] at hok
        refine ws_psh (v := vR i) trivial (fun lsR H locs u us rest hw9 => ?_) h
        rw [am_refN (by omega)] at hw9
        exact va_ldcS hx hb hown (hX.2.1 _ hm) hdec hw9
    | .inr (.inr (.inr (.inr (.inr (.inr (.inr (.inr (.inr (.inr k))))))))), hk =>
      simp only [] at hk
      split at hk
      case isTrue hc =>
        obtain ⟨z, rfl⟩ : ∃ z, k = z + 8 := ⟨k - 8, by omega⟩
        intro ls st hr hd n u us hQ
        exact False.elim hQ
      case isFalse hc0 =>
      split at hk
      case h_4 => cases hk
      case h_1 idx =>
        split at hk
        case isFalse => cases hk
        case isTrue hc =>
          cases hk
          obtain ⟨rfl, h3, h2⟩ := hc
          have hw := am_gT_in _ (am_h3_mem h2)
          rcases h3 with rfl | rfl
          · exact ws_gets (v := vI 1) hx hb hown hG.2.2.2.2.2.2.1 ⟨by decide, by decide⟩ (hts _ (am_Tg_in hw rfl)) hdec h
          · intro ls st hr hd n u us hQ lsR H locs hL hC hH hl
            have e0 : hr 0 0 = hr0 0 0 := by rw [(hH.2.2.2.2 0 (by decide)).1]
            have hQ : Q ls (vR (hr 0 0) :: st) hr hd n u us := hQ
            rw [e0] at hQ
            exact ws_gets (v := vR (hr0 0 0)) (C := "jdk/internal/util/Preconditions") (nm := "SIOOBE_FORMATTER") (ds := "Ljava/util/function/BiFunction;") hx hb hown hG.2.2.2.2.2.2.2 trivial (hts _ (am_Tg_in hw rfl)) hdec h ls st hr hd n u us hQ lsR H locs hL hC hH hl
      case h_2 idx =>
        split at hk
        case isFalse => cases hk
        case isTrue hc =>
          cases hk
          obtain ⟨rfl, h3, h2⟩ := hc
          have hw := am_pT_in _ (am_h3_mem h2)
          have ho : ∀ w, w ∈ am_oT → goodWord w = true → w.before args s = true := fun w h1 h2 => hts w (am_oin h1 h2)
          match k, h3, hw with
          | 0, _, hw => exact ws_acopy hx hb hml hown hF hG hRf hRl (hts _ (am_Tg_in hw rfl)) (ho _ (by simp [am_oT]) rfl) (ho _ (by simp [am_oT]) rfl) (ho _ (by simp [am_oT]) rfl) hdec h
          | 1, _, hw => exact ws_mabs hx hb hml hown hRf hRl (hts _ (am_Tg_in hw rfl)) (ho _ (by simp [am_oT]) rfl) (ho _ (by simp [am_oT]) rfl) (ho _ (by simp [am_oT]) rfl) hdec h
          | 2, _, hw => exact ws_mmax hx hb hml hown hRf hRl (hts _ (am_Tg_in hw rfl)) (ho _ (by simp [am_oT]) rfl) (ho _ (by simp [am_oT]) rfl) (ho _ (by simp [am_oT]) rfl) hdec h
          | 3, _, hw => exact ws_mmin hx hb hml hown hRf hRl (hts _ (am_Tg_in hw rfl)) (ho _ (by simp [am_oT]) rfl) (ho _ (by simp [am_oT]) rfl) (ho _ (by simp [am_oT]) rfl) hdec h
          | 4, _, hw => exact ws_mminL hx hb hml hown hRf hRl (hts _ (am_Tg_in hw rfl)) (ho _ (by simp [am_oT]) rfl) (ho _ (by simp [am_oT]) rfl) (ho _ (by simp [am_oT]) rfl) hdec h
      case h_3 idx =>
        split at hk
        case isFalse => cases hk
        case isTrue hc =>
          cases hk
          obtain ⟨rfl, rfl, h2⟩ := hc
          have hw := am_pT_in _ (am_h3_mem h2)
          exact ws_objInit hx hb hml hown hF hRf hRl (hts _ (am_Tg_in hw rfl)) (hts _ (am_oin (by simp [am_oT]) rfl)) (hts _ (am_oin (by simp [am_oT]) rfl)) hdec h
end SR
