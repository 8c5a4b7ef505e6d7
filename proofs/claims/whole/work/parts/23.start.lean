/-! FROM THE LAW'S ENTRY, 2 -/
def R_law : String := "OnlyLentLaw"
def lw_P (b : Addr) (xs : List Int32) (args : Array Value) (s : State) : Prop := args = #[.ref b] ∧ s.IntsAt b xs ∧ xs.length ≤ 3072 ∧ (Jvm.Cond.and given_1 narrow_1).before args s = true
def lw_Q (_ : Array Value) (s : State) (o : Outcome) (t : State) : Prop := o = .returned (some (.int 1)) ∧ Framed s o t [] 600000 7302250
def lw_Z (below : List Frame) (a : Array Value) (s : State) : State → Prop := fun t => ∃ o, t.status = .running ∧ Ended t below o ∧ lw_Q a s o t
/-- the law's own end, with 1 on the stack, nothing written that was there before, its room as the claim has it -/
theorem lw_ret {p : Program} {l : Launch} {e : Env} {s : State} {m : MethodId} {below : List Frame} {meth : Method} {c : Code} {b : Nat} (hx : p.tables.exec = Jvm.exec) (hb : c.code = code) (hr : meth.sig.returnType = ret) (hlocks : meth.locks = false) {pc : Nat} {H : Heap} {ls : Array Slot} (hdg : decode code pc = .ok (.ireturn, 1)) : W p l e room_1 s m #[Value.ref b] below meth c H [] 600000 7302250 (lw_Z below #[Value.ref b] s) (F0 m pc ls [.int 1]) := by
  intro T hT X
  obtain ⟨fs, hret, hrun, hended, hW, hframe⟩ := X.leave (v := some (.int 1)) (hlocks := hlocks) (fun h => by rw [hr] at h; cases h)
  have hmeth' : T.vm.method? m = some meth := X.method'
  refine ⟨T.setFrames fs, ?_, .returned (some (.int 1)), hrun, hended, rfl, ⟨_, rfl⟩, hW, hframe⟩
  jvm_step X.here [X.here.top, hx, hb, hdg, hmeth', hr, ret, narrow_b1]
  (try refine ⟨rfl, ?_⟩); (try refine ⟨rfl, ?_⟩)
  first | (intro acts; rw [hret _ acts rfl rfl rfl]) | rw [hret _ _ rfl rfl rfl]
  exact Steps.refl _
/-- what holds at the law's entry: the machine, the code, the tables' words (any of lw_tbl by 'hts w (by decide +kernel)'), the script of L ints xs at the cell b, what the Statement gives of the start (any of its parts by flat_of_before) -/
def lw_At (p : Program) (s : State) (m : MethodId) (meth : Method) (c : Code) (b L : Nat) (xs : Nat → Int32) : Prop :=
  p.tables.exec = Jvm.exec ∧ c.code = code ∧ meth.sig.returnType = ret ∧ c.maxLocals = 4 ∧ s.vm.findClass R_law = some m.cls ∧ (∀ w ∈ lw_tbl, w.before #[Value.ref b] s = true) ∧ va_X b L xs s s.heap ∧ b < s.heap.size ∧ meth.locks = false ∧ (Jvm.Cond.and given_1 narrow_1).before #[Value.ref b] s = true

theorem am_vaT {ty : FieldType} {t N : Nat} {f g : Nat → Value} {A : Nat → Prop} {U : State} {H : Heap} (h : va_T ty t N f A U H) (hfg : ∀ j, j < N → f j = g j) : va_T ty t N g A U H := by
  obtain ⟨cell, h1, h2, h3, h4, h5, h6, h7⟩ := h
  exact ⟨cell, h1, h2, h3, h4, h5, fun j hj => (h6 j hj).trans (congrArg some (hfg j hj)), h7⟩
theorem am_sb_in (i j : Nat) : 0 ≤ (am_sbI.getD i []).getD j 0 ∧ (am_sbI.getD i []).getD j 0 < 128 := by
  have h := List.all_eq_true.mp am_q12
  by_cases hi : i < am_sbI.length
  · have h2 := List.all_eq_true.mp (h am_sbI[i] (List.getElem_mem hi))
    rw [List.getD_eq_getElem?_getD (l := am_sbI), List.getElem?_eq_getElem hi, Option.getD_some]
    by_cases hj : j < am_sbI[i].length
    · have h3 := h2 am_sbI[i][j] (List.getElem_mem hj)
      simp only [Bool.and_eq_true, decide_eq_true_eq] at h3
      rw [List.getD_eq_getElem?_getD, List.getElem?_eq_getElem hj]
      exact h3
    · rw [List.getD_eq_getElem?_getD, List.getElem?_eq_none (by omega)]
      exact ⟨by decide, by decide⟩
  · rw [List.getD_eq_getElem?_getD (l := am_sbI), List.getElem?_eq_none (by omega)]
    have e : (Option.getD none ([] : List Int)).getD j 0 = 0 := by simp
    rw [e]
    exact ⟨by decide, by decide⟩
theorem am_svalR {ρ : Nat → Nat} {r : Nat} {x : Int} (h : r ≠ 0) : am_sval ρ 2 r x = .ref (ρ r) := by
  simp only [am_sval]
  rw [if_neg h]
theorem am_begin {s : State} {args : Array Value} {b L : Nat} {xs : Nat → Int32} (hL : L ≤ 3072) (hts : ∀ w ∈ lw_tbl, w.before args s = true) (hX : va_X b L xs s s.heap) (hbl : b < s.heap.size) (hgv : (Jvm.Cond.and given_1 narrow_1).before args s = true) :
    ∃ (f0 : Nat) (D : va_G) (AC : Nat → ClassId) (ρ : Nat → Nat), (f0 = 0 ∨ f0 = 16) ∧ ρ 15 = b ∧ (∀ i, 17 ≤ i → ρ i = s.heap.size + (i - 17)) ∧ (∀ i, 1 ≤ i → i < 16 → ρ i < s.heap.size) ∧ am_GW am_slen vwCl D AC ρ s.heap.size s.heap (am_hr0 f0) (am_hd0 L xs) s ∧ am_GX ρ s := by
  have hs : ∀ w ∈ am_flat, w.before args s = true := flat_of_before _ hgv
  obtain ⟨D, AC, hK, hAC⟩ := am_DAC hts
  have hA : ∀ a : Nat, a < s.heap.size → ¬ (fun q => s.heap.size ≤ q) a := fun a ha hq => absurd ha (Nat.not_lt.mpr hq)
  obtain ⟨adK, adV, hS, hev⟩ := vk_Sof (N := 7) (tm := am_tmR) (len := am_slL) (byt := am_sbL) (A := fun q => s.heap.size ≤ q) (fun i hi => by have := (am_q11 i hi).2; omega) (fun i hi => hs _ (am_q1 i hi)) (fun i hi => hs _ (am_q2 i hi)) (fun i hi => hs _ (am_q3 i hi)) (fun i hi => hs _ (am_q4 i hi))
    (fun i hi j hj => hs _ (am_q5 i hi j hj)) (fun i j hi hj hne => (am_q6 i hi j hj hne).imp (hs _) (hs _)) hA
  have hevM : ∀ i, i < 7 → (am_tmM i).eval args s none [] s = some (.ref (adK i)) := fun i hi => am_eqR (hs _ (am_q7 i hi)) (hev i hi)
  obtain ⟨w1, w2, w3, w4⟩ := am_q9
  obtain ⟨v1, v2⟩ := am_q8
  have hZ1 : va_Z "java/lang/String" "COMPACT_STRINGS" "Z" (.int 1) (fun q => s.heap.size ≤ q) s s.heap := va_Zof (hts _ w1) (hts _ w3) (va_eqi (hs _ v1)) hA
  have hZ2 : ∃ (f0 a0 : Nat), (f0 = 0 ∨ f0 = 16) ∧ va_Z "jdk/internal/util/Preconditions" "SIOOBE_FORMATTER" "Ljava/util/function/BiFunction;" (if f0 = 0 then .null else .ref a0) (fun q => s.heap.size ≤ q) s s.heap := by
    rcases am_isRef (hs _ v2) with h | ⟨a, h⟩
    · exact ⟨0, b, Or.inl rfl, va_Zof (hts _ w2) (hts _ w4) h hA⟩
    · exact ⟨16, a, Or.inr rfl, va_Zof (hts _ w2) (hts _ w4) h hA⟩
  obtain ⟨f0, a0, hf0, hZ2⟩ := hZ2
  have hlt : ∀ i, i < 7 → adK i < s.heap.size ∧ adV i < s.heap.size := by
    intro i hi
    obtain ⟨⟨c1, d1, -⟩, -, -, ⟨c2, d2, -⟩⟩ := hS.1 i hi
    exact ⟨(Array.getElem?_eq_some_iff.mp d1).1, (Array.getElem?_eq_some_iff.mp d2).1⟩
  let ρ : Nat → Nat := fun i => if 17 ≤ i then s.heap.size + (i - 17) else if i = 16 then a0 else if i = 15 then b else if 8 ≤ i then adV (i - 8) else adK (i - 1)
  have r15 : ρ 15 = b := rfl
  have r16 : ρ 16 = a0 := rfl
  have rK : ∀ i, 1 ≤ i → i ≤ 7 → ρ i = adK (i - 1) := by
    intro i h1 h2
    show (if 17 ≤ i then _ else if i = 16 then _ else if i = 15 then _ else if 8 ≤ i then _ else _) = _
    rw [if_neg (by omega), if_neg (by omega), if_neg (by omega), if_neg (by omega)]
  have rV : ∀ i, 8 ≤ i → i ≤ 14 → ρ i = adV (i - 8) := by
    intro i h1 h2
    show (if 17 ≤ i then _ else if i = 16 then _ else if i = 15 then _ else if 8 ≤ i then _ else _) = _
    rw [if_neg (by omega), if_neg (by omega), if_neg (by omega), if_pos h1]
  refine ⟨f0, D, AC, ρ, hf0, r15, fun i hi => if_pos hi, ?_, ⟨hK, hAC, ?_⟩, ?_⟩
  · intro i h1 h2
    by_cases h15 : i = 15
    · subst h15; exact hbl
    by_cases h8 : 8 ≤ i
    · rw [rV i h8 (by omega)]; exact (hlt _ (by omega)).2
    · rw [rK i h1 (by omega)]; exact (hlt _ (by omega)).1
  · refine ⟨fun i h1 h2 => ?_, fun i h1 h2 => ?_, fun i h1 h2 => ?_, ⟨L, by omega, rfl, ?_, hbl, fun j => in32_ti _⟩, hZ1, ?_⟩
    · rw [rK i h1 h2]
      obtain ⟨cell, e1, e2, e3, e4⟩ := (hS.1 (i - 1) (by omega)).1
      exact ⟨cell, e1, e2, e3⟩
    · obtain ⟨-, g2, g3, -⟩ := hS.1 (i - 1) (by omega)
      have e0 : am_hr0 f0 i 0 = i + 7 := by
        show (if 1 ≤ i ∧ i ≤ 7 then _ else _) = _
        rw [if_pos ⟨h1, h2⟩]
        rfl
      refine ⟨?_, by rw [rK i h1 h2]; exact g2, ?_⟩
      · rw [e0, rK i h1 h2]
        rw [am_svalR (by omega), rV (i + 7) (by omega) (by omega), show i + 7 - 8 = i - 1 by omega]
        exact g3
      · show (if i = 0 then _ else if i = 15 then _ else if 8 ≤ i ∧ i ≤ 14 then _ else (0 : Int)) = 0
        rw [if_neg (by omega), if_neg (by omega), if_neg (by omega)]
    · obtain ⟨-, -, -, g4⟩ := hS.1 (i - 8) (by omega)
      have e0 : ∀ j, am_hd0 L xs i j = (am_sbI.getD (i - 8) []).getD j 0 := by
        intro j
        show (if i = 0 then _ else if i = 15 then _ else if 8 ≤ i ∧ i ≤ 14 then _ else (0 : Int)) = _
        rw [if_neg (by omega), if_neg (by omega), if_pos ⟨h1, h2⟩]
      obtain ⟨q1, q2⟩ := am_q11 (i - 8) (by omega)
      rw [show i - 8 + 8 = i by omega] at q1
      refine ⟨?_, fun j => ?_⟩
      · rw [rV i h1 h2, q1]
        refine am_vaT g4 (fun j hj => ?_)
        rw [e0, am_q10 (i - 8) (by omega) j hj]
      · rw [e0]
        have := am_sb_in (i - 8) j
        exact ⟨by omega, by omega⟩
    · rw [r15]
      obtain ⟨scr, x1, x2, x3, x4, x5⟩ := hX
      refine ⟨scr, x1, x2, x3, x4, fun j hj => ?_⟩
      rw [x5 j hj]
      show some (Value.int (xs j)) = some (Value.int (Int32.ofInt (xs j).toInt))
      rw [Int32.ofInt_toInt]
    · have e0 : am_hr0 f0 0 0 = f0 := rfl
      rw [e0]
      show va_Z _ _ _ (if f0 = 0 then Value.null else .ref (ρ f0)) _ _ _
      rcases hf0 with rfl | rfl
      · exact hZ2
      · exact hZ2
  · have hO : ∀ w ∈ am_oT, w.before args s = true := fun w hw => hts w (am_oT_in w hw)
    refine ⟨fun e he h0 => ?_, fun e he => ?_, hO (Cond.arrayOver (.object "OnlyLent$Holdings")) (by simp [am_oT]), hO (Cond.arrayOver (.object "java/lang/String")) (by simp [am_oT]), hO (Cond.arrayOver (.array .int)) (by simp [am_oT])⟩
    · have h := hts _ (am_mT_in e he)
      unfold am_mword at h
      rw [if_neg h0] at h
      exact h
    · have h := hts _ (am_sT_in e he)
      have h9 := List.all_eq_true.mp am_q13 e he
      simp only [Bool.and_eq_true, Bool.or_eq_true, beq_iff_eq, bne_iff_ne, ne_eq, decide_eq_true_eq] at h9
      obtain ⟨⟨⟨h7, h8a, h8b⟩, h10⟩, h11⟩ := h9
      rw [rK e.2.2 h8a h8b]
      rcases h7 with h7 | h7
      · have h12 := h10.resolve_left (fun z => z h7)
        have hv := hev (e.2.2 - 1) (by omega)
        rw [h12] at hv
        exact vk_R.of h hv
      · have h12 := h11.resolve_left (fun z => z h7)
        have hv := hevM (e.2.2 - 1) (by omega)
        rw [h12] at hv
        exact vk_R.of h hv
set_option maxRecDepth 100000 in
theorem am_law : am_mB 313 = code ∧ am_mO 313 = 20 ∧ am_mF 313 = 1 := ⟨rfl, rfl, rfl⟩
/-- THE CLAIM'S OWN PART OUT OF THE PURE STATEMENT -/
theorem whole_of (hgoal : am_Goal) {p : Program} {e : Env} {s : State} {m : MethodId} {below : List Frame} {meth : Method} {c : Code} (l : Launch) {b L : Nat} {xs : Nat → Int32} (hL : L ≤ 3072) (C0 : lw_At p s m meth c b L xs) : W p l e room_1 s m #[Value.ref b] below meth c s.heap [] 0 0 (lw_Z below #[Value.ref b] s) (entryFrame m ([Value.ref b] : List Value).toArray 4) := by
  obtain ⟨hx, hb, hr, hml, hown, hts, hX, hbl, hlocks, hgv⟩ := C0
  obtain ⟨f0, D, AC, ρ, hf0, hρ15, hρ1, hρ2, hG, hGX⟩ := am_begin hL hts hX hbl hgv
  obtain ⟨d, hd, hwp⟩ := hgoal f0 L xs hf0 hL
  have hF := am_fixed hρ1 hρ2
  have hts' : ∀ w ∈ am_Tg, w.before #[Value.ref b] s = true := fun w hw => hts w (List.mem_filter.mp hw).1
  obtain ⟨r, hr9⟩ := am_chk_at (m := 313) (by decide)
  obtain ⟨k1, k2, k3⟩ := am_law
  rw [k1, k2, k3] at hr9
  have hfr : d + 1 ≤ room_1.frames ∧ 64 * (d + 1) ≤ room_1.locals := ⟨show d + 1 ≤ 2048 by omega, show 64 * (d + 1) ≤ 84000 by omega⟩
  have hTree := ws_tree (o := 20) (d := d) (rk := 0) (ini := false) (O := wpM d) (Qr := am_FL) (R := room_1) (l := l) (e := e) (below := below) (meth := meth) (nL := 4) (Qf := lw_Z below #[Value.ref b] s)
    hx hb hml hown hts' hF hG hGX hfr (wpM_or hF d) (fun h => by cases h) ?_ (am_tree 313) [] 0 code.data.toList r (by unfold fd_at; simp) hr9
  · rw [lg_entry_eq]
    have he := am_entry ρ (as := [vR 15]) (nL := 4) (fun a ha => by rcases List.mem_singleton.mp ha with rfl; exact trivial) (by decide)
    have e1 : [vR 15].map (am_enc ρ) = [Value.ref b] := by
      show [if (15 : Nat) = 0 then Value.null else .ref (ρ 15)] = _
      rw [if_neg (by decide), hρ15]
    rw [e1] at he
    refine hTree.2 am_F0 am_F1 (fun ls st hr hd n u us h => h.elim) (fun k lbl hk => by simp at hk) _ _ (am_hr0 f0) (am_hd0 L xs) 17 0 0 hwp _ s.heap [] he (fun v hv => by cases hv) ?_ (fun q hq => by cases hq)
    exact ⟨Nat.le_refl _, by omega, fun q _ => rfl, fun i h1 h2 => by omega, fun i _ => ⟨rfl, rfl⟩⟩
  · intro pc i hdg ls st hr' hd' n u us hQ lsR H locs hL' hC hH hl
    unfold wpRet at hQ
    split at hQ
    · rename_i x
      obtain ⟨-, q1, q2, q3⟩ := hQ
      cases q1
      exact va_forget hl (W.widen q2 q3 (lw_ret hx hb hr hlocks hdg))
    · exact absurd hQ.1 (by simp)
    · exact absurd hQ.1 (by simp)
    · exact absurd hQ.1 (by simp)
    · exact hQ.elim
