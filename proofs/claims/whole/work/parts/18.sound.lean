/-! SOUNDNESS of the small machine, 9: every checked step -/
theorem am_shp_159 : ∀ i, i < 159 → ((am_shp i = 5 → i = 15) ∧ (am_shp i = 6 → 8 ≤ i ∧ i ≤ 14) ∧ (am_shp i = 113 → 1 ≤ i ∧ i ≤ 7) ∧ (i < 17 → am_shp i = 0 ∨ am_shp i = 5 ∨ am_shp i = 6 ∨ am_shp i = 113) ∧ am_shp i < 114 ∧ am_slen i < 1000 ∧ (am_shp i < 10 ∨ 100 ≤ am_shp i)) := by decide +kernel
theorem am_shp_hi {i : Nat} (h : 159 ≤ i) : am_shp i = 1 ∧ am_slen i = 6 := ⟨if_neg (by omega), if_neg (by omega)⟩
theorem am_uin {c : Nat} {C : String} {T : u_T} {N : Nat} (hc : vwCl[c]? = some (C, T, N)) : ∀ w ∈ u_ws C T N, w ∈ am_Tg := by
  intro w hw
  obtain ⟨k, hk, rfl⟩ := List.mem_map.mp hw
  have hk := List.mem_range.mp hk
  have hlt : c < 13 := (List.getElem?_eq_some_iff.mp hc).1
  have h1 := List.all_eq_true.mp am_uP_all c (List.mem_range.mpr hlt)
  rw [hc] at h1
  have h2 := List.all_eq_true.mp h1 k (List.mem_range.mpr hk)
  have h3 := am_uP_in (c, k) (List.contains_iff_mem.mp h2)
  unfold am_uword at h3
  simp only [hc] at h3
  refine am_Tg_in h3 ?_
  unfold u_lay
  split <;> rfl
theorem am_cls {c : Nat} {C : String} {T : u_T} {N : Nat} (hc : vwCl[c]? = some (C, T, N)) : ∃ ty0 : Nat → FieldType, (∀ k, k < N → parseFieldDescriptor (T k).2.2.1 = some (ty0 k) ∧ am_fk c k = am_kdOf (ty0 k) ∧ am_fk c k < 4) ∧ (∀ a, a < N → ∀ b, b < N → a ≠ b → (T a).2.1 ≠ (T b).2.1) ∧ C = am_ON c ∧ ∀ k, k < N → (T k).1 = am_ON c := by
  have hlt : c < 13 := (List.getElem?_eq_some_iff.mp hc).1
  match c, hlt with
  | 0, _ => cases hc; exact ⟨tyX0, (fun k hk => ⟨tyX0_ok k hk, (show ∀ k, k < 8 → am_fk 0 k = am_kdOf (tyX0 k) ∧ am_fk 0 k < 4 by decide +kernel) k hk⟩), nmX0, rfl, (show ∀ k, k < 8 → (TX0 k).1 = am_ON 0 by decide +kernel)⟩
  | 1, _ => cases hc; exact ⟨tyX1, (fun k hk => ⟨tyX1_ok k hk, (show ∀ k, k < 14 → am_fk 1 k = am_kdOf (tyX1 k) ∧ am_fk 1 k < 4 by decide +kernel) k hk⟩), nmX1, rfl, (show ∀ k, k < 14 → (TX1 k).1 = am_ON 1 by decide +kernel)⟩
  | 2, _ => cases hc; exact ⟨tyX2, (fun k hk => ⟨tyX2_ok k hk, (show ∀ k, k < 5 → am_fk 2 k = am_kdOf (tyX2 k) ∧ am_fk 2 k < 4 by decide +kernel) k hk⟩), nmX2, rfl, (show ∀ k, k < 5 → (TX2 k).1 = am_ON 2 by decide +kernel)⟩
  | 3, _ => cases hc; exact ⟨tyX3, (fun k hk => ⟨tyX3_ok k hk, (show ∀ k, k < 8 → am_fk 3 k = am_kdOf (tyX3 k) ∧ am_fk 3 k < 4 by decide +kernel) k hk⟩), nmX3, rfl, (show ∀ k, k < 8 → (TX3 k).1 = am_ON 3 by decide +kernel)⟩
  | 4, _ => cases hc; exact ⟨tyX4, (fun k hk => ⟨tyX4_ok k hk, (show ∀ k, k < 19 → am_fk 4 k = am_kdOf (tyX4 k) ∧ am_fk 4 k < 4 by decide +kernel) k hk⟩), nmX4, rfl, (show ∀ k, k < 19 → (TX4 k).1 = am_ON 4 by decide +kernel)⟩
  | 5, _ => cases hc; exact ⟨tyX5, (fun k hk => ⟨tyX5_ok k hk, (show ∀ k, k < 2 → am_fk 5 k = am_kdOf (tyX5 k) ∧ am_fk 5 k < 4 by decide +kernel) k hk⟩), nmX5, rfl, (show ∀ k, k < 2 → (TX5 k).1 = am_ON 5 by decide +kernel)⟩
  | 6, _ => cases hc; exact ⟨tyX6, (fun k hk => ⟨tyX6_ok k hk, (show ∀ k, k < 9 → am_fk 6 k = am_kdOf (tyX6 k) ∧ am_fk 6 k < 4 by decide +kernel) k hk⟩), nmX6, rfl, (show ∀ k, k < 9 → (TX6 k).1 = am_ON 6 by decide +kernel)⟩
  | 7, _ => cases hc; exact ⟨tyX7, (fun k hk => ⟨tyX7_ok k hk, (show ∀ k, k < 6 → am_fk 7 k = am_kdOf (tyX7 k) ∧ am_fk 7 k < 4 by decide +kernel) k hk⟩), nmX7, rfl, (show ∀ k, k < 6 → (TX7 k).1 = am_ON 7 by decide +kernel)⟩
  | 8, _ => cases hc; exact ⟨tyX8, (fun k hk => ⟨tyX8_ok k hk, (show ∀ k, k < 2 → am_fk 8 k = am_kdOf (tyX8 k) ∧ am_fk 8 k < 4 by decide +kernel) k hk⟩), nmX8, rfl, (show ∀ k, k < 2 → (TX8 k).1 = am_ON 8 by decide +kernel)⟩
  | 9, _ => cases hc; exact ⟨tyX9, (fun k hk => ⟨tyX9_ok k hk, (show ∀ k, k < 8 → am_fk 9 k = am_kdOf (tyX9 k) ∧ am_fk 9 k < 4 by decide +kernel) k hk⟩), nmX9, rfl, (show ∀ k, k < 8 → (TX9 k).1 = am_ON 9 by decide +kernel)⟩
  | 10, _ => cases hc; exact ⟨tyX10, (fun k hk => ⟨tyX10_ok k hk, (show ∀ k, k < 2 → am_fk 10 k = am_kdOf (tyX10 k) ∧ am_fk 10 k < 4 by decide +kernel) k hk⟩), nmX10, rfl, (show ∀ k, k < 2 → (TX10 k).1 = am_ON 10 by decide +kernel)⟩
  | 11, _ => cases hc; exact ⟨tyX11, (fun k hk => ⟨tyX11_ok k hk, (show ∀ k, k < 12 → am_fk 11 k = am_kdOf (tyX11 k) ∧ am_fk 11 k < 4 by decide +kernel) k hk⟩), nmX11, rfl, (show ∀ k, k < 12 → (TX11 k).1 = am_ON 11 by decide +kernel)⟩
  | 12, _ => cases hc; exact ⟨tyX12, (fun k hk => ⟨tyX12_ok k hk, (show ∀ k, k < 60 → am_fk 12 k = am_kdOf (tyX12 k) ∧ am_fk 12 k < 4 by decide +kernel) k hk⟩), nmX12, rfl, (show ∀ k, k < 60 → (TX12 k).1 = am_ON 12 by decide +kernel)⟩
theorem am_fixed {ρ : Nat → Nat} {B0 : Nat} (h1 : ∀ i, 17 ≤ i → ρ i = B0 + (i - 17)) (h2 : ∀ i, 1 ≤ i → i < 16 → ρ i < B0) : am_fix am_shp am_fk vwCl ρ B0 am_Tg := by
  have key : ∀ i, i < 159 ∨ (am_shp i = 1 ∧ 159 ≤ i) := by
    intro i
    rcases Nat.lt_or_ge i 159 with h | h
    · exact Or.inl h
    · exact Or.inr ⟨(am_shp_hi h).1, h⟩
  refine ⟨fun i h => ?_, fun i h => ?_, fun i h => ?_, fun i h => ?_, fun i => ?_, rfl, h1, h2, fun ci C T N hc => ⟨am_uin hc, ?_⟩⟩
  · rcases key i with q | q
    · exact (am_shp_159 i q).1 h
    · omega
  · rcases key i with q | q
    · exact (am_shp_159 i q).2.1 h
    · omega
  · rcases key i with q | q
    · exact (am_shp_159 i q).2.2.1 h
    · omega
  · exact (am_shp_159 i (by omega)).2.2.2.1 h
  · rcases key i with q | q
    · exact (am_shp_159 i q).2.2.2.2.1
    · omega
  · obtain ⟨ty0, g1, g2, -⟩ := am_cls hc
    exact ⟨ty0, g1, g2⟩
theorem am_slen_lt (i : Nat) : am_slen i < 1000000 := by
  rcases Nat.lt_or_ge i 159 with h | h
  · have := (am_shp_159 i h).2.2.2.2.2.1
    omega
  · rw [(am_shp_hi h).2]; omega
theorem am_shp_arr (i : Nat) (h0 : 0 < am_shp i) (h1 : am_shp i < 100) : am_shp i < 5 ∨ am_shp i = 5 ∨ am_shp i = 6 ∨ am_shp i = 7 ∨ am_shp i = 8 ∨ am_shp i = 9 := by
  rcases Nat.lt_or_ge i 159 with h | h
  · have := (am_shp_159 i h).2.2.2.2.2.2
    omega
  · rw [(am_shp_hi h).1]; omega
theorem i2c_ok {a : Int} (h : in32 a) : ((Int32.ofInt a).toUInt32 % 65536).toInt32 = Int32.ofInt (Int.emod a 65536) ∧ in32 (Int.emod a 65536) := by
  have h6 : in32 (Int.emod a 65536) := ⟨by have := Int.emod_nonneg a (show (65536 : Int) ≠ 0 by decide); show _ ≤ a % 65536; omega, by have := Int.emod_lt_of_pos a (show (0 : Int) < 65536 by decide); show a % 65536 < _; omega⟩
  refine ⟨?_, h6⟩
  apply Int32.toInt_inj.mp
  rw [ti32, w32_id h6]
  have e1 : ((Int32.ofInt a).toUInt32 % 65536).toNat = (a % 65536).toNat := by
    rw [UInt32.toNat_mod]
    have : (Int32.ofInt a).toUInt32.toNat = (a % 4294967296).toNat := by
      show (BitVec.ofInt 32 a).toNat = _
      rw [BitVec.toNat_ofInt]
      rfl
    rw [this]
    show (a % 4294967296).toNat % 65536 = _
    omega
  show (((Int32.ofInt a).toUInt32 % 65536).toBitVec).toInt = a % 65536
  rw [BitVec.toInt_eq_toNat_of_lt]
  · show (((Int32.ofInt a).toUInt32 % 65536).toNat : Int) = _
    rw [e1]
    omega
  · show 2 * ((Int32.ofInt a).toUInt32 % 65536).toNat < 2 ^ 32
    rw [e1]
    omega
section SQ
variable {D : va_G} {AC : Nat → ClassId} {ρ : Nat → Nat} {B0 : Nat} {H00 : Heap} {hr0 : amR} {hd0 : amD}
variable {p : Program} {l : Launch} {e : Env} {R : Room} {s : State} {m : MethodId} {args : Array Value} {below : List Frame} {meth : Method} {c : Code} {Qf : State → Prop} {nL : Nat} {cc : ByteArray} {pc pc' : Nat}
set_option maxHeartbeats 4000000 in
theorem ws_instr (hx : p.tables.exec = Jvm.exec) (hb : c.code = cc) (hF : am_fix am_shp am_fk vwCl ρ B0 am_Tg) (hG : am_GW am_slen vwCl D AC ρ B0 H00 hr0 hd0 s) {i : Instr} {n : Nat} (hi : am_iok i n = true) (hdg : decode cc pc = .ok (i, n)) {Q : amP} (h : am_WS am_shp am_slen am_fk vwCl D AC ρ B0 H00 hr0 hd0 p l e R s m args below meth c Qf nL (pc + n) Q) : am_WS am_shp am_slen am_fk vwCl D AC ρ B0 H00 hr0 hd0 p l e R s m args below meth c Qf nL pc (wpI am_shp am_slen i Q) := by
  cases i
  case iconst k =>
    simp only [am_iok, Bool.and_eq_true, beq_iff_eq, decide_eq_true_eq] at hi; obtain ⟨rfl, hi1, hi2⟩ := hi
    exact ws_psh (v := vI k) (show in32 k from ⟨by omega, by omega⟩) (fun lsR H locs u us rest hw => lv_iconst hx hb hdg rfl hw) h
  case bipush k =>
    simp only [am_iok, Bool.and_eq_true, beq_iff_eq, decide_eq_true_eq] at hi; obtain ⟨rfl, hi1, hi2⟩ := hi
    have e : (Int8.ofInt k).toInt32 = Int32.ofInt k := by
      apply Int32.toInt_inj.mp
      rw [Int8.toInt_toInt32, Int8.toInt_ofInt, ti32, w32_id ⟨by omega, by omega⟩]
      show Int.bmod k 256 = k
      unfold Int.bmod
      simp only []
      split <;> omega
    exact ws_psh (v := vI k) (show in32 k from ⟨by omega, by omega⟩) (fun lsR H locs u us rest hw => lv_bipush hx hb hdg e hw) h
  case sipush k =>
    simp only [am_iok, Bool.and_eq_true, beq_iff_eq, decide_eq_true_eq] at hi; obtain ⟨rfl, hi1, hi2⟩ := hi
    have e : (Int16.ofInt k).toInt32 = Int32.ofInt k := by
      apply Int32.toInt_inj.mp
      rw [Int16.toInt_toInt32, Int16.toInt_ofInt, ti32, w32_id ⟨by omega, by omega⟩]
      show Int.bmod k 65536 = k
      unfold Int.bmod
      simp only []
      split <;> omega
    exact ws_psh (v := vI k) (show in32 k from ⟨by omega, by omega⟩) (fun lsR H locs u us rest hw => lv_sipush hx hb hdg e hw) h
  case lconst k =>
    simp only [am_iok, beq_iff_eq] at hi; subst hi
    exact ws_psh (v := vL ((k : Nat) : Int)) (show in64 _ from ⟨by omega, by omega⟩) (fun lsR H locs u us rest hw => lv_lconst hx hb hdg (Int64.ofInt_eq_ofNat).symm hw) h
  case aconst_null =>
    simp only [am_iok, beq_iff_eq] at hi; subst hi
    exact ws_psh (v := vR 0) trivial (fun lsR H locs u us rest hw => lv_null hx hb hdg hw) h
  case iload j =>
    simp only [am_iok, beq_iff_eq] at hi; subst hi
    exact ws_ild (fun x lsR H locs u us rest hl hw => lv_iload hx hb hdg hl hw) h
  case iload_n j =>
    simp only [am_iok, beq_iff_eq] at hi; subst hi
    exact ws_ild (fun x lsR H locs u us rest hl hw => lv_iload_n hx hb hdg rfl hl hw) h
  case lload j =>
    simp only [am_iok, beq_iff_eq] at hi; subst hi
    exact ws_lld (fun x lsR H locs u us rest hl hw => lv_lload hx hb hdg hl hw) h
  case lload_n j =>
    simp only [am_iok, beq_iff_eq] at hi; subst hi
    exact ws_lld (fun x lsR H locs u us rest hl hw => lv_lload_n hx hb hdg rfl hl hw) h
  case aload j =>
    simp only [am_iok, beq_iff_eq] at hi; subst hi
    exact ws_ald (fun x lsR H locs u us rest hl hw => lv_aload hx hb hdg hl hw) (fun lsR H locs u us rest hl hw => lv_aloadN hx hb hdg hl hw) h
  case aload_n j =>
    simp only [am_iok, beq_iff_eq] at hi; subst hi
    exact ws_ald (fun x lsR H locs u us rest hl hw => lv_aload_n hx hb hdg rfl hl hw) (fun lsR H locs u us rest hl hw => lv_aload_nN hx hb hdg rfl hl hw) h
  case istore j =>
    simp only [am_iok, beq_iff_eq] at hi; subst hi
    exact ws_ist (fun x lv lsR H locs u us rest hl hn hw => lv_istore hx hb hdg hl hn rfl hw) h
  case istore_n j =>
    simp only [am_iok, beq_iff_eq] at hi; subst hi
    exact ws_ist (fun x lv lsR H locs u us rest hl hn hw => lv_istore_n hx hb hdg rfl hl hn rfl hw) h
  case lstore j =>
    simp only [am_iok, beq_iff_eq] at hi; subst hi
    exact ws_lst (fun x lv lsR H locs u us rest hl hn hw => lv_lstore hx hb hdg hl hn rfl hw) h
  case lstore_n j =>
    simp only [am_iok, beq_iff_eq] at hi; subst hi
    exact ws_lst (fun x lv lsR H locs u us rest hl hn hw => lv_lstore_n hx hb hdg rfl hl hn rfl hw) h
  case astore j =>
    simp only [am_iok, beq_iff_eq] at hi; subst hi
    exact ws_ast (fun x lv lsR H locs u us rest hl hn hw => lv_astore hx hb hdg hl hn rfl hw) (fun lv lsR H locs u us rest hl hn hw => lv_astoreN hx hb hdg hl hn rfl hw) h
  case astore_n j =>
    simp only [am_iok, beq_iff_eq] at hi; subst hi
    exact ws_ast (fun x lv lsR H locs u us rest hl hn hw => lv_astore_n hx hb hdg rfl hl hn rfl hw) (fun lv lsR H locs u us rest hl hn hw => lv_astore_nN hx hb hdg rfl hl hn rfl hw) h
  case iinc j k =>
    simp only [am_iok, beq_iff_eq] at hi; subst hi
    exact ws_iinc (fun x lv lsR H locs u us rest hl hz hn hw => by obtain ⟨z, hz⟩ := hz; exact lv_iinc hx hb hdg hl hz rfl hn rfl hw) h
  case iadd =>
    simp only [am_iok, beq_iff_eq] at hi; subst hi
    exact ws_bin (fun a b _ _ => ⟨w32_add a b, w32_in _⟩) (fun x y lsR H locs u us rest hw => lv_iadd hx hb hdg hw) h
  case isub =>
    simp only [am_iok, beq_iff_eq] at hi; subst hi
    exact ws_bin (fun a b _ _ => ⟨w32_sub a b, w32_in _⟩) (fun x y lsR H locs u us rest hw => lv_isub hx hb hdg hw) h
  case imul =>
    simp only [am_iok, beq_iff_eq] at hi; subst hi
    exact ws_bin (fun a b _ _ => ⟨w32_mul a b, w32_in _⟩) (fun x y lsR H locs u us rest hw => lv_imul hx hb hdg hw) h
  case idiv =>
    simp only [am_iok, beq_iff_eq] at hi; subst hi
    exact ws_div (fun a b ha hb' => ⟨w32_div ha hb', w32_in _⟩) (fun x y lsR H locs u us rest hne hw => lv_idiv hx hb hdg hne hw) h
  case iand =>
    simp only [am_iok, beq_iff_eq] at hi; subst hi
    exact ws_bin (fun a b _ _ => ⟨am_i2_oi _ a b, am_i2_in _ a b⟩) (fun x y lsR H locs u us rest hw => lv_iand hx hb hdg hw) h
  case ior =>
    simp only [am_iok, beq_iff_eq] at hi; subst hi
    exact ws_bin (fun a b _ _ => ⟨am_i2_oi _ a b, am_i2_in _ a b⟩) (fun x y lsR H locs u us rest hw => lv_ior hx hb hdg hw) h
  case ixor =>
    simp only [am_iok, beq_iff_eq] at hi; subst hi
    exact ws_bin (fun a b _ _ => ⟨am_i2_oi _ a b, am_i2_in _ a b⟩) (fun x y lsR H locs u us rest hw => lv_ixor hx hb hdg hw) h
  case ishl =>
    simp only [am_iok, beq_iff_eq] at hi; subst hi
    exact ws_bin (g := fun x y => x <<< (y &&& 31)) (fun a b _ _ => ⟨am_i2_oi _ a b, am_i2_in _ a b⟩) (fun x y lsR H locs u us rest hw => lv_ishl hx hb hdg hw) h
  case ishr =>
    simp only [am_iok, beq_iff_eq] at hi; subst hi
    exact ws_bin (g := fun x y => x >>> (y &&& 31)) (fun a b _ _ => ⟨am_i2_oi _ a b, am_i2_in _ a b⟩) (fun x y lsR H locs u us rest hw => lv_ishr hx hb hdg hw) h
  case iushr =>
    simp only [am_iok, beq_iff_eq] at hi; subst hi
    exact ws_bin (g := fun x y => (x.toUInt32 >>> (y.toUInt32 &&& Int32.toUInt32 31)).toInt32) (fun a b _ _ => ⟨am_i2_oi _ a b, am_i2_in _ a b⟩) (fun x y lsR H locs u us rest hw => lv_iushr hx hb hdg rfl hw) h
  case ladd =>
    simp only [am_iok, beq_iff_eq] at hi; subst hi
    exact ws_lbin (fun a b _ _ => ⟨w64_add a b, w64_in _⟩) (fun x y lsR H locs u us rest hw => lv_ladd hx hb hdg hw) h
  case lsub =>
    simp only [am_iok, beq_iff_eq] at hi; subst hi
    exact ws_lbin (fun a b _ _ => ⟨w64_sub a b, w64_in _⟩) (fun x y lsR H locs u us rest hw => lv_lsub hx hb hdg hw) h
  case lmul =>
    simp only [am_iok, beq_iff_eq] at hi; subst hi
    exact ws_lbin (fun a b _ _ => ⟨w64_mul a b, w64_in _⟩) (fun x y lsR H locs u us rest hw => lv_lmul hx hb hdg hw) h
  case land =>
    simp only [am_iok, beq_iff_eq] at hi; subst hi
    exact ws_lbin (fun a b _ _ => ⟨Int64.ofInt_toInt _, in64_ti _⟩) (fun x y lsR H locs u us rest hw => lv_land hx hb hdg hw) h
  case ldiv =>
    simp only [am_iok, beq_iff_eq] at hi; subst hi
    exact ws_ldiv (fun a b ha hb' => ⟨w64_div ha hb', w64_in _⟩) (fun x y lsR H locs u us rest hne hw => lv_ldiv hx hb hdg hne hw) h
  case lrem =>
    simp only [am_iok, beq_iff_eq] at hi; subst hi
    exact ws_ldiv (fun a b ha hb' => ⟨w64_rem ha hb', w64_in _⟩) (fun x y lsR H locs u us rest hne hw => lv_lrem hx hb hdg hne hw) h
  case lshl =>
    simp only [am_iok, beq_iff_eq] at hi; subst hi
    exact ws_lsh (g := fun x y => x <<< (y.toInt64 &&& 63)) (fun a b _ _ => ⟨Int64.ofInt_toInt _, in64_ti _⟩) (fun x y lsR H locs u us rest hw => lv_lshl hx hb hdg rfl hw) h
  case lshr =>
    simp only [am_iok, beq_iff_eq] at hi; subst hi
    exact ws_lsh (g := fun x y => x >>> (y.toInt64 &&& 63)) (fun a b _ _ => ⟨Int64.ofInt_toInt _, in64_ti _⟩) (fun x y lsR H locs u us rest hw => lv_lshr hx hb hdg rfl hw) h
  case lcmp =>
    simp only [am_iok, beq_iff_eq] at hi; subst hi
    exact ws_lcmp (fun x y lsR H locs u us rest hw => W.lcmp hx hb hdg hw) h
  case i2l =>
    simp only [am_iok, beq_iff_eq] at hi; subst hi
    exact ws_i2l (fun x lsR H locs u us rest hw => lv_i2l hx hb hdg rfl hw) h
  case l2i =>
    simp only [am_iok, beq_iff_eq] at hi; subst hi
    exact ws_l2i (fun x lsR H locs u us rest hw => lv_l2i hx hb hdg rfl hw) h
  case i2b =>
    simp only [am_iok, beq_iff_eq] at hi; subst hi
    exact ws_un (fun a ha => ⟨(i2b_ok a).symm, am_sok_32 (kd := 4) (w8_in a) (by decide) (by decide)⟩) (fun x lsR H locs u us rest hw => lv_i2b hx hb hdg rfl hw) h
  case i2c =>
    simp only [am_iok, beq_iff_eq] at hi; subst hi
    exact ws_un (fun a ha => ⟨(i2c_ok ha).1.symm, (i2c_ok ha).2⟩) (fun x lsR H locs u us rest hw => lv_i2c hx hb hdg rfl hw) h
  case dup =>
    simp only [am_iok, beq_iff_eq] at hi; subst hi
    exact ws_dup (fun v lsR H locs u us rest hv hw => lv_dup hx hb hdg hv hw) h
  case dup2 =>
    simp only [am_iok, beq_iff_eq] at hi; subst hi
    exact ws_dup2 (fun v w lsR H locs u us rest hv hv' hw => lv_dup2_11 hx hb hdg hv hv' hw) h
  case pop =>
    simp only [am_iok, beq_iff_eq] at hi; subst hi
    exact ws_pop (fun v lsR H locs u us rest hv hw => lv_pop hx hb hdg hv hw) h
  case arraylength =>
    simp only [am_iok, beq_iff_eq] at hi; subst hi
    exact ws_alen hx hb hF am_slen_lt hG am_shp_arr hdg h
  case iaload =>
    simp only [am_iok, beq_iff_eq] at hi; subst hi
    exact ws_iald hx hb hF hG hdg h
  case baload =>
    simp only [am_iok, beq_iff_eq] at hi; subst hi
    exact ws_bald hx hb hF hG hdg h
  case laload =>
    simp only [am_iok, beq_iff_eq] at hi; subst hi
    exact ws_lald hx hb hF hG hdg h
  case aaload =>
    simp only [am_iok, beq_iff_eq] at hi; subst hi
    exact ws_aald hx hb hF hG hdg h
  case iastore =>
    simp only [am_iok, beq_iff_eq] at hi; subst hi
    exact ws_iast hx hb hF hG hdg h
  case bastore =>
    simp only [am_iok, beq_iff_eq] at hi; subst hi
    exact ws_bast hx hb hF hG hdg h
  case lastore =>
    simp only [am_iok, beq_iff_eq] at hi; subst hi
    exact ws_last hx hb hF hG hdg h
  case aastore =>
    simp only [am_iok, beq_iff_eq] at hi; subst hi
    exact ws_aast hx hb hF hG ⟨TX3, 8, rfl⟩ hdg h
  all_goals exact absurd hi (by simp [am_iok])
end SQ
