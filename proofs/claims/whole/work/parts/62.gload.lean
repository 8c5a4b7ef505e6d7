/-! GIVING of the class: longs, load, costOf -/
theorem w64_b {x : Int} (h1 : -9223372036854775808 ≤ x) (h2 : x ≤ 9223372036854775807) : w64 x = x := by
  unfold w64 Int.bmod
  simp only []
  split <;> omega
theorem bv64_of (a : Nat) : (Int64.ofInt (a : Int)).toBitVec = BitVec.ofNat 64 a := by
  show BitVec.ofInt 64 (a : Int) = _
  exact BitVec.ofInt_natCast 64 a
theorem ti64_bv (x : Int64) : x.toInt = x.toBitVec.toInt := rfl
theorem bv64_ti {v : BitVec 64} (h : v.toNat < 9223372036854775808) : v.toInt = (v.toNat : Int) := by
  rw [BitVec.toInt_eq_toNat_cond, if_pos (by omega)]
theorem lsh_amt {k : Nat} (hk : k < 64) : ((Int32.ofInt (k : Int)).toInt64 &&& 63).toBitVec = BitVec.ofNat 64 k := by
  have : ∀ k : Nat, k < 64 → ((Int32.ofInt (k : Int)).toInt64 &&& 63).toBitVec = BitVec.ofNat 64 k := by decide +kernel
  exact this k hk
theorem lshl_nat {a k : Nat} (hk : k < 64) (h : a * 2 ^ k < 9223372036854775808) : am_lshl (a : Int) (k : Int) = ((a * 2 ^ k : Nat) : Int) := by
  show (Int64.ofInt (a : Int) <<< ((Int32.ofInt (k : Int)).toInt64 &&& 63)).toInt = _
  have hb : (Int64.ofInt (a : Int) <<< ((Int32.ofInt (k : Int)).toInt64 &&& 63)).toBitVec = BitVec.ofNat 64 (a * 2 ^ k) := by
    rw [Int64.toBitVec_shiftLeft, bv64_of, lsh_amt hk]
    have h2 : ∀ k : Nat, k < 64 → (BitVec.ofNat 64 k).smod 64 = BitVec.ofNat 64 k := by decide +kernel
    rw [h2 k hk]
    apply BitVec.eq_of_toNat_eq
    rw [BitVec.shiftLeft_eq', BitVec.toNat_shiftLeft, BitVec.toNat_ofNat, BitVec.toNat_ofNat, BitVec.toNat_ofNat, Nat.mod_eq_of_lt (show k < 2 ^ 64 by omega), Nat.shiftLeft_eq]
    rw [Nat.mod_mul_mod]
  rw [ti64_bv, hb, bv64_ti (by rw [BitVec.toNat_ofNat, Nat.mod_eq_of_lt (by omega)]; exact h), BitVec.toNat_ofNat, Nat.mod_eq_of_lt (by omega)]
theorem lshr_nat {a k : Nat} (ha : a < 9223372036854775808) (hk : k < 64) : am_lshr (a : Int) (k : Int) = ((a / 2 ^ k : Nat) : Int) := by
  show (Int64.ofInt (a : Int) >>> ((Int32.ofInt (k : Int)).toInt64 &&& 63)).toInt = _
  have hlt : a / 2 ^ k < 9223372036854775808 := Nat.lt_of_le_of_lt (Nat.div_le_self a _) ha
  have hb : (Int64.ofInt (a : Int) >>> ((Int32.ofInt (k : Int)).toInt64 &&& 63)).toBitVec = BitVec.ofNat 64 (a / 2 ^ k) := by
    rw [Int64.toBitVec_shiftRight, bv64_of, lsh_amt hk]
    have h2 : ∀ k : Nat, k < 64 → (BitVec.ofNat 64 k).smod 64 = BitVec.ofNat 64 k := by decide +kernel
    rw [h2 k hk]
    have h3 : (BitVec.ofNat 64 a).msb = false := by
      rw [BitVec.msb_eq_false_iff_two_mul_lt, BitVec.toNat_ofNat, Nat.mod_eq_of_lt (by omega)]
      omega
    rw [BitVec.sshiftRight', BitVec.sshiftRight_eq_of_msb_false h3]
    apply BitVec.eq_of_toNat_eq
    rw [BitVec.toNat_ushiftRight, BitVec.toNat_ofNat, BitVec.toNat_ofNat, BitVec.toNat_ofNat, Nat.mod_eq_of_lt (by omega), Nat.mod_eq_of_lt (by omega), Nat.mod_eq_of_lt (by omega), Nat.shiftRight_eq_div_pow]
  rw [ti64_bv, hb, bv64_ti (by rw [BitVec.toNat_ofNat, Nat.mod_eq_of_lt (by omega)]; exact hlt), BitVec.toNat_ofNat, Nat.mod_eq_of_lt (by omega)]
/-- the wants of a part -/
def cvN (ws : Nat → Nat) (S : Nat) : Nat → Nat
  | 0 => 0
  | i + 1 => if S.testBit i = true then cvN ws S i ||| 1 <<< ws i else cvN ws S i
theorem cvN_test {ws : Nat → Nat} {S w : Nat} : ∀ i : Nat, (cvN ws S i).testBit w = true ↔ ∃ p, p < i ∧ S.testBit p = true ∧ ws p = w
  | 0 => by simp [cvN]
  | i + 1 => by
    have ih := cvN_test (ws := ws) (S := S) (w := w) i
    unfold cvN
    by_cases h : S.testBit i = true
    · rw [if_pos h, Nat.testBit_or, Bool.or_eq_true, ih, Nat.one_shiftLeft, Nat.testBit_two_pow, decide_eq_true_iff]
      constructor
      · rintro (⟨p, h1, h2⟩ | h1)
        · exact ⟨p, by omega, h2⟩
        · exact ⟨i, by omega, h, h1⟩
      · rintro ⟨p, h1, h2, h3⟩
        by_cases e : p = i
        · subst e; exact Or.inr h3
        · exact Or.inl ⟨p, by omega, h2, h3⟩
    · rw [if_neg h, ih]
      constructor
      · rintro ⟨p, h1, h2⟩
        exact ⟨p, by omega, h2⟩
      · rintro ⟨p, h1, h2, h3⟩
        by_cases e : p = i
        · subst e; exact absurd h2 h
        · exact ⟨p, by omega, h2, h3⟩
theorem cvN_lt {ws : Nat → Nat} {S i : Nat} (h : ∀ p, p < i → ws p < 12) : cvN ws S i < 4096 := by
  apply Nat.lt_pow_two_of_testBit (n := 12)
  intro k hk
  by_cases h1 : (cvN ws S i).testBit k = true
  · obtain ⟨p, h2, _, h3⟩ := (cvN_test i).mp h1
    have := h p h2
    omega
  · simpa using h1
/-- the wants of the giving are loaded, sorted -/
def gvOk (hd : amD) (L : Lnd) (ws : Nat → Nat) (sz : Nat) : Prop := hd 38 4 = (sz : Int) ∧ sz ≤ 6 ∧ (∀ i, i < sz → ws i < L 0 3 ∧ hd 39 i = (ws i : Int)) ∧ ∀ i j, i < j → j < sz → L 8 (ws i) < L 8 (ws j) ∨ L 8 (ws i) = L 8 (ws j) ∧ ws i < ws j
/-- only giving and ways are others -/
def gvF (hd hd' : amD) : Prop := ∀ i, ¬ (36 ≤ i ∧ i ≤ 41) → hd' i = hd i
theorem cL_gv {hd hd' : amD} {o : Nat} {L : Lnd} (ho : isLand o) (h : gvF hd hd') (hL : cL hd o L) : cL hd' o L := cL_fr (fun k hk => h _ (by rcases ho with rfl | rfl <;> omega)) hL
theorem wayF_le {L : Lnd} (hk : Lok L) {hands t M : Nat} (hh1 : 1 ≤ hands) (hc : ∃ rn r, rwOk L (fun w => M.testBit w = true) (L 0 3) rn r ∧ rn ≤ 6) (hL1 : ∀ p, L 1 p ≤ 99) : wayF L hands t M ≤ 1318 ∧ wayR L hands t M (wayF L hands t M) := by
  obtain ⟨rn, r, h1, h2⟩ := hc
  obtain ⟨c, c1, c2⟩ := way_le (hp := L 1 (L 5 t)) (px := fun i => L 1 (L 6 (r i))) hh1 (fun a c => by
    have := hL1 (L 5 t)
    have := hL1 (L 6 (r a))
    have := hL1 (L 6 (r c))
    unfold dN
    (try dsimp only)
    omega) rn h2
  obtain ⟨v, v1, v2⟩ : ∃ v, isLw (L 1 (L 5 t)) (fun i => L 1 (L 6 (r i))) hands rn v ∧ v ≤ c := by
    have key : ∀ N c, c ≤ N → isW (L 1 (L 5 t)) (fun i => L 1 (L 6 (r i))) hands rn c → ∃ v, isLw (L 1 (L 5 t)) (fun i => L 1 (L 6 (r i))) hands rn v ∧ v ≤ c := by
      intro N
      induction N with
      | zero =>
        intro c hc h
        exact ⟨c, ⟨h, fun c' _ => by omega⟩, Nat.le_refl _⟩
      | succ N ih =>
        intro c hc h
        by_cases h9 : ∃ c', c' < c ∧ isW (L 1 (L 5 t)) (fun i => L 1 (L 6 (r i))) hands rn c'
        · obtain ⟨c', a1, a2⟩ := h9
          obtain ⟨v, v1, v2⟩ := ih c' (by omega) a2
          exact ⟨v, v1, by omega⟩
        · exact ⟨c, ⟨h, fun c' hc' => by
            by_cases a : c ≤ c'
            · exact a
            · exact absurd ⟨c', by omega, hc'⟩ h9⟩, Nat.le_refl _⟩
    exact key c c (Nat.le_refl c) c1
  have hR : wayR L hands t M (v / 4096) := ⟨rn, r, v, h1, v1, rfl⟩
  have e := wayF_eq hR
  refine ⟨?_, by rw [e]; exact hR⟩
  rw [e]
  omega
section
variable {d f0 n o : Nat} {b : Bool} {L : Lnd} {Q : amQ} {hd : amD}
variable {sz : Nat} {ws : Nat → Nat}
theorem g_gload {bits : Nat} (hd9 : 3 ≤ d) (ho : isLand o) (hn : 159 ≤ n)  (hL : cL hd o L) (hb : bits < 4096) (h6 : ldC L bits (L 0 3) ≤ 6) (h : ∀ hd', (∀ i, i ≠ 38 → i ≠ 39 → hd' i = hd i) → (∀ j, j ≠ 4 → hd' 38 j = hd 38 j) → gvOk hd' L (ldF L bits (L 0 3)) (ldC L bits (L 0 3)) → Q none (am_R f0 b) hd' n) : wpM d 27 [vR 38, vR o, vI (bits : Int)] Q (am_R f0 b) hd n := by
  obtain ⟨e, rfl, he⟩ := am_dep hd9
  apply en27
  simp only [trX2_load, am_In, am_lay, am_pad, am_st1, am_st2, am_kill, am_get, am_isI, am_isL, am_isR, am_cat, am_cats, am_b, fin0_4, fin1_4, fin2_4, fin3_4, List.length_cons, List.length_nil, List.take, List.drop, List.reverse_cons, List.reverse_nil, List.nil_append, List.cons_append, s_wL, s_wQ, s_wW, s_wB, s_wJ, s_wR, s_wS, s_nil, s_cons, s_oR, s_iconst, s_bipush, s_sipush, s_lconst, s_null, s_iload, s_iload_n, s_lload, s_lload_n, s_aload, s_aload_n, s_istore, s_istore_n, s_astore, s_astore_n, s_lstore, s_lstore_n, s_iinc, s_iadd, s_isub, s_imul, s_iand, s_ior, s_ixor, s_ishl, s_ishr, s_iushr, s_idiv, s_ladd, s_lsub, s_lmul, s_land, s_ldiv, s_lrem, s_lshl, s_lshr, s_lcmp, s_i2l, s_l2i, s_i2b, s_i2c, s_dup, s_dup2, s_pop, s_arraylength, s_iaload, s_baload, s_laload, s_aaload, s_iastore, s_bastore, s_lastore, s_aastore, s_oG, s_oP0, s_oP1, s_oP2, s_oP3, s_oC, s_oN, s_oA, s_oI, s_oL, s_oS, s_oX0, s_oX1, s_oX2, s_oX3, s_oX4, s_oX5, s_goto, s_ifeq, s_iceq, s_ifne, s_icne, s_iflt, s_iclt, s_ifge, s_icge, s_ifgt, s_icgt, s_ifle, s_icle, s_ifnull, s_ifnonnull, s_ireturn, s_lreturn, s_areturn, s_return, s_sw, s_sw0, s_sw1, s_push0, s_push1, s_rd0, s_rd1, s_rd2, s_rd3, s_rty0, s_rtyi, s_rtyz, s_rtyl, s_rtyo, s_rtya, s_rok, s_lab0, s_labs, s_len, s_reci, s_rec0]
  have hW := lk_W hL.1
  have hk := hL.1
  simp [am_In, am_lay, am_pad, am_st1, am_st2, am_kill, am_get, am_isI, am_isL, am_isR, am_cat, am_cats, am_b, fin0_4, fin1_4, fin2_4, fin3_4, List.length_cons, List.length_nil, List.take, List.drop, List.reverse_cons, List.reverse_nil, List.nil_append, List.cons_append, s_wL, s_wQ, s_wW, s_wB, s_wJ, s_wR, s_wS, s_nil, s_cons, s_oR, s_iconst, s_bipush, s_sipush, s_lconst, s_null, s_iload, s_iload_n, s_lload, s_lload_n, s_aload, s_aload_n, s_istore, s_istore_n, s_astore, s_astore_n, s_lstore, s_lstore_n, s_iinc, s_iadd, s_isub, s_imul, s_iand, s_ior, s_ixor, s_ishl, s_ishr, s_iushr, s_idiv, s_ladd, s_lsub, s_lmul, s_land, s_ldiv, s_lrem, s_lshl, s_lshr, s_lcmp, s_i2l, s_l2i, s_i2b, s_i2c, s_dup, s_dup2, s_pop, s_arraylength, s_iaload, s_baload, s_laload, s_aaload, s_iastore, s_bastore, s_lastore, s_aastore, s_oG, s_oP0, s_oP1, s_oP2, s_oP3, s_oC, s_oN, s_oA, s_oI, s_oL, s_oS, s_oX0, s_oX1, s_oX2, s_oX3, s_oX4, s_oX5, s_goto, s_ifeq, s_iceq, s_ifne, s_icne, s_iflt, s_iclt, s_ifge, s_icge, s_ifgt, s_icgt, s_ifle, s_icle, s_ifnull, s_ifnonnull, s_ireturn, s_lreturn, s_areturn, s_return, s_sw, s_sw0, s_sw1, s_push0, s_push1, s_rd0, s_rd1, s_rd2, s_rd3, s_rty0, s_rtyi, s_rtyz, s_rtyl, s_rtyo, s_rtya, s_rok, s_lab0, s_labs, s_len, s_reci, s_rec0, sh_17, sh_18, sh_19, sh_20, sh_21, sh_22, sh_23, sh_24, sh_25, sh_26, sh_27, sh_28, sh_29, sh_30, sh_31, sh_32, sh_33, sh_34, sh_35, sh_36, sh_37, sh_38, sh_39, sh_40, sh_41, sh_42, sh_43, sh_44, sh_45, sh_46, sh_47, sh_48, sh_49, sh_50, sh_51, sh_52, sh_53, sh_54, sh_55, sh_56, sh_57, sh_58, sh_59, sh_60, sh_61, sh_62, sh_63, sh_64, sh_65, sh_66, sh_67, sh_68, sh_69, sh_70, sh_71, sh_72, sh_73, sh_74, sh_75, sh_76, sh_77, sh_78, sh_79, sh_80, sh_81, sh_82, sh_83, sh_84, sh_85, sh_86, sh_87, sh_88, sh_89, sh_90, sh_91, sh_92, sh_93, sh_94, sh_95, sh_96, sh_97, sl_19, sl_22, sl_23, sl_24, sl_25, sl_27, sl_28, sl_29, sl_30, sl_31, sl_32, sl_33, sl_36, sl_37, sl_39, sl_40, sl_41, sl_43, sl_44, sl_45, sl_46, sl_47, sl_48, sl_49, sl_50, sl_51, sl_54, sl_55, sl_56, sl_57, sl_59, sl_60, sl_61, sl_62, sl_63, sl_64, sl_65, sl_66, sl_67, sl_68, sl_69, sl_70, sl_71, sl_73, sl_74, sl_75, sl_76, sl_77, sl_78, sl_79, sl_80, sl_81, sl_82, sl_83, sl_84, sl_85, sl_87, sl_88, sl_89, sl_91, sl_92, sl_93, sl_95, sl_96, sl_97, R17_0, R17_1, R17_2, R17_3, R17_4, R17_5, R17_6, R17_7, R17_8, R18_0, R20_0, R21_0, R21_1, R21_2, R25_0, R25_1, R25_2, R26_0, R26_1, R26_2, R26_3, R26_4, R26_5, R26_6, R34_0, R34_1, R34_2, R34_3, R34_4, R34_5, R35_0, R35_1, R38_0, R38_1, R38_2, R38_3, R42_0, R42_1, R42_2, R42_3, R42_4, R42_5, R42_6, R53_0, R53_1, R53_2, R86_0, R86_1, R86_2, R90_0, R90_1, R90_2, R94_0, R94_1, R94_2, Rtld, Rspr, ld_s (tld_l b), ld_n (tld_l b) hn, ltn hn, ld_s ho, ld_n ho hn, -Int.natCast_add, -Int.natCast_mul]
  have mono : ∀ q, q ≤ L 0 3 → ldC L bits q ≤ ldC L bits (L 0 3) := by
    intro q hq
    have : ∀ j, ldC L bits q ≤ ldC L bits (q + j) := by
      intro j
      induction j with
      | zero => exact Nat.le_refl _
      | succ j ih =>
        have e : ldC L bits (q + j + 1) = if bits.testBit (L 11 (q + j)) = true then ldC L bits (q + j) + 1 else ldC L bits (q + j) := rfl
        rw [show q + (j + 1) = q + j + 1 from rfl, e]
        split <;> omega
    have := this (L 0 3 - q)
    rw [show q + (L 0 3 - q) = L 0 3 by omega] at this
    exact this
  refine loop_inv (I := fun z ls st hr9 hd9 n9 u us => ∃ q : Nat, ∃ y : amV, z = L 0 3 - q ∧ q ≤ L 0 3 ∧ ls = [vR 38, vR o, vI (bits : Int), vI (q : Int), y] ∧ st = [] ∧ am_R f0 b = hr9 ∧ n = n9 ∧ u = 0 ∧ us = 0 ∧ (∀ i, i ≠ 38 → i ≠ 39 → hd9 i = hd i) ∧ (∀ j, j ≠ 4 → hd9 38 j = hd 38 j) ∧ hd9 38 4 = (ldC L bits q : Int) ∧ ∀ i, i < ldC L bits q → hd9 39 i = (ldF L bits q i : Int)) ?_ (L 0 3) ?_
  · intro z ls st hr' hd1 n' u us hI P hP
    obtain ⟨q, y, rfl, hq, rfl, rfl, rfl, rfl, rfl, rfl, hf, hj4, hc, hl⟩ := hI
    have hL1 : cL hd1 o L := cL_fr (fun k hk => hf _ (by rcases ho with rfl | rfl <;> omega) (by rcases ho with rfl | rfl <;> omega)) hL
    simp [am_In, am_lay, am_pad, am_st1, am_st2, am_kill, am_get, am_isI, am_isL, am_isR, am_cat, am_cats, am_b, fin0_4, fin1_4, fin2_4, fin3_4, List.length_cons, List.length_nil, List.take, List.drop, List.reverse_cons, List.reverse_nil, List.nil_append, List.cons_append, s_wL, s_wQ, s_wW, s_wB, s_wJ, s_wR, s_wS, s_nil, s_cons, s_oR, s_iconst, s_bipush, s_sipush, s_lconst, s_null, s_iload, s_iload_n, s_lload, s_lload_n, s_aload, s_aload_n, s_istore, s_istore_n, s_astore, s_astore_n, s_lstore, s_lstore_n, s_iinc, s_iadd, s_isub, s_imul, s_iand, s_ior, s_ixor, s_ishl, s_ishr, s_iushr, s_idiv, s_ladd, s_lsub, s_lmul, s_land, s_ldiv, s_lrem, s_lshl, s_lshr, s_lcmp, s_i2l, s_l2i, s_i2b, s_i2c, s_dup, s_dup2, s_pop, s_arraylength, s_iaload, s_baload, s_laload, s_aaload, s_iastore, s_bastore, s_lastore, s_aastore, s_oG, s_oP0, s_oP1, s_oP2, s_oP3, s_oC, s_oN, s_oA, s_oI, s_oL, s_oS, s_oX0, s_oX1, s_oX2, s_oX3, s_oX4, s_oX5, s_goto, s_ifeq, s_iceq, s_ifne, s_icne, s_iflt, s_iclt, s_ifge, s_icge, s_ifgt, s_icgt, s_ifle, s_icle, s_ifnull, s_ifnonnull, s_ireturn, s_lreturn, s_areturn, s_return, s_sw, s_sw0, s_sw1, s_push0, s_push1, s_rd0, s_rd1, s_rd2, s_rd3, s_rty0, s_rtyi, s_rtyz, s_rtyl, s_rtyo, s_rtya, s_rok, s_lab0, s_labs, s_len, s_reci, s_rec0, sh_17, sh_18, sh_19, sh_20, sh_21, sh_22, sh_23, sh_24, sh_25, sh_26, sh_27, sh_28, sh_29, sh_30, sh_31, sh_32, sh_33, sh_34, sh_35, sh_36, sh_37, sh_38, sh_39, sh_40, sh_41, sh_42, sh_43, sh_44, sh_45, sh_46, sh_47, sh_48, sh_49, sh_50, sh_51, sh_52, sh_53, sh_54, sh_55, sh_56, sh_57, sh_58, sh_59, sh_60, sh_61, sh_62, sh_63, sh_64, sh_65, sh_66, sh_67, sh_68, sh_69, sh_70, sh_71, sh_72, sh_73, sh_74, sh_75, sh_76, sh_77, sh_78, sh_79, sh_80, sh_81, sh_82, sh_83, sh_84, sh_85, sh_86, sh_87, sh_88, sh_89, sh_90, sh_91, sh_92, sh_93, sh_94, sh_95, sh_96, sh_97, sl_19, sl_22, sl_23, sl_24, sl_25, sl_27, sl_28, sl_29, sl_30, sl_31, sl_32, sl_33, sl_36, sl_37, sl_39, sl_40, sl_41, sl_43, sl_44, sl_45, sl_46, sl_47, sl_48, sl_49, sl_50, sl_51, sl_54, sl_55, sl_56, sl_57, sl_59, sl_60, sl_61, sl_62, sl_63, sl_64, sl_65, sl_66, sl_67, sl_68, sl_69, sl_70, sl_71, sl_73, sl_74, sl_75, sl_76, sl_77, sl_78, sl_79, sl_80, sl_81, sl_82, sl_83, sl_84, sl_85, sl_87, sl_88, sl_89, sl_91, sl_92, sl_93, sl_95, sl_96, sl_97, R17_0, R17_1, R17_2, R17_3, R17_4, R17_5, R17_6, R17_7, R17_8, R18_0, R20_0, R21_0, R21_1, R21_2, R25_0, R25_1, R25_2, R26_0, R26_1, R26_2, R26_3, R26_4, R26_5, R26_6, R34_0, R34_1, R34_2, R34_3, R34_4, R34_5, R35_0, R35_1, R38_0, R38_1, R38_2, R38_3, R42_0, R42_1, R42_2, R42_3, R42_4, R42_5, R42_6, R53_0, R53_1, R53_2, R86_0, R86_1, R86_2, R90_0, R90_1, R90_2, R94_0, R94_1, R94_2, Rtld, Rspr, ld_s (tld_l b), ld_n (tld_l b) hn, ltn hn, ld_s ho, ld_n ho hn, -Int.natCast_add, -Int.natCast_mul]
    refine g_wants (by omega) ho hn hL1 ?_
    simp [am_In, am_lay, am_pad, am_st1, am_st2, am_kill, am_get, am_isI, am_isL, am_isR, am_cat, am_cats, am_b, fin0_4, fin1_4, fin2_4, fin3_4, List.length_cons, List.length_nil, List.take, List.drop, List.reverse_cons, List.reverse_nil, List.nil_append, List.cons_append, s_wL, s_wQ, s_wW, s_wB, s_wJ, s_wR, s_wS, s_nil, s_cons, s_oR, s_iconst, s_bipush, s_sipush, s_lconst, s_null, s_iload, s_iload_n, s_lload, s_lload_n, s_aload, s_aload_n, s_istore, s_istore_n, s_astore, s_astore_n, s_lstore, s_lstore_n, s_iinc, s_iadd, s_isub, s_imul, s_iand, s_ior, s_ixor, s_ishl, s_ishr, s_iushr, s_idiv, s_ladd, s_lsub, s_lmul, s_land, s_ldiv, s_lrem, s_lshl, s_lshr, s_lcmp, s_i2l, s_l2i, s_i2b, s_i2c, s_dup, s_dup2, s_pop, s_arraylength, s_iaload, s_baload, s_laload, s_aaload, s_iastore, s_bastore, s_lastore, s_aastore, s_oG, s_oP0, s_oP1, s_oP2, s_oP3, s_oC, s_oN, s_oA, s_oI, s_oL, s_oS, s_oX0, s_oX1, s_oX2, s_oX3, s_oX4, s_oX5, s_goto, s_ifeq, s_iceq, s_ifne, s_icne, s_iflt, s_iclt, s_ifge, s_icge, s_ifgt, s_icgt, s_ifle, s_icle, s_ifnull, s_ifnonnull, s_ireturn, s_lreturn, s_areturn, s_return, s_sw, s_sw0, s_sw1, s_push0, s_push1, s_rd0, s_rd1, s_rd2, s_rd3, s_rty0, s_rtyi, s_rtyz, s_rtyl, s_rtyo, s_rtya, s_rok, s_lab0, s_labs, s_len, s_reci, s_rec0, sh_17, sh_18, sh_19, sh_20, sh_21, sh_22, sh_23, sh_24, sh_25, sh_26, sh_27, sh_28, sh_29, sh_30, sh_31, sh_32, sh_33, sh_34, sh_35, sh_36, sh_37, sh_38, sh_39, sh_40, sh_41, sh_42, sh_43, sh_44, sh_45, sh_46, sh_47, sh_48, sh_49, sh_50, sh_51, sh_52, sh_53, sh_54, sh_55, sh_56, sh_57, sh_58, sh_59, sh_60, sh_61, sh_62, sh_63, sh_64, sh_65, sh_66, sh_67, sh_68, sh_69, sh_70, sh_71, sh_72, sh_73, sh_74, sh_75, sh_76, sh_77, sh_78, sh_79, sh_80, sh_81, sh_82, sh_83, sh_84, sh_85, sh_86, sh_87, sh_88, sh_89, sh_90, sh_91, sh_92, sh_93, sh_94, sh_95, sh_96, sh_97, sl_19, sl_22, sl_23, sl_24, sl_25, sl_27, sl_28, sl_29, sl_30, sl_31, sl_32, sl_33, sl_36, sl_37, sl_39, sl_40, sl_41, sl_43, sl_44, sl_45, sl_46, sl_47, sl_48, sl_49, sl_50, sl_51, sl_54, sl_55, sl_56, sl_57, sl_59, sl_60, sl_61, sl_62, sl_63, sl_64, sl_65, sl_66, sl_67, sl_68, sl_69, sl_70, sl_71, sl_73, sl_74, sl_75, sl_76, sl_77, sl_78, sl_79, sl_80, sl_81, sl_82, sl_83, sl_84, sl_85, sl_87, sl_88, sl_89, sl_91, sl_92, sl_93, sl_95, sl_96, sl_97, R17_0, R17_1, R17_2, R17_3, R17_4, R17_5, R17_6, R17_7, R17_8, R18_0, R20_0, R21_0, R21_1, R21_2, R25_0, R25_1, R25_2, R26_0, R26_1, R26_2, R26_3, R26_4, R26_5, R26_6, R34_0, R34_1, R34_2, R34_3, R34_4, R34_5, R35_0, R35_1, R38_0, R38_1, R38_2, R38_3, R42_0, R42_1, R42_2, R42_3, R42_4, R42_5, R42_6, R53_0, R53_1, R53_2, R86_0, R86_1, R86_2, R90_0, R90_1, R90_2, R94_0, R94_1, R94_2, Rtld, Rspr, ld_s (tld_l b), ld_n (tld_l b) hn, ltn hn, ld_s ho, ld_n ho hn, -Int.natCast_add, -Int.natCast_mul]
    refine ⟨fun hge => ?_, fun hlt => ?_⟩
    · have e9 : q = L 0 3 := by omega
      subst e9
      refine h hd1 hf hj4 ⟨hc, h6, fun i hi => ⟨?_, hl i hi⟩, fun i j hij hj => ?_⟩
      · obtain ⟨p, p1, p2, _⟩ := ldF_1 L bits (L 0 3) i hi
        rw [p2]
        exact hk.2.2.2.2.2.2.1 p p1
      · obtain ⟨p1, p2, a, c, e, g⟩ := ldF_3 L bits (L 0 3) i j hij hj
        rw [e, g]
        exact hk.2.2.2.2.2.2.2 p1 p2 a c
    · have hqW : q < L 0 3 := by omega
      have hw := hk.2.2.2.2.2.2.1 q hqW
      have m1 := mono (q + 1) (by omega)
      refine g_byFirstDay (by omega) ho hn hL1 hqW ?_
      simp [am_In, am_lay, am_pad, am_st1, am_st2, am_kill, am_get, am_isI, am_isL, am_isR, am_cat, am_cats, am_b, fin0_4, fin1_4, fin2_4, fin3_4, List.length_cons, List.length_nil, List.take, List.drop, List.reverse_cons, List.reverse_nil, List.nil_append, List.cons_append, s_wL, s_wQ, s_wW, s_wB, s_wJ, s_wR, s_wS, s_nil, s_cons, s_oR, s_iconst, s_bipush, s_sipush, s_lconst, s_null, s_iload, s_iload_n, s_lload, s_lload_n, s_aload, s_aload_n, s_istore, s_istore_n, s_astore, s_astore_n, s_lstore, s_lstore_n, s_iinc, s_iadd, s_isub, s_imul, s_iand, s_ior, s_ixor, s_ishl, s_ishr, s_iushr, s_idiv, s_ladd, s_lsub, s_lmul, s_land, s_ldiv, s_lrem, s_lshl, s_lshr, s_lcmp, s_i2l, s_l2i, s_i2b, s_i2c, s_dup, s_dup2, s_pop, s_arraylength, s_iaload, s_baload, s_laload, s_aaload, s_iastore, s_bastore, s_lastore, s_aastore, s_oG, s_oP0, s_oP1, s_oP2, s_oP3, s_oC, s_oN, s_oA, s_oI, s_oL, s_oS, s_oX0, s_oX1, s_oX2, s_oX3, s_oX4, s_oX5, s_goto, s_ifeq, s_iceq, s_ifne, s_icne, s_iflt, s_iclt, s_ifge, s_icge, s_ifgt, s_icgt, s_ifle, s_icle, s_ifnull, s_ifnonnull, s_ireturn, s_lreturn, s_areturn, s_return, s_sw, s_sw0, s_sw1, s_push0, s_push1, s_rd0, s_rd1, s_rd2, s_rd3, s_rty0, s_rtyi, s_rtyz, s_rtyl, s_rtyo, s_rtya, s_rok, s_lab0, s_labs, s_len, s_reci, s_rec0, sh_17, sh_18, sh_19, sh_20, sh_21, sh_22, sh_23, sh_24, sh_25, sh_26, sh_27, sh_28, sh_29, sh_30, sh_31, sh_32, sh_33, sh_34, sh_35, sh_36, sh_37, sh_38, sh_39, sh_40, sh_41, sh_42, sh_43, sh_44, sh_45, sh_46, sh_47, sh_48, sh_49, sh_50, sh_51, sh_52, sh_53, sh_54, sh_55, sh_56, sh_57, sh_58, sh_59, sh_60, sh_61, sh_62, sh_63, sh_64, sh_65, sh_66, sh_67, sh_68, sh_69, sh_70, sh_71, sh_72, sh_73, sh_74, sh_75, sh_76, sh_77, sh_78, sh_79, sh_80, sh_81, sh_82, sh_83, sh_84, sh_85, sh_86, sh_87, sh_88, sh_89, sh_90, sh_91, sh_92, sh_93, sh_94, sh_95, sh_96, sh_97, sl_19, sl_22, sl_23, sl_24, sl_25, sl_27, sl_28, sl_29, sl_30, sl_31, sl_32, sl_33, sl_36, sl_37, sl_39, sl_40, sl_41, sl_43, sl_44, sl_45, sl_46, sl_47, sl_48, sl_49, sl_50, sl_51, sl_54, sl_55, sl_56, sl_57, sl_59, sl_60, sl_61, sl_62, sl_63, sl_64, sl_65, sl_66, sl_67, sl_68, sl_69, sl_70, sl_71, sl_73, sl_74, sl_75, sl_76, sl_77, sl_78, sl_79, sl_80, sl_81, sl_82, sl_83, sl_84, sl_85, sl_87, sl_88, sl_89, sl_91, sl_92, sl_93, sl_95, sl_96, sl_97, R17_0, R17_1, R17_2, R17_3, R17_4, R17_5, R17_6, R17_7, R17_8, R18_0, R20_0, R21_0, R21_1, R21_2, R25_0, R25_1, R25_2, R26_0, R26_1, R26_2, R26_3, R26_4, R26_5, R26_6, R34_0, R34_1, R34_2, R34_3, R34_4, R34_5, R35_0, R35_1, R38_0, R38_1, R38_2, R38_3, R42_0, R42_1, R42_2, R42_3, R42_4, R42_5, R42_6, R53_0, R53_1, R53_2, R86_0, R86_1, R86_2, R90_0, R90_1, R90_2, R94_0, R94_1, R94_2, Rtld, Rspr, ld_s (tld_l b), ld_n (tld_l b) hn, ltn hn, -Int.natCast_add, -Int.natCast_mul]
      refine g_hasBit (by omega) (by omega) (by omega) (fun h1 => ?_) (fun h1 => ?_)
      · have e1 : ldC L bits (q + 1) = ldC L bits q + 1 := by
          show (if _ then _ else _) = _
          rw [if_pos h1]
        have e2 : ldF L bits (q + 1) = fun i => if i = ldC L bits q then L 11 q else ldF L bits q i := by
          show (if _ then _ else _) = _
          rw [if_pos h1]
        simp [am_In, am_lay, am_pad, am_st1, am_st2, am_kill, am_get, am_isI, am_isL, am_isR, am_cat, am_cats, am_b, fin0_4, fin1_4, fin2_4, fin3_4, List.length_cons, List.length_nil, List.take, List.drop, List.reverse_cons, List.reverse_nil, List.nil_append, List.cons_append, s_wL, s_wQ, s_wW, s_wB, s_wJ, s_wR, s_wS, s_nil, s_cons, s_oR, s_iconst, s_bipush, s_sipush, s_lconst, s_null, s_iload, s_iload_n, s_lload, s_lload_n, s_aload, s_aload_n, s_istore, s_istore_n, s_astore, s_astore_n, s_lstore, s_lstore_n, s_iinc, s_iadd, s_isub, s_imul, s_iand, s_ior, s_ixor, s_ishl, s_ishr, s_iushr, s_idiv, s_ladd, s_lsub, s_lmul, s_land, s_ldiv, s_lrem, s_lshl, s_lshr, s_lcmp, s_i2l, s_l2i, s_i2b, s_i2c, s_dup, s_dup2, s_pop, s_arraylength, s_iaload, s_baload, s_laload, s_aaload, s_iastore, s_bastore, s_lastore, s_aastore, s_oG, s_oP0, s_oP1, s_oP2, s_oP3, s_oC, s_oN, s_oA, s_oI, s_oL, s_oS, s_oX0, s_oX1, s_oX2, s_oX3, s_oX4, s_oX5, s_goto, s_ifeq, s_iceq, s_ifne, s_icne, s_iflt, s_iclt, s_ifge, s_icge, s_ifgt, s_icgt, s_ifle, s_icle, s_ifnull, s_ifnonnull, s_ireturn, s_lreturn, s_areturn, s_return, s_sw, s_sw0, s_sw1, s_push0, s_push1, s_rd0, s_rd1, s_rd2, s_rd3, s_rty0, s_rtyi, s_rtyz, s_rtyl, s_rtyo, s_rtya, s_rok, s_lab0, s_labs, s_len, s_reci, s_rec0, sh_17, sh_18, sh_19, sh_20, sh_21, sh_22, sh_23, sh_24, sh_25, sh_26, sh_27, sh_28, sh_29, sh_30, sh_31, sh_32, sh_33, sh_34, sh_35, sh_36, sh_37, sh_38, sh_39, sh_40, sh_41, sh_42, sh_43, sh_44, sh_45, sh_46, sh_47, sh_48, sh_49, sh_50, sh_51, sh_52, sh_53, sh_54, sh_55, sh_56, sh_57, sh_58, sh_59, sh_60, sh_61, sh_62, sh_63, sh_64, sh_65, sh_66, sh_67, sh_68, sh_69, sh_70, sh_71, sh_72, sh_73, sh_74, sh_75, sh_76, sh_77, sh_78, sh_79, sh_80, sh_81, sh_82, sh_83, sh_84, sh_85, sh_86, sh_87, sh_88, sh_89, sh_90, sh_91, sh_92, sh_93, sh_94, sh_95, sh_96, sh_97, sl_19, sl_22, sl_23, sl_24, sl_25, sl_27, sl_28, sl_29, sl_30, sl_31, sl_32, sl_33, sl_36, sl_37, sl_39, sl_40, sl_41, sl_43, sl_44, sl_45, sl_46, sl_47, sl_48, sl_49, sl_50, sl_51, sl_54, sl_55, sl_56, sl_57, sl_59, sl_60, sl_61, sl_62, sl_63, sl_64, sl_65, sl_66, sl_67, sl_68, sl_69, sl_70, sl_71, sl_73, sl_74, sl_75, sl_76, sl_77, sl_78, sl_79, sl_80, sl_81, sl_82, sl_83, sl_84, sl_85, sl_87, sl_88, sl_89, sl_91, sl_92, sl_93, sl_95, sl_96, sl_97, R17_0, R17_1, R17_2, R17_3, R17_4, R17_5, R17_6, R17_7, R17_8, R18_0, R20_0, R21_0, R21_1, R21_2, R25_0, R25_1, R25_2, R26_0, R26_1, R26_2, R26_3, R26_4, R26_5, R26_6, R34_0, R34_1, R34_2, R34_3, R34_4, R34_5, R35_0, R35_1, R38_0, R38_1, R38_2, R38_3, R42_0, R42_1, R42_2, R42_3, R42_4, R42_5, R42_6, R53_0, R53_1, R53_2, R86_0, R86_1, R86_2, R90_0, R90_1, R90_2, R94_0, R94_1, R94_2, Rtld, Rspr, ld_s (tld_l b), ld_n (tld_l b) hn, ltn hn, hc, -Int.natCast_add, -Int.natCast_mul]
        refine ⟨fun h9 => by omega, fun _ => ?_⟩
        refine x_putP (by omega) sh_39 (by omega) sl_39 ?_
        rw [am_P_nat (by omega)]
        simp [am_In, am_lay, am_pad, am_st1, am_st2, am_kill, am_get, am_isI, am_isL, am_isR, am_cat, am_cats, am_b, fin0_4, fin1_4, fin2_4, fin3_4, List.length_cons, List.length_nil, List.take, List.drop, List.reverse_cons, List.reverse_nil, List.nil_append, List.cons_append, s_wL, s_wQ, s_wW, s_wB, s_wJ, s_wR, s_wS, s_nil, s_cons, s_oR, s_iconst, s_bipush, s_sipush, s_lconst, s_null, s_iload, s_iload_n, s_lload, s_lload_n, s_aload, s_aload_n, s_istore, s_istore_n, s_astore, s_astore_n, s_lstore, s_lstore_n, s_iinc, s_iadd, s_isub, s_imul, s_iand, s_ior, s_ixor, s_ishl, s_ishr, s_iushr, s_idiv, s_ladd, s_lsub, s_lmul, s_land, s_ldiv, s_lrem, s_lshl, s_lshr, s_lcmp, s_i2l, s_l2i, s_i2b, s_i2c, s_dup, s_dup2, s_pop, s_arraylength, s_iaload, s_baload, s_laload, s_aaload, s_iastore, s_bastore, s_lastore, s_aastore, s_oG, s_oP0, s_oP1, s_oP2, s_oP3, s_oC, s_oN, s_oA, s_oI, s_oL, s_oS, s_oX0, s_oX1, s_oX2, s_oX3, s_oX4, s_oX5, s_goto, s_ifeq, s_iceq, s_ifne, s_icne, s_iflt, s_iclt, s_ifge, s_icge, s_ifgt, s_icgt, s_ifle, s_icle, s_ifnull, s_ifnonnull, s_ireturn, s_lreturn, s_areturn, s_return, s_sw, s_sw0, s_sw1, s_push0, s_push1, s_rd0, s_rd1, s_rd2, s_rd3, s_rty0, s_rtyi, s_rtyz, s_rtyl, s_rtyo, s_rtya, s_rok, s_lab0, s_labs, s_len, s_reci, s_rec0, sh_17, sh_18, sh_19, sh_20, sh_21, sh_22, sh_23, sh_24, sh_25, sh_26, sh_27, sh_28, sh_29, sh_30, sh_31, sh_32, sh_33, sh_34, sh_35, sh_36, sh_37, sh_38, sh_39, sh_40, sh_41, sh_42, sh_43, sh_44, sh_45, sh_46, sh_47, sh_48, sh_49, sh_50, sh_51, sh_52, sh_53, sh_54, sh_55, sh_56, sh_57, sh_58, sh_59, sh_60, sh_61, sh_62, sh_63, sh_64, sh_65, sh_66, sh_67, sh_68, sh_69, sh_70, sh_71, sh_72, sh_73, sh_74, sh_75, sh_76, sh_77, sh_78, sh_79, sh_80, sh_81, sh_82, sh_83, sh_84, sh_85, sh_86, sh_87, sh_88, sh_89, sh_90, sh_91, sh_92, sh_93, sh_94, sh_95, sh_96, sh_97, sl_19, sl_22, sl_23, sl_24, sl_25, sl_27, sl_28, sl_29, sl_30, sl_31, sl_32, sl_33, sl_36, sl_37, sl_39, sl_40, sl_41, sl_43, sl_44, sl_45, sl_46, sl_47, sl_48, sl_49, sl_50, sl_51, sl_54, sl_55, sl_56, sl_57, sl_59, sl_60, sl_61, sl_62, sl_63, sl_64, sl_65, sl_66, sl_67, sl_68, sl_69, sl_70, sl_71, sl_73, sl_74, sl_75, sl_76, sl_77, sl_78, sl_79, sl_80, sl_81, sl_82, sl_83, sl_84, sl_85, sl_87, sl_88, sl_89, sl_91, sl_92, sl_93, sl_95, sl_96, sl_97, R17_0, R17_1, R17_2, R17_3, R17_4, R17_5, R17_6, R17_7, R17_8, R18_0, R20_0, R21_0, R21_1, R21_2, R25_0, R25_1, R25_2, R26_0, R26_1, R26_2, R26_3, R26_4, R26_5, R26_6, R34_0, R34_1, R34_2, R34_3, R34_4, R34_5, R35_0, R35_1, R38_0, R38_1, R38_2, R38_3, R42_0, R42_1, R42_2, R42_3, R42_4, R42_5, R42_6, R53_0, R53_1, R53_2, R86_0, R86_1, R86_2, R90_0, R90_1, R90_2, R94_0, R94_1, R94_2, Rtld, Rspr, ld_s (tld_l b), ld_n (tld_l b) hn, ltn hn, hc, up_at, -Int.natCast_add, -Int.natCast_mul]
        rw [w32_s (by omega)]
        refine hP (L 0 3 - (q + 1)) (by omega) _ _ _ _ _ _ _ ⟨q + 1, vI (L 11 q : Int), rfl, by omega, ?_, rfl, rfl, rfl, rfl, rfl, fun i i1 i2 => by rw [up_ne i1, up_ne i2, hf i i1 i2], fun j j1 => by rw [up_at, if_pos rfl, if_neg j1, up_ne (by decide), hj4 j j1], ?_, fun i hi => ?_⟩
        · rw [w32_1, w32_s (by omega)]
        · rw [up_at, if_pos rfl, if_pos rfl, e1]
        · rw [e1] at hi
          rw [e2, up_ne (by decide), up_at, if_pos rfl]
          (try dsimp only)
          by_cases c : i = ldC L bits q
          · rw [if_pos c, if_pos c]
          · rw [if_neg c, if_neg c]
            exact hl i (by omega)
      · have e1 : ldC L bits (q + 1) = ldC L bits q := by
          show (if _ then _ else _) = _
          rw [if_neg h1]
        have e2 : ldF L bits (q + 1) = ldF L bits q := by
          show (if _ then _ else _) = _
          rw [if_neg h1]
        simp [am_In, am_lay, am_pad, am_st1, am_st2, am_kill, am_get, am_isI, am_isL, am_isR, am_cat, am_cats, am_b, fin0_4, fin1_4, fin2_4, fin3_4, List.length_cons, List.length_nil, List.take, List.drop, List.reverse_cons, List.reverse_nil, List.nil_append, List.cons_append, s_wL, s_wQ, s_wW, s_wB, s_wJ, s_wR, s_wS, s_nil, s_cons, s_oR, s_iconst, s_bipush, s_sipush, s_lconst, s_null, s_iload, s_iload_n, s_lload, s_lload_n, s_aload, s_aload_n, s_istore, s_istore_n, s_astore, s_astore_n, s_lstore, s_lstore_n, s_iinc, s_iadd, s_isub, s_imul, s_iand, s_ior, s_ixor, s_ishl, s_ishr, s_iushr, s_idiv, s_ladd, s_lsub, s_lmul, s_land, s_ldiv, s_lrem, s_lshl, s_lshr, s_lcmp, s_i2l, s_l2i, s_i2b, s_i2c, s_dup, s_dup2, s_pop, s_arraylength, s_iaload, s_baload, s_laload, s_aaload, s_iastore, s_bastore, s_lastore, s_aastore, s_oG, s_oP0, s_oP1, s_oP2, s_oP3, s_oC, s_oN, s_oA, s_oI, s_oL, s_oS, s_oX0, s_oX1, s_oX2, s_oX3, s_oX4, s_oX5, s_goto, s_ifeq, s_iceq, s_ifne, s_icne, s_iflt, s_iclt, s_ifge, s_icge, s_ifgt, s_icgt, s_ifle, s_icle, s_ifnull, s_ifnonnull, s_ireturn, s_lreturn, s_areturn, s_return, s_sw, s_sw0, s_sw1, s_push0, s_push1, s_rd0, s_rd1, s_rd2, s_rd3, s_rty0, s_rtyi, s_rtyz, s_rtyl, s_rtyo, s_rtya, s_rok, s_lab0, s_labs, s_len, s_reci, s_rec0, sh_17, sh_18, sh_19, sh_20, sh_21, sh_22, sh_23, sh_24, sh_25, sh_26, sh_27, sh_28, sh_29, sh_30, sh_31, sh_32, sh_33, sh_34, sh_35, sh_36, sh_37, sh_38, sh_39, sh_40, sh_41, sh_42, sh_43, sh_44, sh_45, sh_46, sh_47, sh_48, sh_49, sh_50, sh_51, sh_52, sh_53, sh_54, sh_55, sh_56, sh_57, sh_58, sh_59, sh_60, sh_61, sh_62, sh_63, sh_64, sh_65, sh_66, sh_67, sh_68, sh_69, sh_70, sh_71, sh_72, sh_73, sh_74, sh_75, sh_76, sh_77, sh_78, sh_79, sh_80, sh_81, sh_82, sh_83, sh_84, sh_85, sh_86, sh_87, sh_88, sh_89, sh_90, sh_91, sh_92, sh_93, sh_94, sh_95, sh_96, sh_97, sl_19, sl_22, sl_23, sl_24, sl_25, sl_27, sl_28, sl_29, sl_30, sl_31, sl_32, sl_33, sl_36, sl_37, sl_39, sl_40, sl_41, sl_43, sl_44, sl_45, sl_46, sl_47, sl_48, sl_49, sl_50, sl_51, sl_54, sl_55, sl_56, sl_57, sl_59, sl_60, sl_61, sl_62, sl_63, sl_64, sl_65, sl_66, sl_67, sl_68, sl_69, sl_70, sl_71, sl_73, sl_74, sl_75, sl_76, sl_77, sl_78, sl_79, sl_80, sl_81, sl_82, sl_83, sl_84, sl_85, sl_87, sl_88, sl_89, sl_91, sl_92, sl_93, sl_95, sl_96, sl_97, R17_0, R17_1, R17_2, R17_3, R17_4, R17_5, R17_6, R17_7, R17_8, R18_0, R20_0, R21_0, R21_1, R21_2, R25_0, R25_1, R25_2, R26_0, R26_1, R26_2, R26_3, R26_4, R26_5, R26_6, R34_0, R34_1, R34_2, R34_3, R34_4, R34_5, R35_0, R35_1, R38_0, R38_1, R38_2, R38_3, R42_0, R42_1, R42_2, R42_3, R42_4, R42_5, R42_6, R53_0, R53_1, R53_2, R86_0, R86_1, R86_2, R90_0, R90_1, R90_2, R94_0, R94_1, R94_2, Rtld, Rspr, ld_s (tld_l b), ld_n (tld_l b) hn, ltn hn, -Int.natCast_add, -Int.natCast_mul]
        refine hP (L 0 3 - (q + 1)) (by omega) _ _ _ _ _ _ _ ⟨q + 1, vI (L 11 q : Int), rfl, by omega, ?_, rfl, rfl, rfl, rfl, rfl, hf, hj4, by rw [e1]; exact hc, fun i hi => by rw [e1] at hi; rw [e2]; exact hl i hi⟩
        rw [w32_1, w32_s (by omega)]
  · exact ⟨0, vU, rfl, Nat.zero_le _, rfl, rfl, rfl, rfl, rfl, rfl, fun i i1 i2 => up_ne i1, fun j j1 => by rw [up_at, if_pos rfl, if_neg j1], by simp [up_at, ldC], fun i hi => absurd hi (Nat.not_lt_zero i)⟩
end
