/-! GIVING of the class: addThing -/
theorem andnot_nat {a b : Nat} (ha : a < 2147483648) (hb : b < 2147483648) : am_and (a : Int) (am_xor (b : Int) (-1)) = ((a ^^^ (a &&& b) : Nat) : Int) := by
  show (Int32.ofInt (a : Int) &&& Int32.ofInt (Int32.ofInt (b : Int) ^^^ Int32.ofInt (-1)).toInt).toInt = _
  rw [Int32.ofInt_toInt]
  have hn : (Int32.ofInt (a : Int) &&& (Int32.ofInt (b : Int) ^^^ Int32.ofInt (-1))).toBitVec.toNat = a ^^^ (a &&& b) := by
    have e1 : (Int32.ofInt (-1)).toBitVec = BitVec.allOnes 32 := by decide
    rw [Int32.toBitVec_and, Int32.toBitVec_xor, bv_of, bv_of, e1, BitVec.toNat_and, BitVec.toNat_xor, BitVec.toNat_ofNat, BitVec.toNat_ofNat, BitVec.toNat_allOnes, Nat.mod_eq_of_lt (by omega), Nat.mod_eq_of_lt (by omega)]
    apply Nat.eq_of_testBit_eq
    intro i
    rw [Nat.testBit_and, Nat.testBit_xor, Nat.testBit_xor, Nat.testBit_and, Nat.testBit_two_pow_sub_one]
    by_cases hi : i < 32
    · simp [hi]
      cases a.testBit i <;> cases b.testBit i <;> rfl
    · have : a.testBit i = false := Nat.testBit_lt_two_pow (Nat.lt_of_lt_of_le ha (Nat.le_trans (show 2147483648 ≤ 2 ^ 32 by decide) (Nat.pow_le_pow_right (by decide) (by omega))))
      simp [this]
  have hle : a ^^^ (a &&& b) < 2147483648 := Nat.xor_lt_two_pow (n := 31) ha (Nat.lt_of_le_of_lt Nat.and_le_left ha)
  rw [ti_bv, bv_ti (by rw [hn]; exact hle), hn]
theorem wayF_0 {L : Lnd} {hands t : Nat} : wayF L hands t 0 = 0 := by
  refine wayF_eq ⟨0, fun _ => 0, 0, ⟨fun i hi => absurd hi (Nat.not_lt_zero i), fun v _ hv => ?_, fun i j _ hj => absurd hj (Nat.not_lt_zero j)⟩, ⟨isW_0.mpr rfl, fun c _ => Nat.zero_le c⟩, rfl⟩
  simp at hv
theorem Dg_0 {a : Nat → Nat} : Dg a 0 = 0 := by
  unfold Dg
  simp [sumN_zero]
def bestV (L : Lnd) (hands : Nat) (th : Nat → Nat) (k M v : Nat) : Prop := (isG L hands th k M v ∧ ∀ c, isG L hands th k M c → v ≤ c) ∨ (∀ c, ¬ isG L hands th k M c) ∧ v = 1152921504606846976
theorem isG_le {L : Lnd} {hands bits : Nat} {th : Nat → Nat} (hway : ∀ i M, M &&& bits = M → wayF L hands (th i) M ≤ 1318) : ∀ (k M c : Nat), k ≤ 12 → M &&& bits = M → isG L hands th k M c → c ≤ k * 23000000000
  | 0, M, c, _, _, h => by rw [h.2]; omega
  | k + 1, M, c, hk, hM, h => by
    obtain ⟨P, c', h1, h2, h3, h4⟩ := h
    have hP : P &&& bits = P := sub_iff.mpr (fun w hw => sub_lt hM (sub_lt h1 hw))
    have hX : (M ^^^ P) &&& bits = M ^^^ P := sub_iff.mpr (fun w hw => sub_lt hM ((xor_test h1).mp hw).1)
    have ih := isG_le hway k (M ^^^ P) c' (by omega) hX h3
    have a1 := hway k P hP
    have a2 := dg_b (M := P) (k := k) (by omega)
    omega
theorem isG_nil {L : Lnd} {hands : Nat} {th : Nat → Nat} {k M c : Nat} (h : isG L hands th k M c) : isG L hands th (k + 1) M c := by
  refine ⟨0, c, Nat.zero_and M, fun w w' hw => by simp at hw, by rw [Nat.xor_zero]; exact h, ?_⟩
  rw [wayF_0, Dg_0]
  omega
theorem bestV_0 {L : Lnd} {hands : Nat} {th : Nat → Nat} {k v : Nat} (h : bestV L hands th k 0 v) : bestV L hands th (k + 1) 0 v := by
  have back : ∀ c, isG L hands th (k + 1) 0 c → isG L hands th k 0 c := by
    rintro c ⟨P, c', h1, h2, h3, h4⟩
    rw [Nat.and_zero] at h1
    subst h1
    rw [wayF_0, Dg_0] at h4
    rw [Nat.xor_zero] at h3
    rw [show c = c' by omega]
    exact h3
  rcases h with ⟨h1, h2⟩ | ⟨h1, h2⟩
  · exact Or.inl ⟨isG_nil h1, fun c hc => h2 c (back c hc)⟩
  · exact Or.inr ⟨fun c hc => h1 c (back c hc), h2⟩
section
variable {ws : Nat → Nat} {sz : Nat}
/-- parts of a part's wants are parts -/
theorem cv_sub (hne : ∀ i j, i < j → j < sz → ws i ≠ ws j) {S P : Nat} (h : P &&& cvN ws S sz = P) : ∃ S', S' &&& S = S' ∧ S' < 2 ^ sz ∧ cvN ws S' sz = P := by
  refine ⟨bitsN sz (fun p => S.testBit p && P.testBit (ws p)), sub_iff.mpr (fun p hp => ?_), bitsN_lt _ _, ?_⟩
  · rw [bitsN_test] at hp
    simp at hp
    exact hp.2.1
  · apply Nat.eq_of_testBit_eq
    intro w
    rw [Bool.eq_iff_iff, cvN_test]
    constructor
    · rintro ⟨p, p1, p2, p3⟩
      rw [bitsN_test] at p2
      simp at p2
      rw [← p3]
      exact p2.2.2
    · intro hw
      obtain ⟨p, p1, p2, p3⟩ := (cvN_test sz).mp (sub_lt h hw)
      refine ⟨p, p1, ?_, p3⟩
      rw [bitsN_test]
      simp [p1, p2, p3, hw]
theorem cv_mono {S S' : Nat} (h : S' &&& S = S') : cvN ws S' sz &&& cvN ws S sz = cvN ws S' sz := sub_iff.mpr (fun w hw => by
  obtain ⟨p, p1, p2, p3⟩ := (cvN_test sz).mp hw
  exact (cvN_test sz).mpr ⟨p, p1, sub_lt h p2, p3⟩)
theorem cv_xor (hne : ∀ i j, i < j → j < sz → ws i ≠ ws j) {S S' : Nat} (h : S' &&& S = S') : cvN ws (S ^^^ S') sz = cvN ws S sz ^^^ cvN ws S' sz := by
  apply Nat.eq_of_testBit_eq
  intro w
  rw [Bool.eq_iff_iff, xor_test (cv_mono h), cvN_test, cvN_test, cvN_test]
  constructor
  · rintro ⟨p, p1, p2, p3⟩
    obtain ⟨q1, q2⟩ := (xor_test h).mp p2
    refine ⟨⟨p, p1, q1, p3⟩, ?_⟩
    rintro ⟨p', p1', p2', p3'⟩
    by_cases e : p = p'
    · subst e; exact q2 p2'
    · by_cases hc : p < p'
      · exact hne p p' hc p1' (by rw [p3, p3'])
      · exact hne p' p (by omega) p1 (by rw [p3, p3'])
  · rintro ⟨⟨p, p1, p2, p3⟩, h2⟩
    exact ⟨p, p1, (xor_test h).mpr ⟨p2, fun h3 => h2 ⟨p, p1, h3, p3⟩⟩, p3⟩
end
section
variable {d f0 n o : Nat} {b : Bool} {L : Lnd} {Q : amQ} {hd : amD}
variable {sz : Nat} {ws th : Nat → Nat}
theorem x_atLn {hr : amR} {i w M : Nat} (hd9 : 1 ≤ d) (h1 : am_shp i = 2) (h2 : i < n) (h3 : am_slen i = M) (hw : w < M) (h : Q (some (vL (hd i w))) hr hd n) : wpM d 209 [vR i, vI (w : Int)] Q hr hd n := by
  refine x_atL hd9 h1 h2 ?_
  rw [h3, if_pos ⟨by omega, by omega⟩, Int.toNat_natCast]
  exact h
theorem x_putLn {hr : amR} {i w M : Nat} {x : Int} (hd9 : 1 ≤ d) (h1 : am_shp i = 2) (h2 : i < n) (h3 : am_slen i = M) (hw : w < M) (h : Q none hr (am_up hd i w x) n) : wpM d 210 [vR i, vI (w : Int), vL x] Q hr hd n := by
  refine x_putL hd9 h1 h2 ?_
  rw [h3, if_pos ⟨by omega, by omega⟩, Int.toNat_natCast]
  exact h
theorem g_addThing {k hands bits : Nat} {Bo Co : Nat → Nat} (hd9 : 2 ≤ d) (hn : 159 ≤ n) (hsz : hd 38 4 = (sz : Int)) (h6 : sz ≤ 6) (hk : k < 12) (hne : ∀ i j, i < j → j < sz → ws i ≠ ws j) (hbits : ∀ S, cvN ws S sz &&& bits = cvN ws S sz) (hway : ∀ i M, M &&& bits = M → wayF L hands (th i) M ≤ 1318) (hB : ∀ S, S < 2 ^ sz → hd 40 S = (Bo S : Int) ∧ bestV L hands th k (cvN ws S sz) (Bo S)) (hC : ∀ S, S < 2 ^ sz → hd 41 S = (Co S : Int) ∧ (okM L (cvN ws S sz) ∧ Co S = 16777216 * wayF L hands (th k) (cvN ws S sz) + Dg (fun _ => k) (cvN ws S sz) ∨ ¬ okM L (cvN ws S sz) ∧ Co S = 1152921504606846976)) (h : ∀ (hd' : amD) (Bn : Nat → Nat), (∀ i, i ≠ 40 → hd' i = hd i) → (∀ S, S < 2 ^ sz → hd' 40 S = (Bn S : Int) ∧ bestV L hands th (k + 1) (cvN ws S sz) (Bn S)) → Q none (am_R f0 b) hd' n) : wpM d 29 [vR 38] Q (am_R f0 b) hd n := by
  obtain ⟨e, rfl, he⟩ := am_dep hd9
  apply en29
  simp only [trX2_addThing, am_In, am_lay, am_pad, am_st1, am_st2, am_kill, am_get, am_isI, am_isL, am_isR, am_cat, am_cats, am_b, fin0_4, fin1_4, fin2_4, fin3_4, List.length_cons, List.length_nil, List.take, List.drop, List.reverse_cons, List.reverse_nil, List.nil_append, List.cons_append, s_wL, s_wQ, s_wW, s_wB, s_wJ, s_wR, s_wS, s_nil, s_cons, s_oR, s_iconst, s_bipush, s_sipush, s_lconst, s_null, s_iload, s_iload_n, s_lload, s_lload_n, s_aload, s_aload_n, s_istore, s_istore_n, s_astore, s_astore_n, s_lstore, s_lstore_n, s_iinc, s_iadd, s_isub, s_imul, s_iand, s_ior, s_ixor, s_ishl, s_ishr, s_iushr, s_idiv, s_ladd, s_lsub, s_lmul, s_land, s_ldiv, s_lrem, s_lshl, s_lshr, s_lcmp, s_i2l, s_l2i, s_i2b, s_i2c, s_dup, s_dup2, s_pop, s_arraylength, s_iaload, s_baload, s_laload, s_aaload, s_iastore, s_bastore, s_lastore, s_aastore, s_oG, s_oP0, s_oP1, s_oP2, s_oP3, s_oC, s_oN, s_oA, s_oI, s_oL, s_oS, s_oX0, s_oX1, s_oX2, s_oX3, s_oX4, s_oX5, s_goto, s_ifeq, s_iceq, s_ifne, s_icne, s_iflt, s_iclt, s_ifge, s_icge, s_ifgt, s_icgt, s_ifle, s_icle, s_ifnull, s_ifnonnull, s_ireturn, s_lreturn, s_areturn, s_return, s_sw, s_sw0, s_sw1, s_push0, s_push1, s_rd0, s_rd1, s_rd2, s_rd3, s_rty0, s_rtyi, s_rtyz, s_rtyl, s_rtyo, s_rtya, s_rok, s_lab0, s_labs, s_len, s_reci, s_rec0]
  have p6 : 1 ≤ 2 ^ sz ∧ 2 ^ sz ≤ 64 := ⟨Nat.one_le_two_pow, by
    have := Nat.pow_le_pow_right (n := 2) (by decide) h6
    exact this⟩
  have Bb : ∀ S, S < 2 ^ sz → Bo S ≤ 1152921504606846976 := by
    intro S hS
    rcases (hB S hS).2 with ⟨a, _⟩ | ⟨_, a⟩
    · have := isG_le hway k _ _ (by omega) (hbits S) a
      omega
    · omega
  have Cb : ∀ S, S < 2 ^ sz → Co S ≤ 1152921504606846976 := by
    intro S hS
    rcases (hC S hS).2 with ⟨_, a⟩ | ⟨_, a⟩
    · have a1 := hway k _ (hbits S)
      have a2 := dg_b (M := cvN ws S sz) (k := k) (by omega)
      omega
    · omega
  simp [am_In, am_lay, am_pad, am_st1, am_st2, am_kill, am_get, am_isI, am_isL, am_isR, am_cat, am_cats, am_b, fin0_4, fin1_4, fin2_4, fin3_4, List.length_cons, List.length_nil, List.take, List.drop, List.reverse_cons, List.reverse_nil, List.nil_append, List.cons_append, s_wL, s_wQ, s_wW, s_wB, s_wJ, s_wR, s_wS, s_nil, s_cons, s_oR, s_iconst, s_bipush, s_sipush, s_lconst, s_null, s_iload, s_iload_n, s_lload, s_lload_n, s_aload, s_aload_n, s_istore, s_istore_n, s_astore, s_astore_n, s_lstore, s_lstore_n, s_iinc, s_iadd, s_isub, s_imul, s_iand, s_ior, s_ixor, s_ishl, s_ishr, s_iushr, s_idiv, s_ladd, s_lsub, s_lmul, s_land, s_ldiv, s_lrem, s_lshl, s_lshr, s_lcmp, s_i2l, s_l2i, s_i2b, s_i2c, s_dup, s_dup2, s_pop, s_arraylength, s_iaload, s_baload, s_laload, s_aaload, s_iastore, s_bastore, s_lastore, s_aastore, s_oG, s_oP0, s_oP1, s_oP2, s_oP3, s_oC, s_oN, s_oA, s_oI, s_oL, s_oS, s_oX0, s_oX1, s_oX2, s_oX3, s_oX4, s_oX5, s_goto, s_ifeq, s_iceq, s_ifne, s_icne, s_iflt, s_iclt, s_ifge, s_icge, s_ifgt, s_icgt, s_ifle, s_icle, s_ifnull, s_ifnonnull, s_ireturn, s_lreturn, s_areturn, s_return, s_sw, s_sw0, s_sw1, s_push0, s_push1, s_rd0, s_rd1, s_rd2, s_rd3, s_rty0, s_rtyi, s_rtyz, s_rtyl, s_rtyo, s_rtya, s_rok, s_lab0, s_labs, s_len, s_reci, s_rec0, sh_17, sh_18, sh_19, sh_20, sh_21, sh_22, sh_23, sh_24, sh_25, sh_26, sh_27, sh_28, sh_29, sh_30, sh_31, sh_32, sh_33, sh_34, sh_35, sh_36, sh_37, sh_38, sh_39, sh_40, sh_41, sh_42, sh_43, sh_44, sh_45, sh_46, sh_47, sh_48, sh_49, sh_50, sh_51, sh_52, sh_53, sh_54, sh_55, sh_56, sh_57, sh_58, sh_59, sh_60, sh_61, sh_62, sh_63, sh_64, sh_65, sh_66, sh_67, sh_68, sh_69, sh_70, sh_71, sh_72, sh_73, sh_74, sh_75, sh_76, sh_77, sh_78, sh_79, sh_80, sh_81, sh_82, sh_83, sh_84, sh_85, sh_86, sh_87, sh_88, sh_89, sh_90, sh_91, sh_92, sh_93, sh_94, sh_95, sh_96, sh_97, sl_19, sl_22, sl_23, sl_24, sl_25, sl_27, sl_28, sl_29, sl_30, sl_31, sl_32, sl_33, sl_36, sl_37, sl_39, sl_40, sl_41, sl_43, sl_44, sl_45, sl_46, sl_47, sl_48, sl_49, sl_50, sl_51, sl_54, sl_55, sl_56, sl_57, sl_59, sl_60, sl_61, sl_62, sl_63, sl_64, sl_65, sl_66, sl_67, sl_68, sl_69, sl_70, sl_71, sl_73, sl_74, sl_75, sl_76, sl_77, sl_78, sl_79, sl_80, sl_81, sl_82, sl_83, sl_84, sl_85, sl_87, sl_88, sl_89, sl_91, sl_92, sl_93, sl_95, sl_96, sl_97, R17_0, R17_1, R17_2, R17_3, R17_4, R17_5, R17_6, R17_7, R17_8, R18_0, R20_0, R21_0, R21_1, R21_2, R25_0, R25_1, R25_2, R26_0, R26_1, R26_2, R26_3, R26_4, R26_5, R26_6, R34_0, R34_1, R34_2, R34_3, R34_4, R34_5, R35_0, R35_1, R38_0, R38_1, R38_2, R38_3, R42_0, R42_1, R42_2, R42_3, R42_4, R42_5, R42_6, R53_0, R53_1, R53_2, R86_0, R86_1, R86_2, R90_0, R90_1, R90_2, R94_0, R94_1, R94_2, Rtld, Rspr, ld_s (tld_l b), ld_n (tld_l b) hn, ltn hn, hsz, -Int.natCast_add, -Int.natCast_mul]
  rw [shl1 (by omega), Nat.one_shiftLeft, w32_b (by omega) (by omega), show ((2 ^ sz : Nat) : Int) - 1 = ((2 ^ sz - 1 : Nat) : Int) by omega]
  refine loop_inv (I := fun z ls st hr9 hd9 n9 u us => ∃ Bn : Nat → Nat, ∃ y1 y2 y3 : amV, z < 2 ^ sz ∧ ls = [vR 38, vI (z : Int), y1, y2, y3] ∧ st = [] ∧ am_R f0 b = hr9 ∧ n = n9 ∧ u = 0 ∧ us = 0 ∧ (∀ i, i ≠ 40 → hd9 i = hd i) ∧ (∀ S, S ≤ z → hd9 40 S = hd 40 S) ∧ (∀ S, z < S → S < 2 ^ sz → hd9 40 S = (Bn S : Int) ∧ bestV L hands th (k + 1) (cvN ws S sz) (Bn S))) ?_ (2 ^ sz - 1) ?_
  · intro z ls st hr' hd1 n' u us hI P hP
    obtain ⟨Bn, y1, y2, y3, hz, rfl, rfl, rfl, rfl, rfl, rfl, hf, hlo, hhi⟩ := hI
    simp [am_In, am_lay, am_pad, am_st1, am_st2, am_kill, am_get, am_isI, am_isL, am_isR, am_cat, am_cats, am_b, fin0_4, fin1_4, fin2_4, fin3_4, List.length_cons, List.length_nil, List.take, List.drop, List.reverse_cons, List.reverse_nil, List.nil_append, List.cons_append, s_wL, s_wQ, s_wW, s_wB, s_wJ, s_wR, s_wS, s_nil, s_cons, s_oR, s_iconst, s_bipush, s_sipush, s_lconst, s_null, s_iload, s_iload_n, s_lload, s_lload_n, s_aload, s_aload_n, s_istore, s_istore_n, s_astore, s_astore_n, s_lstore, s_lstore_n, s_iinc, s_iadd, s_isub, s_imul, s_iand, s_ior, s_ixor, s_ishl, s_ishr, s_iushr, s_idiv, s_ladd, s_lsub, s_lmul, s_land, s_ldiv, s_lrem, s_lshl, s_lshr, s_lcmp, s_i2l, s_l2i, s_i2b, s_i2c, s_dup, s_dup2, s_pop, s_arraylength, s_iaload, s_baload, s_laload, s_aaload, s_iastore, s_bastore, s_lastore, s_aastore, s_oG, s_oP0, s_oP1, s_oP2, s_oP3, s_oC, s_oN, s_oA, s_oI, s_oL, s_oS, s_oX0, s_oX1, s_oX2, s_oX3, s_oX4, s_oX5, s_goto, s_ifeq, s_iceq, s_ifne, s_icne, s_iflt, s_iclt, s_ifge, s_icge, s_ifgt, s_icgt, s_ifle, s_icle, s_ifnull, s_ifnonnull, s_ireturn, s_lreturn, s_areturn, s_return, s_sw, s_sw0, s_sw1, s_push0, s_push1, s_rd0, s_rd1, s_rd2, s_rd3, s_rty0, s_rtyi, s_rtyz, s_rtyl, s_rtyo, s_rtya, s_rok, s_lab0, s_labs, s_len, s_reci, s_rec0, sh_17, sh_18, sh_19, sh_20, sh_21, sh_22, sh_23, sh_24, sh_25, sh_26, sh_27, sh_28, sh_29, sh_30, sh_31, sh_32, sh_33, sh_34, sh_35, sh_36, sh_37, sh_38, sh_39, sh_40, sh_41, sh_42, sh_43, sh_44, sh_45, sh_46, sh_47, sh_48, sh_49, sh_50, sh_51, sh_52, sh_53, sh_54, sh_55, sh_56, sh_57, sh_58, sh_59, sh_60, sh_61, sh_62, sh_63, sh_64, sh_65, sh_66, sh_67, sh_68, sh_69, sh_70, sh_71, sh_72, sh_73, sh_74, sh_75, sh_76, sh_77, sh_78, sh_79, sh_80, sh_81, sh_82, sh_83, sh_84, sh_85, sh_86, sh_87, sh_88, sh_89, sh_90, sh_91, sh_92, sh_93, sh_94, sh_95, sh_96, sh_97, sl_19, sl_22, sl_23, sl_24, sl_25, sl_27, sl_28, sl_29, sl_30, sl_31, sl_32, sl_33, sl_36, sl_37, sl_39, sl_40, sl_41, sl_43, sl_44, sl_45, sl_46, sl_47, sl_48, sl_49, sl_50, sl_51, sl_54, sl_55, sl_56, sl_57, sl_59, sl_60, sl_61, sl_62, sl_63, sl_64, sl_65, sl_66, sl_67, sl_68, sl_69, sl_70, sl_71, sl_73, sl_74, sl_75, sl_76, sl_77, sl_78, sl_79, sl_80, sl_81, sl_82, sl_83, sl_84, sl_85, sl_87, sl_88, sl_89, sl_91, sl_92, sl_93, sl_95, sl_96, sl_97, R17_0, R17_1, R17_2, R17_3, R17_4, R17_5, R17_6, R17_7, R17_8, R18_0, R20_0, R21_0, R21_1, R21_2, R25_0, R25_1, R25_2, R26_0, R26_1, R26_2, R26_3, R26_4, R26_5, R26_6, R34_0, R34_1, R34_2, R34_3, R34_4, R34_5, R35_0, R35_1, R38_0, R38_1, R38_2, R38_3, R42_0, R42_1, R42_2, R42_3, R42_4, R42_5, R42_6, R53_0, R53_1, R53_2, R86_0, R86_1, R86_2, R90_0, R90_1, R90_2, R94_0, R94_1, R94_2, Rtld, Rspr, ld_s (tld_l b), ld_n (tld_l b) hn, ltn hn, -Int.natCast_add, -Int.natCast_mul]
    refine ⟨fun h1 => ?_, fun h1 => ?_⟩
    · have z0 : z = 0 := by omega
      subst z0
      refine h hd1 (fun S => if S = 0 then Bo 0 else Bn S) hf (fun S hS => ?_)
      (try dsimp only)
      by_cases e : S = 0
      · subst e
        rw [if_pos rfl]
        have hb0 := hB 0 (by omega)
        have c0 : cvN ws 0 sz = 0 := by
          apply Nat.eq_of_testBit_eq
          intro w
          rw [Nat.zero_testBit]
          by_cases h9 : (cvN ws 0 sz).testBit w = true
          · obtain ⟨p, _, p2, _⟩ := (cvN_test sz).mp h9
            simp at p2
          · simpa using h9
        rw [c0] at hb0 ⊢
        exact ⟨by rw [hlo 0 (Nat.le_refl 0)]; exact hb0.1, bestV_0 hb0.2⟩
      · rw [if_neg e]
        exact hhi S (by omega) hS
    · refine x_atLn (by omega) sh_40 (by omega) sl_40 (by omega) ?_
      rw [hlo z (Nat.le_refl z), (hB z hz).1]
      simp [am_In, am_lay, am_pad, am_st1, am_st2, am_kill, am_get, am_isI, am_isL, am_isR, am_cat, am_cats, am_b, fin0_4, fin1_4, fin2_4, fin3_4, List.length_cons, List.length_nil, List.take, List.drop, List.reverse_cons, List.reverse_nil, List.nil_append, List.cons_append, s_wL, s_wQ, s_wW, s_wB, s_wJ, s_wR, s_wS, s_nil, s_cons, s_oR, s_iconst, s_bipush, s_sipush, s_lconst, s_null, s_iload, s_iload_n, s_lload, s_lload_n, s_aload, s_aload_n, s_istore, s_istore_n, s_astore, s_astore_n, s_lstore, s_lstore_n, s_iinc, s_iadd, s_isub, s_imul, s_iand, s_ior, s_ixor, s_ishl, s_ishr, s_iushr, s_idiv, s_ladd, s_lsub, s_lmul, s_land, s_ldiv, s_lrem, s_lshl, s_lshr, s_lcmp, s_i2l, s_l2i, s_i2b, s_i2c, s_dup, s_dup2, s_pop, s_arraylength, s_iaload, s_baload, s_laload, s_aaload, s_iastore, s_bastore, s_lastore, s_aastore, s_oG, s_oP0, s_oP1, s_oP2, s_oP3, s_oC, s_oN, s_oA, s_oI, s_oL, s_oS, s_oX0, s_oX1, s_oX2, s_oX3, s_oX4, s_oX5, s_goto, s_ifeq, s_iceq, s_ifne, s_icne, s_iflt, s_iclt, s_ifge, s_icge, s_ifgt, s_icgt, s_ifle, s_icle, s_ifnull, s_ifnonnull, s_ireturn, s_lreturn, s_areturn, s_return, s_sw, s_sw0, s_sw1, s_push0, s_push1, s_rd0, s_rd1, s_rd2, s_rd3, s_rty0, s_rtyi, s_rtyz, s_rtyl, s_rtyo, s_rtya, s_rok, s_lab0, s_labs, s_len, s_reci, s_rec0, sh_17, sh_18, sh_19, sh_20, sh_21, sh_22, sh_23, sh_24, sh_25, sh_26, sh_27, sh_28, sh_29, sh_30, sh_31, sh_32, sh_33, sh_34, sh_35, sh_36, sh_37, sh_38, sh_39, sh_40, sh_41, sh_42, sh_43, sh_44, sh_45, sh_46, sh_47, sh_48, sh_49, sh_50, sh_51, sh_52, sh_53, sh_54, sh_55, sh_56, sh_57, sh_58, sh_59, sh_60, sh_61, sh_62, sh_63, sh_64, sh_65, sh_66, sh_67, sh_68, sh_69, sh_70, sh_71, sh_72, sh_73, sh_74, sh_75, sh_76, sh_77, sh_78, sh_79, sh_80, sh_81, sh_82, sh_83, sh_84, sh_85, sh_86, sh_87, sh_88, sh_89, sh_90, sh_91, sh_92, sh_93, sh_94, sh_95, sh_96, sh_97, sl_19, sl_22, sl_23, sl_24, sl_25, sl_27, sl_28, sl_29, sl_30, sl_31, sl_32, sl_33, sl_36, sl_37, sl_39, sl_40, sl_41, sl_43, sl_44, sl_45, sl_46, sl_47, sl_48, sl_49, sl_50, sl_51, sl_54, sl_55, sl_56, sl_57, sl_59, sl_60, sl_61, sl_62, sl_63, sl_64, sl_65, sl_66, sl_67, sl_68, sl_69, sl_70, sl_71, sl_73, sl_74, sl_75, sl_76, sl_77, sl_78, sl_79, sl_80, sl_81, sl_82, sl_83, sl_84, sl_85, sl_87, sl_88, sl_89, sl_91, sl_92, sl_93, sl_95, sl_96, sl_97, R17_0, R17_1, R17_2, R17_3, R17_4, R17_5, R17_6, R17_7, R17_8, R18_0, R20_0, R21_0, R21_1, R21_2, R25_0, R25_1, R25_2, R26_0, R26_1, R26_2, R26_3, R26_4, R26_5, R26_6, R34_0, R34_1, R34_2, R34_3, R34_4, R34_5, R35_0, R35_1, R38_0, R38_1, R38_2, R38_3, R42_0, R42_1, R42_2, R42_3, R42_4, R42_5, R42_6, R53_0, R53_1, R53_2, R86_0, R86_1, R86_2, R90_0, R90_1, R90_2, R94_0, R94_1, R94_2, Rtld, Rspr, ld_s (tld_l b), ld_n (tld_l b) hn, ltn hn, -Int.natCast_add, -Int.natCast_mul]
      refine loop_inv (I := fun x ls st hr9 hd9 n9 u us => ∃ bv : Nat, x < 64 ∧ x &&& z = x ∧ ls = [vR 38, vI (z : Int), vL (bv : Int), vU, vI (x : Int)] ∧ st = [] ∧ am_R f0 b = hr9 ∧ hd1 = hd9 ∧ n = n9 ∧ u = 0 ∧ us = 0 ∧ bv ≤ Bo z ∧ (∀ S', S' &&& z = S' → x < S' → bv ≤ Bo (z ^^^ S') + Co S') ∧ (bv = Bo z ∨ ∃ S', S' &&& z = S' ∧ S' ≠ 0 ∧ bv = Bo (z ^^^ S') + Co S')) ?_ z ?_
      · intro x ls st hr' hd' n' u us hI P2 hP2
        obtain ⟨bv, hx, hxz, rfl, rfl, rfl, rfl, rfl, rfl, rfl, hb1, hb2, hb3⟩ := hI
        have bB := Bb z hz
        simp [am_In, am_lay, am_pad, am_st1, am_st2, am_kill, am_get, am_isI, am_isL, am_isR, am_cat, am_cats, am_b, fin0_4, fin1_4, fin2_4, fin3_4, List.length_cons, List.length_nil, List.take, List.drop, List.reverse_cons, List.reverse_nil, List.nil_append, List.cons_append, s_wL, s_wQ, s_wW, s_wB, s_wJ, s_wR, s_wS, s_nil, s_cons, s_oR, s_iconst, s_bipush, s_sipush, s_lconst, s_null, s_iload, s_iload_n, s_lload, s_lload_n, s_aload, s_aload_n, s_istore, s_istore_n, s_astore, s_astore_n, s_lstore, s_lstore_n, s_iinc, s_iadd, s_isub, s_imul, s_iand, s_ior, s_ixor, s_ishl, s_ishr, s_iushr, s_idiv, s_ladd, s_lsub, s_lmul, s_land, s_ldiv, s_lrem, s_lshl, s_lshr, s_lcmp, s_i2l, s_l2i, s_i2b, s_i2c, s_dup, s_dup2, s_pop, s_arraylength, s_iaload, s_baload, s_laload, s_aaload, s_iastore, s_bastore, s_lastore, s_aastore, s_oG, s_oP0, s_oP1, s_oP2, s_oP3, s_oC, s_oN, s_oA, s_oI, s_oL, s_oS, s_oX0, s_oX1, s_oX2, s_oX3, s_oX4, s_oX5, s_goto, s_ifeq, s_iceq, s_ifne, s_icne, s_iflt, s_iclt, s_ifge, s_icge, s_ifgt, s_icgt, s_ifle, s_icle, s_ifnull, s_ifnonnull, s_ireturn, s_lreturn, s_areturn, s_return, s_sw, s_sw0, s_sw1, s_push0, s_push1, s_rd0, s_rd1, s_rd2, s_rd3, s_rty0, s_rtyi, s_rtyz, s_rtyl, s_rtyo, s_rtya, s_rok, s_lab0, s_labs, s_len, s_reci, s_rec0, sh_17, sh_18, sh_19, sh_20, sh_21, sh_22, sh_23, sh_24, sh_25, sh_26, sh_27, sh_28, sh_29, sh_30, sh_31, sh_32, sh_33, sh_34, sh_35, sh_36, sh_37, sh_38, sh_39, sh_40, sh_41, sh_42, sh_43, sh_44, sh_45, sh_46, sh_47, sh_48, sh_49, sh_50, sh_51, sh_52, sh_53, sh_54, sh_55, sh_56, sh_57, sh_58, sh_59, sh_60, sh_61, sh_62, sh_63, sh_64, sh_65, sh_66, sh_67, sh_68, sh_69, sh_70, sh_71, sh_72, sh_73, sh_74, sh_75, sh_76, sh_77, sh_78, sh_79, sh_80, sh_81, sh_82, sh_83, sh_84, sh_85, sh_86, sh_87, sh_88, sh_89, sh_90, sh_91, sh_92, sh_93, sh_94, sh_95, sh_96, sh_97, sl_19, sl_22, sl_23, sl_24, sl_25, sl_27, sl_28, sl_29, sl_30, sl_31, sl_32, sl_33, sl_36, sl_37, sl_39, sl_40, sl_41, sl_43, sl_44, sl_45, sl_46, sl_47, sl_48, sl_49, sl_50, sl_51, sl_54, sl_55, sl_56, sl_57, sl_59, sl_60, sl_61, sl_62, sl_63, sl_64, sl_65, sl_66, sl_67, sl_68, sl_69, sl_70, sl_71, sl_73, sl_74, sl_75, sl_76, sl_77, sl_78, sl_79, sl_80, sl_81, sl_82, sl_83, sl_84, sl_85, sl_87, sl_88, sl_89, sl_91, sl_92, sl_93, sl_95, sl_96, sl_97, R17_0, R17_1, R17_2, R17_3, R17_4, R17_5, R17_6, R17_7, R17_8, R18_0, R20_0, R21_0, R21_1, R21_2, R25_0, R25_1, R25_2, R26_0, R26_1, R26_2, R26_3, R26_4, R26_5, R26_6, R34_0, R34_1, R34_2, R34_3, R34_4, R34_5, R35_0, R35_1, R38_0, R38_1, R38_2, R38_3, R42_0, R42_1, R42_2, R42_3, R42_4, R42_5, R42_6, R53_0, R53_1, R53_2, R86_0, R86_1, R86_2, R90_0, R90_1, R90_2, R94_0, R94_1, R94_2, Rtld, Rspr, ld_s (tld_l b), ld_n (tld_l b) hn, ltn hn, -Int.natCast_add, -Int.natCast_mul]
        refine ⟨fun h2 => ?_, fun h2 => ?_⟩
        · have x0 : x = 0 := by omega
          subst x0
          have em : (if (1152921504606846976 : Int) < (bv : Int) then (1152921504606846976 : Int) else (bv : Int)) = ((min bv 1152921504606846976 : Nat) : Int) := by
            split <;> omega
          rw [em]
          refine x_putLn (by omega) sh_40 (by omega) sl_40 (by omega) ?_
          simp [am_In, am_lay, am_pad, am_st1, am_st2, am_kill, am_get, am_isI, am_isL, am_isR, am_cat, am_cats, am_b, fin0_4, fin1_4, fin2_4, fin3_4, List.length_cons, List.length_nil, List.take, List.drop, List.reverse_cons, List.reverse_nil, List.nil_append, List.cons_append, s_wL, s_wQ, s_wW, s_wB, s_wJ, s_wR, s_wS, s_nil, s_cons, s_oR, s_iconst, s_bipush, s_sipush, s_lconst, s_null, s_iload, s_iload_n, s_lload, s_lload_n, s_aload, s_aload_n, s_istore, s_istore_n, s_astore, s_astore_n, s_lstore, s_lstore_n, s_iinc, s_iadd, s_isub, s_imul, s_iand, s_ior, s_ixor, s_ishl, s_ishr, s_iushr, s_idiv, s_ladd, s_lsub, s_lmul, s_land, s_ldiv, s_lrem, s_lshl, s_lshr, s_lcmp, s_i2l, s_l2i, s_i2b, s_i2c, s_dup, s_dup2, s_pop, s_arraylength, s_iaload, s_baload, s_laload, s_aaload, s_iastore, s_bastore, s_lastore, s_aastore, s_oG, s_oP0, s_oP1, s_oP2, s_oP3, s_oC, s_oN, s_oA, s_oI, s_oL, s_oS, s_oX0, s_oX1, s_oX2, s_oX3, s_oX4, s_oX5, s_goto, s_ifeq, s_iceq, s_ifne, s_icne, s_iflt, s_iclt, s_ifge, s_icge, s_ifgt, s_icgt, s_ifle, s_icle, s_ifnull, s_ifnonnull, s_ireturn, s_lreturn, s_areturn, s_return, s_sw, s_sw0, s_sw1, s_push0, s_push1, s_rd0, s_rd1, s_rd2, s_rd3, s_rty0, s_rtyi, s_rtyz, s_rtyl, s_rtyo, s_rtya, s_rok, s_lab0, s_labs, s_len, s_reci, s_rec0, sh_17, sh_18, sh_19, sh_20, sh_21, sh_22, sh_23, sh_24, sh_25, sh_26, sh_27, sh_28, sh_29, sh_30, sh_31, sh_32, sh_33, sh_34, sh_35, sh_36, sh_37, sh_38, sh_39, sh_40, sh_41, sh_42, sh_43, sh_44, sh_45, sh_46, sh_47, sh_48, sh_49, sh_50, sh_51, sh_52, sh_53, sh_54, sh_55, sh_56, sh_57, sh_58, sh_59, sh_60, sh_61, sh_62, sh_63, sh_64, sh_65, sh_66, sh_67, sh_68, sh_69, sh_70, sh_71, sh_72, sh_73, sh_74, sh_75, sh_76, sh_77, sh_78, sh_79, sh_80, sh_81, sh_82, sh_83, sh_84, sh_85, sh_86, sh_87, sh_88, sh_89, sh_90, sh_91, sh_92, sh_93, sh_94, sh_95, sh_96, sh_97, sl_19, sl_22, sl_23, sl_24, sl_25, sl_27, sl_28, sl_29, sl_30, sl_31, sl_32, sl_33, sl_36, sl_37, sl_39, sl_40, sl_41, sl_43, sl_44, sl_45, sl_46, sl_47, sl_48, sl_49, sl_50, sl_51, sl_54, sl_55, sl_56, sl_57, sl_59, sl_60, sl_61, sl_62, sl_63, sl_64, sl_65, sl_66, sl_67, sl_68, sl_69, sl_70, sl_71, sl_73, sl_74, sl_75, sl_76, sl_77, sl_78, sl_79, sl_80, sl_81, sl_82, sl_83, sl_84, sl_85, sl_87, sl_88, sl_89, sl_91, sl_92, sl_93, sl_95, sl_96, sl_97, R17_0, R17_1, R17_2, R17_3, R17_4, R17_5, R17_6, R17_7, R17_8, R18_0, R20_0, R21_0, R21_1, R21_2, R25_0, R25_1, R25_2, R26_0, R26_1, R26_2, R26_3, R26_4, R26_5, R26_6, R34_0, R34_1, R34_2, R34_3, R34_4, R34_5, R35_0, R35_1, R38_0, R38_1, R38_2, R38_3, R42_0, R42_1, R42_2, R42_3, R42_4, R42_5, R42_6, R53_0, R53_1, R53_2, R86_0, R86_1, R86_2, R90_0, R90_1, R90_2, R94_0, R94_1, R94_2, Rtld, Rspr, ld_s (tld_l b), ld_n (tld_l b) hn, ltn hn, -Int.natCast_add, -Int.natCast_mul]
          have hmin : min bv 1152921504606846976 = bv := Nat.min_eq_left (by omega)
          rw [hmin]
          have new : bestV L hands th (k + 1) (cvN ws z sz) bv := by
            have lower : ∀ c, isG L hands th (k + 1) (cvN ws z sz) c → bv ≤ c := by
              rintro c ⟨P9, c', a1, a2, a3, a4⟩
              obtain ⟨S', s1, s2, s3⟩ := cv_sub hne a1
              have hxs : z ^^^ S' < 2 ^ sz := Nat.xor_lt_two_pow hz s2
              by_cases e : S' = 0
              · subst e
                have q0 : P9 = 0 := by
                  rw [← s3]
                  apply Nat.eq_of_testBit_eq
                  intro w
                  rw [Nat.zero_testBit]
                  by_cases h9 : (cvN ws 0 sz).testBit w = true
                  · obtain ⟨p, _, p2, _⟩ := (cvN_test sz).mp h9
                    simp at p2
                  · simpa using h9
                subst q0
                rw [Nat.xor_zero] at a3
                rcases (hB z hz).2 with ⟨_, g2⟩ | ⟨g1, _⟩
                · have := g2 c' a3
                  omega
                · exact absurd a3 (g1 c')
              · have q1 := hb2 S' s1 (by omega)
                rw [← s3, ← cv_xor hne s1] at a3
                rw [← s3] at a2 a4
                rcases (hB (z ^^^ S') hxs).2 with ⟨_, g2⟩ | ⟨g1, _⟩
                · have q2 := g2 c' a3
                  rcases (hC S' s2).2 with ⟨_, g4⟩ | ⟨g3, _⟩
                  · omega
                  · exact absurd a2 g3
                · exact absurd a3 (g1 c')
            by_cases hn9 : bv < 1152921504606846976
            · refine Or.inl ⟨?_, lower⟩
              rcases hb3 with e | ⟨S', s1, s2, s3⟩
              · rcases (hB z hz).2 with ⟨g1, _⟩ | ⟨_, g2⟩
                · rw [e]; exact isG_nil g1
                · omega
              · have s4 : S' < 2 ^ sz := Nat.lt_of_le_of_lt (sub_le s1) hz
                have hxs : z ^^^ S' < 2 ^ sz := Nat.xor_lt_two_pow hz s4
                rcases (hB (z ^^^ S') hxs).2 with ⟨g1, _⟩ | ⟨_, g2⟩
                · rcases (hC S' s4).2 with ⟨g3, g4⟩ | ⟨_, g4⟩
                  · refine ⟨cvN ws S' sz, Bo (z ^^^ S'), cv_mono s1, g3, ?_, ?_⟩
                    · rw [← cv_xor hne s1]; exact g1
                    · rw [s3, g4]
                  · omega
                · omega
            · refine Or.inr ⟨fun c hc => ?_, by omega⟩
              have l1 := lower c hc
              have l2 := isG_le hway (k + 1) _ _ (by omega) (hbits z) hc
              omega
          refine hP (z - 1) (by omega) _ _ _ _ _ _ _ ⟨fun S => if S = z then bv else Bn S, vL (bv : Int), vU, vI 0, by omega, ?_, rfl, rfl, rfl, rfl, rfl, fun i hi => by rw [up_ne hi, hf i hi], fun S hS => ?_, fun S hS hS2 => ?_⟩
          · rw [w32_m1, w32_b (by omega) (by omega), show (z : Int) + -1 = ((z - 1 : Nat) : Int) by omega]
          · rw [up_at, if_pos rfl, if_neg (by omega)]
            exact hlo S (by omega)
          · rw [up_at, if_pos rfl]
            (try dsimp only)
            by_cases e : S = z
            · rw [if_pos e, if_pos e, e]
              exact ⟨rfl, new⟩
            · rw [if_neg e, if_neg e]
              exact hhi S (by omega) hS2
        · have hxz2 : x ≤ z := sub_le hxz
          have eN : am_and (z : Int) (am_xor (x : Int) (-1)) = ((z ^^^ x : Nat) : Int) := by
            rw [andnot_nat (by omega) (by omega), Nat.and_comm z x, hxz]
          have hxs : z ^^^ x < 2 ^ sz := Nat.xor_lt_two_pow hz (by omega)
          have hlow : z ^^^ x ≤ z := sub_le (sub_iff.mpr (fun w hw => ((xor_test hxz).mp hw).1))
          rw [eN]
          refine x_atLn (by omega) sh_40 (by omega) sl_40 (by omega) ?_
          rw [hlo _ hlow, (hB _ hxs).1]
          simp [am_In, am_lay, am_pad, am_st1, am_st2, am_kill, am_get, am_isI, am_isL, am_isR, am_cat, am_cats, am_b, fin0_4, fin1_4, fin2_4, fin3_4, List.length_cons, List.length_nil, List.take, List.drop, List.reverse_cons, List.reverse_nil, List.nil_append, List.cons_append, s_wL, s_wQ, s_wW, s_wB, s_wJ, s_wR, s_wS, s_nil, s_cons, s_oR, s_iconst, s_bipush, s_sipush, s_lconst, s_null, s_iload, s_iload_n, s_lload, s_lload_n, s_aload, s_aload_n, s_istore, s_istore_n, s_astore, s_astore_n, s_lstore, s_lstore_n, s_iinc, s_iadd, s_isub, s_imul, s_iand, s_ior, s_ixor, s_ishl, s_ishr, s_iushr, s_idiv, s_ladd, s_lsub, s_lmul, s_land, s_ldiv, s_lrem, s_lshl, s_lshr, s_lcmp, s_i2l, s_l2i, s_i2b, s_i2c, s_dup, s_dup2, s_pop, s_arraylength, s_iaload, s_baload, s_laload, s_aaload, s_iastore, s_bastore, s_lastore, s_aastore, s_oG, s_oP0, s_oP1, s_oP2, s_oP3, s_oC, s_oN, s_oA, s_oI, s_oL, s_oS, s_oX0, s_oX1, s_oX2, s_oX3, s_oX4, s_oX5, s_goto, s_ifeq, s_iceq, s_ifne, s_icne, s_iflt, s_iclt, s_ifge, s_icge, s_ifgt, s_icgt, s_ifle, s_icle, s_ifnull, s_ifnonnull, s_ireturn, s_lreturn, s_areturn, s_return, s_sw, s_sw0, s_sw1, s_push0, s_push1, s_rd0, s_rd1, s_rd2, s_rd3, s_rty0, s_rtyi, s_rtyz, s_rtyl, s_rtyo, s_rtya, s_rok, s_lab0, s_labs, s_len, s_reci, s_rec0, sh_17, sh_18, sh_19, sh_20, sh_21, sh_22, sh_23, sh_24, sh_25, sh_26, sh_27, sh_28, sh_29, sh_30, sh_31, sh_32, sh_33, sh_34, sh_35, sh_36, sh_37, sh_38, sh_39, sh_40, sh_41, sh_42, sh_43, sh_44, sh_45, sh_46, sh_47, sh_48, sh_49, sh_50, sh_51, sh_52, sh_53, sh_54, sh_55, sh_56, sh_57, sh_58, sh_59, sh_60, sh_61, sh_62, sh_63, sh_64, sh_65, sh_66, sh_67, sh_68, sh_69, sh_70, sh_71, sh_72, sh_73, sh_74, sh_75, sh_76, sh_77, sh_78, sh_79, sh_80, sh_81, sh_82, sh_83, sh_84, sh_85, sh_86, sh_87, sh_88, sh_89, sh_90, sh_91, sh_92, sh_93, sh_94, sh_95, sh_96, sh_97, sl_19, sl_22, sl_23, sl_24, sl_25, sl_27, sl_28, sl_29, sl_30, sl_31, sl_32, sl_33, sl_36, sl_37, sl_39, sl_40, sl_41, sl_43, sl_44, sl_45, sl_46, sl_47, sl_48, sl_49, sl_50, sl_51, sl_54, sl_55, sl_56, sl_57, sl_59, sl_60, sl_61, sl_62, sl_63, sl_64, sl_65, sl_66, sl_67, sl_68, sl_69, sl_70, sl_71, sl_73, sl_74, sl_75, sl_76, sl_77, sl_78, sl_79, sl_80, sl_81, sl_82, sl_83, sl_84, sl_85, sl_87, sl_88, sl_89, sl_91, sl_92, sl_93, sl_95, sl_96, sl_97, R17_0, R17_1, R17_2, R17_3, R17_4, R17_5, R17_6, R17_7, R17_8, R18_0, R20_0, R21_0, R21_1, R21_2, R25_0, R25_1, R25_2, R26_0, R26_1, R26_2, R26_3, R26_4, R26_5, R26_6, R34_0, R34_1, R34_2, R34_3, R34_4, R34_5, R35_0, R35_1, R38_0, R38_1, R38_2, R38_3, R42_0, R42_1, R42_2, R42_3, R42_4, R42_5, R42_6, R53_0, R53_1, R53_2, R86_0, R86_1, R86_2, R90_0, R90_1, R90_2, R94_0, R94_1, R94_2, Rtld, Rspr, ld_s (tld_l b), ld_n (tld_l b) hn, ltn hn, -Int.natCast_add, -Int.natCast_mul]
          refine x_atLn (by omega) sh_41 (by omega) sl_41 (by omega) ?_
          rw [hf 41 (by decide), (hC x (by omega)).1]
          simp [am_In, am_lay, am_pad, am_st1, am_st2, am_kill, am_get, am_isI, am_isL, am_isR, am_cat, am_cats, am_b, fin0_4, fin1_4, fin2_4, fin3_4, List.length_cons, List.length_nil, List.take, List.drop, List.reverse_cons, List.reverse_nil, List.nil_append, List.cons_append, s_wL, s_wQ, s_wW, s_wB, s_wJ, s_wR, s_wS, s_nil, s_cons, s_oR, s_iconst, s_bipush, s_sipush, s_lconst, s_null, s_iload, s_iload_n, s_lload, s_lload_n, s_aload, s_aload_n, s_istore, s_istore_n, s_astore, s_astore_n, s_lstore, s_lstore_n, s_iinc, s_iadd, s_isub, s_imul, s_iand, s_ior, s_ixor, s_ishl, s_ishr, s_iushr, s_idiv, s_ladd, s_lsub, s_lmul, s_land, s_ldiv, s_lrem, s_lshl, s_lshr, s_lcmp, s_i2l, s_l2i, s_i2b, s_i2c, s_dup, s_dup2, s_pop, s_arraylength, s_iaload, s_baload, s_laload, s_aaload, s_iastore, s_bastore, s_lastore, s_aastore, s_oG, s_oP0, s_oP1, s_oP2, s_oP3, s_oC, s_oN, s_oA, s_oI, s_oL, s_oS, s_oX0, s_oX1, s_oX2, s_oX3, s_oX4, s_oX5, s_goto, s_ifeq, s_iceq, s_ifne, s_icne, s_iflt, s_iclt, s_ifge, s_icge, s_ifgt, s_icgt, s_ifle, s_icle, s_ifnull, s_ifnonnull, s_ireturn, s_lreturn, s_areturn, s_return, s_sw, s_sw0, s_sw1, s_push0, s_push1, s_rd0, s_rd1, s_rd2, s_rd3, s_rty0, s_rtyi, s_rtyz, s_rtyl, s_rtyo, s_rtya, s_rok, s_lab0, s_labs, s_len, s_reci, s_rec0, sh_17, sh_18, sh_19, sh_20, sh_21, sh_22, sh_23, sh_24, sh_25, sh_26, sh_27, sh_28, sh_29, sh_30, sh_31, sh_32, sh_33, sh_34, sh_35, sh_36, sh_37, sh_38, sh_39, sh_40, sh_41, sh_42, sh_43, sh_44, sh_45, sh_46, sh_47, sh_48, sh_49, sh_50, sh_51, sh_52, sh_53, sh_54, sh_55, sh_56, sh_57, sh_58, sh_59, sh_60, sh_61, sh_62, sh_63, sh_64, sh_65, sh_66, sh_67, sh_68, sh_69, sh_70, sh_71, sh_72, sh_73, sh_74, sh_75, sh_76, sh_77, sh_78, sh_79, sh_80, sh_81, sh_82, sh_83, sh_84, sh_85, sh_86, sh_87, sh_88, sh_89, sh_90, sh_91, sh_92, sh_93, sh_94, sh_95, sh_96, sh_97, sl_19, sl_22, sl_23, sl_24, sl_25, sl_27, sl_28, sl_29, sl_30, sl_31, sl_32, sl_33, sl_36, sl_37, sl_39, sl_40, sl_41, sl_43, sl_44, sl_45, sl_46, sl_47, sl_48, sl_49, sl_50, sl_51, sl_54, sl_55, sl_56, sl_57, sl_59, sl_60, sl_61, sl_62, sl_63, sl_64, sl_65, sl_66, sl_67, sl_68, sl_69, sl_70, sl_71, sl_73, sl_74, sl_75, sl_76, sl_77, sl_78, sl_79, sl_80, sl_81, sl_82, sl_83, sl_84, sl_85, sl_87, sl_88, sl_89, sl_91, sl_92, sl_93, sl_95, sl_96, sl_97, R17_0, R17_1, R17_2, R17_3, R17_4, R17_5, R17_6, R17_7, R17_8, R18_0, R20_0, R21_0, R21_1, R21_2, R25_0, R25_1, R25_2, R26_0, R26_1, R26_2, R26_3, R26_4, R26_5, R26_6, R34_0, R34_1, R34_2, R34_3, R34_4, R34_5, R35_0, R35_1, R38_0, R38_1, R38_2, R38_3, R42_0, R42_1, R42_2, R42_3, R42_4, R42_5, R42_6, R53_0, R53_1, R53_2, R86_0, R86_1, R86_2, R90_0, R90_1, R90_2, R94_0, R94_1, R94_2, Rtld, Rspr, ld_s (tld_l b), ld_n (tld_l b) hn, ltn hn, -Int.natCast_add, -Int.natCast_mul]
          have b1 := Bb _ hxs
          have b2 := Cb x (by omega)
          rw [w64_b (by omega) (by omega)]
          have em : (if (Bo (z ^^^ x) : Int) + (Co x : Int) < (bv : Int) then (Bo (z ^^^ x) : Int) + (Co x : Int) else (bv : Int)) = ((min (Bo (z ^^^ x) + Co x) bv : Nat) : Int) := by
            split <;> omega
          have ea : am_and (w32 ((x : Int) - 1)) (z : Int) = (((x - 1) &&& z : Nat) : Int) := by
            rw [w32_b (by omega) (by omega), show (x : Int) - 1 = ((x - 1 : Nat) : Int) by omega, and_nat (by omega) (by omega)]
          rw [em, ea]
          have lt1 : (x - 1) &&& z ≤ x - 1 := Nat.and_le_left
          refine hP2 ((x - 1) &&& z) (by omega) _ _ _ _ _ _ _ ⟨min (Bo (z ^^^ x) + Co x) bv, by omega, ?_, rfl, rfl, rfl, rfl, rfl, rfl, rfl, Nat.le_trans (Nat.min_le_right _ _) hb1, fun S' s1 s2 => ?_, ?_⟩
          · rw [Nat.and_assoc, Nat.and_self]
          · have s3 : x ≤ S' := by
              by_cases h3 : S' < x
              · have := sub_pred x z S' hxz s1 h3
                omega
              · omega
            by_cases e : S' = x
            · rw [e]; exact Nat.min_le_left _ _
            · exact Nat.le_trans (Nat.min_le_right _ _) (hb2 S' s1 (by omega))
          · by_cases hc : Bo (z ^^^ x) + Co x ≤ bv
            · exact Or.inr ⟨x, hxz, by omega, Nat.min_eq_left hc⟩
            · rw [Nat.min_eq_right (by omega)]
              exact hb3
      · exact ⟨Bo z, by omega, Nat.and_self z, rfl, rfl, rfl, rfl, rfl, rfl, rfl, Nat.le_refl _, fun S' s1 s2 => by have := sub_le s1; omega, Or.inl rfl⟩
  · refine ⟨fun _ => 0, vU, vU, vU, by omega, rfl, rfl, rfl, rfl, rfl, rfl, fun _ _ => rfl, fun _ _ => rfl, fun S s1 s2 => by omega⟩
end
